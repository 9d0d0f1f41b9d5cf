noncomputable def wM (y : MethodName) (b : ByteArray) (n : Nat) (r : Option FieldType) : List Cond := .code y b n r :: wG
theorem wM_in {y : MethodName} {b : ByteArray} {n : Nat} {r : Option FieldType} {w : Cond} (h : w ∈ wG) : w ∈ wM y b n r := List.mem_cons_of_mem _ h
theorem wM_us {y : MethodName} {b : ByteArray} {n : Nat} {r : Option FieldType} {L : List Cond} (h : ∀ w ∈ L, w ∈ wG) : ∀ w ∈ L, w ∈ wM y b n r := fun w hw => wM_in (h w hw)
theorem wM_good {y y' : MethodName} {b b' : ByteArray} {n n' : Nat} {r r' : Option FieldType} (h : Cond.code y' b' n' r' ∈ wG) : GoodIn (wM y b n r) (wM y' b' n' r') := fun w hw =>
  (List.mem_cons.mp hw).elim (fun e => by subst e; exact ⟨wM_in h, good_of_word (wG_good h)⟩) (fun hw => ⟨wM_in hw, good_of_word (wG_good hw)⟩)
section XC
variable {p : Program} {l : Launch} {e : Env} {R : Room} {s : State} {m : MethodId} {args : Array Value} {below : List Frame} {meth : Method} {c : Code} {H : Heap} {locs : List Loc} {cells slots : Nat} {Q : State → Prop}
variable {cc : ByteArray} {nL pcc : Nat} {ls : Array Slot} {rest st0 : List Value} {own : String} {G : xGl} {E E' : xLay} {n n' : Nat} {q : Nat → Nat} {v w : xSt} {A : Nat → Prop}
variable {y y0 : MethodName} {b0 bytes : ByteArray} {n0 maxL index na mc ms : Nat} {r0 ret : Option FieldType} {rm : Room} {C : String}
theorem xcwB (hC : CallFix p m c cc nL s args (wM y0 b0 n0 r0) own) (hl : Cond.methodLink own index y ∈ wG) (hi : Cond.initialized y.cls ∈ wG) (hc : Cond.code y bytes maxL ret ∈ wG) (hrc : rm.cells = mc) (hrs : rm.slots = ms) (hd : y.cls ≠ "java/lang/invoke/MethodHandle" ∧ y.cls ≠ "java/lang/invoke/VarHandle" ∧ (parseMethodDescriptor y.desc).map (fun d => d.parameters.length) = some na) (hR : rm.frames + 1 ≤ R.frames ∧ 8 + (maxL + 11) + rm.locals ≤ R.locals) : CallB R s args own index y bytes maxL ret (wM y bytes maxL ret) rm mc ms na :=
  callB_of na hC.2.2.2.2 (wM_good hc) rfl hrc hrs (hC.2.2.2.2 _ (wM_in hi)) (hC.2.2.2.2 _ (wM_in hl)) hd hR
theorem xcwV (hC : CallFix p m c cc nL s args (wM y0 b0 n0 r0) own) (hl : Cond.methodLink own index y ∈ wG) (hi : Cond.initialized y.cls ∈ wG) (hc : Cond.code y bytes maxL ret ∈ wG) (him : Cond.instanceMethod y ∈ wG) (hse : Cond.selects C y y ∈ wG) (hrc : rm.cells = mc) (hrs : rm.slots = ms) (hd : y.cls ≠ "java/lang/invoke/MethodHandle" ∧ y.cls ≠ "java/lang/invoke/VarHandle" ∧ (parseMethodDescriptor y.desc).map (fun d => d.parameters.length) = some na) (hR : rm.frames + 1 ≤ R.frames ∧ 8 + (maxL + 11) + rm.locals ≤ R.locals) : CallW R s args own C index y bytes maxL ret (wM y bytes maxL ret) rm mc ms na :=
  ⟨xcwB hC hl hi hc hrc hrs hd hR, hC.2.2.2.2 _ (wM_in him), hC.2.2.2.2 _ (wM_in hse)⟩
theorem xcwS (hC : CallFix p m c cc nL s args (wM y0 b0 n0 r0) own) (hl : Cond.methodLink own index y ∈ wG) (hi : Cond.initialized y.cls ∈ wG) (hc : Cond.code y bytes maxL ret ∈ wG) (hst : Cond.static y ∈ wG) (hrc : rm.cells = mc) (hrs : rm.slots = ms) (hd : y.cls ≠ "java/lang/invoke/MethodHandle" ∧ y.cls ≠ "java/lang/invoke/VarHandle" ∧ (parseMethodDescriptor y.desc).map (fun d => d.parameters.length) = some na) (hR : rm.frames + 1 ≤ R.frames ∧ 8 + (maxL + 11) + rm.locals ≤ R.locals) : CallB R s args own index y bytes maxL ret (wM y bytes maxL ret) rm mc ms na ∧ (Cond.static y).before args s = true :=
  ⟨xcwB hC hl hi hc hrc hrs hd hR, hC.2.2.2.2 _ (wM_in hst)⟩
theorem xcwN (hC : CallFix p m c cc nL s args (wM y0 b0 n0 r0) own) (hn : va_Nw (.methodLinkNest own index y "BusyChip") s) (hi : Cond.initialized y.cls ∈ wG) (hc : Cond.code y bytes maxL ret ∈ wG) (hst : Cond.static y ∈ wG) (hrc : rm.cells = mc) (hrs : rm.slots = ms) (hd : y.cls ≠ "java/lang/invoke/MethodHandle" ∧ y.cls ≠ "java/lang/invoke/VarHandle" ∧ (parseMethodDescriptor y.desc).map (fun d => d.parameters.length) = some na) (hR : rm.frames + 1 ≤ R.frames ∧ 8 + (maxL + 11) + rm.locals ≤ R.locals) : va_CN R s args own index y "BusyChip" bytes maxL ret (wM y bytes maxL ret) rm mc ms na ∧ (Cond.static y).before args s = true ∧ True :=
  ⟨va_cnB na hC.2.2.2.2 (wM_good hc) rfl hrc hrs hn (hC.2.2.2.2 _ (wM_in hi)) hd hR, hC.2.2.2.2 _ (wM_in hst), trivial⟩
theorem lv_nm {x z : Int32} (h : z = x) (k : W p l e R s m args below meth c H locs cells slots Q (F0 m pcc ls (.int z :: rest))) : W p l e R s m args below meth c H locs cells slots Q (F0 m pcc ls (.int x :: rest)) := h ▸ k
theorem lv_nmL {x z : Int64} (h : z = x) (k : W p l e R s m args below meth c H locs cells slots Q (F0 m pcc ls (.long z :: rest))) : W p l e R s m args below meth c H locs cells slots Q (F0 m pcc ls (.long x :: rest)) := h ▸ k
/-- a call of a method of one's own, over the same world -/
theorem preV0 (h : hg G E n q v A s H locs) (hbn : 0 < n) {ci : Nat} {fs : List Value} {T : u_T} {N : Nat} (he : E q 0 (v 0) = .inr (ci, fs)) (hc : vwCl[ci]? = some (C, T, N)) (As : List Value) : PreV s H C (q 0) (va_Pc (.ref (q 0) :: As) (cP G E n q v H.size)) As :=
  ⟨blindP, va_recv h.1.2.1 h.1.1 hc (wl_eq hbn he), fun U hU hW => ⟨rfl, by rw [hU], by rw [hU]; exact h.1.1, xK.warm hW ⟨h.1.2.1, h.1.2.2.2.1⟩, h.2.weaken (fun _ _ _ _ => trivial)⟩⟩
theorem preVO0 (h : ho G E n q v A s H locs) (hbn : 0 < n) {ci : Nat} {fs : List Value} {T : u_T} {N : Nat} (he : E q 0 (v 0) = .inr (ci, fs)) (hc : vwCl[ci]? = some (C, T, N)) (As : List Value) : PreV s H C (q 0) (va_Pc (.ref (q 0) :: As) (cO G E n q v H.size)) As :=
  ⟨blindO, va_recv h.2.1 h.1 hc (wl_eq hbn he), fun U hU hW => ⟨rfl, by rw [hU], by rw [hU]; exact h.1, xK.warm hW ⟨h.2.1, h.2.2.2.1⟩⟩⟩
/-- a static method that has no world -/
theorem preSN (h : ho G E n q v A s H locs) (As : List Value) : PreS s H (va_Pc As (cO G e0 0 q v H.size)) As :=
  ⟨blindO, fun U hU hW => ⟨rfl, by rw [hU], (fun k x hk => by obtain ⟨h1, -⟩ := wl_inv hk; exact absurd h1 (Nat.not_lt_zero _)), xK.warm hW ⟨h.2.1, h.2.2.2.1⟩⟩⟩
theorem af0 (h : hg G E n q v A s H locs) {t : State} {H1 : Heap} {locs1 : List Loc} (ht : t.heap = H1) (hB : cB G E n q w (cA E n q v H.size) t) (hS1 : va_S A s.heap H1 locs1) : hg G E n q w A s H1 locs1 := by
  subst ht
  refine ⟨⟨hB.1, h.1.2.1, hS1, h.1.2.2.2⟩, hB.2.1, fun k x hx => ?_⟩
  obtain ⟨h1, rfl⟩ := wl_inv hx
  exact h.2.2 k (q k, E q k (v k)) (wl_get h1)
theorem free0 (h : hg G E n q v A s H locs) : ∀ a, cA E n q v H.size a → A a := by
  rintro a (⟨i, ee, hi⟩ | hge)
  · obtain ⟨h2, h3⟩ := wl_inv hi
    have h4 : a = q i := congrArg Prod.fst h3
    rw [h4]
    exact h.2.2 i _ (wl_get h2)
  · exact h.1.2.2.2.2 a (Nat.le_trans h.1.2.2.1.1 hge)
theorem xi0 (h : hg G E n q v A s H locs) {r : Int32} {a : Array Value} (hr : va_Run p l e R s m args below meth c H locs cells slots 0 0 (F0 m pcc ls st0) rest (qI r (cB G E n q w (cA E n q v H.size)) (cA E n q v H.size) a) (cA E n q v H.size))
    (kk : ∀ (H1 : Heap) (locs1 : List Loc), hg G E n q w A s H1 locs1 → W p l e R s m args below meth c H1 locs1 cells slots Q (F0 m (pcc + 3) ls (.int r :: rest))) : W p l e R s m args below meth c H locs cells slots Q (F0 m pcc ls st0) := by
  refine va_calli hr h.1.2.2.1 (fun a _ ha => free0 h a ha) (free0 h) (fun r2 u t H1 locs1 ht hvm hw hB hz1 hk1 hS1 => ?_)
  subst hw
  exact kk H1 locs1 (af0 h ht hB hS1)
theorem xz0 (h : hg G E n q v A s H locs) {r : Int32} {a : Array Value} (hr : va_Run p l e R s m args below meth c H locs cells slots 0 0 (F0 m pcc ls st0) rest (qZ r (cB G E n q w (cA E n q v H.size)) (cA E n q v H.size) a) (cA E n q v H.size))
    (kk : ∀ (H1 : Heap) (locs1 : List Loc), r = 0 ∨ r = 1 → hg G E n q w A s H1 locs1 → W p l e R s m args below meth c H1 locs1 cells slots Q (F0 m (pcc + 3) ls (.int r :: rest))) : W p l e R s m args below meth c H locs cells slots Q (F0 m pcc ls st0) := by
  refine va_calli hr h.1.2.2.1 (fun a _ ha => free0 h a ha) (free0 h) (fun r2 u t H1 locs1 ht hvm hw hB hz1 hk1 hS1 => ?_)
  obtain ⟨rfl, hz⟩ := hw
  exact kk H1 locs1 hz (af0 h ht hB hS1)
theorem xv0 (h : hg G E n q v A s H locs)  {a : Array Value} (hr : va_Run p l e R s m args below meth c H locs cells slots 0 0 (F0 m pcc ls st0) rest (qV (cB G E n q w (cA E n q v H.size)) (cA E n q v H.size) a) (cA E n q v H.size))
    (kk : ∀ (H1 : Heap) (locs1 : List Loc), hg G E n q w A s H1 locs1 → W p l e R s m args below meth c H1 locs1 cells slots Q (F0 m (pcc + 3) ls rest)) : W p l e R s m args below meth c H locs cells slots Q (F0 m pcc ls st0) := by
  refine va_callv hr h.1.2.2.1 (fun a _ ha => free0 h a ha) (free0 h) (fun u t H1 locs1 ht hvm hw hB hz1 hk1 hS1 => ?_)
  skip
  exact kk H1 locs1 (af0 h ht hB hS1)
theorem xl0 (h : hg G E n q v A s H locs) {r : Int64} {a : Array Value} (hr : va_Run p l e R s m args below meth c H locs cells slots 0 0 (F0 m pcc ls st0) rest (qL r (cB G E n q w (cA E n q v H.size)) (cA E n q v H.size) a) (cA E n q v H.size))
    (kk : ∀ (H1 : Heap) (locs1 : List Loc), hg G E n q w A s H1 locs1 → W p l e R s m args below meth c H1 locs1 cells slots Q (F0 m (pcc + 3) ls (.long r :: rest))) : W p l e R s m args below meth c H locs cells slots Q (F0 m pcc ls st0) := by
  refine va_calll hr h.1.2.2.1 (fun a _ ha => free0 h a ha) (free0 h) (fun r2 u t H1 locs1 ht hvm hw hB hz1 hk1 hS1 => ?_)
  subst hw
  exact kk H1 locs1 (af0 h ht hB hS1)
theorem xq0 (h : hg G E n q v A s H locs) {r : Option Nat} {a : Array Value} (hr : va_Run p l e R s m args below meth c H locs cells slots 0 0 (F0 m pcc ls st0) rest (qQ r (cB G E n q w (cA E n q v H.size)) (cA E n q v H.size) a) (cA E n q v H.size))
    (kk : ∀ (H1 : Heap) (locs1 : List Loc), hg G E n q w A s H1 locs1 → W p l e R s m args below meth c H1 locs1 cells slots Q (F0 m (pcc + 3) ls (va_rf r :: rest))) : W p l e R s m args below meth c H locs cells slots Q (F0 m pcc ls st0) := by
  refine va_callq hr h.1.2.2.1 (fun a _ ha => free0 h a ha) (free0 h) (fun r2 u t H1 locs1 ht hvm hw hB hz1 hk1 hS1 => ?_)
  subst hw
  exact kk H1 locs1 (af0 h ht hB hS1)
end XC
theorem om_e {α β : Type} {o : Option α} {A : β} {f : α → β} {z : β} (h : (match o with | none => A | some k => f k) = z) : (o = none ∧ A = z) ∨ ∃ k, o = some k ∧ f k = z := by
  cases o with
  | none => exact Or.inl ⟨rfl, h⟩
  | some k => exact Or.inr ⟨k, rfl, h⟩
def om {α β : Type} (o : Option α) (A : β) (f : α → β) : β := match o with | none => A | some k => f k
theorem omm {α β : Type} {o : Option α} {A : β} {f : α → β} {z : β} (h : om o A f = z) : (o = none ∧ A = z) ∨ ∃ k, o = some k ∧ f k = z := om_e h
def un1 {α β : Type} (f : α → β) (p : α) : β := f p
def un2 {α β γ : Type} (f : α → β → γ) (p : α × β) : γ := f p.1 p.2
def un3 {α β γ δ : Type} (f : α → β → γ → δ) (p : α × β × γ) : δ := f p.1 p.2.1 p.2.2
def un4 {α β γ δ ε : Type} (f : α → β → γ → δ → ε) (p : α × β × γ × δ) : ε := f p.1 p.2.1 p.2.2.1 p.2.2.2
def un5 {α β γ δ ε ζ : Type} (f : α → β → γ → δ → ε → ζ) (p : α × β × γ × δ × ε) : ζ := f p.1 p.2.1 p.2.2.1 p.2.2.2.1 p.2.2.2.2
theorem tab_out {x : Int32} {lo hi : Int} (h : ∀ k : Int, lo ≤ k → k ≤ hi → x.toInt ≠ k) : x.toInt < lo ∨ hi < x.toInt := by
  by_cases h1 : x.toInt < lo
  · exact Or.inl h1
  · by_cases h2 : hi < x.toInt
    · exact Or.inr h2
    · exact absurd rfl (h x.toInt (by omega) (by omega))
