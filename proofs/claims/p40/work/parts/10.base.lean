/-! THE STORE AND ITS WORLDS: a world is a row of n cells at the addresses q 0, q 1, ..; what cell j holds is E q j (v j), E the layout, v the store of whole numbers -/
abbrev xSt : Type := Nat → Nat → Int32
abbrev xGl : Type := va_G × (Nat → ClassId)
abbrev xLay : Type := (Nat → Nat) → Nat → (Nat → Int32) → va_E
def xtys (G : xGl) : List (ClassId × FieldType) := [(G.2 0, .int), (G.2 1, .char), (G.2 2, .object "BusyChip$Order"), (G.2 3, .object "BusyChip$State")]
def wl (E : xLay) (n : Nat) (q : Nat → Nat) (v : xSt) : va_W := (List.range n).map (fun j => (q j, E q j (v j)))
def sh {α : Type} (b : Nat) (q : Nat → α) : Nat → α := fun j => q (b + j)
def ct {α : Type} (n : Nat) (a b : Nat → α) : Nat → α := fun j => if j < n then a j else b (j - n)
def pu (b n : Nat) (v w : xSt) : xSt := fun j => if b ≤ j ∧ j < b + n then w (j - b) else v j
def st2 (v : xSt) (o k : Nat) (x : Int32) : xSt := va_up v o (va_up (v o) k x)
def e2 (n : Nat) (E1 E2 : xLay) : xLay := fun q j s => if j < n then E1 q j s else E2 (sh n q) (j - n) s
def e0 : xLay := fun _ _ _ => .inr (99, [])
/-- pure programs: a name for a value, a check, a loop with fuel -/
def lt {α β : Type} (x : α) (f : α → β) : β := f x
def ck {α : Type} (c : Prop) [Decidable c] (x : Option α) : Option α := if c then x else none
def ob {α β : Type} (x : Option α) (f : α → Option β) : Option β := match x with | some a => f a | none => none
def lp {σ ρ : Type} (B : (σ → Option ρ) → σ → Option ρ) : Nat → σ → Option ρ
  | 0, _ => none
  | n + 1, s => B (lp B n) s
def xF : Nat := 1099511627776
theorem lt_e {α β : Type} {x : α} {f : α → β} {z : β} (h : lt x f = z) : ∃ y, y = x ∧ f y = z := ⟨x, rfl, h⟩
theorem ck_e {α : Type} {c : Prop} [Decidable c] {x : Option α} {z : α} (h : ck c x = some z) : c ∧ x = some z := by
  unfold ck at h; by_cases hc : c
  · rw [if_pos hc] at h; exact ⟨hc, h⟩
  · rw [if_neg hc] at h; cases h
theorem ob_e {α β : Type} {x : Option α} {f : α → Option β} {z : β} (h : ob x f = some z) : ∃ a, x = some a ∧ f a = some z := by
  cases x with
  | none => cases h
  | some a => exact ⟨a, rfl, h⟩
theorem it_t {α : Type} {c : Prop} [Decidable c] {x y z : α} (hc : c) (h : (if c then x else y) = z) : x = z := by rw [if_pos hc] at h; exact h
theorem it_f {α : Type} {c : Prop} [Decidable c] {x y z : α} (hc : ¬ c) (h : (if c then x else y) = z) : y = z := by rw [if_neg hc] at h; exact h
theorem lp_i {σ ρ : Type} {B : (σ → Option ρ) → σ → Option ρ} {z : ρ} {P : σ → Prop} (hs : ∀ (rec : σ → Option ρ), (∀ s, rec s = some z → P s) → ∀ s, B rec s = some z → P s) : ∀ (n : Nat) (s : σ), lp B n s = some z → P s := by
  intro n
  induction n with
  | zero => intro s h; cases h
  | succ n ih => intro s h; exact hs (lp B n) ih s h
theorem sm_e {α : Type} {x z : α} (h : some x = some z) : x = z := Option.some.inj h
/-! rows of a world -/
theorem wl_len {E : xLay} {n : Nat} {q : Nat → Nat} {v : xSt} : (wl E n q v).length = n := by simp [wl]
theorem wl_get {E : xLay} {n : Nat} {q : Nat → Nat} {v : xSt} {j : Nat} (h : j < n) : (wl E n q v)[j]? = some (q j, E q j (v j)) := by simp [wl, h]
theorem wl_inv {E : xLay} {n : Nat} {q : Nat → Nat} {v : xSt} {j : Nat} {x : Nat × va_E} (h : (wl E n q v)[j]? = some x) : j < n ∧ x = (q j, E q j (v j)) := by
  have hj : j < n := by
    have := (List.getElem?_eq_some_iff.mp h).1
    rwa [wl_len] at this
  rw [wl_get hj] at h
  exact ⟨hj, (Option.some.inj h).symm⟩
theorem wl_eq {E : xLay} {n : Nat} {q : Nat → Nat} {v : xSt} {j : Nat} {e : va_E} (h : j < n) (he : E q j (v j) = e) : (wl E n q v)[j]? = some (q j, e) := by rw [wl_get h, he]
theorem wl_set {E : xLay} {n : Nat} {q : Nat → Nat} {v : xSt} {j : Nat} {s' : Nat → Int32} {e : va_E} (h : j < n) (he : E q j s' = e) : (wl E n q v).set j (q j, e) = wl E n q (va_up v j s') := by
  subst he
  apply List.ext_getElem?
  intro i
  by_cases hi : i = j
  · subst hi
    rw [List.getElem?_set_self (by rw [wl_len]; exact h), wl_get h, va_up_self]
  · rw [List.getElem?_set_ne (Ne.symm hi)]
    by_cases hn : i < n
    · rw [wl_get hn, wl_get hn, va_up_ne _ _ hi]
    · rw [List.getElem?_eq_none (by rw [wl_len]; omega), List.getElem?_eq_none (by rw [wl_len]; omega)]
/-- the nest words -/
def wN : List Cond := [.methodLinkNest RX8 9 yX6_init "BusyChip", .methodLinkNest RX6 20 yX2_init "BusyChip", .methodLinkNest RX6 27 yX4_init "BusyChip", .methodLinkNest RX6 34 yX7_init "BusyChip", .methodLinkNest RX7 39 yX4_init "BusyChip", .methodLinkNest RX1 24 yX3_init "BusyChip", .methodLinkNest RX3 29 yX4_init "BusyChip", .methodLinkNest RX8 43 yX5_init "BusyChip", .methodLinkNest RX5 27 yX4_init "BusyChip", .methodLinkNest RX4 25 yX8_at "BusyChip", .methodLinkNest RX6 236 yX8_roundPage "BusyChip", .methodLinkNest RX6 112 yX8_at "BusyChip", .methodLinkNest RX6 130 yX8_sectorOf "BusyChip", .methodLinkNest RX0 43 yX8_at "BusyChip", .methodLinkNest RX0 47 yX8_put "BusyChip", .methodLinkNest RX1 38 yX8_sectorOf "BusyChip"]
def xNm (w : Cond) : Prop := ∃ a i x h, w = .methodLinkNest a i x h
theorem wN_m : ∀ w ∈ wN, xNm w := by
  intro w hw
  simp only [wN, List.mem_cons, List.not_mem_nil, or_false] at hw
  rcases hw with rfl | rfl | rfl | rfl | rfl | rfl | rfl | rfl | rfl | rfl | rfl | rfl | rfl | rfl | rfl | rfl <;> exact ⟨_, _, _, _, rfl⟩
/-- what the tables say, at every state of the run -/
def xK (G : xGl) (U : State) : Prop := va_K G.1 vwCl (xtys G) U ∧ ∀ w ∈ wN, va_Nw w U
theorem xK.same {G : xGl} {u U : State} (hvm : u.vm = U.vm) (h : xK G u) : xK G U := by
  refine ⟨va_K.moved (by rw [hvm]; exact Vm.Alike.refl U.vm) h.1, fun w hw => ?_⟩
  obtain ⟨a, i, x, hh, rfl⟩ := wN_m w hw
  exact va_Nw.same rfl hvm (h.2 _ hw)
theorem xK.warm {G : xGl} {u U : State} (hW : u.WarmedH U.vm) (h : xK G u) : xK G U := by
  refine ⟨va_K.moved hW.alike h.1, fun w hw => ?_⟩
  obtain ⟨a, i, x, hh, rfl⟩ := wN_m w hw
  exact va_Nw.warmM hW (h.2 _ hw)
/-- a world that is only read; a world that may be written -/
def ho (G : xGl) (E : xLay) (n : Nat) (q : Nat → Nat) (v : xSt) (A : Nat → Prop) (s : State) (H : Heap) (locs : List Loc) : Prop :=
  va_P G.1 vwCl (wl E n q v) H ∧ va_K G.1 vwCl (xtys G) s ∧ va_S A s.heap H locs ∧ (∀ w ∈ wN, va_Nw w s) ∧ ∀ a, s.heap.size ≤ a → A a
def hg (G : xGl) (E : xLay) (n : Nat) (q : Nat → Nat) (v : xSt) (A : Nat → Prop) (s : State) (H : Heap) (locs : List Loc) : Prop :=
  ho G E n q v A s H locs ∧ va_D A (wl E n q v)
theorem hg.o {G : xGl} {E : xLay} {n : Nat} {q : Nat → Nat} {v : xSt} {A : Nat → Prop} {s : State} {H : Heap} {locs : List Loc} (h : hg G E n q v A s H locs) : ho G E n q v A s H locs := h.1
theorem ho.o {G : xGl} {E : xLay} {n : Nat} {q : Nat → Nat} {v : xSt} {A : Nat → Prop} {s : State} {H : Heap} {locs : List Loc} (h : ho G E n q v A s H locs) : ho G E n q v A s H locs := h
/-- a part of a world, its cells at the places b, b+1, .. -/
theorem wl_sub {G : xGl} {E E' : xLay} {n n' b : Nat} {q : Nat → Nat} {v : xSt} {H : Heap} (hP : va_P G.1 vwCl (wl E n q v) H) (hb : b + n' ≤ n) (hE : ∀ i, i < n' → ∀ z, E q (b + i) z = E' (sh b q) i z) : va_P G.1 vwCl (wl E' n' (sh b q) (sh b v)) H := by
  intro k x hk
  obtain ⟨h1, rfl⟩ := wl_inv hk
  exact hP (b + k) _ (wl_eq (by omega) (hE k h1 _))
theorem wl_subD {E E' : xLay} {n n' b : Nat} {q : Nat → Nat} {v : xSt} {A B : Nat → Prop} (hD : va_D A (wl E n q v)) (hb : b + n' ≤ n) (hE : ∀ i, i < n' → ∀ z, E q (b + i) z = E' (sh b q) i z) (hAB : ∀ a, A a → B a) : va_D B (wl E' n' (sh b q) (sh b v)) := by
  refine ⟨fun i j x y hx hy hxy => ?_, fun k x hk => ?_⟩
  · obtain ⟨h1, rfl⟩ := wl_inv hx
    obtain ⟨h2, rfl⟩ := wl_inv hy
    have := hD.1 (b + i) (b + j) _ _ (wl_eq (by omega) (hE i h1 _)) (wl_eq (by omega) (hE j h2 _)) hxy
    omega
  · obtain ⟨h1, rfl⟩ := wl_inv hk
    exact hAB _ (hD.2 (b + k) _ (wl_eq (by omega) (hE k h1 _)))
theorem ct_lo {α : Type} {n j : Nat} {a b : Nat → α} (h : j < n) : ct n a b j = a j := by simp [ct, h]
theorem ct_hi {α : Type} {n j : Nat} {a b : Nat → α} : ct n a b (n + j) = b j := by
  simp only [ct]
  rw [if_neg (by omega), Nat.add_sub_cancel_left]
theorem sh_ct {α : Type} {n : Nat} {a b : Nat → α} : sh n (ct n a b) = b := by funext j; exact ct_hi
/-- two parts of a world, one behind the other -/
def xg2 (n1 b1 b2 : Nat) : Nat → Nat := fun i => if i < n1 then b1 + i else b2 + (i - n1)
theorem wl_sub2 {G : xGl} {E E' : xLay} {n n1 n2 b1 b2 : Nat} {q : Nat → Nat} {v : xSt} {H : Heap} (hP : va_P G.1 vwCl (wl E n q v) H) (hb1 : b1 + n1 ≤ n) (hb2 : b2 + n2 ≤ n) (hE1 : ∀ i, i < n1 → ∀ z, E q (b1 + i) z = E' (ct n1 (sh b1 q) (sh b2 q)) i z) (hE2 : ∀ i, i < n2 → ∀ z, E q (b2 + i) z = E' (ct n1 (sh b1 q) (sh b2 q)) (n1 + i) z) : va_P G.1 vwCl (wl E' (n1 + n2) (ct n1 (sh b1 q) (sh b2 q)) (ct n1 (sh b1 v) (sh b2 v))) H := by
  intro k x hk
  obtain ⟨h1, rfl⟩ := wl_inv hk
  by_cases hk1 : k < n1
  · rw [ct_lo hk1, ct_lo hk1]
    exact hP (b1 + k) _ (wl_eq (by omega) (hE1 k hk1 _))
  · obtain ⟨i, rfl⟩ : ∃ i, k = n1 + i := ⟨k - n1, by omega⟩
    rw [ct_hi, ct_hi]
    exact hP (b2 + i) _ (wl_eq (by omega) (hE2 i (by omega) _))
theorem wl_sub2D {E E' : xLay} {n n1 n2 b1 b2 : Nat} {q : Nat → Nat} {v : xSt} {A B : Nat → Prop} (hD : va_D A (wl E n q v)) (hb1 : b1 + n1 ≤ n) (hb2 : b2 + n2 ≤ n) (hap : b1 + n1 ≤ b2 ∨ b2 + n2 ≤ b1) (hAB : ∀ a, A a → B a) : va_D B (wl E' (n1 + n2) (ct n1 (sh b1 q) (sh b2 q)) (ct n1 (sh b1 v) (sh b2 v))) := by
  have at1 : ∀ k, k < n1 + n2 → ∃ j, j < n ∧ ct n1 (sh b1 q) (sh b2 q) k = q j ∧ j = xg2 n1 b1 b2 k := by
    intro k hk
    by_cases hk1 : k < n1
    · exact ⟨b1 + k, by omega, ct_lo hk1, by simp [xg2, hk1]⟩
    · obtain ⟨i, rfl⟩ : ∃ i, k = n1 + i := ⟨k - n1, by omega⟩
      exact ⟨b2 + i, by omega, ct_hi, by simp only [xg2]; rw [if_neg (by omega), Nat.add_sub_cancel_left]⟩
  refine ⟨fun i j x y hx hy hxy => ?_, fun k x hk => ?_⟩
  · obtain ⟨h1, rfl⟩ := wl_inv hx
    obtain ⟨h2, rfl⟩ := wl_inv hy
    obtain ⟨a, ha, ea, ga⟩ := at1 i h1
    obtain ⟨c, hc, ec, gc⟩ := at1 j h2
    have h3 : q a = q c := by rw [← ea, ← ec]; exact hxy
    have := hD.1 a c _ _ (wl_get ha) (wl_get hc) h3
    subst ga; subst gc
    simp only [xg2] at this
    by_cases hi : i < n1 <;> by_cases hj : j < n1 <;> simp only [hi, hj, if_true, if_false] at this <;> omega
  · obtain ⟨h1, rfl⟩ := wl_inv hk
    obtain ⟨a, ha, ea, -⟩ := at1 k h1
    show B (ct n1 (sh b1 q) (sh b2 q) k)
    rw [ea]
    exact hAB _ (hD.2 a _ (wl_get ha))
/-! contracts -/
def cP (G : xGl) (E : xLay) (n : Nat) (q : Nat → Nat) (v : xSt) (sz : Nat) : State → Prop := fun U => U.heap.size = sz ∧ va_P G.1 vwCl (wl E n q v) U.heap ∧ xK G U ∧ va_D (fun _ => True) (wl E n q v)
def cO (G : xGl) (E : xLay) (n : Nat) (q : Nat → Nat) (v : xSt) (sz : Nat) : State → Prop := fun U => U.heap.size = sz ∧ va_P G.1 vwCl (wl E n q v) U.heap ∧ xK G U
def cB (G : xGl) (E : xLay) (n : Nat) (q : Nat → Nat) (v : xSt) (A : Nat → Prop) (t : State) : Prop := va_P G.1 vwCl (wl E n q v) t.heap ∧ va_D A (wl E n q v)
abbrev cA (E : xLay) (n : Nat) (q : Nat → Nat) (v : xSt) (sz : Nat) : Nat → Prop := va_A (wl E n q v) sz
abbrev cN (sz : Nat) : Nat → Prop := fun a => sz ≤ a
abbrev qI (r : Int32) (B : State → Prop) (A : Nat → Prop) := va_Qi (fun (x : Int32) (_ : Unit) => x = r) (fun _ t => B t) A
abbrev qZ (r : Int32) (B : State → Prop) (A : Nat → Prop) := va_Qi (fun (x : Int32) (_ : Unit) => x = r ∧ (r = 0 ∨ r = 1)) (fun _ t => B t) A
abbrev qV (B : State → Prop) (A : Nat → Prop) := va_Qv (fun (_ : Unit) => True) (fun _ t => B t) A
abbrev qL (r : Int64) (B : State → Prop) (A : Nat → Prop) := va_Ql (fun (x : Int64) (_ : Unit) => x = r) (fun _ t => B t) A
abbrev qQ (r : Option Nat) (B : State → Prop) (A : Nat → Prop) := va_Qq (fun (x : Option Nat) (_ : Unit) => x = r) (fun _ t => B t) A
/-- writes its world (RW) / only reads it (RO): the statement, for every heap size -/
def mRW (l : Launch) (y : MethodName) (ws : List Cond) (rm : Room) (G : xGl) (E : xLay) (n : Nat) (q : Nat → Nat) (v : xSt) (av : List Value) (Qc : (State → Prop) → (Nat → Prop) → Array Value → State → Outcome → State → Prop) (v' : xSt) : Prop :=
  ∀ sz, Met l y ws rm (va_Pc av (cP G E n q v sz)) (Qc (cB G E n q v' (cA E n q v sz)) (cA E n q v sz)) 0 0 (cA E n q v sz)
def mRO (l : Launch) (y : MethodName) (ws : List Cond) (rm : Room) (G : xGl) (E : xLay) (n : Nat) (q : Nat → Nat) (v : xSt) (av : List Value) (Qc : (State → Prop) → (Nat → Prop) → Array Value → State → Outcome → State → Prop) : Prop :=
  ∀ sz, Met l y ws rm (va_Pc av (cO G E n q v sz)) (Qc (fun _ => True) (cN sz)) 0 0 (cN sz)
theorem blindP {G : xGl} {E : xLay} {n : Nat} {q : Nat → Nat} {v : xSt} {sz : Nat} {av : List Value} : FrameBlind (va_Pc av (cP G E n q v sz)) := fun a U g mk h => by
  obtain ⟨q0, q1, qP, qK, qD⟩ := h
  exact ⟨q0, q1, qP, xK.same (u := U) (U := U.calling g mk a) rfl qK, qD⟩
theorem blindO {G : xGl} {E : xLay} {n : Nat} {q : Nat → Nat} {v : xSt} {sz : Nat} {av : List Value} : FrameBlind (va_Pc av (cO G E n q v sz)) := fun a U g mk h => by
  obtain ⟨q0, q1, qP, qK⟩ := h
  exact ⟨q0, q1, qP, xK.same (u := U) (U := U.calling g mk a) rfl qK⟩
section XB
variable {p : Program} {l : Launch} {e : Env} {R : Room} {s : State} {m : MethodId} {args : Array Value} {below : List Frame} {meth : Method} {c : Code} {H : Heap} {locs : List Loc} {cells slots : Nat} {Q : State → Prop}
variable {cc : ByteArray} {nL pcc : Nat} {ls : Array Slot} {rest st0 : List Value} {Ts : List Cond} {own : String} {G : xGl} {E E' : xLay} {n n' : Nat} {q : Nat → Nat} {v w : xSt} {A : Nat → Prop}
theorem xRW {y : MethodName} {ws ws' : List Cond} {rm : Room} {av : List Value} {Qc : (State → Prop) → (Nat → Prop) → Array Value → State → Outcome → State → Prop} {v' : xSt} {maxL : Nat} {ret : Option FieldType} (hy : plainName y.cls = true) (hw : ws = Cond.code y cc maxL ret :: ws') (hlen : (lg_sl av).length ≤ maxL)
    (body : ∀ (p : Program) (e : Env) (s : State) (m : MethodId) (below : List Frame) (meth : Method) (c : Code) (ls : Array Slot) (A : Nat → Prop), CallFix p m c cc maxL s av.toArray ws y.cls → meth.sig.returnType = ret → meth.locks = false → hg G E n q v A s s.heap [] → lv_has ls maxL (lv_args 0 av) → W p l e rm s m av.toArray below meth c s.heap [] 0 0 (MQ below (Qc (cB G E n q v' A) A) av.toArray s 0 0 A) (F0 m 0 ls [])) : mRW l y ws rm G E n q v av Qc v' := by
  intro sz
  refine Met.ofW (cc := cc) (maxL := maxL) (ret := ret) hy hw ?_
  intro p e s m args below meth c s₁ B hml hv
  obtain ⟨rfl, hsz, hP, hK, hD⟩ := hv
  subst hsz
  have hl := lv_entry av (n := maxL) hlen
  rw [lg_entry_eq]
  generalize (lg_sl av ++ List.replicate (maxL - (lg_sl av).length) Slot.unset).toArray = ls at hl ⊢
  exact body p e s m below meth c ls (cA E n q v s.heap.size) ⟨B.exec, B.bytes, hml, findClass_of_methodNamed B.named, atoms_spec (ws := ws) B.pre⟩ B.returns B.notSynchronized ⟨⟨hP, hK.1, va_S.rf, hK.2, fun a ha => Or.inr ha⟩, hD.self⟩ hl
theorem xRO {y : MethodName} {ws ws' : List Cond} {rm : Room} {av : List Value} {Qc : (State → Prop) → (Nat → Prop) → Array Value → State → Outcome → State → Prop} {maxL : Nat} {ret : Option FieldType} (hy : plainName y.cls = true) (hw : ws = Cond.code y cc maxL ret :: ws') (hlen : (lg_sl av).length ≤ maxL)
    (body : ∀ (p : Program) (e : Env) (s : State) (m : MethodId) (below : List Frame) (meth : Method) (c : Code) (ls : Array Slot) (A : Nat → Prop), CallFix p m c cc maxL s av.toArray ws y.cls → meth.sig.returnType = ret → meth.locks = false → ho G E n q v A s s.heap [] → lv_has ls maxL (lv_args 0 av) → W p l e rm s m av.toArray below meth c s.heap [] 0 0 (MQ below (Qc (fun _ => True) A) av.toArray s 0 0 A) (F0 m 0 ls [])) : mRO l y ws rm G E n q v av Qc := by
  intro sz
  refine Met.ofW (cc := cc) (maxL := maxL) (ret := ret) hy hw ?_
  intro p e s m args below meth c s₁ B hml hv
  obtain ⟨rfl, hsz, hP, hK⟩ := hv
  subst hsz
  have hl := lv_entry av (n := maxL) hlen
  rw [lg_entry_eq]
  generalize (lg_sl av ++ List.replicate (maxL - (lg_sl av).length) Slot.unset).toArray = ls at hl ⊢
  exact body p e s m below meth c ls (cN s.heap.size) ⟨B.exec, B.bytes, hml, findClass_of_methodNamed B.named, atoms_spec (ws := ws) B.pre⟩ B.returns B.notSynchronized ⟨hP, hK.1, va_S.rf, hK.2, fun a ha => ha⟩ hl
theorem xbit {x : Int32} (h : x = 0 ∨ x = 1) : narrow .boolean (.int x) = .int x := by rcases h with rfl | rfl <;> rfl
theorem xbitf {x : Int32} (h : x = 0 ∨ x = 1) : fits .boolean (.int x) = true := by rcases h with rfl | rfl <;> rfl
/-! ends -/
theorem xiret (hC : CallFix p m c cc nL s args Ts own) (hr : meth.sig.returnType = some .int) (hlocks : meth.locks = false) (h : hg G E n q v A s H locs) {x r : Int32} {v' : xSt} (hxr : x = r) (hv : v = v') (hdg : decode cc pcc = .ok (.ireturn, 1)) : W p l e R s m args below meth c H locs 0 0 (MQ below (qI r (cB G E n q v' A) A) args s 0 0 A) (F0 m pcc ls [.int x]) := by
  subst hv
  exact W.iret hC.1 hC.2.1 hr (fun t ht hW => ⟨⟨x, (), rfl, hxr, by rw [ht]; exact h.1.1, h.2⟩, h.1.2.2.1.F ht⟩) h.1.2.2.1.2.2 hdg hlocks
theorem xzret (hC : CallFix p m c cc nL s args Ts own) (hr : meth.sig.returnType = some .boolean) (hlocks : meth.locks = false) (h : hg G E n q v A s H locs) {x r : Int32} {v' : xSt} (hxr : x = r) (hz : x = 0 ∨ x = 1) (hv : v = v') (hdg : decode cc pcc = .ok (.ireturn, 1)) : W p l e R s m args below meth c H locs 0 0 (MQ below (qZ r (cB G E n q v' A) A) args s 0 0 A) (F0 m pcc ls [.int x]) := by
  subst hv; subst hxr
  exact W.zret hC.1 hC.2.1 hr (xbit hz) (fun t ht hW => ⟨⟨x, (), rfl, ⟨rfl, hz⟩, by rw [ht]; exact h.1.1, h.2⟩, h.1.2.2.1.F ht⟩) h.1.2.2.1.2.2 hdg hlocks
theorem xvret (hC : CallFix p m c cc nL s args Ts own) (hr : meth.sig.returnType = none) (hlocks : meth.locks = false) (h : hg G E n q v A s H locs) {v' : xSt} (hv : v = v') (hdg : decode cc pcc = .ok (.return_, 1)) : W p l e R s m args below meth c H locs 0 0 (MQ below (qV (cB G E n q v' A) A) args s 0 0 A) (F0 m pcc ls []) := by
  subst hv
  exact W.vret hC.1 hC.2.1 hr (fun t ht hW => ⟨⟨(), rfl, trivial, by rw [ht]; exact h.1.1, h.2⟩, h.1.2.2.1.F ht⟩) h.1.2.2.1.2.2 hdg hlocks
theorem xlret (hC : CallFix p m c cc nL s args Ts own) (hr : meth.sig.returnType = some .long) (hlocks : meth.locks = false) (h : hg G E n q v A s H locs) {x r : Int64} {v' : xSt} (hxr : x = r) (hv : v = v') (hdg : decode cc pcc = .ok (.lreturn, 1)) : W p l e R s m args below meth c H locs 0 0 (MQ below (qL r (cB G E n q v' A) A) args s 0 0 A) (F0 m pcc ls [.long x]) := by
  subst hv
  exact W.lret hC.1 hC.2.1 hr (fun t ht hW => ⟨⟨x, (), rfl, hxr, by rw [ht]; exact h.1.1, h.2⟩, h.1.2.2.1.F ht⟩) h.1.2.2.1.2.2 hdg hlocks
theorem va_rfc (r : Option Nat) : va_rf r = .null ∨ ∃ a, va_rf r = .ref a := by cases r with | none => exact Or.inl rfl | some a => exact Or.inr ⟨a, rfl⟩
theorem xqret {nm : String} (hC : CallFix p m c cc nL s args Ts own) (hr : meth.sig.returnType = some (.object nm)) (hlocks : meth.locks = false) (h : hg G E n q v A s H locs) {x r : Option Nat} {v' : xSt} (hxr : x = r) (hv : v = v') (hdg : decode cc pcc = .ok (.areturn, 1)) : W p l e R s m args below meth c H locs 0 0 (MQ below (qQ r (cB G E n q v' A) A) args s 0 0 A) (F0 m pcc ls [va_rf x]) := by
  subst hv
  exact W.aret hC.1 hC.2.1 hr (Or.inl ⟨_, rfl⟩) (va_rfc x) (fun t ht hW => ⟨⟨x, (), rfl, hxr, by rw [ht]; exact h.1.1, h.2⟩, h.1.2.2.1.F ht⟩) h.1.2.2.1.2.2 hdg hlocks
theorem oiret (hC : CallFix p m c cc nL s args Ts own) (hr : meth.sig.returnType = some .int) (hlocks : meth.locks = false) (h : ho G E n q v A s H locs) {x r : Int32} (hxr : x = r) (hdg : decode cc pcc = .ok (.ireturn, 1)) : W p l e R s m args below meth c H locs 0 0 (MQ below (qI r (fun _ => True) A) args s 0 0 A) (F0 m pcc ls [.int x]) :=
  W.iret hC.1 hC.2.1 hr (fun t ht hW => ⟨⟨x, (), rfl, hxr, trivial⟩, h.2.2.1.F ht⟩) h.2.2.1.2.2 hdg hlocks
theorem ozret (hC : CallFix p m c cc nL s args Ts own) (hr : meth.sig.returnType = some .boolean) (hlocks : meth.locks = false) (h : ho G E n q v A s H locs) {x r : Int32} (hxr : x = r) (hz : x = 0 ∨ x = 1) (hdg : decode cc pcc = .ok (.ireturn, 1)) : W p l e R s m args below meth c H locs 0 0 (MQ below (qZ r (fun _ => True) A) args s 0 0 A) (F0 m pcc ls [.int x]) := by
  subst hxr
  exact W.zret hC.1 hC.2.1 hr (xbit hz) (fun t ht hW => ⟨⟨x, (), rfl, ⟨rfl, hz⟩, trivial⟩, h.2.2.1.F ht⟩) h.2.2.1.2.2 hdg hlocks
theorem olret (hC : CallFix p m c cc nL s args Ts own) (hr : meth.sig.returnType = some .long) (hlocks : meth.locks = false) (h : ho G E n q v A s H locs) {x r : Int64} (hxr : x = r) (hdg : decode cc pcc = .ok (.lreturn, 1)) : W p l e R s m args below meth c H locs 0 0 (MQ below (qL r (fun _ => True) A) args s 0 0 A) (F0 m pcc ls [.long x]) :=
  W.lret hC.1 hC.2.1 hr (fun t ht hW => ⟨⟨x, (), rfl, hxr, trivial⟩, h.2.2.1.F ht⟩) h.2.2.1.2.2 hdg hlocks
theorem oqret {nm : String} (hC : CallFix p m c cc nL s args Ts own) (hr : meth.sig.returnType = some (.object nm)) (hlocks : meth.locks = false) (h : ho G E n q v A s H locs) {x r : Option Nat} (hxr : x = r) (hdg : decode cc pcc = .ok (.areturn, 1)) : W p l e R s m args below meth c H locs 0 0 (MQ below (qQ r (fun _ => True) A) args s 0 0 A) (F0 m pcc ls [va_rf x]) :=
  W.aret hC.1 hC.2.1 hr (Or.inl ⟨_, rfl⟩) (va_rfc x) (fun t ht hW => ⟨⟨x, (), rfl, hxr, trivial⟩, h.2.2.1.F ht⟩) h.2.2.1.2.2 hdg hlocks
/-! fields and arrays -/
theorem xget (hC : CallFix p m c cc nL s args Ts own) (h : ho G E n q v A s H locs) {C : String} {T : u_T} {N ci index : Nat} (hin : ∀ w ∈ u_ws C T N, w ∈ Ts) (j : Nat) (hj : j < n) {fs : List Value} (he : E q j (v j) = .inr (ci, fs)) (hc : vwCl[ci]? = some (C, T, N)) (k : Nat) (hk : k < N) (hlink : (Cond.fieldLink own index (T k).1 (T k).2.1 (T k).2.2.1) ∈ Ts) {x : Value} (hv : fs[k]? = some x) (hdg : decode cc pcc = .ok (.getfield index, 3))
    (kk : W p l e R s m args below meth c H locs cells slots Q (F0 m (pcc + 3) ls (x :: rest))) : W p l e R s m args below meth c H locs cells slots Q (F0 m pcc ls (.ref (q j) :: rest)) :=
  va_get (D := G.1) (C := C) (T := T) (N := N) hC.1 hC.2.1 hC.2.2.2.2 hin hC.2.2.2.1 h.2.1 h.1 j (wl_eq hj he) hc k hk (hC.2.2.2.2 _ hlink) (fun _ h9 => h9) hv hdg kk
theorem xput (hC : CallFix p m c cc nL s args Ts own) (h : hg G E n q v A s H locs) {C : String} {T : u_T} {N ci index : Nat} (hin : ∀ w ∈ u_ws C T N, w ∈ Ts) {ty0 : Nat → FieldType} (hty : ∀ k, k < N → parseFieldDescriptor (T k).2.2.1 = some (ty0 k)) (hnm : ∀ a, a < N → ∀ b, b < N → a ≠ b → (T a).2.1 ≠ (T b).2.1) (j : Nat) (hj : j < n) {fs : List Value} (he : E q j (v j) = .inr (ci, fs)) (hc : vwCl[ci]? = some (C, T, N)) (k : Nat) (hk : k < N) (hlink : (Cond.fieldLink own index (T k).1 (T k).2.1 (T k).2.2.1) ∈ Ts) (hfin : (T k).2.2.2 = false) {ty : FieldType} {x : Int32} (hd : parseFieldDescriptor (T k).2.2.1 = some ty) (hn : narrow ty (.int x) = .int x) (hfit : fits ty (.int x) = true) (hl : k < fs.length) (hs : E q j (va_up (v j) k x) = .inr (ci, fs.set k (.int x))) (hdg : decode cc pcc = .ok (.putfield index, 3))
    (kk : ∀ (H1 : Heap) (locs1 : List Loc), hg G E n q (st2 v j k x) A s H1 locs1 → W p l e R s m args below meth c H1 locs1 cells slots Q (F0 m (pcc + 3) ls rest)) : W p l e R s m args below meth c H locs cells slots Q (F0 m pcc ls (.int x :: .ref (q j) :: rest)) := by
  refine va_put (D := G.1) (C := C) (T := T) (N := N) hC.1 hC.2.1 hC.2.2.2.2 hin ty0 hty hnm hC.2.2.2.1 h.1.2.1 h.1.1 h.2 h.1.2.2.1 j (wl_eq hj he) hc k hk (hC.2.2.2.2 _ hlink) (fun _ h9 => h9) hfin hd hn hfit hl hdg (fun H1 locs1 hP hD hS => ?_)
  rw [wl_set hj hs] at hP hD
  exact kk H1 locs1 ⟨⟨hP, h.1.2.1, hS, h.1.2.2.2.1, h.1.2.2.2.2⟩, hD⟩
theorem xiald (hC : CallFix p m c cc nL s args Ts own) (h : ho G E n q v A s H locs) (j : Nat) (hj : j < n) {N : Nat} (he : E q j (v j) = .inl (G.2 0, N, .inl (v j))) {i : Int32} (hin : vp_in i N) (hdg : decode cc pcc = .ok (.iaload, 1))
    (kk : W p l e R s m args below meth c H locs cells slots Q (F0 m (pcc + 1) ls (.int (v j i.toNatClampNeg) :: rest))) : W p l e R s m args below meth c H locs cells slots Q (F0 m pcc ls (.int i :: .ref (q j) :: rest)) :=
  va_iald (D := G.1) (tys := xtys G) hC.1 hC.2.1 h.2.1 h.1 j 0 (wl_eq hj he) rfl hin hdg kk
theorem xcald (hC : CallFix p m c cc nL s args Ts own) (h : ho G E n q v A s H locs) (j : Nat) (hj : j < n) {N : Nat} (he : E q j (v j) = .inl (G.2 1, N, .inl (v j))) {i : Int32} (hin : vp_in i N) (hdg : decode cc pcc = .ok (.caload, 1))
    (kk : W p l e R s m args below meth c H locs cells slots Q (F0 m (pcc + 1) ls (.int (v j i.toNatClampNeg) :: rest))) : W p l e R s m args below meth c H locs cells slots Q (F0 m pcc ls (.int i :: .ref (q j) :: rest)) :=
  va_cald (D := G.1) (tys := xtys G) hC.1 hC.2.1 h.2.1 h.1 j 1 (wl_eq hj he) rfl hin hdg kk
theorem xalen (hC : CallFix p m c cc nL s args Ts own) (h : ho G E n q v A s H locs) (t : Nat) {ty : FieldType} (ht : (xtys G)[t]? = some (G.2 t, ty)) (j : Nat) (hj : j < n) {x : vp_A} (he : E q j (v j) = .inl (G.2 t, x)) {z : Int32} (hz : Int32.ofNat x.1 = z) (hdg : decode cc pcc = .ok (.arraylength, 1))
    (kk : W p l e R s m args below meth c H locs cells slots Q (F0 m (pcc + 1) ls (.int z :: rest))) : W p l e R s m args below meth c H locs cells slots Q (F0 m pcc ls (.ref (q j) :: rest)) :=
  va_alen (D := G.1) (tys := xtys G) hC.1 hC.2.1 h.2.1 h.1 j t (wl_eq hj he) ht hz hdg kk
theorem xiast (hC : CallFix p m c cc nL s args Ts own) (h : hg G E n q v A s H locs) (j : Nat) (hj : j < n) {N : Nat} (he : ∀ z, E q j z = .inl (G.2 0, N, .inl z)) {i x : Int32} (hin : vp_in i N) (hdg : decode cc pcc = .ok (.iastore, 1))
    (kk : ∀ (H1 : Heap) (locs1 : List Loc), hg G E n q (st2 v j i.toNatClampNeg x) A s H1 locs1 → W p l e R s m args below meth c H1 locs1 cells slots Q (F0 m (pcc + 1) ls rest)) : W p l e R s m args below meth c H locs cells slots Q (F0 m pcc ls (.int x :: .int i :: .ref (q j) :: rest)) := by
  refine va_iast (D := G.1) (tys := xtys G) hC.1 hC.2.1 h.1.2.1 h.1.1 h.2 h.1.2.2.1 j 0 (wl_eq hj (he _)) rfl hin hdg (fun H1 locs1 hP hD hS => ?_)
  have e := wl_set (E := E) (n := n) (q := q) (v := v) (s' := va_up (v j) i.toNatClampNeg x) hj (he _)
  exact kk H1 locs1 ⟨⟨by rw [show st2 v j i.toNatClampNeg x = va_up v j (va_up (v j) i.toNatClampNeg x) from rfl, ← e]; exact hP, h.1.2.1, hS, h.1.2.2.2.1, h.1.2.2.2.2⟩, by rw [show st2 v j i.toNatClampNeg x = va_up v j (va_up (v j) i.toNatClampNeg x) from rfl, ← e]; exact hD⟩
theorem xcast (hC : CallFix p m c cc nL s args Ts own) (h : hg G E n q v A s H locs) (j : Nat) (hj : j < n) {N : Nat} (he : ∀ z, E q j z = .inl (G.2 1, N, .inl z)) {i x : Int32} (hin : vp_in i N) (hx : vp_nar .char x = x) (hdg : decode cc pcc = .ok (.castore, 1))
    (kk : ∀ (H1 : Heap) (locs1 : List Loc), hg G E n q (st2 v j i.toNatClampNeg x) A s H1 locs1 → W p l e R s m args below meth c H1 locs1 cells slots Q (F0 m (pcc + 1) ls rest)) : W p l e R s m args below meth c H locs cells slots Q (F0 m pcc ls (.int x :: .int i :: .ref (q j) :: rest)) := by
  refine va_cast (D := G.1) (tys := xtys G) hC.1 hC.2.1 h.1.2.1 h.1.1 h.2 h.1.2.2.1 j 1 (wl_eq hj (he _)) rfl hin hdg (fun H1 locs1 hP hD hS => ?_)
  rw [hx] at hP hD
  have e := wl_set (E := E) (n := n) (q := q) (v := v) (s' := va_up (v j) i.toNatClampNeg x) hj (he _)
  exact kk H1 locs1 ⟨⟨by rw [show st2 v j i.toNatClampNeg x = va_up v j (va_up (v j) i.toNatClampNeg x) from rfl, ← e]; exact hP, h.1.2.1, hS, h.1.2.2.2.1, h.1.2.2.2.2⟩, by rw [show st2 v j i.toNatClampNeg x = va_up v j (va_up (v j) i.toNatClampNeg x) from rfl, ← e]; exact hD⟩
/-! before a call -/
theorem preV1 (h : hg G E n q v A s H locs) (b n' : Nat) {E' : xLay} (hE : ∀ i, i < n' → ∀ z, E q (b + i) z = E' (sh b q) i z) (hb : b + n' ≤ n) (hbn : b < n) {ci : Nat} {fs : List Value} {C : String} {T : u_T} {N : Nat} (he : E q b (v b) = .inr (ci, fs)) (hc : vwCl[ci]? = some (C, T, N)) (As : List Value) : PreV s H C (q b) (va_Pc (.ref (q b) :: As) (cP G E' n' (sh b q) (sh b v) H.size)) As :=
  ⟨blindP, va_recv h.1.2.1 h.1.1 hc (wl_eq hbn he), fun U hU hW => ⟨rfl, by rw [hU], by rw [hU]; exact wl_sub h.1.1 hb hE, ⟨va_K.moved hW.alike h.1.2.1, (xK.warm hW ⟨h.1.2.1, h.1.2.2.2.1⟩).2⟩, wl_subD h.2 hb hE (fun _ _ => trivial)⟩⟩
theorem preVO (h : ho G E n q v A s H locs) (b n' : Nat) {E' : xLay} (hE : ∀ i, i < n' → ∀ z, E q (b + i) z = E' (sh b q) i z) (hb : b + n' ≤ n) (hbn : b < n) {ci : Nat} {fs : List Value} {C : String} {T : u_T} {N : Nat} (he : E q b (v b) = .inr (ci, fs)) (hc : vwCl[ci]? = some (C, T, N)) (As : List Value) : PreV s H C (q b) (va_Pc (.ref (q b) :: As) (cO G E' n' (sh b q) (sh b v) H.size)) As :=
  ⟨blindO, va_recv h.2.1 h.1 hc (wl_eq hbn he), fun U hU hW => ⟨rfl, by rw [hU], by rw [hU]; exact wl_sub h.1 hb hE, xK.warm hW ⟨h.2.1, h.2.2.2.1⟩⟩⟩
theorem preS1 (h : hg G E n q v A s H locs) (b n' : Nat) {E' : xLay} (hE : ∀ i, i < n' → ∀ z, E q (b + i) z = E' (sh b q) i z) (hb : b + n' ≤ n) (As : List Value) : PreS s H (va_Pc As (cP G E' n' (sh b q) (sh b v) H.size)) As :=
  ⟨blindP, fun U hU hW => ⟨rfl, by rw [hU], by rw [hU]; exact wl_sub h.1.1 hb hE, xK.warm hW ⟨h.1.2.1, h.1.2.2.2.1⟩, wl_subD h.2 hb hE (fun _ _ => trivial)⟩⟩
theorem preSO (h : ho G E n q v A s H locs) (b n' : Nat) {E' : xLay} (hE : ∀ i, i < n' → ∀ z, E q (b + i) z = E' (sh b q) i z) (hb : b + n' ≤ n) (As : List Value) : PreS s H (va_Pc As (cO G E' n' (sh b q) (sh b v) H.size)) As :=
  ⟨blindO, fun U hU hW => ⟨rfl, by rw [hU], by rw [hU]; exact wl_sub h.1 hb hE, xK.warm hW ⟨h.2.1, h.2.2.2.1⟩⟩⟩
theorem preV2 (h : hg G E n q v A s H locs) (b1 n1 b2 n2 : Nat) {E' : xLay} (hE1 : ∀ i, i < n1 → ∀ z, E q (b1 + i) z = E' (ct n1 (sh b1 q) (sh b2 q)) i z) (hE2 : ∀ i, i < n2 → ∀ z, E q (b2 + i) z = E' (ct n1 (sh b1 q) (sh b2 q)) (n1 + i) z) (hb1 : b1 + n1 ≤ n) (hb2 : b2 + n2 ≤ n) (hap : b1 + n1 ≤ b2 ∨ b2 + n2 ≤ b1) (hbn : b1 < n) {ci : Nat} {fs : List Value} {C : String} {T : u_T} {N : Nat} (he : E q b1 (v b1) = .inr (ci, fs)) (hc : vwCl[ci]? = some (C, T, N)) (As : List Value) : PreV s H C (q b1) (va_Pc (.ref (q b1) :: As) (cP G E' (n1 + n2) (ct n1 (sh b1 q) (sh b2 q)) (ct n1 (sh b1 v) (sh b2 v)) H.size)) As :=
  ⟨blindP, va_recv h.1.2.1 h.1.1 hc (wl_eq hbn he), fun U hU hW => ⟨rfl, by rw [hU], by rw [hU]; exact wl_sub2 h.1.1 hb1 hb2 hE1 hE2, xK.warm hW ⟨h.1.2.1, h.1.2.2.2.1⟩, wl_sub2D h.2 hb1 hb2 hap (fun _ _ => trivial)⟩⟩
/-! behind a call -/
theorem hg_lt (h : ho G E n q v A s H locs) {k : Nat} (hk : k < n) : q k < H.size := (h.1 k _ (wl_get hk)).lt
theorem afO (h : ho G E n q v A s H locs) {H1 : Heap} {locs1 : List Loc} (hk : ∀ a : Nat, a < H.size → ¬ cN H.size a → H1[a]? = H[a]?) (hS1 : va_S A s.heap H1 locs1) : ho G E n q v A s H1 locs1 :=
  ⟨h.1.kept (fun k x hx => by obtain ⟨h1, rfl⟩ := wl_inv hx; exact hk _ (hg_lt h h1) (Nat.not_le.mpr (hg_lt h h1))), h.2.1, hS1, h.2.2.2⟩
theorem af1 (h : hg G E n q v A s H locs) {b n' : Nat} {E' : xLay} (hE : ∀ i, i < n' → ∀ z, E q (b + i) z = E' (sh b q) i z) (hb : b + n' ≤ n) {t : State} {H1 : Heap} {locs1 : List Loc} (ht : t.heap = H1) (hB : cB G E' n' (sh b q) w (cA E' n' (sh b q) (sh b v) H.size) t) (hk : ∀ a : Nat, a < H.size → ¬ cA E' n' (sh b q) (sh b v) H.size a → H1[a]? = H[a]?) (hS1 : va_S A s.heap H1 locs1) : hg G E n q (pu b n' v w) A s H1 locs1 := by
  subst ht
  refine ⟨⟨fun k x hx => ?_, h.1.2.1, hS1, h.1.2.2.2⟩, ?_⟩
  · obtain ⟨h1, rfl⟩ := wl_inv hx
    by_cases hc : b ≤ k ∧ k < b + n'
    · obtain ⟨i, rfl⟩ : ∃ i, k = b + i := ⟨k - b, by omega⟩
      have hi : i < n' := by omega
      have := hB.1 i _ (wl_get hi)
      have e1 : pu b n' v w (b + i) = w i := by unfold pu; rw [if_pos hc, Nat.add_sub_cancel_left]
      rw [e1, hE i hi]
      exact this
    · have e1 : pu b n' v w k = v k := by unfold pu; rw [if_neg hc]
      rw [e1]
      refine (h.1.1 k _ (wl_get h1)).kept (hk _ (hg_lt h.1 h1) ?_)
      rintro (⟨i, ee, hi⟩ | hge)
      · obtain ⟨h2, h3⟩ := wl_inv hi
        have h4 : q k = q (b + i) := congrArg Prod.fst h3
        have := h.2.1 k (b + i) _ _ (wl_get h1) (wl_get (by omega)) h4
        omega
      · have := hg_lt h.1 h1
        have hge : H.size ≤ q k := hge
        omega
  · refine ⟨fun i j x y hx hy hxy => ?_, fun k x hx => ?_⟩
    · obtain ⟨h1, rfl⟩ := wl_inv hx
      obtain ⟨h2, rfl⟩ := wl_inv hy
      exact h.2.1 i j _ _ (wl_get h1) (wl_get h2) hxy
    · obtain ⟨h1, rfl⟩ := wl_inv hx
      exact h.2.2 k (q k, E q k (v k)) (wl_get h1)
theorem af2 (h : hg G E n q v A s H locs) {b1 n1 b2 n2 : Nat} {E' : xLay} (hE1 : ∀ i, i < n1 → ∀ z, E q (b1 + i) z = E' (ct n1 (sh b1 q) (sh b2 q)) i z) (hE2 : ∀ i, i < n2 → ∀ z, E q (b2 + i) z = E' (ct n1 (sh b1 q) (sh b2 q)) (n1 + i) z) (hb1 : b1 + n1 ≤ n) (hb2 : b2 + n2 ≤ n) (hap : b1 + n1 ≤ b2 ∨ b2 + n2 ≤ b1) {t : State} {H1 : Heap} {locs1 : List Loc} (ht : t.heap = H1) (hB : cB G E' (n1 + n2) (ct n1 (sh b1 q) (sh b2 q)) w (cA E' (n1 + n2) (ct n1 (sh b1 q) (sh b2 q)) (ct n1 (sh b1 v) (sh b2 v)) H.size) t) (hk : ∀ a : Nat, a < H.size → ¬ cA E' (n1 + n2) (ct n1 (sh b1 q) (sh b2 q)) (ct n1 (sh b1 v) (sh b2 v)) H.size a → H1[a]? = H[a]?) (hS1 : va_S A s.heap H1 locs1) : hg G E n q (pu b2 n2 (pu b1 n1 v w) (sh n1 w)) A s H1 locs1 := by
  subst ht
  refine ⟨⟨fun k x hx => ?_, h.1.2.1, hS1, h.1.2.2.2⟩, ?_⟩
  · obtain ⟨h1, rfl⟩ := wl_inv hx
    by_cases hc2 : b2 ≤ k ∧ k < b2 + n2
    · obtain ⟨i, rfl⟩ : ∃ i, k = b2 + i := ⟨k - b2, by omega⟩
      have hi : i < n2 := by omega
      have := hB.1 (n1 + i) _ (wl_get (by omega))
      have e1 : pu b2 n2 (pu b1 n1 v w) (sh n1 w) (b2 + i) = w (n1 + i) := by unfold pu; rw [if_pos hc2, Nat.add_sub_cancel_left]; rfl
      rw [e1, hE2 i hi]
      rw [ct_hi] at this
      exact this
    · have e0 : pu b2 n2 (pu b1 n1 v w) (sh n1 w) k = pu b1 n1 v w k := by
        show (if b2 ≤ k ∧ k < b2 + n2 then _ else _) = _
        rw [if_neg hc2]
      rw [e0]
      by_cases hc : b1 ≤ k ∧ k < b1 + n1
      · obtain ⟨i, rfl⟩ : ∃ i, k = b1 + i := ⟨k - b1, by omega⟩
        have hi : i < n1 := by omega
        have := hB.1 i _ (wl_get (by omega))
        have e1 : pu b1 n1 v w (b1 + i) = w i := by unfold pu; rw [if_pos hc, Nat.add_sub_cancel_left]
        rw [e1, hE1 i hi]
        rw [ct_lo hi] at this
        exact this
      · have e1 : pu b1 n1 v w k = v k := by unfold pu; rw [if_neg hc]
        rw [e1]
        refine (h.1.1 k _ (wl_get h1)).kept (hk _ (hg_lt h.1 h1) ?_)
        rintro (⟨i, ee, hi⟩ | hge)
        · obtain ⟨h2, h3⟩ := wl_inv hi
          have h4 : q k = ct n1 (sh b1 q) (sh b2 q) i := congrArg Prod.fst h3
          by_cases hi1 : i < n1
          · rw [ct_lo hi1] at h4
            have := h.2.1 k (b1 + i) _ _ (wl_get h1) (wl_get (by omega)) h4
            omega
          · obtain ⟨i', rfl⟩ : ∃ i', i = n1 + i' := ⟨i - n1, by omega⟩
            rw [ct_hi] at h4
            have := h.2.1 k (b2 + i') _ _ (wl_get h1) (wl_get (by omega)) h4
            omega
        · have := hg_lt h.1 h1
          have hge : H.size ≤ q k := hge
          omega
  · refine ⟨fun i j x y hx hy hxy => ?_, fun k x hx => ?_⟩
    · obtain ⟨h1, rfl⟩ := wl_inv hx
      obtain ⟨h2, rfl⟩ := wl_inv hy
      exact h.2.1 i j _ _ (wl_get h1) (wl_get h2) hxy
    · obtain ⟨h1, rfl⟩ := wl_inv hx
      exact h.2.2 k (q k, E q k (v k)) (wl_get h1)
theorem free1 (h : hg G E n q v A s H locs) {b n' : Nat} {E' : xLay} (hb : b + n' ≤ n) : ∀ a, cA E' n' (sh b q) (sh b v) H.size a → A a := by
  rintro a (⟨i, ee, hi⟩ | hge)
  · obtain ⟨h2, h3⟩ := wl_inv hi
    have h4 : a = q (b + i) := congrArg Prod.fst h3
    rw [h4]
    exact h.2.2 (b + i) _ (wl_get (by omega))
  · exact h.1.2.2.2.2 a (Nat.le_trans h.1.2.2.1.1 hge)
theorem free2 (h : hg G E n q v A s H locs) {b1 n1 b2 n2 : Nat} {E' : xLay} (hb1 : b1 + n1 ≤ n) (hb2 : b2 + n2 ≤ n) : ∀ a, cA E' (n1 + n2) (ct n1 (sh b1 q) (sh b2 q)) (ct n1 (sh b1 v) (sh b2 v)) H.size a → A a := by
  rintro a (⟨i, ee, hi⟩ | hge)
  · obtain ⟨h2, h3⟩ := wl_inv hi
    have h4 : a = ct n1 (sh b1 q) (sh b2 q) i := congrArg Prod.fst h3
    rw [h4]
    by_cases hi1 : i < n1
    · rw [ct_lo hi1]
      exact h.2.2 (b1 + i) _ (wl_get (by omega))
    · obtain ⟨i', rfl⟩ : ∃ i', i = n1 + i' := ⟨i - n1, by omega⟩
      rw [ct_hi]
      exact h.2.2 (b2 + i') _ (wl_get (by omega))
  · exact h.1.2.2.2.2 a (Nat.le_trans h.1.2.2.1.1 hge)
theorem freeO (h : ho G E n q v A s H locs) : ∀ a, cN H.size a → A a := fun a ha => h.2.2.2.2 a (Nat.le_trans h.2.2.1.1 ha)
theorem xi1 (h : hg G E n q v A s H locs) (b n' : Nat) {E' : xLay} (hE : ∀ i, i < n' → ∀ z, E q (b + i) z = E' (sh b q) i z) (hb : b + n' ≤ n) {r : Int32} {a : Array Value} (hr : va_Run p l e R s m args below meth c H locs cells slots 0 0 (F0 m pcc ls st0) rest (qI r (cB G E' n' (sh b q) w (cA E' n' (sh b q) (sh b v) H.size)) (cA E' n' (sh b q) (sh b v) H.size) a) (cA E' n' (sh b q) (sh b v) H.size))
    (kk : ∀ (H1 : Heap) (locs1 : List Loc), hg G E n q (pu b n' v w) A s H1 locs1 → W p l e R s m args below meth c H1 locs1 cells slots Q (F0 m (pcc + 3) ls (.int r :: rest))) : W p l e R s m args below meth c H locs cells slots Q (F0 m pcc ls st0) := by
  refine va_calli hr h.1.2.2.1 (fun a _ ha => free1 h hb a ha) (free1 h hb) (fun r2 u t H1 locs1 ht hvm hw hB hz1 hk1 hS1 => ?_)
  subst hw
  exact kk H1 locs1 (af1 h hE hb ht hB hk1 hS1)
theorem xi2 (h : hg G E n q v A s H locs) (b1 n1 b2 n2 : Nat) {E' : xLay} (hE1 : ∀ i, i < n1 → ∀ z, E q (b1 + i) z = E' (ct n1 (sh b1 q) (sh b2 q)) i z) (hE2 : ∀ i, i < n2 → ∀ z, E q (b2 + i) z = E' (ct n1 (sh b1 q) (sh b2 q)) (n1 + i) z) (hb1 : b1 + n1 ≤ n) (hb2 : b2 + n2 ≤ n) (hap : b1 + n1 ≤ b2 ∨ b2 + n2 ≤ b1) {r : Int32} {a : Array Value} (hr : va_Run p l e R s m args below meth c H locs cells slots 0 0 (F0 m pcc ls st0) rest (qI r (cB G E' (n1 + n2) (ct n1 (sh b1 q) (sh b2 q)) w (cA E' (n1 + n2) (ct n1 (sh b1 q) (sh b2 q)) (ct n1 (sh b1 v) (sh b2 v)) H.size)) (cA E' (n1 + n2) (ct n1 (sh b1 q) (sh b2 q)) (ct n1 (sh b1 v) (sh b2 v)) H.size) a) (cA E' (n1 + n2) (ct n1 (sh b1 q) (sh b2 q)) (ct n1 (sh b1 v) (sh b2 v)) H.size))
    (kk : ∀ (H1 : Heap) (locs1 : List Loc), hg G E n q (pu b2 n2 (pu b1 n1 v w) (sh n1 w)) A s H1 locs1 → W p l e R s m args below meth c H1 locs1 cells slots Q (F0 m (pcc + 3) ls (.int r :: rest))) : W p l e R s m args below meth c H locs cells slots Q (F0 m pcc ls st0) := by
  refine va_calli hr h.1.2.2.1 (fun a _ ha => free2 h hb1 hb2 a ha) (free2 h hb1 hb2) (fun r2 u t H1 locs1 ht hvm hw hB hz1 hk1 hS1 => ?_)
  subst hw
  exact kk H1 locs1 (af2 h hE1 hE2 hb1 hb2 hap ht hB hk1 hS1)
theorem xiO (h : ho G E n q v A s H locs) {r : Int32} {a : Array Value} (hr : va_Run p l e R s m args below meth c H locs cells slots 0 0 (F0 m pcc ls st0) rest (qI r (fun _ => True) (cN H.size) a) (cN H.size))
    (kk : ∀ (H1 : Heap) (locs1 : List Loc), ho G E n q v A s H1 locs1 → W p l e R s m args below meth c H1 locs1 cells slots Q (F0 m (pcc + 3) ls (.int r :: rest))) : W p l e R s m args below meth c H locs cells slots Q (F0 m pcc ls st0) := by
  refine va_calli hr h.2.2.1 (fun a _ ha => freeO h a ha) (freeO h) (fun r2 u t H1 locs1 ht hvm hw hB hz1 hk1 hS1 => ?_)
  subst hw
  exact kk H1 locs1 (afO h hk1 hS1)
theorem xiG (h : hg G E n q v A s H locs) {r : Int32} {a : Array Value} (hr : va_Run p l e R s m args below meth c H locs cells slots 0 0 (F0 m pcc ls st0) rest (qI r (fun _ => True) (cN H.size) a) (cN H.size))
    (kk : ∀ (H1 : Heap) (locs1 : List Loc), hg G E n q v A s H1 locs1 → W p l e R s m args below meth c H1 locs1 cells slots Q (F0 m (pcc + 3) ls (.int r :: rest))) : W p l e R s m args below meth c H locs cells slots Q (F0 m pcc ls st0) := by
  refine va_calli hr h.1.2.2.1 (fun a _ ha => freeO h.1 a ha) (freeO h.1) (fun r2 u t H1 locs1 ht hvm hw hB hz1 hk1 hS1 => ?_)
  subst hw
  exact kk H1 locs1 (⟨afO h.1 hk1 hS1, h.2⟩)
theorem xz1 (h : hg G E n q v A s H locs) (b n' : Nat) {E' : xLay} (hE : ∀ i, i < n' → ∀ z, E q (b + i) z = E' (sh b q) i z) (hb : b + n' ≤ n) {r : Int32} {a : Array Value} (hr : va_Run p l e R s m args below meth c H locs cells slots 0 0 (F0 m pcc ls st0) rest (qZ r (cB G E' n' (sh b q) w (cA E' n' (sh b q) (sh b v) H.size)) (cA E' n' (sh b q) (sh b v) H.size) a) (cA E' n' (sh b q) (sh b v) H.size))
    (kk : ∀ (H1 : Heap) (locs1 : List Loc), r = 0 ∨ r = 1 → hg G E n q (pu b n' v w) A s H1 locs1 → W p l e R s m args below meth c H1 locs1 cells slots Q (F0 m (pcc + 3) ls (.int r :: rest))) : W p l e R s m args below meth c H locs cells slots Q (F0 m pcc ls st0) := by
  refine va_calli hr h.1.2.2.1 (fun a _ ha => free1 h hb a ha) (free1 h hb) (fun r2 u t H1 locs1 ht hvm hw hB hz1 hk1 hS1 => ?_)
  obtain ⟨rfl, hz⟩ := hw
  exact kk H1 locs1 hz (af1 h hE hb ht hB hk1 hS1)
theorem xz2 (h : hg G E n q v A s H locs) (b1 n1 b2 n2 : Nat) {E' : xLay} (hE1 : ∀ i, i < n1 → ∀ z, E q (b1 + i) z = E' (ct n1 (sh b1 q) (sh b2 q)) i z) (hE2 : ∀ i, i < n2 → ∀ z, E q (b2 + i) z = E' (ct n1 (sh b1 q) (sh b2 q)) (n1 + i) z) (hb1 : b1 + n1 ≤ n) (hb2 : b2 + n2 ≤ n) (hap : b1 + n1 ≤ b2 ∨ b2 + n2 ≤ b1) {r : Int32} {a : Array Value} (hr : va_Run p l e R s m args below meth c H locs cells slots 0 0 (F0 m pcc ls st0) rest (qZ r (cB G E' (n1 + n2) (ct n1 (sh b1 q) (sh b2 q)) w (cA E' (n1 + n2) (ct n1 (sh b1 q) (sh b2 q)) (ct n1 (sh b1 v) (sh b2 v)) H.size)) (cA E' (n1 + n2) (ct n1 (sh b1 q) (sh b2 q)) (ct n1 (sh b1 v) (sh b2 v)) H.size) a) (cA E' (n1 + n2) (ct n1 (sh b1 q) (sh b2 q)) (ct n1 (sh b1 v) (sh b2 v)) H.size))
    (kk : ∀ (H1 : Heap) (locs1 : List Loc), r = 0 ∨ r = 1 → hg G E n q (pu b2 n2 (pu b1 n1 v w) (sh n1 w)) A s H1 locs1 → W p l e R s m args below meth c H1 locs1 cells slots Q (F0 m (pcc + 3) ls (.int r :: rest))) : W p l e R s m args below meth c H locs cells slots Q (F0 m pcc ls st0) := by
  refine va_calli hr h.1.2.2.1 (fun a _ ha => free2 h hb1 hb2 a ha) (free2 h hb1 hb2) (fun r2 u t H1 locs1 ht hvm hw hB hz1 hk1 hS1 => ?_)
  obtain ⟨rfl, hz⟩ := hw
  exact kk H1 locs1 hz (af2 h hE1 hE2 hb1 hb2 hap ht hB hk1 hS1)
theorem xzO (h : ho G E n q v A s H locs) {r : Int32} {a : Array Value} (hr : va_Run p l e R s m args below meth c H locs cells slots 0 0 (F0 m pcc ls st0) rest (qZ r (fun _ => True) (cN H.size) a) (cN H.size))
    (kk : ∀ (H1 : Heap) (locs1 : List Loc), r = 0 ∨ r = 1 → ho G E n q v A s H1 locs1 → W p l e R s m args below meth c H1 locs1 cells slots Q (F0 m (pcc + 3) ls (.int r :: rest))) : W p l e R s m args below meth c H locs cells slots Q (F0 m pcc ls st0) := by
  refine va_calli hr h.2.2.1 (fun a _ ha => freeO h a ha) (freeO h) (fun r2 u t H1 locs1 ht hvm hw hB hz1 hk1 hS1 => ?_)
  obtain ⟨rfl, hz⟩ := hw
  exact kk H1 locs1 hz (afO h hk1 hS1)
theorem xzG (h : hg G E n q v A s H locs) {r : Int32} {a : Array Value} (hr : va_Run p l e R s m args below meth c H locs cells slots 0 0 (F0 m pcc ls st0) rest (qZ r (fun _ => True) (cN H.size) a) (cN H.size))
    (kk : ∀ (H1 : Heap) (locs1 : List Loc), r = 0 ∨ r = 1 → hg G E n q v A s H1 locs1 → W p l e R s m args below meth c H1 locs1 cells slots Q (F0 m (pcc + 3) ls (.int r :: rest))) : W p l e R s m args below meth c H locs cells slots Q (F0 m pcc ls st0) := by
  refine va_calli hr h.1.2.2.1 (fun a _ ha => freeO h.1 a ha) (freeO h.1) (fun r2 u t H1 locs1 ht hvm hw hB hz1 hk1 hS1 => ?_)
  obtain ⟨rfl, hz⟩ := hw
  exact kk H1 locs1 hz (⟨afO h.1 hk1 hS1, h.2⟩)
theorem xv1 (h : hg G E n q v A s H locs) (b n' : Nat) {E' : xLay} (hE : ∀ i, i < n' → ∀ z, E q (b + i) z = E' (sh b q) i z) (hb : b + n' ≤ n)  {a : Array Value} (hr : va_Run p l e R s m args below meth c H locs cells slots 0 0 (F0 m pcc ls st0) rest (qV (cB G E' n' (sh b q) w (cA E' n' (sh b q) (sh b v) H.size)) (cA E' n' (sh b q) (sh b v) H.size) a) (cA E' n' (sh b q) (sh b v) H.size))
    (kk : ∀ (H1 : Heap) (locs1 : List Loc), hg G E n q (pu b n' v w) A s H1 locs1 → W p l e R s m args below meth c H1 locs1 cells slots Q (F0 m (pcc + 3) ls rest)) : W p l e R s m args below meth c H locs cells slots Q (F0 m pcc ls st0) := by
  refine va_callv hr h.1.2.2.1 (fun a _ ha => free1 h hb a ha) (free1 h hb) (fun u t H1 locs1 ht hvm hw hB hz1 hk1 hS1 => ?_)
  skip
  exact kk H1 locs1 (af1 h hE hb ht hB hk1 hS1)
theorem xv2 (h : hg G E n q v A s H locs) (b1 n1 b2 n2 : Nat) {E' : xLay} (hE1 : ∀ i, i < n1 → ∀ z, E q (b1 + i) z = E' (ct n1 (sh b1 q) (sh b2 q)) i z) (hE2 : ∀ i, i < n2 → ∀ z, E q (b2 + i) z = E' (ct n1 (sh b1 q) (sh b2 q)) (n1 + i) z) (hb1 : b1 + n1 ≤ n) (hb2 : b2 + n2 ≤ n) (hap : b1 + n1 ≤ b2 ∨ b2 + n2 ≤ b1)  {a : Array Value} (hr : va_Run p l e R s m args below meth c H locs cells slots 0 0 (F0 m pcc ls st0) rest (qV (cB G E' (n1 + n2) (ct n1 (sh b1 q) (sh b2 q)) w (cA E' (n1 + n2) (ct n1 (sh b1 q) (sh b2 q)) (ct n1 (sh b1 v) (sh b2 v)) H.size)) (cA E' (n1 + n2) (ct n1 (sh b1 q) (sh b2 q)) (ct n1 (sh b1 v) (sh b2 v)) H.size) a) (cA E' (n1 + n2) (ct n1 (sh b1 q) (sh b2 q)) (ct n1 (sh b1 v) (sh b2 v)) H.size))
    (kk : ∀ (H1 : Heap) (locs1 : List Loc), hg G E n q (pu b2 n2 (pu b1 n1 v w) (sh n1 w)) A s H1 locs1 → W p l e R s m args below meth c H1 locs1 cells slots Q (F0 m (pcc + 3) ls rest)) : W p l e R s m args below meth c H locs cells slots Q (F0 m pcc ls st0) := by
  refine va_callv hr h.1.2.2.1 (fun a _ ha => free2 h hb1 hb2 a ha) (free2 h hb1 hb2) (fun u t H1 locs1 ht hvm hw hB hz1 hk1 hS1 => ?_)
  skip
  exact kk H1 locs1 (af2 h hE1 hE2 hb1 hb2 hap ht hB hk1 hS1)
theorem xl1 (h : hg G E n q v A s H locs) (b n' : Nat) {E' : xLay} (hE : ∀ i, i < n' → ∀ z, E q (b + i) z = E' (sh b q) i z) (hb : b + n' ≤ n) {r : Int64} {a : Array Value} (hr : va_Run p l e R s m args below meth c H locs cells slots 0 0 (F0 m pcc ls st0) rest (qL r (cB G E' n' (sh b q) w (cA E' n' (sh b q) (sh b v) H.size)) (cA E' n' (sh b q) (sh b v) H.size) a) (cA E' n' (sh b q) (sh b v) H.size))
    (kk : ∀ (H1 : Heap) (locs1 : List Loc), hg G E n q (pu b n' v w) A s H1 locs1 → W p l e R s m args below meth c H1 locs1 cells slots Q (F0 m (pcc + 3) ls (.long r :: rest))) : W p l e R s m args below meth c H locs cells slots Q (F0 m pcc ls st0) := by
  refine va_calll hr h.1.2.2.1 (fun a _ ha => free1 h hb a ha) (free1 h hb) (fun r2 u t H1 locs1 ht hvm hw hB hz1 hk1 hS1 => ?_)
  subst hw
  exact kk H1 locs1 (af1 h hE hb ht hB hk1 hS1)
theorem xl2 (h : hg G E n q v A s H locs) (b1 n1 b2 n2 : Nat) {E' : xLay} (hE1 : ∀ i, i < n1 → ∀ z, E q (b1 + i) z = E' (ct n1 (sh b1 q) (sh b2 q)) i z) (hE2 : ∀ i, i < n2 → ∀ z, E q (b2 + i) z = E' (ct n1 (sh b1 q) (sh b2 q)) (n1 + i) z) (hb1 : b1 + n1 ≤ n) (hb2 : b2 + n2 ≤ n) (hap : b1 + n1 ≤ b2 ∨ b2 + n2 ≤ b1) {r : Int64} {a : Array Value} (hr : va_Run p l e R s m args below meth c H locs cells slots 0 0 (F0 m pcc ls st0) rest (qL r (cB G E' (n1 + n2) (ct n1 (sh b1 q) (sh b2 q)) w (cA E' (n1 + n2) (ct n1 (sh b1 q) (sh b2 q)) (ct n1 (sh b1 v) (sh b2 v)) H.size)) (cA E' (n1 + n2) (ct n1 (sh b1 q) (sh b2 q)) (ct n1 (sh b1 v) (sh b2 v)) H.size) a) (cA E' (n1 + n2) (ct n1 (sh b1 q) (sh b2 q)) (ct n1 (sh b1 v) (sh b2 v)) H.size))
    (kk : ∀ (H1 : Heap) (locs1 : List Loc), hg G E n q (pu b2 n2 (pu b1 n1 v w) (sh n1 w)) A s H1 locs1 → W p l e R s m args below meth c H1 locs1 cells slots Q (F0 m (pcc + 3) ls (.long r :: rest))) : W p l e R s m args below meth c H locs cells slots Q (F0 m pcc ls st0) := by
  refine va_calll hr h.1.2.2.1 (fun a _ ha => free2 h hb1 hb2 a ha) (free2 h hb1 hb2) (fun r2 u t H1 locs1 ht hvm hw hB hz1 hk1 hS1 => ?_)
  subst hw
  exact kk H1 locs1 (af2 h hE1 hE2 hb1 hb2 hap ht hB hk1 hS1)
theorem xlO (h : ho G E n q v A s H locs) {r : Int64} {a : Array Value} (hr : va_Run p l e R s m args below meth c H locs cells slots 0 0 (F0 m pcc ls st0) rest (qL r (fun _ => True) (cN H.size) a) (cN H.size))
    (kk : ∀ (H1 : Heap) (locs1 : List Loc), ho G E n q v A s H1 locs1 → W p l e R s m args below meth c H1 locs1 cells slots Q (F0 m (pcc + 3) ls (.long r :: rest))) : W p l e R s m args below meth c H locs cells slots Q (F0 m pcc ls st0) := by
  refine va_calll hr h.2.2.1 (fun a _ ha => freeO h a ha) (freeO h) (fun r2 u t H1 locs1 ht hvm hw hB hz1 hk1 hS1 => ?_)
  subst hw
  exact kk H1 locs1 (afO h hk1 hS1)
theorem xlG (h : hg G E n q v A s H locs) {r : Int64} {a : Array Value} (hr : va_Run p l e R s m args below meth c H locs cells slots 0 0 (F0 m pcc ls st0) rest (qL r (fun _ => True) (cN H.size) a) (cN H.size))
    (kk : ∀ (H1 : Heap) (locs1 : List Loc), hg G E n q v A s H1 locs1 → W p l e R s m args below meth c H1 locs1 cells slots Q (F0 m (pcc + 3) ls (.long r :: rest))) : W p l e R s m args below meth c H locs cells slots Q (F0 m pcc ls st0) := by
  refine va_calll hr h.1.2.2.1 (fun a _ ha => freeO h.1 a ha) (freeO h.1) (fun r2 u t H1 locs1 ht hvm hw hB hz1 hk1 hS1 => ?_)
  subst hw
  exact kk H1 locs1 (⟨afO h.1 hk1 hS1, h.2⟩)
theorem xq1 (h : hg G E n q v A s H locs) (b n' : Nat) {E' : xLay} (hE : ∀ i, i < n' → ∀ z, E q (b + i) z = E' (sh b q) i z) (hb : b + n' ≤ n) {r : Option Nat} {a : Array Value} (hr : va_Run p l e R s m args below meth c H locs cells slots 0 0 (F0 m pcc ls st0) rest (qQ r (cB G E' n' (sh b q) w (cA E' n' (sh b q) (sh b v) H.size)) (cA E' n' (sh b q) (sh b v) H.size) a) (cA E' n' (sh b q) (sh b v) H.size))
    (kk : ∀ (H1 : Heap) (locs1 : List Loc), hg G E n q (pu b n' v w) A s H1 locs1 → W p l e R s m args below meth c H1 locs1 cells slots Q (F0 m (pcc + 3) ls (va_rf r :: rest))) : W p l e R s m args below meth c H locs cells slots Q (F0 m pcc ls st0) := by
  refine va_callq hr h.1.2.2.1 (fun a _ ha => free1 h hb a ha) (free1 h hb) (fun r2 u t H1 locs1 ht hvm hw hB hz1 hk1 hS1 => ?_)
  subst hw
  exact kk H1 locs1 (af1 h hE hb ht hB hk1 hS1)
theorem xq2 (h : hg G E n q v A s H locs) (b1 n1 b2 n2 : Nat) {E' : xLay} (hE1 : ∀ i, i < n1 → ∀ z, E q (b1 + i) z = E' (ct n1 (sh b1 q) (sh b2 q)) i z) (hE2 : ∀ i, i < n2 → ∀ z, E q (b2 + i) z = E' (ct n1 (sh b1 q) (sh b2 q)) (n1 + i) z) (hb1 : b1 + n1 ≤ n) (hb2 : b2 + n2 ≤ n) (hap : b1 + n1 ≤ b2 ∨ b2 + n2 ≤ b1) {r : Option Nat} {a : Array Value} (hr : va_Run p l e R s m args below meth c H locs cells slots 0 0 (F0 m pcc ls st0) rest (qQ r (cB G E' (n1 + n2) (ct n1 (sh b1 q) (sh b2 q)) w (cA E' (n1 + n2) (ct n1 (sh b1 q) (sh b2 q)) (ct n1 (sh b1 v) (sh b2 v)) H.size)) (cA E' (n1 + n2) (ct n1 (sh b1 q) (sh b2 q)) (ct n1 (sh b1 v) (sh b2 v)) H.size) a) (cA E' (n1 + n2) (ct n1 (sh b1 q) (sh b2 q)) (ct n1 (sh b1 v) (sh b2 v)) H.size))
    (kk : ∀ (H1 : Heap) (locs1 : List Loc), hg G E n q (pu b2 n2 (pu b1 n1 v w) (sh n1 w)) A s H1 locs1 → W p l e R s m args below meth c H1 locs1 cells slots Q (F0 m (pcc + 3) ls (va_rf r :: rest))) : W p l e R s m args below meth c H locs cells slots Q (F0 m pcc ls st0) := by
  refine va_callq hr h.1.2.2.1 (fun a _ ha => free2 h hb1 hb2 a ha) (free2 h hb1 hb2) (fun r2 u t H1 locs1 ht hvm hw hB hz1 hk1 hS1 => ?_)
  subst hw
  exact kk H1 locs1 (af2 h hE1 hE2 hb1 hb2 hap ht hB hk1 hS1)
theorem xqO (h : ho G E n q v A s H locs) {r : Option Nat} {a : Array Value} (hr : va_Run p l e R s m args below meth c H locs cells slots 0 0 (F0 m pcc ls st0) rest (qQ r (fun _ => True) (cN H.size) a) (cN H.size))
    (kk : ∀ (H1 : Heap) (locs1 : List Loc), ho G E n q v A s H1 locs1 → W p l e R s m args below meth c H1 locs1 cells slots Q (F0 m (pcc + 3) ls (va_rf r :: rest))) : W p l e R s m args below meth c H locs cells slots Q (F0 m pcc ls st0) := by
  refine va_callq hr h.2.2.1 (fun a _ ha => freeO h a ha) (freeO h) (fun r2 u t H1 locs1 ht hvm hw hB hz1 hk1 hS1 => ?_)
  subst hw
  exact kk H1 locs1 (afO h hk1 hS1)
theorem xqG (h : hg G E n q v A s H locs) {r : Option Nat} {a : Array Value} (hr : va_Run p l e R s m args below meth c H locs cells slots 0 0 (F0 m pcc ls st0) rest (qQ r (fun _ => True) (cN H.size) a) (cN H.size))
    (kk : ∀ (H1 : Heap) (locs1 : List Loc), hg G E n q v A s H1 locs1 → W p l e R s m args below meth c H1 locs1 cells slots Q (F0 m (pcc + 3) ls (va_rf r :: rest))) : W p l e R s m args below meth c H locs cells slots Q (F0 m pcc ls st0) := by
  refine va_callq hr h.1.2.2.1 (fun a _ ha => freeO h.1 a ha) (freeO h.1) (fun r2 u t H1 locs1 ht hvm hw hB hz1 hk1 hS1 => ?_)
  subst hw
  exact kk H1 locs1 (⟨afO h.1 hk1 hS1, h.2⟩)
end XB
