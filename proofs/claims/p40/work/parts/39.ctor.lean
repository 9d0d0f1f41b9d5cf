/-! CONSTRUCTORS: a growing row of cells -/
theorem xcls {s : State} {cA cB : ClassId} {ty : FieldType} (h1 : va_RA s cA ty) (h2 : va_RA s cB ty) : cA = cB := by
  cases ty with
  | object C =>
    obtain ⟨-, -, -, -, -, h3⟩ := h1
    obtain ⟨-, -, -, -, -, h4⟩ := h2
    exact Option.some.inj (h3.symm.trans h4)
  | _ => exact Option.some.inj (Eq.trans (Eq.symm h1) h2)
theorem xclsK {s : State} {G : xGl} {cA : ClassId} {ty : FieldType} {t : Nat} (hK : va_K G.1 vwCl (xtys G ++ [(cA, ty)]) s) (ht : (xtys G)[t]? = some (G.2 t, ty)) : cA = G.2 t := by
  have h1 := (hK.2 4 (cA, ty) rfl).2
  have hl : t < (xtys G).length := (List.getElem?_eq_some_iff.mp ht).1
  have h2 := (hK.2 t (G.2 t, ty) (by rw [List.getElem?_append_left hl]; exact ht)).2
  exact xcls h1 h2
def wf (n : Nat) (a : Nat → Nat) (x : Nat → va_E) : va_W := (List.range n).map (fun j => (a j, x j))
theorem wf_len {n : Nat} {a : Nat → Nat} {x : Nat → va_E} : (wf n a x).length = n := by simp [wf]
theorem wf_get {n : Nat} {a : Nat → Nat} {x : Nat → va_E} {j : Nat} (h : j < n) : (wf n a x)[j]? = some (a j, x j) := by simp [wf, h]
theorem wf_app {n m : Nat} {a b : Nat → Nat} {x y : Nat → va_E} : wf n a x ++ wf m b y = wf (n + m) (ct n a b) (ct n x y) := by
  apply List.ext_getElem?
  intro i
  by_cases hi : i < n
  · rw [List.getElem?_append_left (by rw [wf_len]; exact hi), wf_get hi, wf_get (by omega), ct_lo hi, ct_lo hi]
  · rw [List.getElem?_append_right (by rw [wf_len]; omega), wf_len]
    obtain ⟨j, rfl⟩ : ∃ j, i = n + j := ⟨i - n, by omega⟩
    rw [Nat.add_sub_cancel_left]
    by_cases hj : j < m
    · rw [wf_get hj, wf_get (by omega), ct_hi, ct_hi]
    · rw [List.getElem?_eq_none (by rw [wf_len]; omega), List.getElem?_eq_none (by rw [wf_len]; omega)]
theorem wf_one {a : Nat} {x : va_E} : [(a, x)] = wf 1 (fun _ => a) (fun _ => x) := rfl
theorem wl_wf {E : xLay} {n : Nat} {q : Nat → Nat} {v : xSt} : wl E n q v = wf n q (fun j => E q j (v j)) := rfl
def gw (G : xGl) (sa : Nat → Nat) (ws : va_W) (A : Nat → Prop) (s : State) (H : Heap) (locs : List Loc) : Prop :=
  va_P G.1 vwCl ws H ∧ va_K G.1 vwCl (xtys G) s ∧ va_S A s.heap H locs ∧ (∀ w ∈ wN, va_Nw w s) ∧ (∀ a, s.heap.size ≤ a → A a) ∧ va_D A ws ∧ xT G sa A s s.heap
def xAC (b sz : Nat) : Nat → Prop := fun x => x = b ∨ sz ≤ x
def cPC (G : xGl) (sa : Nat → Nat) (ci : Nat) (fs : List Value) (b sz : Nat) : State → Prop := fun U => U.heap.size = sz ∧ b < sz ∧ va_P G.1 vwCl [(b, .inr (ci, fs))] U.heap ∧ xK G U ∧ xT G sa (xAC b sz) U U.heap
abbrev cQC (G : xGl) (E : xLay) (n : Nat) (v0 : xSt) (b sz : Nat) := va_Qv (fun (q : Nat → Nat) => q 0 = b) (fun q t => va_P G.1 vwCl (wl E n q v0) t.heap ∧ va_D (xAC b sz) (wl E n q v0)) (xAC b sz)
def mCT (l : Launch) (y : MethodName) (ws : List Cond) (rm : Room) (G : xGl) (sa : Nat → Nat) (ci : Nat) (fs : List Value) (E : xLay) (n : Nat) (v0 : xSt) (mc ms : Nat) : Prop :=
  ∀ b sz, Met l y ws rm (va_Pc [.ref b] (cPC G sa ci fs b sz)) (cQC G E n v0 b sz) mc ms (xAC b sz)
theorem blindC {G : xGl} {sa : Nat → Nat} {ci : Nat} {fs : List Value} {b sz : Nat} {av : List Value} : FrameBlind (va_Pc av (cPC G sa ci fs b sz)) := fun a U g mk h => by
  obtain ⟨q0, q1, q2, qP, qK, qT⟩ := h
  exact ⟨q0, q1, q2, qP, xK.same (u := U) (U := U.calling g mk a) rfl qK, xT.same (u := U) (U := U.calling g mk a) rfl qT⟩
section XJ
variable {p : Program} {l : Launch} {e : Env} {R : Room} {s : State} {m : MethodId} {args : Array Value} {below : List Frame} {meth : Method} {c : Code} {H : Heap} {locs : List Loc} {cells slots : Nat} {Q : State → Prop}
variable {cc : ByteArray} {nL pcc : Nat} {ls : Array Slot} {rest st0 : List Value} {Ts : List Cond} {own : String} {G : xGl} {sa : Nat → Nat} {ws X : va_W} {A : Nat → Prop} {a : Nat}
theorem xCT {y : MethodName} {ws0 ws' : List Cond} {rm : Room} {ci : Nat} {fs : List Value} {E : xLay} {n : Nat} {v0 : xSt} {maxL mc ms : Nat} (hy : plainName y.cls = true) (hnm : y.name = "<init>") (hw : ws0 = Cond.code y cc maxL none :: ws') (hlen : 1 ≤ maxL)
    (body : ∀ (p : Program) (e : Env) (s : State) (m : MethodId) (below : List Frame) (meth : Method) (c : Code) (ls : Array Slot) (b : Nat), CallFix p m c cc maxL s [Value.ref b].toArray ws0 y.cls → meth.name = "<init>" → meth.sig.returnType = none → meth.locks = false → gw G sa [(b, .inr (ci, fs))] (xAC b s.heap.size) s s.heap [] → lv_has ls maxL [(0, .ref b)] → W p l e rm s m [Value.ref b].toArray below meth c s.heap [] 0 0 (MQ below (cQC G E n v0 b s.heap.size) [Value.ref b].toArray s mc ms (xAC b s.heap.size)) (F0 m 0 ls [])) : mCT l y ws0 rm G sa ci fs E n v0 mc ms := by
  intro b sz
  refine Met.ofW (cc := cc) (maxL := maxL) (ret := none) hy hw ?_
  intro p e s m args below meth c s₁ B hml hv
  obtain ⟨rfl, hsz, hbs, hP, hK, hT⟩ := hv
  subst hsz
  have hl := lv_entry [Value.ref b] (n := maxL) hlen
  rw [lg_entry_eq]
  generalize (lg_sl [Value.ref b] ++ List.replicate (maxL - (lg_sl [Value.ref b]).length) Slot.unset).toArray = ls at hl ⊢
  have hin : meth.name = "<init>" := (name_of_methodNamed B.named B.method).1.trans hnm
  refine body p e s m below meth c ls b ⟨B.exec, B.bytes, hml, findClass_of_methodNamed B.named, atoms_spec (ws := ws0) B.pre⟩ hin B.returns B.notSynchronized ⟨hP, hK.1, va_S.rf, hK.2, fun a ha => Or.inr ha, ⟨fun i j x y hx hy _ => ?_, fun k x hk => ?_⟩, hT⟩ hl
  · have h1 := (List.getElem?_eq_some_iff.mp hx).1
    have h2 := (List.getElem?_eq_some_iff.mp hy).1
    have e1 : ([(b, (Sum.inr (ci, fs) : va_E))] : va_W).length = 1 := rfl
    omega
  · have h1 := (List.getElem?_eq_some_iff.mp hk).1
    have e1 : ([(b, (Sum.inr (ci, fs) : va_E))] : va_W).length = 1 := rfl
    obtain rfl : k = 0 := by omega
    cases hk
    exact Or.inl rfl
theorem gobj {idx : Nat} (hC : CallFix p m c cc nL s args Ts own) (hl1 : ls.size = nL) (hlink : Cond.methodLink own idx Lib.objectInit ∈ Ts) (hinst : Cond.instanceMethod Lib.objectInit ∈ Ts) (hcode : Cond.code Lib.objectInit ⟨#[0xb1]⟩ 1 none ∈ Ts) (hdg : decode cc pcc = .ok (.invokespecial idx, 3)) (hR : 1 ≤ R.frames ∧ (rest.map fun v => v.category).sum + 12 ≤ R.locals)
    (kk : W p l e R s m args below meth c H locs cells slots Q (F0 m (pcc + 3) ls rest)) : W p l e R s m args below meth c H locs cells slots Q (F0 m pcc ls (.ref a :: rest)) :=
  W.objInit hC.1 hC.2.1 hC.2.2.2.1 (hC.2.2.2.2 _ hlink) (hC.2.2.2.2 _ hinst) (hC.2.2.2.2 _ hcode) rfl (hl1.trans hC.2.2.1.symm) rfl hdg hR.1 (by show 2 * 0 + _ + 12 ≤ _; omega) kk
theorem gput (hC : CallFix p m c cc nL s args Ts own) (h : gw G sa ws A s H locs) {C : String} {T : u_T} {N ci index : Nat} (hin : ∀ w ∈ u_ws C T N, w ∈ Ts) {ty0 : Nat → FieldType} (hty : ∀ k, k < N → parseFieldDescriptor (T k).2.2.1 = some (ty0 k)) (hnm : ∀ a, a < N → ∀ b, b < N → a ≠ b → (T a).2.1 ≠ (T b).2.1) (q0 : Nat) {fs : List Value} (he : ws[q0]? = some (a, .inr (ci, fs))) (hc : vwCl[ci]? = some (C, T, N)) (k : Nat) (hk : k < N) (hlink : Cond.fieldLink own index (T k).1 (T k).2.1 (T k).2.2.1 ∈ Ts) (hfin : (T k).2.2.2 = false) {v : Value} (hn : narrow (ty0 k) v = v) (hfit : fits (ty0 k) v = true) (hl : k < fs.length) {ws1 : va_W} (hw1 : ws.set q0 (a, .inr (ci, fs.set k v)) = ws1) (hdg : decode cc pcc = .ok (.putfield index, 3))
    (kk : ∀ (H1 : Heap) (locs1 : List Loc), gw G sa ws1 A s H1 locs1 → W p l e R s m args below meth c H1 locs1 cells slots Q (F0 m (pcc + 3) ls rest)) : W p l e R s m args below meth c H locs cells slots Q (F0 m pcc ls (v :: .ref a :: rest)) := by
  subst hw1
  obtain ⟨hP, hK, hS, hN, hA, hD, hT⟩ := h
  exact va_put (D := G.1) hC.1 hC.2.1 hC.2.2.2.2 hin ty0 hty hnm hC.2.2.2.1 hK hP hD hS q0 he hc k hk (hC.2.2.2.2 _ hlink) (fun _ h9 => h9) hfin (hty k hk) hn hfit hl hdg (fun H1 locs1 hP hD hS => kk H1 locs1 ⟨hP, hK, hS, hN, hA, hD, hT⟩)
theorem gputF (hC : CallFix p m c cc nL s args Ts own) (h : gw G sa ws A s H locs) (hin2 : meth.name = "<init>") {C : String} {T : u_T} {N ci index : Nat} (hin : ∀ w ∈ u_ws C T N, w ∈ Ts) {ty0 : Nat → FieldType} (hty : ∀ k, k < N → parseFieldDescriptor (T k).2.2.1 = some (ty0 k)) (hnm : ∀ a, a < N → ∀ b, b < N → a ≠ b → (T a).2.1 ≠ (T b).2.1) (q0 : Nat) {fs : List Value} (he : ws[q0]? = some (a, .inr (ci, fs))) (hc : vwCl[ci]? = some (C, T, N)) (k : Nat) (hk : k < N) (hlink : Cond.fieldLink own index (T k).1 (T k).2.1 (T k).2.2.1 ∈ Ts) (hfin : (T k).2.2.2 = true) (hdecl : (T k).1 = own) {v : Value} (hn : narrow (ty0 k) v = v) (hfit : fits (ty0 k) v = true) (hl : k < fs.length) {ws1 : va_W} (hw1 : ws.set q0 (a, .inr (ci, fs.set k v)) = ws1) (hdg : decode cc pcc = .ok (.putfield index, 3))
    (kk : ∀ (H1 : Heap) (locs1 : List Loc), gw G sa ws1 A s H1 locs1 → W p l e R s m args below meth c H1 locs1 cells slots Q (F0 m (pcc + 3) ls rest)) : W p l e R s m args below meth c H locs cells slots Q (F0 m pcc ls (v :: .ref a :: rest)) := by
  subst hw1
  obtain ⟨hP, hK, hS, hN, hA, hD, hT⟩ := h
  exact va_putF (D := G.1) hC.1 hC.2.1 hC.2.2.2.2 hin ty0 hty hnm hC.2.2.2.1 hK hP hD hS q0 he hc k hk (hC.2.2.2.2 _ hlink) (fun _ h9 => h9) hfin hin2 hdecl (hty k hk) hn hfit hl hdg (fun H1 locs1 hP hD hS => kk H1 locs1 ⟨hP, hK, hS, hN, hA, hD, hT⟩)
theorem gnewi (hC : CallFix p m c cc nL s args Ts own) (h : gw G sa ws A s H locs) (harr : Cond.arrayClass .int ∈ Ts) {n : Int32} {N : Nat} (hn : ¬ n < 0) (hN : n.toNatClampNeg = N) (hbytes : N * 4 ≤ 536870912) {k1 k2 : Nat} (hk1 : cells + 1 = k1) (hk2 : slots + N = k2) (hcells : k1 ≤ R.cells) (hslots : k2 ≤ R.slots) (hdg : decode cc pcc = .ok (.newarray .int, 2))
    (kk : ∀ (q : Nat) (H1 : Heap), gw G sa (ws ++ [(q, .inl (G.2 0, N, .inl (fun _ => 0)))]) A s H1 locs → W p l e R s m args below meth c H1 locs k1 k2 Q (F0 m (pcc + 2) ls (.ref q :: rest))) : W p l e R s m args below meth c H locs cells slots Q (F0 m pcc ls (.int n :: rest)) := by
  subst hk1; subst hk2
  obtain ⟨hP, hK, hS, hNw, hA, hD, hT⟩ := h
  refine va_newa (D := G.1) (tys := xtys G) (a0 := (N, .inl (fun _ => 0))) (atype := .int) (ty := .int) hC.1 hC.2.1 (hC.2.2.2.2 _ harr) rfl hK hP hD hS hA (fun cA => rfl) hn hN hbytes hcells hslots hdg (fun q cA H1 hK1 hP1 hD1 hS1 => ?_)
  obtain rfl := xclsK (t := 0) hK1 rfl
  exact kk q H1 ⟨hP1, hK, hS1, hNw, hA, hD1, hT⟩
theorem gnewch (hC : CallFix p m c cc nL s args Ts own) (h : gw G sa ws A s H locs) (harr : Cond.arrayClass .char ∈ Ts) {n : Int32} {N : Nat} (hn : ¬ n < 0) (hN : n.toNatClampNeg = N) (hbytes : N * 2 ≤ 536870912) {k1 k2 : Nat} (hk1 : cells + 1 = k1) (hk2 : slots + N = k2) (hcells : k1 ≤ R.cells) (hslots : k2 ≤ R.slots) (hdg : decode cc pcc = .ok (.newarray .char, 2))
    (kk : ∀ (q : Nat) (H1 : Heap), gw G sa (ws ++ [(q, .inl (G.2 1, N, .inl (fun _ => 0)))]) A s H1 locs → W p l e R s m args below meth c H1 locs k1 k2 Q (F0 m (pcc + 2) ls (.ref q :: rest))) : W p l e R s m args below meth c H locs cells slots Q (F0 m pcc ls (.int n :: rest)) := by
  subst hk1; subst hk2
  obtain ⟨hP, hK, hS, hNw, hA, hD, hT⟩ := h
  refine va_newa (D := G.1) (tys := xtys G) (a0 := (N, .inl (fun _ => 0))) (atype := .char) (ty := .char) hC.1 hC.2.1 (hC.2.2.2.2 _ harr) rfl hK hP hD hS hA (fun cA => rfl) hn hN hbytes hcells hslots hdg (fun q cA H1 hK1 hP1 hD1 hS1 => ?_)
  obtain rfl := xclsK (t := 1) hK1 rfl
  exact kk q H1 ⟨hP1, hK, hS1, hNw, hA, hD1, hT⟩
theorem gnewq (hC : CallFix p m c cc nL s args Ts own) (h : gw G sa ws A s H locs) {C : String} {index t : Nat} (hcl : Cond.classLink own index C ∈ Ts) (hov : va_AO C s) (ht : (xtys G)[t]? = some (G.2 t, .object C)) {n : Int32} {N : Nat} (hn : ¬ n < 0) (hN : n.toNatClampNeg = N) (hbytes : N * 4 ≤ 536870912) {k1 k2 : Nat} (hk1 : cells + 1 = k1) (hk2 : slots + N = k2) (hcells : k1 ≤ R.cells) (hslots : k2 ≤ R.slots) (hdg : decode cc pcc = .ok (.anewarray index, 3))
    (kk : ∀ (q : Nat) (H1 : Heap), gw G sa (ws ++ [(q, .inl (G.2 t, N, .inr (.inr (.inr (.inr (fun _ => none))))))]) A s H1 locs → W p l e R s m args below meth c H1 locs k1 k2 Q (F0 m (pcc + 3) ls (.ref q :: rest))) : W p l e R s m args below meth c H locs cells slots Q (F0 m pcc ls (.int n :: rest)) := by
  subst hk1; subst hk2
  obtain ⟨hP, hK, hS, hNw, hA, hD, hT⟩ := h
  refine va_newq (D := G.1) (tys := xtys G) hC.1 hC.2.1 hC.2.2.2.1 (hC.2.2.2.2 _ hcl) hov hK hP hD hS hA hn hN hbytes hcells hslots hdg (fun q cA H1 hK1 hP1 hD1 hS1 => ?_)
  obtain rfl := xclsK (t := t) hK1 ht
  exact kk q H1 ⟨hP1, hK, hS1, hNw, hA, hD1, hT⟩
theorem gnew (hC : CallFix p m c cc nL s args Ts own) (h : gw G sa ws A s H locs) {C : String} {T : u_T} {N ci index : Nat} (hin : ∀ w ∈ u_ws C T N, w ∈ Ts) {ty0 : Nat → FieldType} (hty : ∀ k, k < N → parseFieldDescriptor (T k).2.2.1 = some (ty0 k)) (hcl : Cond.classLink own index C ∈ Ts) (hinst : Cond.instantiable C N ∈ Ts) (hini : Cond.initialized C ∈ Ts) (hc : vwCl[ci]? = some (C, T, N)) {fs : List Value} (hfs : ∀ j, j < N → defaultValue (ty0 j) = vp_V fs j) {k1 k2 : Nat} (hk1 : cells + 1 = k1) (hk2 : slots + N = k2) (hcells : k1 ≤ R.cells) (hslots : k2 ≤ R.slots) (hdg : decode cc pcc = .ok (.new index, 3))
    (kk : ∀ (q : Nat) (H1 : Heap), gw G sa (ws ++ [(q, .inr (ci, fs))]) A s H1 locs → W p l e R s m args below meth c H1 locs k1 k2 Q (F0 m (pcc + 3) ls (.ref q :: rest))) : W p l e R s m args below meth c H locs cells slots Q (F0 m pcc ls rest) := by
  subst hk1; subst hk2
  obtain ⟨hP, hK, hS, hNw, hA, hD, hT⟩ := h
  exact va_new (D := G.1) hC.1 hC.2.1 hC.2.2.2.2 hin ty0 hty hC.2.2.2.1 (hC.2.2.2.2 _ hcl) (hC.2.2.2.2 _ hinst) (hC.2.2.2.2 _ hini) hK hP hD hS hA hc hfs hcells hslots hdg (fun q H1 hP1 hD1 hS1 => kk q H1 ⟨hP1, hK, hS1, hNw, hA, hD1, hT⟩)
theorem gpre {ci : Nat} {fs : List Value} (h : gw G sa (X ++ [(a, .inr (ci, fs))]) A s H locs) : PreS s H (va_Pc [.ref a] (cPC G sa ci fs a H.size)) [.ref a] := by
  obtain ⟨hP, hK, hS, hNw, hA, hD, hT⟩ := h
  have hlast : (X ++ [(a, (Sum.inr (ci, fs) : va_E))])[X.length]? = some (a, .inr (ci, fs)) := by rw [List.getElem?_append_right (Nat.le_refl _), Nat.sub_self]; rfl
  refine ⟨blindC, fun U hU hW => ⟨rfl, by rw [hU], (hP _ _ hlast).lt, fun k x hk => ?_, xK.warm hW ⟨hK, hNw⟩, ?_⟩⟩
  · have h1 := (List.getElem?_eq_some_iff.mp hk).1
    have e1 : ([(a, (Sum.inr (ci, fs) : va_E))] : va_W).length = 1 := rfl
    obtain rfl : k = 0 := by omega
    cases hk
    rw [hU]
    exact hP _ _ hlast
  · rw [hU]
    refine ((hT.kept hS.2.1).narrow (fun x hx => ?_)).warm hW
    rcases hx with rfl | hx
    · exact hD.2 _ _ hlast
    · exact hA _ (Nat.le_trans hS.1 hx)
theorem gctor {ci : Nat} {fs : List Value} {E : xLay} {n : Nat} {v0 : xSt} {mc ms : Nat} {av : Array Value} (h : gw G sa (X ++ [(a, .inr (ci, fs))]) A s H locs) (hr : va_Run p l e R s m args below meth c H locs cells slots mc ms (F0 m pcc ls st0) rest (cQC G E n v0 a H.size av) (xAC a H.size)) {k1 k2 : Nat} (hk1 : cells + mc = k1) (hk2 : slots + ms = k2)
    (kk : ∀ (q : Nat → Nat) (H1 : Heap) (locs1 : List Loc), q 0 = a → gw G sa (X ++ wl E n q v0) A s H1 locs1 → W p l e R s m args below meth c H1 locs1 k1 k2 Q (F0 m (pcc + 3) ls rest)) : W p l e R s m args below meth c H locs cells slots Q (F0 m pcc ls st0) := by
  subst hk1; subst hk2
  obtain ⟨hP, hK, hS, hNw, hA, hD, hT⟩ := h
  have hlast : (X ++ [(a, (Sum.inr (ci, fs) : va_E))])[X.length]? = some (a, .inr (ci, fs)) := by rw [List.getElem?_append_right (Nat.le_refl _), Nat.sub_self]; rfl
  have hX : ∀ (k : Nat) (x : Nat × va_E), X[k]? = some x → (X ++ [(a, (Sum.inr (ci, fs) : va_E))])[k]? = some x := fun k x hk => by rw [List.getElem?_append_left (List.getElem?_eq_some_iff.mp hk).1]; exact hk
  have hne : ∀ (k : Nat) (x : Nat × va_E), X[k]? = some x → x.1 ≠ a := fun k x hk e => by
    have h1 := hD.1 k X.length x _ (hX k x hk) hlast e
    have h2 := (List.getElem?_eq_some_iff.mp hk).1
    omega
  have hlt : ∀ (k : Nat) (x : Nat × va_E), X[k]? = some x → x.1 < H.size := fun k x hk => (hP k x (hX k x hk)).lt
  have hfr : ∀ x, xAC a H.size x → A x := fun x hx => by
    rcases hx with rfl | hx
    · exact hD.2 _ _ hlast
    · exact hA _ (Nat.le_trans hS.1 hx)
  refine va_callv hr hS (fun x _ hx => hfr x hx) hfr (fun q t H1 locs1 ht hal hq hB hz hk hS1 => ?_)
  subst ht
  refine kk q _ locs1 hq ⟨va_P.app (fun k x hx => (hP k x (hX k x hx)).kept (hk _ (hlt k x hx) ?_)) hB.1, hK, hS1, hNw, hA, va_D.app ⟨fun i j x y hx hy => hD.1 i j x y (hX i x hx) (hX j y hy), fun k x hx => hD.2 k x (hX k x hx)⟩ (hB.2.weaken (fun _ _ _ hx => hfr _ hx)) (fun i j x y hx hy e => ?_), hT⟩
  · rintro (e | hge)
    · exact hne k x hx e
    · exact absurd (hlt k x hx) (Nat.not_lt.mpr hge)
  · rcases hB.2.2 j y hy with e1 | hge
    · exact hne i x hx (e.trans e1)
    · have := hlt i x hx
      have hge : H.size ≤ y.1 := hge
      rw [← e] at hge
      omega
/-- the end: the cells in their order -/
theorem gret {E : xLay} {n : Nat} {v0 : xSt} {b mc ms : Nat} (hC : CallFix p m c cc nL s args Ts own) (hr : meth.sig.returnType = none) (hlocks : meth.locks = false) (h : gw G sa ws (xAC b s.heap.size) s H locs) (q : Nat → Nat) (hq : q 0 = b) (g : Nat → Nat) (hg : ∀ k, k < n → ws[g k]? = some (q k, E q k (v0 k))) (hi : ∀ i j, i < n → j < n → g i = g j → i = j) (hk1 : cells = mc) (hk2 : slots = ms) (hdg : decode cc pcc = .ok (.return_, 1)) : W p l e R s m args below meth c H locs cells slots (MQ below (cQC G E n v0 b s.heap.size) args s mc ms (xAC b s.heap.size)) (F0 m pcc ls []) := by
  subst hk1; subst hk2
  obtain ⟨hP, hK, hS, hNw, hA, hD, hT⟩ := h
  have hg' : ∀ (k : Nat) (x : Nat × va_E), (wl E n q v0)[k]? = some x → ws[g k]? = some x := fun k x hx => by
    obtain ⟨hk, rfl⟩ := wl_inv hx
    exact hg k hk
  refine W.vret hC.1 hC.2.1 hr (fun t ht hW => ⟨⟨q, rfl, hq, by rw [ht]; exact hP.by g hg', ⟨fun i j x y hx hy e => ?_, fun k x hx => hD.2 _ _ (hg' k x hx)⟩⟩, hS.F ht⟩) hS.2.2 hdg hlocks
  exact hi i j (wl_inv hx).1 (wl_inv hy).1 (hD.1 _ _ _ _ (hg' i x hx) (hg' j y hy) e)
/-- the words of a constructor's call: by its class's own table, by the nest -/
theorem gcwI {y : MethodName} {bytes : ByteArray} {maxL index na mc ms : Nat} {rm : Room} (hC : CallFix p m c cc nL s args Ts own) (hin : ∀ w ∈ wG, w ∈ Ts) (hl : Cond.methodLink own index y ∈ wG) (hi : Cond.initialized y.cls ∈ wG) (hc : Cond.code y bytes maxL none ∈ wG) (him : Cond.instanceMethod y ∈ wG) (hnm : y.name = "<init>") (hrc : rm.cells = mc) (hrs : rm.slots = ms) (hd : y.cls ≠ "java/lang/invoke/MethodHandle" ∧ y.cls ≠ "java/lang/invoke/VarHandle" ∧ (parseMethodDescriptor y.desc).map (fun d => d.parameters.length) = some na) (hR : rm.frames + 1 ≤ R.frames ∧ 8 + (maxL + 11) + rm.locals ≤ R.locals) : CallB R s args own index y bytes maxL none (wM y bytes maxL none) rm mc ms na ∧ y.name = "<init>" ∧ (Cond.instanceMethod y).before args s = true :=
  ⟨callB_of na hC.2.2.2.2 (wM_goodT hin hc) rfl hrc hrs (hC.2.2.2.2 _ (hin _ hi)) (hC.2.2.2.2 _ (hin _ hl)) hd hR, hnm, hC.2.2.2.2 _ (hin _ him)⟩
theorem gcwN {y : MethodName} {bytes : ByteArray} {maxL index na mc ms : Nat} {rm : Room} (hC : CallFix p m c cc nL s args Ts own) (hin : ∀ w ∈ wG, w ∈ Ts) (hl : va_Nw (.methodLinkNest own index y "BusyChip") s) (hi : Cond.initialized y.cls ∈ wG) (hc : Cond.code y bytes maxL none ∈ wG) (him : Cond.instanceMethod y ∈ wG) (hnm : y.name = "<init>") (hrc : rm.cells = mc) (hrs : rm.slots = ms) (hd : y.cls ≠ "java/lang/invoke/MethodHandle" ∧ y.cls ≠ "java/lang/invoke/VarHandle" ∧ (parseMethodDescriptor y.desc).map (fun d => d.parameters.length) = some na) (hR : rm.frames + 1 ≤ R.frames ∧ 8 + (maxL + 11) + rm.locals ≤ R.locals) : va_CN R s args own index y "BusyChip" bytes maxL none (wM y bytes maxL none) rm mc ms na ∧ y.name = "<init>" ∧ (Cond.instanceMethod y).before args s = true :=
  ⟨va_cnB na hC.2.2.2.2 (wM_goodT hin hc) rfl hrc hrs hl (hC.2.2.2.2 _ (hin _ hi)) hd hR, hnm, hC.2.2.2.2 _ (hin _ him)⟩
theorem gget (hC : CallFix p m c cc nL s args Ts own) (h : gw G sa ws A s H locs) {C : String} {T : u_T} {N ci index : Nat} (hin : ∀ w ∈ u_ws C T N, w ∈ Ts) (q0 : Nat) {fs : List Value} (he : ws[q0]? = some (a, .inr (ci, fs))) (hc : vwCl[ci]? = some (C, T, N)) (k : Nat) (hk : k < N) (hlink : Cond.fieldLink own index (T k).1 (T k).2.1 (T k).2.2.1 ∈ Ts) {x : Value} (hv : fs[k]? = some x) (hdg : decode cc pcc = .ok (.getfield index, 3))
    (kk : W p l e R s m args below meth c H locs cells slots Q (F0 m (pcc + 3) ls (x :: rest))) : W p l e R s m args below meth c H locs cells slots Q (F0 m pcc ls (.ref a :: rest)) :=
  va_get (D := G.1) (C := C) (T := T) (N := N) hC.1 hC.2.1 hC.2.2.2.2 hin hC.2.2.2.1 h.2.1 h.1 q0 he hc k hk (hC.2.2.2.2 _ hlink) (fun _ h9 => h9) hv hdg kk
theorem galen (hC : CallFix p m c cc nL s args Ts own) (h : gw G sa ws A s H locs) (t : Nat) {ty : FieldType} (ht : (xtys G)[t]? = some (G.2 t, ty)) (q0 : Nat) {x : vp_A} (he : ws[q0]? = some (a, .inl (G.2 t, x))) {z : Int32} (hz : Int32.ofNat x.1 = z) (hdg : decode cc pcc = .ok (.arraylength, 1))
    (kk : W p l e R s m args below meth c H locs cells slots Q (F0 m (pcc + 1) ls (.int z :: rest))) : W p l e R s m args below meth c H locs cells slots Q (F0 m pcc ls (.ref a :: rest)) :=
  va_alen (D := G.1) (tys := xtys G) hC.1 hC.2.1 h.2.1 h.1 q0 t he ht hz hdg kk
theorem gast (hC : CallFix p m c cc nL s args Ts own) (h : gw G sa ws A s H locs) (q0 t qk ci : Nat) {r : vw_C} {N b2 : Nat} {vs : List Value} {f : Nat → Option Nat} (ha : ws[q0]? = some (a, .inl (G.2 t, N, .inr (.inr (.inr (.inr f)))))) (ht : (xtys G)[t]? = some (G.2 t, .object r.1)) (hv : ws[qk]? = some (b2, .inr (ci, vs))) (hc : vwCl[ci]? = some r) {i : Int32} (hin : vp_in i N) {k : Nat} (hik : i.toNatClampNeg = k) {ws1 : va_W} (hw1 : ws.set q0 (a, .inl (G.2 t, N, .inr (.inr (.inr (.inr (va_up f k (some b2))))))) = ws1) (hdg : decode cc pcc = .ok (.aastore, 1))
    (kk : ∀ (H1 : Heap) (locs1 : List Loc), gw G sa ws1 A s H1 locs1 → W p l e R s m args below meth c H1 locs1 cells slots Q (F0 m (pcc + 1) ls rest)) : W p l e R s m args below meth c H locs cells slots Q (F0 m pcc ls (.ref b2 :: .int i :: .ref a :: rest)) := by
  subst hw1; subst hik
  obtain ⟨hP, hK, hS, hN, hA, hD, hT⟩ := h
  exact va_astq (D := G.1) (tys := xtys G) (r := r) hC.1 hC.2.1 hK hP hD hS q0 t qk ci ha ht hv hc hin hdg (fun H1 locs1 hP hD hS => kk H1 locs1 ⟨hP, hK, hS, hN, hA, hD, hT⟩)
theorem glast {E : xLay} {n : Nat} {q : Nat → Nat} {v : xSt} (hn : 0 < n) : (X ++ wl E n q v)[X.length]? = some (q 0, E q 0 (v 0)) := by
  rw [List.getElem?_append_right (Nat.le_refl _), Nat.sub_self, wl_get hn]
theorem gswap {a1 b1 c1 : va_W} (h : gw G sa ((a1 ++ b1) ++ c1) A s H locs) : gw G sa ((a1 ++ c1) ++ b1) A s H locs :=
  ⟨h.1.swap, h.2.1, h.2.2.1, h.2.2.2.1, h.2.2.2.2.1, h.2.2.2.2.2.1.swap, h.2.2.2.2.2.2⟩
theorem gpack {E : xLay} {n : Nat} {v0 : xSt} (h : gw G sa ws A s H locs) (q : Nat → Nat) (g : Nat → Nat) (hg0 : ∀ k, k < n → ws[g k]? = some (q k, E q k (v0 k))) (hi : ∀ i j, i < n → j < n → g i = g j → i = j) : hg G E n q v0 A s H locs := by
  obtain ⟨hP, hK, hS, hNw, hA, hD, hT⟩ := h
  have hg' : ∀ (k : Nat) (x : Nat × va_E), (wl E n q v0)[k]? = some x → ws[g k]? = some x := fun k x hx => by
    obtain ⟨hk, rfl⟩ := wl_inv hx
    exact hg0 k hk
  exact ⟨⟨hP.by g hg', hK, hS, hNw, hA⟩, hD.by g hg' (fun i j h1 h2 => by rw [wl_len] at h1 h2; exact hi i j h1 h2)⟩
theorem gretH {E : xLay} {n : Nat} {q : Nat → Nat} {v v0 : xSt} {b mc ms : Nat} (hC : CallFix p m c cc nL s args Ts own) (hr : meth.sig.returnType = none) (hlocks : meth.locks = false) (h : hg G E n q v (xAC b s.heap.size) s H locs) (hq : q 0 = b) (hv : v = v0) (hk1 : cells = mc) (hk2 : slots = ms) (hdg : decode cc pcc = .ok (.return_, 1)) : W p l e R s m args below meth c H locs cells slots (MQ below (cQC G E n v0 b s.heap.size) args s mc ms (xAC b s.heap.size)) (F0 m pcc ls []) := by
  subst hk1; subst hk2; subst hv
  exact W.vret hC.1 hC.2.1 hr (fun t ht hW => ⟨⟨q, rfl, hq, by rw [ht]; exact h.1.1, h.2⟩, h.1.2.2.1.F ht⟩) h.1.2.2.1.2.2 hdg hlocks
/-- the settings' first row: its reference by the nest, a copy of it, the cast of the copy -/
theorem ggs {index : Nat} (hC : CallFix p m c cc nL s args Ts own) (h : gw G sa ws A s H locs) (hlink : va_Nw (.fieldLinkNest own index RX8 "FIRST_SETTINGS" "[I" "BusyChip") s) (hdg : decode cc pcc = .ok (.getstatic index, 3))
    (kk : W p l e R s m args below meth c H locs cells slots Q (F0 m (pcc + 3) ls (.ref (sa 0) :: rest))) : W p l e R s m args below meth c H locs cells slots Q (F0 m pcc ls rest) :=
  va_getsN hC.1 hC.2.1 (h.2.2.2.2.2.2.2.2.2.2.2.1 0 (by decide)).1 h.2.2.1 hC.2.2.2.1 (va_Nw.use rfl hlink) (fun _ h9 => h9) hdg kk
theorem xaoO {A : Nat → Prop} {U : State} {H : Heap} (h : xT G sa A U H) : va_AO RX3 U := h.2.2.2.1.2.2.2.1
theorem xaoS {A : Nat → Prop} {U : State} {H : Heap} (h : xT G sa A U H) : va_AO RX6 U := h.2.2.2.1.2.2.2.2.1
theorem xfln {A : Nat → Prop} {U : State} {H : Heap} (h : xT G sa A U H) : va_Nw (.fieldLinkNest RX6 49 RX8 "FIRST_SETTINGS" "[I" "BusyChip") U := h.2.2.2.1.2.2.1
theorem gclone {index : Nat} (hC : CallFix p m c cc nL s args Ts own) (h : gw G sa ws A s H locs) (hl1 : ls.size = nL) (hlink : Cond.methodLink own index ⟨"[I", "clone", "()Ljava/lang/Object;"⟩ ∈ Ts) (hsame : Cond.sameMethod "[I" "java/lang/Object" "clone" "()Ljava/lang/Object;" ∈ Ts) (hnat : Cond.native ⟨"java/lang/Object", "clone", "()Ljava/lang/Object;"⟩ ∈ Ts) (hinst : Cond.instanceMethod ⟨"java/lang/Object", "clone", "()Ljava/lang/Object;"⟩ ∈ Ts) (hsel : Cond.selects "[I" ⟨"[I", "clone", "()Ljava/lang/Object;"⟩ ⟨"java/lang/Object", "clone", "()Ljava/lang/Object;"⟩ ∈ Ts) {k1 k2 : Nat} (hk1 : cells + 1 = k1) (hk2 : slots + 5 = k2) (hcells : k1 ≤ R.cells) (hslots : k2 ≤ R.slots) (hR : 1 ≤ R.frames ∧ (rest.map fun v => v.category).sum + 14 ≤ R.locals) (hdg : decode cc pcc = .ok (.invokevirtual index, 3))
    (kk : ∀ (q : Nat) (H1 : Heap), gw G sa (ws ++ [(q, .inl (G.2 0, 5, .inl xs0))]) A s H1 locs → W p l e R s m args below meth c H1 locs k1 k2 Q (F0 m (pcc + 3) ls (.ref q :: rest))) : W p l e R s m args below meth c H locs cells slots Q (F0 m pcc ls (.ref (sa 0) :: rest)) := by
  subst hk1; subst hk2
  obtain ⟨hP, hK, hS, hNw, hA, hD, hT⟩ := h
  have hTs := hT.kept hS.2.1
  obtain ⟨cell, e1, e2, e3, e4, e5⟩ := hTs.2.2.2.2.2.2.2
  have hnm : s.vm.findClass "[I" = some (G.2 0) := va_nm_int (hK.2 0 _ rfl).2
  obtain ⟨c0, t0', f1, f2, f3⟩ := Cond.castable_spec (va_Nw.use (A := args) rfl hT.2.2.2.1.2.2.2.2.2)
  cases hnm.symm.trans f1
  intro T hT9 X
  have hcellT : T.heap[sa 0]? = some cell := by rw [hT9]; exact e1
  obtain ⟨-, kA, hkA, comp, hkind⟩ := State.isArrayOf_alike X.warmed.alike ((hK.2 0 _ rfl).1 0 (fun _ => .null))
  obtain ⟨-, kS, hkS, compS, hkindS⟩ := (hK.2 0 _ rfl).1 0 (fun _ => .null)
  have hsz : cell.slots.size = 5 := by rw [e5]; exact arrV_size _ _ _
  have hcellE : ({ cls := cell.cls, slots := cell.slots } : Cell) = vp_cell (G.2 0) (5, .inl xs0) := by rw [e2, e5]; rfl
  obtain ⟨vm', X', st⟩ := X.cloneArray hC.1 hC.2.2.2.1 (hC.2.2.2.2 _ hlink) (hC.2.2.2.2 _ hsame) (hC.2.2.2.2 _ hnat) (hC.2.2.2.2 _ hinst) (hC.2.2.2.2 _ hsel) (a := sa 0) (cell := cell) hcellT e3 e4 (by rw [e2]; exact hnm) f2 (by rw [e2]; exact f3)
    (fun i v hv => by
      rw [e2]
      have hk' : T.vm.classes[G.2 0]? = some kA := hkA
      have hfit : fits .int v = true := by
        rw [e5] at hv
        by_cases hi : i < 5
        · rw [arrV_read _ _ hi] at hv
          cases hv
          rfl
        · rw [Array.getElem?_eq_none (by rw [arrV_size]; omega)] at hv
          cases hv
      simpa [State.fitsSlot, State.slotType?, hk', hkind] using hfit)
    (g := F0 m pcc ls (.ref (sa 0) :: rest)) rfl (hl1.trans hC.2.2.1.symm) rfl (by rw [hC.2.1]; exact hdg) hR.1 (by show 2 * 0 + _ + 14 ≤ _; omega) hcells (by rw [hsz]; exact hslots) (hloader := by rw [e2]; exact Vm.clonesLoader_of_array hkS hkindS)
  rw [hcellE, hsz] at X'
  generalize hH1 : H.push (vp_cell (G.2 0) (5, .inl xs0)) = H1
  have z1 : H1.size = H.size + 1 := by rw [← hH1, Array.size_push]
  have e6 : H1[H.size]? = some (vp_cell (G.2 0) (5, .inl xs0)) := by rw [← hH1, Array.getElem?_push_size]
  have o1 : ∀ q : Nat, q < H.size → H1[q]? = H[q]? := fun q hq => by rw [← hH1, Array.getElem?_push, if_neg (Nat.ne_of_lt hq)]
  have hk : ∀ (k : Nat) (y : Nat × va_E), ws[k]? = some y → H1[y.1]? = H[y.1]? := fun k y hy => o1 y.1 ((hP k y hy).lt)
  obtain ⟨t, b1, b2⟩ := kk H.size H1 ⟨(hP.kept hk).app (fun k y hy => by
      have hz : k < 1 := (List.getElem?_eq_some_iff.mp hy).1
      rw [show k = 0 by omega] at hy
      cases hy
      exact e6), hK, ⟨Nat.le_trans hS.1 (by omega), fun y h1 h2 => (o1 y (Nat.lt_of_lt_of_le h1 hS.1)).trans (hS.2.1 y h1 h2), hS.2.2⟩, hNw, hA, hD.push hP rfl (hA _ hS.1), hT⟩
    ((T.setVm vm').pushCell (vp_cell (G.2 0) (5, .inl xs0))) (by rw [← hH1, ← hT9]; rfl) X'
  refine ⟨t, st t ?_, b2⟩
  rw [hcellE, hT9]
  exact b1
theorem gcast {index : Nat} (hC : CallFix p m c cc nL s args Ts own) (h : gw G sa ws A s H locs) (hlink : Cond.classLink own index "[I" ∈ Ts) (q0 : Nat) {x : vp_A} (ha : ws[q0]? = some (a, .inl (G.2 0, x))) (hdg : decode cc pcc = .ok (.checkcast index, 3))
    (k : W p l e R s m args below meth c H locs cells slots Q (F0 m (pcc + 3) ls (.ref a :: rest))) : W p l e R s m args below meth c H locs cells slots Q (F0 m pcc ls (.ref a :: rest)) :=
  va_castA (D := G.1) (cl := vwCl) hC.1 hC.2.1 hC.2.2.2.1 (hC.2.2.2.2 _ hlink) h.1 q0 ha (va_nm_int (h.2.1.2 0 _ rfl).2) hdg k
end XJ
theorem bk {P : Nat → Prop} {n : Nat} (h : ∀ k, k < n → P k) (hn : P n) : ∀ k, k < n + 1 → P k := fun k hk => by
  rcases Nat.lt_or_ge k n with h1 | h1
  · exact h k h1
  · obtain rfl : k = n := by omega
    exact hn
theorem bk0 {P : Nat → Prop} : ∀ k, k < 0 → P k := fun k hk => absurd hk (Nat.not_lt_zero k)
theorem varr10 {f : Nat → Option Nat} {g : Nat → Nat} (h : ∀ k, k < 10 → f k = some (g (2 + 3 * k))) (h2 : ∀ k, f (k + 10) = none) : f = fun r => if ((if r < 10 then nI r else 99 : Int32)).toNatClampNeg < 10 then some (g (2 + 3 * ((if r < 10 then nI r else 99 : Int32)).toNatClampNeg)) else none := by
  funext r
  by_cases hr : r < 10
  · rw [h r hr, if_pos hr, nI_clamp (by omega), if_pos hr]
  · obtain ⟨k, rfl⟩ : ∃ k, r = k + 10 := ⟨r - 10, by omega⟩
    rw [h2, if_neg hr]
    rfl
theorem varrQ {n : Nat} {c f g : Nat → Nat} (h : ∀ k, k < n → f k = g k) : (fun r => if c r < n then some (f (c r)) else none) = (fun r => if c r < n then some (g (c r)) else none) := by
  funext r
  by_cases hr : c r < n
  · rw [if_pos hr, if_pos hr, h _ hr]
  · rw [if_neg hr, if_neg hr]
def v0Row : xSt := fun _ _ => 0
def v0Work : xSt := fun j k => if j = 0 then (if k = 1 then -1 else if k = 2 then 1 else if k = 3 then 1 else if k = 6 then -1 else 0) else 0
def v0Locks : xSt := fun _ k => if k = 1 then 1 else 0
def v0Scribe : xSt := fun j k => if j = 0 then (if k = 1 then 116 else if k = 3 then 5 else 0) else 0
def v0Line : xSt := fun j r => if j = 1 then (if r < 10 then nI r else 99) else 0
def v0Cells : xSt := va_up (fun _ _ => 0) 1 (xfl 256 (fun _ => 0) 255)
def v0State : xSt := fun j => if j < 1 then (fun _ => 0) else if j < 5 then v0Cells (j - 1) else if j < 6 then v0Locks (j - 5) else if j < 8 then v0Row (j - 6) else if j < 11 then v0Work (j - 8) else if j < 14 then v0Work (j - 11) else if j < 46 then v0Line (j - 14) else xs0
theorem lko_X4_3 : Cond.methodLink RX4 3 Lib.objectInit ∈ wG := wG_t 90 (by decide +kernel) rfl
theorem im_obj : Cond.instanceMethod Lib.objectInit ∈ wG := wG_t 26 (by decide +kernel) rfl
theorem co_obj : Cond.code Lib.objectInit ⟨#[0xb1]⟩ 1 none ∈ wG := wG_t 27 (by decide +kernel) rfl
theorem ac_int : Cond.arrayClass .int ∈ wG := wG_t 62 (by decide +kernel) rfl
theorem lko_X3_3 : Cond.methodLink RX3 3 Lib.objectInit ∈ wG := wG_t 163 (by decide +kernel) rfl
theorem cl_X3_27 : Cond.classLink RX3 27 RX4 ∈ wG := wG_t 164 (by decide +kernel) rfl
theorem it_X4 : Cond.instantiable RX4 2 ∈ wG := wG_t 86 (by decide +kernel) rfl
theorem co_X4_init : Cond.code yX4_init cX4_init 1 none ∈ wG := wG_t 89 (by decide +kernel) rfl
theorem dd_X4_init : yX4_init.cls ≠ "java/lang/invoke/MethodHandle" ∧ yX4_init.cls ≠ "java/lang/invoke/VarHandle" ∧ (parseMethodDescriptor yX4_init.desc).map (fun d => d.parameters.length) = some 0 := by decide +kernel
theorem im_X4_init : Cond.instanceMethod yX4_init ∈ wG := wG_t 88 (by decide +kernel) rfl
theorem nw_X3_29 : Cond.methodLinkNest RX3 29 yX4_init "BusyChip" ∈ wN := by decide +kernel
theorem lko_X2_3 : Cond.methodLink RX2 3 Lib.objectInit ∈ wG := wG_t 68 (by decide +kernel) rfl
theorem lko_X7_3 : Cond.methodLink RX7 3 Lib.objectInit ∈ wG := wG_t 107 (by decide +kernel) rfl
theorem cl_X7_37 : Cond.classLink RX7 37 RX4 ∈ wG := wG_t 108 (by decide +kernel) rfl
theorem nw_X7_39 : Cond.methodLinkNest RX7 39 yX4_init "BusyChip" ∈ wN := by decide +kernel
theorem lko_X5_3 : Cond.methodLink RX5 3 Lib.objectInit ∈ wG := wG_t 281 (by decide +kernel) rfl
theorem cl_X5_25 : Cond.classLink RX5 25 RX4 ∈ wG := wG_t 282 (by decide +kernel) rfl
theorem nw_X5_27 : Cond.methodLinkNest RX5 27 yX4_init "BusyChip" ∈ wN := by decide +kernel
theorem lko_X1_3 : Cond.methodLink RX1 3 Lib.objectInit ∈ wG := wG_t 156 (by decide +kernel) rfl
theorem cl_X1_9 : Cond.classLink RX1 9 RX3 ∈ wG := wG_t 157 (by decide +kernel) rfl
theorem it_X3 : Cond.instantiable RX3 6 ∈ wG := wG_t 159 (by decide +kernel) rfl
theorem co_X3_init : Cond.code yX3_init cX3_init 1 none ∈ wG := wG_t 162 (by decide +kernel) rfl
theorem dd_X3_init : yX3_init.cls ≠ "java/lang/invoke/MethodHandle" ∧ yX3_init.cls ≠ "java/lang/invoke/VarHandle" ∧ (parseMethodDescriptor yX3_init.desc).map (fun d => d.parameters.length) = some 0 := by decide +kernel
theorem im_X3_init : Cond.instanceMethod yX3_init ∈ wG := wG_t 161 (by decide +kernel) rfl
theorem nw_X1_24 : Cond.methodLinkNest RX1 24 yX3_init "BusyChip" ∈ wN := by decide +kernel
theorem lko_X0_3 : Cond.methodLink RX0 3 Lib.objectInit ∈ wG := wG_t 39 (by decide +kernel) rfl
theorem in_J7 : Cond.initialized RJ7 ∈ wG := wG_t 4 (by decide +kernel) rfl
theorem co_J7_fill_53178 : Cond.code yJ7_fill_53178 cJ7_fill_53178 4 none ∈ wG := wG_t 42 (by decide +kernel) rfl
theorem dd_J7_fill_53178 : yJ7_fill_53178.cls ≠ "java/lang/invoke/MethodHandle" ∧ yJ7_fill_53178.cls ≠ "java/lang/invoke/VarHandle" ∧ (parseMethodDescriptor yJ7_fill_53178.desc).map (fun d => d.parameters.length) = some 2 := by decide +kernel
theorem st_J7_fill_53178 : Cond.static yJ7_fill_53178 ∈ wG := wG_t 41 (by decide +kernel) rfl
theorem lk_X0_25 : Cond.methodLink RX0 25 yJ7_fill_53178 ∈ wG := wG_t 40 (by decide +kernel) rfl
theorem lko_X6_3 : Cond.methodLink RX6 3 Lib.objectInit ∈ wG := wG_t 33 (by decide +kernel) rfl
theorem cl_X6_9 : Cond.classLink RX6 9 RX0 ∈ wG := wG_t 34 (by decide +kernel) rfl
theorem it_X0 : Cond.instantiable RX0 4 ∈ wG := wG_t 35 (by decide +kernel) rfl
theorem co_X0_init : Cond.code yX0_init cX0_init 1 none ∈ wG := wG_t 38 (by decide +kernel) rfl
theorem dd_X0_init : yX0_init.cls ≠ "java/lang/invoke/MethodHandle" ∧ yX0_init.cls ≠ "java/lang/invoke/VarHandle" ∧ (parseMethodDescriptor yX0_init.desc).map (fun d => d.parameters.length) = some 0 := by decide +kernel
theorem im_X0_init : Cond.instanceMethod yX0_init ∈ wG := wG_t 37 (by decide +kernel) rfl
theorem lk_X6_11 : Cond.methodLink RX6 11 yX0_init ∈ wG := wG_t 36 (by decide +kernel) rfl
theorem cl_X6_18 : Cond.classLink RX6 18 RX2 ∈ wG := wG_t 63 (by decide +kernel) rfl
theorem it_X2 : Cond.instantiable RX2 3 ∈ wG := wG_t 64 (by decide +kernel) rfl
theorem co_X2_init : Cond.code yX2_init cX2_init 1 none ∈ wG := wG_t 67 (by decide +kernel) rfl
theorem dd_X2_init : yX2_init.cls ≠ "java/lang/invoke/MethodHandle" ∧ yX2_init.cls ≠ "java/lang/invoke/VarHandle" ∧ (parseMethodDescriptor yX2_init.desc).map (fun d => d.parameters.length) = some 0 := by decide +kernel
theorem im_X2_init : Cond.instanceMethod yX2_init ∈ wG := wG_t 66 (by decide +kernel) rfl
theorem nw_X6_20 : Cond.methodLinkNest RX6 20 yX2_init "BusyChip" ∈ wN := by decide +kernel
theorem cl_X6_25 : Cond.classLink RX6 25 RX4 ∈ wG := wG_t 85 (by decide +kernel) rfl
theorem nw_X6_27 : Cond.methodLinkNest RX6 27 yX4_init "BusyChip" ∈ wN := by decide +kernel
theorem cl_X6_32 : Cond.classLink RX6 32 RX7 ∈ wG := wG_t 102 (by decide +kernel) rfl
theorem it_X7 : Cond.instantiable RX7 9 ∈ wG := wG_t 103 (by decide +kernel) rfl
theorem co_X7_init : Cond.code yX7_init cX7_init 1 none ∈ wG := wG_t 106 (by decide +kernel) rfl
theorem dd_X7_init : yX7_init.cls ≠ "java/lang/invoke/MethodHandle" ∧ yX7_init.cls ≠ "java/lang/invoke/VarHandle" ∧ (parseMethodDescriptor yX7_init.desc).map (fun d => d.parameters.length) = some 0 := by decide +kernel
theorem im_X7_init : Cond.instanceMethod yX7_init ∈ wG := wG_t 105 (by decide +kernel) rfl
theorem nw_X6_34 : Cond.methodLinkNest RX6 34 yX7_init "BusyChip" ∈ wN := by decide +kernel
theorem cl_X6_42 : Cond.classLink RX6 42 RX1 ∈ wG := wG_t 151 (by decide +kernel) rfl
theorem it_X1 : Cond.instantiable RX1 3 ∈ wG := wG_t 152 (by decide +kernel) rfl
theorem co_X1_init : Cond.code yX1_init cX1_init 2 none ∈ wG := wG_t 155 (by decide +kernel) rfl
theorem dd_X1_init : yX1_init.cls ≠ "java/lang/invoke/MethodHandle" ∧ yX1_init.cls ≠ "java/lang/invoke/VarHandle" ∧ (parseMethodDescriptor yX1_init.desc).map (fun d => d.parameters.length) = some 0 := by decide +kernel
theorem im_X1_init : Cond.instanceMethod yX1_init ∈ wG := wG_t 154 (by decide +kernel) rfl
theorem lk_X6_44 : Cond.methodLink RX6 44 yX1_init ∈ wG := wG_t 153 (by decide +kernel) rfl
theorem lk_clone : Cond.methodLink RX6 53 ⟨"[I", "clone", "()Ljava/lang/Object;"⟩ ∈ wG := wG_t 215 (by decide +kernel) rfl
theorem sm_clone : Cond.sameMethod "[I" "java/lang/Object" "clone" "()Ljava/lang/Object;" ∈ wG := wG_t 216 (by decide +kernel) rfl
theorem na_clone : Cond.native ⟨"java/lang/Object", "clone", "()Ljava/lang/Object;"⟩ ∈ wG := wG_t 217 (by decide +kernel) rfl
theorem im_clone : Cond.instanceMethod ⟨"java/lang/Object", "clone", "()Ljava/lang/Object;"⟩ ∈ wG := wG_t 218 (by decide +kernel) rfl
theorem se_clone : Cond.selects "[I" ⟨"[I", "clone", "()Ljava/lang/Object;"⟩ ⟨"java/lang/Object", "clone", "()Ljava/lang/Object;"⟩ ∈ wG := wG_t 219 (by decide +kernel) rfl
theorem cl_X6_54 : Cond.classLink RX6 54 "[I" ∈ wG := wG_t 221 (by decide +kernel) rfl
set_option maxHeartbeats 4000000 in
set_option maxRecDepth 100000 in
theorem c_X4_init (l : Launch) (G : xGl) (sa : Nat → Nat) : mCT l yX4_init (wM yX4_init cX4_init 1 none) { frames := 1, cells := 1, slots := 12, locals := 14 } G sa 4 [.null, .int 0] (eRow G) 2 v0Row 1 12 := by
  refine xCT (cc := cX4_init) (maxL := 1) (by decide) rfl rfl (Nat.le_of_ble_eq_true rfl) ?_
  intro p e s m below meth c ls b hC hin hr hlk h hl
  have hx := hC.1
  have hb := hC.2.1
  refine lv_aload_n hx hb dX4_init_0 rfl (lv_at hl 0 rfl) ?_
  refine gobj hC hl.1 (wM_in lko_X4_3) (wM_in im_obj) (wM_in co_obj) dX4_init_1 ⟨Nat.le_of_ble_eq_true rfl, Nat.le_of_ble_eq_true rfl⟩ ?_
  refine lv_aload_n hx hb dX4_init_4 rfl (lv_at hl 0 rfl) ?_
  refine lv_bipush (v := (12 : Int32)) hx hb dX4_init_5 (by decide) ?_
  refine gnewi hC h (wM_in ac_int) (N := 12) (by decide) (by decide) (Nat.le_of_ble_eq_true rfl) (k1 := 1) (k2 := 12) rfl rfl (Nat.le_of_ble_eq_true rfl) (Nat.le_of_ble_eq_true rfl) dX4_init_7 (fun a1 H h => ?_)
  refine gputF hC h hin (C := RX4) (T := TX4) (N := 2) (wM_us uw_X4) (ty0 := tyX4) tyX4_ok nmX4 0 rfl rfl 0 (by decide) (wM_in fl_X4_9) rfl rfl rfl rfl (Nat.le_of_ble_eq_true rfl) (ws1 := ([(b, .inr (4, [.ref a1, .int 0]))] ++ [(a1, .inl (G.2 0, 12, .inl (fun _ => 0)))])) rfl dX4_init_9 (fun H locs h => ?_)
  refine lv_aload_n hx hb dX4_init_12 rfl (lv_at hl 0 rfl) ?_
  refine lv_iconst (v := (0 : Int32)) hx hb dX4_init_13 (by decide) ?_
  refine gput hC h (C := RX4) (T := TX4) (N := 2) (wM_us uw_X4) (ty0 := tyX4) tyX4_ok nmX4 0 rfl rfl 1 (by decide) (wM_in fl_X4_15) rfl rfl rfl (Nat.le_of_ble_eq_true rfl) (ws1 := ([(b, .inr (4, [.ref a1, .int (0 : Int32)]))] ++ [(a1, .inl (G.2 0, 12, .inl (fun _ => 0)))])) rfl dX4_init_14 (fun H locs h => ?_)
  exact gret hC hr hlk h (fun j => match j with | 0 => b | _ => a1) rfl (fun k => k) (bk (bk bk0 rfl) rfl) (fun i j _ _ h9 => h9) rfl rfl dX4_init_17
set_option maxHeartbeats 4000000 in
set_option maxRecDepth 100000 in
theorem c_X3_init (l : Launch) (G : xGl) (sa : Nat → Nat) : mCT l yX3_init (wM yX3_init cX3_init 1 none) { frames := 2, cells := 2, slots := 14, locals := 34 } G sa 3 [.int 0, .int 0, .int 0, .int 0, .int 0, .null] (eOrder G) 3 v0Row 2 14 := by
  refine xCT (cc := cX3_init) (maxL := 1) (by decide) rfl rfl (Nat.le_of_ble_eq_true rfl) ?_
  intro p e s m below meth c ls b hC hin hr hlk h hl
  have hx := hC.1
  have hb := hC.2.1
  refine lv_aload_n hx hb dX3_init_0 rfl (lv_at hl 0 rfl) ?_
  refine gobj hC hl.1 (wM_in lko_X3_3) (wM_in im_obj) (wM_in co_obj) dX3_init_1 ⟨Nat.le_of_ble_eq_true rfl, Nat.le_of_ble_eq_true rfl⟩ ?_
  refine lv_aload_n hx hb dX3_init_4 rfl (lv_at hl 0 rfl) ?_
  refine lv_iconst (v := (0 : Int32)) hx hb dX3_init_5 (by decide) ?_
  refine gput hC h (C := RX3) (T := TX3) (N := 6) (wM_us uw_X3) (ty0 := tyX3) tyX3_ok nmX3 0 rfl rfl 0 (by decide) (wM_in fl_X3_9) rfl rfl rfl (Nat.le_of_ble_eq_true rfl) (ws1 := [(b, .inr (3, [.int (0 : Int32), .int 0, .int 0, .int 0, .int 0, .null]))]) rfl dX3_init_6 (fun H locs h => ?_)
  refine lv_aload_n hx hb dX3_init_9 rfl (lv_at hl 0 rfl) ?_
  refine lv_iconst (v := (0 : Int32)) hx hb dX3_init_10 (by decide) ?_
  refine gput hC h (C := RX3) (T := TX3) (N := 6) (wM_us uw_X3) (ty0 := tyX3) tyX3_ok nmX3 0 rfl rfl 1 (by decide) (wM_in fl_X3_15) rfl rfl rfl (Nat.le_of_ble_eq_true rfl) (ws1 := [(b, .inr (3, [.int (0 : Int32), .int (0 : Int32), .int 0, .int 0, .int 0, .null]))]) rfl dX3_init_11 (fun H locs h => ?_)
  refine lv_aload_n hx hb dX3_init_14 rfl (lv_at hl 0 rfl) ?_
  refine lv_iconst (v := (0 : Int32)) hx hb dX3_init_15 (by decide) ?_
  refine gput hC h (C := RX3) (T := TX3) (N := 6) (wM_us uw_X3) (ty0 := tyX3) tyX3_ok nmX3 0 rfl rfl 2 (by decide) (wM_in fl_X3_18) rfl rfl rfl (Nat.le_of_ble_eq_true rfl) (ws1 := [(b, .inr (3, [.int (0 : Int32), .int (0 : Int32), .int (0 : Int32), .int 0, .int 0, .null]))]) rfl dX3_init_16 (fun H locs h => ?_)
  refine lv_aload_n hx hb dX3_init_19 rfl (lv_at hl 0 rfl) ?_
  refine lv_iconst (v := (0 : Int32)) hx hb dX3_init_20 (by decide) ?_
  refine gput hC h (C := RX3) (T := TX3) (N := 6) (wM_us uw_X3) (ty0 := tyX3) tyX3_ok nmX3 0 rfl rfl 3 (by decide) (wM_in fl_X3_21) rfl rfl rfl (Nat.le_of_ble_eq_true rfl) (ws1 := [(b, .inr (3, [.int (0 : Int32), .int (0 : Int32), .int (0 : Int32), .int (0 : Int32), .int 0, .null]))]) rfl dX3_init_21 (fun H locs h => ?_)
  refine lv_aload_n hx hb dX3_init_24 rfl (lv_at hl 0 rfl) ?_
  refine lv_iconst (v := (0 : Int32)) hx hb dX3_init_25 (by decide) ?_
  refine gput hC h (C := RX3) (T := TX3) (N := 6) (wM_us uw_X3) (ty0 := tyX3) tyX3_ok nmX3 0 rfl rfl 4 (by decide) (wM_in fl_X3_24) rfl rfl rfl (Nat.le_of_ble_eq_true rfl) (ws1 := [(b, .inr (3, [.int (0 : Int32), .int (0 : Int32), .int (0 : Int32), .int (0 : Int32), .int (0 : Int32), .null]))]) rfl dX3_init_26 (fun H locs h => ?_)
  refine lv_aload_n hx hb dX3_init_29 rfl (lv_at hl 0 rfl) ?_
  refine gnew (ci := 4) (fs := [.null, .int 0]) (C := RX4) (T := TX4) (N := 2) hC h (wM_us uw_X4) (ty0 := tyX4) tyX4_ok (wM_in cl_X3_27) (wM_in it_X4) (wM_in in_X4) rfl (fun j hj => by rcases (show j = 0 ∨ j = 1 by omega) with rfl | rfl <;> rfl) (k1 := 1) (k2 := 2) rfl rfl (Nat.le_of_ble_eq_true rfl) (Nat.le_of_ble_eq_true rfl) dX3_init_30 (fun o1 H h => ?_)
  refine lv_dup hx hb dX3_init_33 rfl ?_
  refine gctor h (va_runIN (As := []) (rest := [.ref o1, .ref b]) hC (c_X4_init l G sa o1 H.size) (gcwN hC (fun _ h9 => wM_in h9) (h.2.2.2.1 _ nw_X3_29) in_X4 co_X4_init im_X4_init rfl rfl rfl dd_X4_init ⟨Nat.le_of_ble_eq_true rfl, Nat.le_of_ble_eq_true rfl⟩) (gpre h) rfl rfl hl.1 rfl (lv_room (Nat.le_of_ble_eq_true rfl)) dX3_init_34 ⟨Nat.le_of_ble_eq_true rfl, Nat.le_of_ble_eq_true rfl⟩) (k1 := 2) (k2 := 14) rfl rfl (fun q2 H locs hq3 hn_ => ?_)
  subst hq3
  have h := hn_
  clear hn_
  refine gputF hC h hin (C := RX3) (T := TX3) (N := 6) (wM_us uw_X3) (ty0 := tyX3) tyX3_ok nmX3 0 rfl rfl 5 (by decide) (wM_in fl_X3_30) rfl rfl rfl rfl (Nat.le_of_ble_eq_true rfl) (ws1 := ([(b, .inr (3, [.int (0 : Int32), .int (0 : Int32), .int (0 : Int32), .int (0 : Int32), .int (0 : Int32), .ref (q2 0)]))] ++ wl (eRow G) 2 q2 v0Row)) rfl dX3_init_37 (fun H locs h => ?_)
  exact gret hC hr hlk h (fun j => match j with | 0 => b | 1 => q2 0 | _ => q2 1) rfl (fun k => k) (bk (bk (bk bk0 rfl) rfl) rfl) (fun i j _ _ h9 => h9) rfl rfl dX3_init_40
set_option maxHeartbeats 4000000 in
set_option maxRecDepth 100000 in
theorem c_X2_init (l : Launch) (G : xGl) (sa : Nat → Nat) : mCT l yX2_init (wM yX2_init cX2_init 1 none) { frames := 1, cells := 0, slots := 0, locals := 14 } G sa 2 [.int 0, .int 0, .int 0] (eLocks G) 1 v0Locks 0 0 := by
  refine xCT (cc := cX2_init) (maxL := 1) (by decide) rfl rfl (Nat.le_of_ble_eq_true rfl) ?_
  intro p e s m below meth c ls b hC hin hr hlk h hl
  have hx := hC.1
  have hb := hC.2.1
  refine lv_aload_n hx hb dX2_init_0 rfl (lv_at hl 0 rfl) ?_
  refine gobj hC hl.1 (wM_in lko_X2_3) (wM_in im_obj) (wM_in co_obj) dX2_init_1 ⟨Nat.le_of_ble_eq_true rfl, Nat.le_of_ble_eq_true rfl⟩ ?_
  refine lv_aload_n hx hb dX2_init_4 rfl (lv_at hl 0 rfl) ?_
  refine lv_iconst (v := (0 : Int32)) hx hb dX2_init_5 (by decide) ?_
  refine gput hC h (C := RX2) (T := TX2) (N := 3) (wM_us uw_X2) (ty0 := tyX2) tyX2_ok nmX2 0 rfl rfl 0 (by decide) (wM_in fl_X2_9) rfl rfl rfl (Nat.le_of_ble_eq_true rfl) (ws1 := [(b, .inr (2, [.int (0 : Int32), .int 0, .int 0]))]) rfl dX2_init_6 (fun H locs h => ?_)
  refine lv_aload_n hx hb dX2_init_9 rfl (lv_at hl 0 rfl) ?_
  refine lv_iconst (v := (1 : Int32)) hx hb dX2_init_10 (by decide) ?_
  refine gput hC h (C := RX2) (T := TX2) (N := 3) (wM_us uw_X2) (ty0 := tyX2) tyX2_ok nmX2 0 rfl rfl 1 (by decide) (wM_in fl_X2_15) rfl rfl rfl (Nat.le_of_ble_eq_true rfl) (ws1 := [(b, .inr (2, [.int (0 : Int32), .int (1 : Int32), .int 0]))]) rfl dX2_init_11 (fun H locs h => ?_)
  refine lv_aload_n hx hb dX2_init_14 rfl (lv_at hl 0 rfl) ?_
  refine lv_iconst (v := (0 : Int32)) hx hb dX2_init_15 (by decide) ?_
  refine gput hC h (C := RX2) (T := TX2) (N := 3) (wM_us uw_X2) (ty0 := tyX2) tyX2_ok nmX2 0 rfl rfl 2 (by decide) (wM_in fl_X2_18) rfl rfl rfl (Nat.le_of_ble_eq_true rfl) (ws1 := [(b, .inr (2, [.int (0 : Int32), .int (1 : Int32), .int (0 : Int32)]))]) rfl dX2_init_16 (fun H locs h => ?_)
  exact gret hC hr hlk h (fun j => b) rfl (fun k => k) (bk bk0 rfl) (fun i j _ _ h9 => h9) rfl rfl dX2_init_19
set_option maxHeartbeats 4000000 in
set_option maxRecDepth 100000 in
theorem c_X7_init (l : Launch) (G : xGl) (sa : Nat → Nat) : mCT l yX7_init (wM yX7_init cX7_init 1 none) { frames := 2, cells := 2, slots := 14, locals := 34 } G sa 7 [.int 0, .int 0, .int 0, .int 0, .int 0, .int 0, .int 0, .int 0, .null] (eWork G) 3 v0Work 2 14 := by
  refine xCT (cc := cX7_init) (maxL := 1) (by decide) rfl rfl (Nat.le_of_ble_eq_true rfl) ?_
  intro p e s m below meth c ls b hC hin hr hlk h hl
  have hx := hC.1
  have hb := hC.2.1
  refine lv_aload_n hx hb dX7_init_0 rfl (lv_at hl 0 rfl) ?_
  refine gobj hC hl.1 (wM_in lko_X7_3) (wM_in im_obj) (wM_in co_obj) dX7_init_1 ⟨Nat.le_of_ble_eq_true rfl, Nat.le_of_ble_eq_true rfl⟩ ?_
  refine lv_aload_n hx hb dX7_init_4 rfl (lv_at hl 0 rfl) ?_
  refine lv_iconst (v := (0 : Int32)) hx hb dX7_init_5 (by decide) ?_
  refine gput hC h (C := RX7) (T := TX7) (N := 9) (wM_us uw_X7) (ty0 := tyX7) tyX7_ok nmX7 0 rfl rfl 0 (by decide) (wM_in fl_X7_9) rfl rfl rfl (Nat.le_of_ble_eq_true rfl) (ws1 := [(b, .inr (7, [.int (0 : Int32), .int 0, .int 0, .int 0, .int 0, .int 0, .int 0, .int 0, .null]))]) rfl dX7_init_6 (fun H locs h => ?_)
  refine lv_aload_n hx hb dX7_init_9 rfl (lv_at hl 0 rfl) ?_
  refine lv_iconst (v := (-1 : Int32)) hx hb dX7_init_10 (by decide) ?_
  refine gput hC h (C := RX7) (T := TX7) (N := 9) (wM_us uw_X7) (ty0 := tyX7) tyX7_ok nmX7 0 rfl rfl 1 (by decide) (wM_in fl_X7_15) rfl rfl rfl (Nat.le_of_ble_eq_true rfl) (ws1 := [(b, .inr (7, [.int (0 : Int32), .int (-1 : Int32), .int 0, .int 0, .int 0, .int 0, .int 0, .int 0, .null]))]) rfl dX7_init_11 (fun H locs h => ?_)
  refine lv_aload_n hx hb dX7_init_14 rfl (lv_at hl 0 rfl) ?_
  refine lv_iconst (v := (1 : Int32)) hx hb dX7_init_15 (by decide) ?_
  refine gput hC h (C := RX7) (T := TX7) (N := 9) (wM_us uw_X7) (ty0 := tyX7) tyX7_ok nmX7 0 rfl rfl 2 (by decide) (wM_in fl_X7_18) rfl rfl rfl (Nat.le_of_ble_eq_true rfl) (ws1 := [(b, .inr (7, [.int (0 : Int32), .int (-1 : Int32), .int (1 : Int32), .int 0, .int 0, .int 0, .int 0, .int 0, .null]))]) rfl dX7_init_16 (fun H locs h => ?_)
  refine lv_aload_n hx hb dX7_init_19 rfl (lv_at hl 0 rfl) ?_
  refine lv_iconst (v := (1 : Int32)) hx hb dX7_init_20 (by decide) ?_
  refine gput hC h (C := RX7) (T := TX7) (N := 9) (wM_us uw_X7) (ty0 := tyX7) tyX7_ok nmX7 0 rfl rfl 3 (by decide) (wM_in fl_X7_21) rfl rfl rfl (Nat.le_of_ble_eq_true rfl) (ws1 := [(b, .inr (7, [.int (0 : Int32), .int (-1 : Int32), .int (1 : Int32), .int (1 : Int32), .int 0, .int 0, .int 0, .int 0, .null]))]) rfl dX7_init_21 (fun H locs h => ?_)
  refine lv_aload_n hx hb dX7_init_24 rfl (lv_at hl 0 rfl) ?_
  refine lv_iconst (v := (0 : Int32)) hx hb dX7_init_25 (by decide) ?_
  refine gput hC h (C := RX7) (T := TX7) (N := 9) (wM_us uw_X7) (ty0 := tyX7) tyX7_ok nmX7 0 rfl rfl 4 (by decide) (wM_in fl_X7_24) rfl rfl rfl (Nat.le_of_ble_eq_true rfl) (ws1 := [(b, .inr (7, [.int (0 : Int32), .int (-1 : Int32), .int (1 : Int32), .int (1 : Int32), .int (0 : Int32), .int 0, .int 0, .int 0, .null]))]) rfl dX7_init_26 (fun H locs h => ?_)
  refine lv_aload_n hx hb dX7_init_29 rfl (lv_at hl 0 rfl) ?_
  refine lv_iconst (v := (0 : Int32)) hx hb dX7_init_30 (by decide) ?_
  refine gput hC h (C := RX7) (T := TX7) (N := 9) (wM_us uw_X7) (ty0 := tyX7) tyX7_ok nmX7 0 rfl rfl 5 (by decide) (wM_in fl_X7_27) rfl rfl rfl (Nat.le_of_ble_eq_true rfl) (ws1 := [(b, .inr (7, [.int (0 : Int32), .int (-1 : Int32), .int (1 : Int32), .int (1 : Int32), .int (0 : Int32), .int (0 : Int32), .int 0, .int 0, .null]))]) rfl dX7_init_31 (fun H locs h => ?_)
  refine lv_aload_n hx hb dX7_init_34 rfl (lv_at hl 0 rfl) ?_
  refine lv_iconst (v := (-1 : Int32)) hx hb dX7_init_35 (by decide) ?_
  refine gput hC h (C := RX7) (T := TX7) (N := 9) (wM_us uw_X7) (ty0 := tyX7) tyX7_ok nmX7 0 rfl rfl 6 (by decide) (wM_in fl_X7_30) rfl rfl rfl (Nat.le_of_ble_eq_true rfl) (ws1 := [(b, .inr (7, [.int (0 : Int32), .int (-1 : Int32), .int (1 : Int32), .int (1 : Int32), .int (0 : Int32), .int (0 : Int32), .int (-1 : Int32), .int 0, .null]))]) rfl dX7_init_36 (fun H locs h => ?_)
  refine lv_aload_n hx hb dX7_init_39 rfl (lv_at hl 0 rfl) ?_
  refine lv_iconst (v := (0 : Int32)) hx hb dX7_init_40 (by decide) ?_
  refine gput hC h (C := RX7) (T := TX7) (N := 9) (wM_us uw_X7) (ty0 := tyX7) tyX7_ok nmX7 0 rfl rfl 7 (by decide) (wM_in fl_X7_33) rfl rfl rfl (Nat.le_of_ble_eq_true rfl) (ws1 := [(b, .inr (7, [.int (0 : Int32), .int (-1 : Int32), .int (1 : Int32), .int (1 : Int32), .int (0 : Int32), .int (0 : Int32), .int (-1 : Int32), .int (0 : Int32), .null]))]) rfl dX7_init_41 (fun H locs h => ?_)
  refine lv_aload_n hx hb dX7_init_44 rfl (lv_at hl 0 rfl) ?_
  refine gnew (ci := 4) (fs := [.null, .int 0]) (C := RX4) (T := TX4) (N := 2) hC h (wM_us uw_X4) (ty0 := tyX4) tyX4_ok (wM_in cl_X7_37) (wM_in it_X4) (wM_in in_X4) rfl (fun j hj => by rcases (show j = 0 ∨ j = 1 by omega) with rfl | rfl <;> rfl) (k1 := 1) (k2 := 2) rfl rfl (Nat.le_of_ble_eq_true rfl) (Nat.le_of_ble_eq_true rfl) dX7_init_45 (fun o1 H h => ?_)
  refine lv_dup hx hb dX7_init_48 rfl ?_
  refine gctor h (va_runIN (As := []) (rest := [.ref o1, .ref b]) hC (c_X4_init l G sa o1 H.size) (gcwN hC (fun _ h9 => wM_in h9) (h.2.2.2.1 _ nw_X7_39) in_X4 co_X4_init im_X4_init rfl rfl rfl dd_X4_init ⟨Nat.le_of_ble_eq_true rfl, Nat.le_of_ble_eq_true rfl⟩) (gpre h) rfl rfl hl.1 rfl (lv_room (Nat.le_of_ble_eq_true rfl)) dX7_init_49 ⟨Nat.le_of_ble_eq_true rfl, Nat.le_of_ble_eq_true rfl⟩) (k1 := 2) (k2 := 14) rfl rfl (fun q2 H locs hq3 hn_ => ?_)
  subst hq3
  have h := hn_
  clear hn_
  refine gputF hC h hin (C := RX7) (T := TX7) (N := 9) (wM_us uw_X7) (ty0 := tyX7) tyX7_ok nmX7 0 rfl rfl 8 (by decide) (wM_in fl_X7_40) rfl rfl rfl rfl (Nat.le_of_ble_eq_true rfl) (ws1 := ([(b, .inr (7, [.int (0 : Int32), .int (-1 : Int32), .int (1 : Int32), .int (1 : Int32), .int (0 : Int32), .int (0 : Int32), .int (-1 : Int32), .int (0 : Int32), .ref (q2 0)]))] ++ wl (eRow G) 2 q2 v0Row)) rfl dX7_init_52 (fun H locs h => ?_)
  exact gret hC hr hlk h (fun j => match j with | 0 => b | 1 => q2 0 | _ => q2 1) rfl (fun k => k) (bk (bk (bk bk0 rfl) rfl) rfl) (fun i j _ _ h9 => h9) rfl rfl dX7_init_55
set_option maxHeartbeats 4000000 in
set_option maxRecDepth 100000 in
theorem c_X5_init (l : Launch) (G : xGl) (sa : Nat → Nat) : mCT l yX5_init (wM yX5_init cX5_init 1 none) { frames := 2, cells := 2, slots := 14, locals := 34 } G sa 5 [.int 0, .int 0, .int 0, .int 0, .null, .int 0] (eScribe G) 3 v0Scribe 2 14 := by
  refine xCT (cc := cX5_init) (maxL := 1) (by decide) rfl rfl (Nat.le_of_ble_eq_true rfl) ?_
  intro p e s m below meth c ls b hC hin hr hlk h hl
  have hx := hC.1
  have hb := hC.2.1
  refine lv_aload_n hx hb dX5_init_0 rfl (lv_at hl 0 rfl) ?_
  refine gobj hC hl.1 (wM_in lko_X5_3) (wM_in im_obj) (wM_in co_obj) dX5_init_1 ⟨Nat.le_of_ble_eq_true rfl, Nat.le_of_ble_eq_true rfl⟩ ?_
  refine lv_aload_n hx hb dX5_init_4 rfl (lv_at hl 0 rfl) ?_
  refine lv_iconst (v := (0 : Int32)) hx hb dX5_init_5 (by decide) ?_
  refine gput hC h (C := RX5) (T := TX5) (N := 6) (wM_us uw_X5) (ty0 := tyX5) tyX5_ok nmX5 0 rfl rfl 0 (by decide) (wM_in fl_X5_11) rfl rfl rfl (Nat.le_of_ble_eq_true rfl) (ws1 := [(b, .inr (5, [.int (0 : Int32), .int 0, .int 0, .int 0, .null, .int 0]))]) rfl dX5_init_6 (fun H locs h => ?_)
  refine lv_aload_n hx hb dX5_init_9 rfl (lv_at hl 0 rfl) ?_
  refine lv_bipush (v := (116 : Int32)) hx hb dX5_init_10 (by decide) ?_
  refine gput hC h (C := RX5) (T := TX5) (N := 6) (wM_us uw_X5) (ty0 := tyX5) tyX5_ok nmX5 0 rfl rfl 1 (by decide) (wM_in fl_X5_15) rfl rfl rfl (Nat.le_of_ble_eq_true rfl) (ws1 := [(b, .inr (5, [.int (0 : Int32), .int (116 : Int32), .int 0, .int 0, .null, .int 0]))]) rfl dX5_init_12 (fun H locs h => ?_)
  refine lv_aload_n hx hb dX5_init_15 rfl (lv_at hl 0 rfl) ?_
  refine lv_iconst (v := (0 : Int32)) hx hb dX5_init_16 (by decide) ?_
  refine gput hC h (C := RX5) (T := TX5) (N := 6) (wM_us uw_X5) (ty0 := tyX5) tyX5_ok nmX5 0 rfl rfl 2 (by decide) (wM_in fl_X5_19) rfl rfl rfl (Nat.le_of_ble_eq_true rfl) (ws1 := [(b, .inr (5, [.int (0 : Int32), .int (116 : Int32), .int (0 : Int32), .int 0, .null, .int 0]))]) rfl dX5_init_17 (fun H locs h => ?_)
  refine lv_aload_n hx hb dX5_init_20 rfl (lv_at hl 0 rfl) ?_
  refine lv_iconst (v := (5 : Int32)) hx hb dX5_init_21 (by decide) ?_
  refine gput hC h (C := RX5) (T := TX5) (N := 6) (wM_us uw_X5) (ty0 := tyX5) tyX5_ok nmX5 0 rfl rfl 3 (by decide) (wM_in fl_X5_22) rfl rfl rfl (Nat.le_of_ble_eq_true rfl) (ws1 := [(b, .inr (5, [.int (0 : Int32), .int (116 : Int32), .int (0 : Int32), .int (5 : Int32), .null, .int 0]))]) rfl dX5_init_22 (fun H locs h => ?_)
  refine lv_aload_n hx hb dX5_init_25 rfl (lv_at hl 0 rfl) ?_
  refine gnew (ci := 4) (fs := [.null, .int 0]) (C := RX4) (T := TX4) (N := 2) hC h (wM_us uw_X4) (ty0 := tyX4) tyX4_ok (wM_in cl_X5_25) (wM_in it_X4) (wM_in in_X4) rfl (fun j hj => by rcases (show j = 0 ∨ j = 1 by omega) with rfl | rfl <;> rfl) (k1 := 1) (k2 := 2) rfl rfl (Nat.le_of_ble_eq_true rfl) (Nat.le_of_ble_eq_true rfl) dX5_init_26 (fun o1 H h => ?_)
  refine lv_dup hx hb dX5_init_29 rfl ?_
  refine gctor h (va_runIN (As := []) (rest := [.ref o1, .ref b]) hC (c_X4_init l G sa o1 H.size) (gcwN hC (fun _ h9 => wM_in h9) (h.2.2.2.1 _ nw_X5_27) in_X4 co_X4_init im_X4_init rfl rfl rfl dd_X4_init ⟨Nat.le_of_ble_eq_true rfl, Nat.le_of_ble_eq_true rfl⟩) (gpre h) rfl rfl hl.1 rfl (lv_room (Nat.le_of_ble_eq_true rfl)) dX5_init_30 ⟨Nat.le_of_ble_eq_true rfl, Nat.le_of_ble_eq_true rfl⟩) (k1 := 2) (k2 := 14) rfl rfl (fun q2 H locs hq3 hn_ => ?_)
  subst hq3
  have h := hn_
  clear hn_
  refine gputF hC h hin (C := RX5) (T := TX5) (N := 6) (wM_us uw_X5) (ty0 := tyX5) tyX5_ok nmX5 0 rfl rfl 4 (by decide) (wM_in fl_X5_28) rfl rfl rfl rfl (Nat.le_of_ble_eq_true rfl) (ws1 := ([(b, .inr (5, [.int (0 : Int32), .int (116 : Int32), .int (0 : Int32), .int (5 : Int32), .ref (q2 0), .int 0]))] ++ wl (eRow G) 2 q2 v0Row)) rfl dX5_init_33 (fun H locs h => ?_)
  refine lv_aload_n hx hb dX5_init_36 rfl (lv_at hl 0 rfl) ?_
  refine lv_iconst (v := (0 : Int32)) hx hb dX5_init_37 (by decide) ?_
  refine gput hC h (C := RX5) (T := TX5) (N := 6) (wM_us uw_X5) (ty0 := tyX5) tyX5_ok nmX5 0 rfl rfl 5 (by decide) (wM_in fl_X5_32) rfl rfl rfl (Nat.le_of_ble_eq_true rfl) (ws1 := ([(b, .inr (5, [.int (0 : Int32), .int (116 : Int32), .int (0 : Int32), .int (5 : Int32), .ref (q2 0), .int (0 : Int32)]))] ++ wl (eRow G) 2 q2 v0Row)) rfl dX5_init_38 (fun H locs h => ?_)
  exact gret hC hr hlk h (fun j => match j with | 0 => b | 1 => q2 0 | _ => q2 1) rfl (fun k => k) (bk (bk (bk bk0 rfl) rfl) rfl) (fun i j _ _ h9 => h9) rfl rfl dX5_init_41
set_option maxHeartbeats 4000000 in
set_option maxRecDepth 100000 in
theorem c_X1_init (l : Launch) (G : xGl) (sa : Nat → Nat) : mCT l yX1_init (wM yX1_init cX1_init 2 none) { frames := 3, cells := 31, slots := 210, locals := 54 } G sa 1 [.null, .int 0, .int 0] (eLine G) 32 v0Line 31 210 := by
  refine xCT (cc := cX1_init) (maxL := 2) (by decide) rfl rfl (Nat.le_of_ble_eq_true rfl) ?_
  intro p e s m below meth c ls b hC hin hr hlk h hl
  have hx := hC.1
  have hb := hC.2.1
  refine lv_aload_n hx hb dX1_init_0 rfl (lv_at hl 0 rfl) ?_
  refine gobj hC hl.1 (wM_in lko_X1_3) (wM_in im_obj) (wM_in co_obj) dX1_init_1 ⟨Nat.le_of_ble_eq_true rfl, Nat.le_of_ble_eq_true rfl⟩ ?_
  refine lv_aload_n hx hb dX1_init_4 rfl (lv_at hl 0 rfl) ?_
  refine lv_bipush (v := (10 : Int32)) hx hb dX1_init_5 (by decide) ?_
  refine gnewq hC h (t := 2) (wM_in cl_X1_9) (xaoO h.2.2.2.2.2.2) rfl (N := 10) (by decide) (by decide) (Nat.le_of_ble_eq_true rfl) (k1 := 1) (k2 := 10) rfl rfl (Nat.le_of_ble_eq_true rfl) (Nat.le_of_ble_eq_true rfl) dX1_init_7 (fun a1 H h => ?_)
  refine gputF hC h hin (C := RX1) (T := TX1) (N := 3) (wM_us uw_X1) (ty0 := tyX1) tyX1_ok nmX1 0 rfl rfl 0 (by decide) (wM_in fl_X1_11) rfl rfl rfl rfl (Nat.le_of_ble_eq_true rfl) (ws1 := ([(b, .inr (1, [.ref a1, .int 0, .int 0]))] ++ [(a1, .inl (G.2 2, 10, .inr (.inr (.inr (.inr (fun _ => none))))))])) rfl dX1_init_10 (fun H locs h => ?_)
  refine lv_aload_n hx hb dX1_init_13 rfl (lv_at hl 0 rfl) ?_
  refine lv_iconst (v := (0 : Int32)) hx hb dX1_init_14 (by decide) ?_
  refine gput hC h (C := RX1) (T := TX1) (N := 3) (wM_us uw_X1) (ty0 := tyX1) tyX1_ok nmX1 0 rfl rfl 1 (by decide) (wM_in fl_X1_17) rfl rfl rfl (Nat.le_of_ble_eq_true rfl) (ws1 := ([(b, .inr (1, [.ref a1, .int (0 : Int32), .int 0]))] ++ [(a1, .inl (G.2 2, 10, .inr (.inr (.inr (.inr (fun _ => none))))))])) rfl dX1_init_15 (fun H locs h => ?_)
  refine lv_aload_n hx hb dX1_init_18 rfl (lv_at hl 0 rfl) ?_
  refine lv_iconst (v := (0 : Int32)) hx hb dX1_init_19 (by decide) ?_
  refine gput hC h (C := RX1) (T := TX1) (N := 3) (wM_us uw_X1) (ty0 := tyX1) tyX1_ok nmX1 0 rfl rfl 2 (by decide) (wM_in fl_X1_21) rfl rfl rfl (Nat.le_of_ble_eq_true rfl) (ws1 := ([(b, .inr (1, [.ref a1, .int (0 : Int32), .int (0 : Int32)]))] ++ [(a1, .inl (G.2 2, 10, .inr (.inr (.inr (.inr (fun _ => none))))))])) rfl dX1_init_20 (fun H locs h => ?_)
  refine lv_iconst (v := (0 : Int32)) hx hb dX1_init_23 (by decide) ?_
  refine lv_istore_n (lv' := [(1, .int (0 : Int32)), (0, .ref b)]) hx hb dX1_init_24 rfl hl (by decide) rfl (fun ls hl => ?_)
  refine lv_iload_n hx hb dX1_init_25 rfl (lv_at hl 0 rfl) ?_
  refine lv_aload_n hx hb dX1_init_26 rfl (lv_at hl 1 rfl) ?_
  refine gget hC h (C := RX1) (T := TX1) (N := 3) (wM_us uw_X1) 0 rfl rfl 0 (by decide) (wM_in fl_X1_11) rfl dX1_init_27 ?_
  refine galen hC h 2 rfl 1 rfl (z := (10 : Int32)) rfl dX1_init_30 ?_
  refine lv_icmp_ge (tgt := 53) hx hb dX1_init_31 (by decide) (fun c2 => absurd c2 (by decide)) (fun c2 => ?_)
  refine lv_aload_n hx hb dX1_init_34 rfl (lv_at hl 1 rfl) ?_
  refine gget hC h (C := RX1) (T := TX1) (N := 3) (wM_us uw_X1) 0 rfl rfl 0 (by decide) (wM_in fl_X1_11) rfl dX1_init_35 ?_
  refine lv_iload_n hx hb dX1_init_38 rfl (lv_at hl 0 rfl) ?_
  refine gnew (ci := 3) (fs := [.int 0, .int 0, .int 0, .int 0, .int 0, .null]) (C := RX3) (T := TX3) (N := 6) hC h (wM_us uw_X3) (ty0 := tyX3) tyX3_ok (wM_in cl_X1_9) (wM_in it_X3) (wM_in in_X3) rfl (fun j hj => by rcases (show j = 0 ∨ j = 1 ∨ j = 2 ∨ j = 3 ∨ j = 4 ∨ j = 5 by omega) with rfl | rfl | rfl | rfl | rfl | rfl <;> rfl) (k1 := 2) (k2 := 16) rfl rfl (Nat.le_of_ble_eq_true rfl) (Nat.le_of_ble_eq_true rfl) dX1_init_39 (fun o3 H h => ?_)
  refine lv_dup hx hb dX1_init_42 rfl ?_
  refine gctor h (va_runIN (As := []) (rest := [.ref o3, .int (0 : Int32), .ref a1]) hC (c_X3_init l G sa o3 H.size) (gcwN hC (fun _ h9 => wM_in h9) (h.2.2.2.1 _ nw_X1_24) in_X3 co_X3_init im_X3_init rfl rfl rfl dd_X3_init ⟨Nat.le_of_ble_eq_true rfl, Nat.le_of_ble_eq_true rfl⟩) (gpre h) rfl rfl hl.1 rfl (lv_room (Nat.le_of_ble_eq_true rfl)) dX1_init_43 ⟨Nat.le_of_ble_eq_true rfl, Nat.le_of_ble_eq_true rfl⟩) (k1 := 4) (k2 := 30) rfl rfl (fun q4 H locs hq5 hn_ => ?_)
  subst hq5
  have h := hn_
  clear hn_
  refine gast (r := (RX3, TX3, 6)) hC h 1 2 (List.length (([(b, .inr (1, [.ref a1, .int (0 : Int32), .int (0 : Int32)]))] ++ [(a1, .inl (G.2 2, 10, .inr (.inr (.inr (.inr (fun _ => none))))))]) : va_W)) 3 rfl rfl ((glast (Nat.le_of_ble_eq_true rfl)).trans rfl) rfl (show ¬ ((0 : Int32) < 0 ∨ 10 ≤ (0 : Int32).toNatClampNeg) by decide) (k := 0) (by decide) (ws1 := (([(b, .inr (1, [.ref a1, .int (0 : Int32), .int (0 : Int32)]))] ++ [(a1, .inl (G.2 2, 10, .inr (.inr (.inr (.inr (va_up (fun _ => none) 0 (some (q4 0))))))))]) ++ wl (eOrder G) 3 q4 v0Row)) rfl dX1_init_46 (fun H locs h => ?_)
  refine lv_iinc (v := (1 : Int32)) (lv' := [(1, .int (1 : Int32)), (0, .ref b)]) hx hb dX1_init_47 hl (k := 0) rfl rfl (by decide) rfl (fun ls hl => ?_)
  refine lv_goto (tgt := 25) hx hb dX1_init_50 (by decide) ?_
  refine lv_iload_n hx hb dX1_init_25 rfl (lv_at hl 0 rfl) ?_
  refine lv_aload_n hx hb dX1_init_26 rfl (lv_at hl 1 rfl) ?_
  refine gget hC h (C := RX1) (T := TX1) (N := 3) (wM_us uw_X1) 0 rfl rfl 0 (by decide) (wM_in fl_X1_11) rfl dX1_init_27 ?_
  refine galen hC h 2 rfl 1 rfl (z := (10 : Int32)) rfl dX1_init_30 ?_
  refine lv_icmp_ge (tgt := 53) hx hb dX1_init_31 (by decide) (fun c6 => absurd c6 (by decide)) (fun c6 => ?_)
  refine lv_aload_n hx hb dX1_init_34 rfl (lv_at hl 1 rfl) ?_
  refine gget hC h (C := RX1) (T := TX1) (N := 3) (wM_us uw_X1) 0 rfl rfl 0 (by decide) (wM_in fl_X1_11) rfl dX1_init_35 ?_
  refine lv_iload_n hx hb dX1_init_38 rfl (lv_at hl 0 rfl) ?_
  refine gnew (ci := 3) (fs := [.int 0, .int 0, .int 0, .int 0, .int 0, .null]) (C := RX3) (T := TX3) (N := 6) hC h (wM_us uw_X3) (ty0 := tyX3) tyX3_ok (wM_in cl_X1_9) (wM_in it_X3) (wM_in in_X3) rfl (fun j hj => by rcases (show j = 0 ∨ j = 1 ∨ j = 2 ∨ j = 3 ∨ j = 4 ∨ j = 5 by omega) with rfl | rfl | rfl | rfl | rfl | rfl <;> rfl) (k1 := 5) (k2 := 36) rfl rfl (Nat.le_of_ble_eq_true rfl) (Nat.le_of_ble_eq_true rfl) dX1_init_39 (fun o7 H h => ?_)
  refine lv_dup hx hb dX1_init_42 rfl ?_
  refine gctor h (va_runIN (As := []) (rest := [.ref o7, .int (1 : Int32), .ref a1]) hC (c_X3_init l G sa o7 H.size) (gcwN hC (fun _ h9 => wM_in h9) (h.2.2.2.1 _ nw_X1_24) in_X3 co_X3_init im_X3_init rfl rfl rfl dd_X3_init ⟨Nat.le_of_ble_eq_true rfl, Nat.le_of_ble_eq_true rfl⟩) (gpre h) rfl rfl hl.1 rfl (lv_room (Nat.le_of_ble_eq_true rfl)) dX1_init_43 ⟨Nat.le_of_ble_eq_true rfl, Nat.le_of_ble_eq_true rfl⟩) (k1 := 7) (k2 := 50) rfl rfl (fun q8 H locs hq9 hn_ => ?_)
  subst hq9
  have h := hn_
  clear hn_
  refine gast (r := (RX3, TX3, 6)) hC h 1 2 (List.length ((([(b, .inr (1, [.ref a1, .int (0 : Int32), .int (0 : Int32)]))] ++ [(a1, .inl (G.2 2, 10, .inr (.inr (.inr (.inr (va_up (fun _ => none) 0 (some (q4 0))))))))]) ++ wl (eOrder G) 3 q4 v0Row) : va_W)) 3 rfl rfl ((glast (Nat.le_of_ble_eq_true rfl)).trans rfl) rfl (show ¬ ((1 : Int32) < 0 ∨ 10 ≤ (1 : Int32).toNatClampNeg) by decide) (k := 1) (by decide) (ws1 := ((([(b, .inr (1, [.ref a1, .int (0 : Int32), .int (0 : Int32)]))] ++ [(a1, .inl (G.2 2, 10, .inr (.inr (.inr (.inr (va_up (va_up (fun _ => none) 0 (some (q4 0))) 1 (some (q8 0))))))))]) ++ wl (eOrder G) 3 q4 v0Row) ++ wl (eOrder G) 3 q8 v0Row)) rfl dX1_init_46 (fun H locs h => ?_)
  refine lv_iinc (v := (2 : Int32)) (lv' := [(1, .int (2 : Int32)), (0, .ref b)]) hx hb dX1_init_47 hl (k := 0) rfl rfl (by decide) rfl (fun ls hl => ?_)
  refine lv_goto (tgt := 25) hx hb dX1_init_50 (by decide) ?_
  refine lv_iload_n hx hb dX1_init_25 rfl (lv_at hl 0 rfl) ?_
  refine lv_aload_n hx hb dX1_init_26 rfl (lv_at hl 1 rfl) ?_
  refine gget hC h (C := RX1) (T := TX1) (N := 3) (wM_us uw_X1) 0 rfl rfl 0 (by decide) (wM_in fl_X1_11) rfl dX1_init_27 ?_
  refine galen hC h 2 rfl 1 rfl (z := (10 : Int32)) rfl dX1_init_30 ?_
  refine lv_icmp_ge (tgt := 53) hx hb dX1_init_31 (by decide) (fun c10 => absurd c10 (by decide)) (fun c10 => ?_)
  refine lv_aload_n hx hb dX1_init_34 rfl (lv_at hl 1 rfl) ?_
  refine gget hC h (C := RX1) (T := TX1) (N := 3) (wM_us uw_X1) 0 rfl rfl 0 (by decide) (wM_in fl_X1_11) rfl dX1_init_35 ?_
  refine lv_iload_n hx hb dX1_init_38 rfl (lv_at hl 0 rfl) ?_
  refine gnew (ci := 3) (fs := [.int 0, .int 0, .int 0, .int 0, .int 0, .null]) (C := RX3) (T := TX3) (N := 6) hC h (wM_us uw_X3) (ty0 := tyX3) tyX3_ok (wM_in cl_X1_9) (wM_in it_X3) (wM_in in_X3) rfl (fun j hj => by rcases (show j = 0 ∨ j = 1 ∨ j = 2 ∨ j = 3 ∨ j = 4 ∨ j = 5 by omega) with rfl | rfl | rfl | rfl | rfl | rfl <;> rfl) (k1 := 8) (k2 := 56) rfl rfl (Nat.le_of_ble_eq_true rfl) (Nat.le_of_ble_eq_true rfl) dX1_init_39 (fun o11 H h => ?_)
  refine lv_dup hx hb dX1_init_42 rfl ?_
  refine gctor h (va_runIN (As := []) (rest := [.ref o11, .int (2 : Int32), .ref a1]) hC (c_X3_init l G sa o11 H.size) (gcwN hC (fun _ h9 => wM_in h9) (h.2.2.2.1 _ nw_X1_24) in_X3 co_X3_init im_X3_init rfl rfl rfl dd_X3_init ⟨Nat.le_of_ble_eq_true rfl, Nat.le_of_ble_eq_true rfl⟩) (gpre h) rfl rfl hl.1 rfl (lv_room (Nat.le_of_ble_eq_true rfl)) dX1_init_43 ⟨Nat.le_of_ble_eq_true rfl, Nat.le_of_ble_eq_true rfl⟩) (k1 := 10) (k2 := 70) rfl rfl (fun q12 H locs hq13 hn_ => ?_)
  subst hq13
  have h := hn_
  clear hn_
  refine gast (r := (RX3, TX3, 6)) hC h 1 2 (List.length (((([(b, .inr (1, [.ref a1, .int (0 : Int32), .int (0 : Int32)]))] ++ [(a1, .inl (G.2 2, 10, .inr (.inr (.inr (.inr (va_up (va_up (fun _ => none) 0 (some (q4 0))) 1 (some (q8 0))))))))]) ++ wl (eOrder G) 3 q4 v0Row) ++ wl (eOrder G) 3 q8 v0Row) : va_W)) 3 rfl rfl ((glast (Nat.le_of_ble_eq_true rfl)).trans rfl) rfl (show ¬ ((2 : Int32) < 0 ∨ 10 ≤ (2 : Int32).toNatClampNeg) by decide) (k := 2) (by decide) (ws1 := (((([(b, .inr (1, [.ref a1, .int (0 : Int32), .int (0 : Int32)]))] ++ [(a1, .inl (G.2 2, 10, .inr (.inr (.inr (.inr (va_up (va_up (va_up (fun _ => none) 0 (some (q4 0))) 1 (some (q8 0))) 2 (some (q12 0))))))))]) ++ wl (eOrder G) 3 q4 v0Row) ++ wl (eOrder G) 3 q8 v0Row) ++ wl (eOrder G) 3 q12 v0Row)) rfl dX1_init_46 (fun H locs h => ?_)
  refine lv_iinc (v := (3 : Int32)) (lv' := [(1, .int (3 : Int32)), (0, .ref b)]) hx hb dX1_init_47 hl (k := 0) rfl rfl (by decide) rfl (fun ls hl => ?_)
  refine lv_goto (tgt := 25) hx hb dX1_init_50 (by decide) ?_
  refine lv_iload_n hx hb dX1_init_25 rfl (lv_at hl 0 rfl) ?_
  refine lv_aload_n hx hb dX1_init_26 rfl (lv_at hl 1 rfl) ?_
  refine gget hC h (C := RX1) (T := TX1) (N := 3) (wM_us uw_X1) 0 rfl rfl 0 (by decide) (wM_in fl_X1_11) rfl dX1_init_27 ?_
  refine galen hC h 2 rfl 1 rfl (z := (10 : Int32)) rfl dX1_init_30 ?_
  refine lv_icmp_ge (tgt := 53) hx hb dX1_init_31 (by decide) (fun c14 => absurd c14 (by decide)) (fun c14 => ?_)
  refine lv_aload_n hx hb dX1_init_34 rfl (lv_at hl 1 rfl) ?_
  refine gget hC h (C := RX1) (T := TX1) (N := 3) (wM_us uw_X1) 0 rfl rfl 0 (by decide) (wM_in fl_X1_11) rfl dX1_init_35 ?_
  refine lv_iload_n hx hb dX1_init_38 rfl (lv_at hl 0 rfl) ?_
  refine gnew (ci := 3) (fs := [.int 0, .int 0, .int 0, .int 0, .int 0, .null]) (C := RX3) (T := TX3) (N := 6) hC h (wM_us uw_X3) (ty0 := tyX3) tyX3_ok (wM_in cl_X1_9) (wM_in it_X3) (wM_in in_X3) rfl (fun j hj => by rcases (show j = 0 ∨ j = 1 ∨ j = 2 ∨ j = 3 ∨ j = 4 ∨ j = 5 by omega) with rfl | rfl | rfl | rfl | rfl | rfl <;> rfl) (k1 := 11) (k2 := 76) rfl rfl (Nat.le_of_ble_eq_true rfl) (Nat.le_of_ble_eq_true rfl) dX1_init_39 (fun o15 H h => ?_)
  refine lv_dup hx hb dX1_init_42 rfl ?_
  refine gctor h (va_runIN (As := []) (rest := [.ref o15, .int (3 : Int32), .ref a1]) hC (c_X3_init l G sa o15 H.size) (gcwN hC (fun _ h9 => wM_in h9) (h.2.2.2.1 _ nw_X1_24) in_X3 co_X3_init im_X3_init rfl rfl rfl dd_X3_init ⟨Nat.le_of_ble_eq_true rfl, Nat.le_of_ble_eq_true rfl⟩) (gpre h) rfl rfl hl.1 rfl (lv_room (Nat.le_of_ble_eq_true rfl)) dX1_init_43 ⟨Nat.le_of_ble_eq_true rfl, Nat.le_of_ble_eq_true rfl⟩) (k1 := 13) (k2 := 90) rfl rfl (fun q16 H locs hq17 hn_ => ?_)
  subst hq17
  have h := hn_
  clear hn_
  refine gast (r := (RX3, TX3, 6)) hC h 1 2 (List.length ((((([(b, .inr (1, [.ref a1, .int (0 : Int32), .int (0 : Int32)]))] ++ [(a1, .inl (G.2 2, 10, .inr (.inr (.inr (.inr (va_up (va_up (va_up (fun _ => none) 0 (some (q4 0))) 1 (some (q8 0))) 2 (some (q12 0))))))))]) ++ wl (eOrder G) 3 q4 v0Row) ++ wl (eOrder G) 3 q8 v0Row) ++ wl (eOrder G) 3 q12 v0Row) : va_W)) 3 rfl rfl ((glast (Nat.le_of_ble_eq_true rfl)).trans rfl) rfl (show ¬ ((3 : Int32) < 0 ∨ 10 ≤ (3 : Int32).toNatClampNeg) by decide) (k := 3) (by decide) (ws1 := ((((([(b, .inr (1, [.ref a1, .int (0 : Int32), .int (0 : Int32)]))] ++ [(a1, .inl (G.2 2, 10, .inr (.inr (.inr (.inr (va_up (va_up (va_up (va_up (fun _ => none) 0 (some (q4 0))) 1 (some (q8 0))) 2 (some (q12 0))) 3 (some (q16 0))))))))]) ++ wl (eOrder G) 3 q4 v0Row) ++ wl (eOrder G) 3 q8 v0Row) ++ wl (eOrder G) 3 q12 v0Row) ++ wl (eOrder G) 3 q16 v0Row)) rfl dX1_init_46 (fun H locs h => ?_)
  refine lv_iinc (v := (4 : Int32)) (lv' := [(1, .int (4 : Int32)), (0, .ref b)]) hx hb dX1_init_47 hl (k := 0) rfl rfl (by decide) rfl (fun ls hl => ?_)
  refine lv_goto (tgt := 25) hx hb dX1_init_50 (by decide) ?_
  refine lv_iload_n hx hb dX1_init_25 rfl (lv_at hl 0 rfl) ?_
  refine lv_aload_n hx hb dX1_init_26 rfl (lv_at hl 1 rfl) ?_
  refine gget hC h (C := RX1) (T := TX1) (N := 3) (wM_us uw_X1) 0 rfl rfl 0 (by decide) (wM_in fl_X1_11) rfl dX1_init_27 ?_
  refine galen hC h 2 rfl 1 rfl (z := (10 : Int32)) rfl dX1_init_30 ?_
  refine lv_icmp_ge (tgt := 53) hx hb dX1_init_31 (by decide) (fun c18 => absurd c18 (by decide)) (fun c18 => ?_)
  refine lv_aload_n hx hb dX1_init_34 rfl (lv_at hl 1 rfl) ?_
  refine gget hC h (C := RX1) (T := TX1) (N := 3) (wM_us uw_X1) 0 rfl rfl 0 (by decide) (wM_in fl_X1_11) rfl dX1_init_35 ?_
  refine lv_iload_n hx hb dX1_init_38 rfl (lv_at hl 0 rfl) ?_
  refine gnew (ci := 3) (fs := [.int 0, .int 0, .int 0, .int 0, .int 0, .null]) (C := RX3) (T := TX3) (N := 6) hC h (wM_us uw_X3) (ty0 := tyX3) tyX3_ok (wM_in cl_X1_9) (wM_in it_X3) (wM_in in_X3) rfl (fun j hj => by rcases (show j = 0 ∨ j = 1 ∨ j = 2 ∨ j = 3 ∨ j = 4 ∨ j = 5 by omega) with rfl | rfl | rfl | rfl | rfl | rfl <;> rfl) (k1 := 14) (k2 := 96) rfl rfl (Nat.le_of_ble_eq_true rfl) (Nat.le_of_ble_eq_true rfl) dX1_init_39 (fun o19 H h => ?_)
  refine lv_dup hx hb dX1_init_42 rfl ?_
  refine gctor h (va_runIN (As := []) (rest := [.ref o19, .int (4 : Int32), .ref a1]) hC (c_X3_init l G sa o19 H.size) (gcwN hC (fun _ h9 => wM_in h9) (h.2.2.2.1 _ nw_X1_24) in_X3 co_X3_init im_X3_init rfl rfl rfl dd_X3_init ⟨Nat.le_of_ble_eq_true rfl, Nat.le_of_ble_eq_true rfl⟩) (gpre h) rfl rfl hl.1 rfl (lv_room (Nat.le_of_ble_eq_true rfl)) dX1_init_43 ⟨Nat.le_of_ble_eq_true rfl, Nat.le_of_ble_eq_true rfl⟩) (k1 := 16) (k2 := 110) rfl rfl (fun q20 H locs hq21 hn_ => ?_)
  subst hq21
  have h := hn_
  clear hn_
  refine gast (r := (RX3, TX3, 6)) hC h 1 2 (List.length (((((([(b, .inr (1, [.ref a1, .int (0 : Int32), .int (0 : Int32)]))] ++ [(a1, .inl (G.2 2, 10, .inr (.inr (.inr (.inr (va_up (va_up (va_up (va_up (fun _ => none) 0 (some (q4 0))) 1 (some (q8 0))) 2 (some (q12 0))) 3 (some (q16 0))))))))]) ++ wl (eOrder G) 3 q4 v0Row) ++ wl (eOrder G) 3 q8 v0Row) ++ wl (eOrder G) 3 q12 v0Row) ++ wl (eOrder G) 3 q16 v0Row) : va_W)) 3 rfl rfl ((glast (Nat.le_of_ble_eq_true rfl)).trans rfl) rfl (show ¬ ((4 : Int32) < 0 ∨ 10 ≤ (4 : Int32).toNatClampNeg) by decide) (k := 4) (by decide) (ws1 := (((((([(b, .inr (1, [.ref a1, .int (0 : Int32), .int (0 : Int32)]))] ++ [(a1, .inl (G.2 2, 10, .inr (.inr (.inr (.inr (va_up (va_up (va_up (va_up (va_up (fun _ => none) 0 (some (q4 0))) 1 (some (q8 0))) 2 (some (q12 0))) 3 (some (q16 0))) 4 (some (q20 0))))))))]) ++ wl (eOrder G) 3 q4 v0Row) ++ wl (eOrder G) 3 q8 v0Row) ++ wl (eOrder G) 3 q12 v0Row) ++ wl (eOrder G) 3 q16 v0Row) ++ wl (eOrder G) 3 q20 v0Row)) rfl dX1_init_46 (fun H locs h => ?_)
  refine lv_iinc (v := (5 : Int32)) (lv' := [(1, .int (5 : Int32)), (0, .ref b)]) hx hb dX1_init_47 hl (k := 0) rfl rfl (by decide) rfl (fun ls hl => ?_)
  refine lv_goto (tgt := 25) hx hb dX1_init_50 (by decide) ?_
  refine lv_iload_n hx hb dX1_init_25 rfl (lv_at hl 0 rfl) ?_
  refine lv_aload_n hx hb dX1_init_26 rfl (lv_at hl 1 rfl) ?_
  refine gget hC h (C := RX1) (T := TX1) (N := 3) (wM_us uw_X1) 0 rfl rfl 0 (by decide) (wM_in fl_X1_11) rfl dX1_init_27 ?_
  refine galen hC h 2 rfl 1 rfl (z := (10 : Int32)) rfl dX1_init_30 ?_
  refine lv_icmp_ge (tgt := 53) hx hb dX1_init_31 (by decide) (fun c22 => absurd c22 (by decide)) (fun c22 => ?_)
  refine lv_aload_n hx hb dX1_init_34 rfl (lv_at hl 1 rfl) ?_
  refine gget hC h (C := RX1) (T := TX1) (N := 3) (wM_us uw_X1) 0 rfl rfl 0 (by decide) (wM_in fl_X1_11) rfl dX1_init_35 ?_
  refine lv_iload_n hx hb dX1_init_38 rfl (lv_at hl 0 rfl) ?_
  refine gnew (ci := 3) (fs := [.int 0, .int 0, .int 0, .int 0, .int 0, .null]) (C := RX3) (T := TX3) (N := 6) hC h (wM_us uw_X3) (ty0 := tyX3) tyX3_ok (wM_in cl_X1_9) (wM_in it_X3) (wM_in in_X3) rfl (fun j hj => by rcases (show j = 0 ∨ j = 1 ∨ j = 2 ∨ j = 3 ∨ j = 4 ∨ j = 5 by omega) with rfl | rfl | rfl | rfl | rfl | rfl <;> rfl) (k1 := 17) (k2 := 116) rfl rfl (Nat.le_of_ble_eq_true rfl) (Nat.le_of_ble_eq_true rfl) dX1_init_39 (fun o23 H h => ?_)
  refine lv_dup hx hb dX1_init_42 rfl ?_
  refine gctor h (va_runIN (As := []) (rest := [.ref o23, .int (5 : Int32), .ref a1]) hC (c_X3_init l G sa o23 H.size) (gcwN hC (fun _ h9 => wM_in h9) (h.2.2.2.1 _ nw_X1_24) in_X3 co_X3_init im_X3_init rfl rfl rfl dd_X3_init ⟨Nat.le_of_ble_eq_true rfl, Nat.le_of_ble_eq_true rfl⟩) (gpre h) rfl rfl hl.1 rfl (lv_room (Nat.le_of_ble_eq_true rfl)) dX1_init_43 ⟨Nat.le_of_ble_eq_true rfl, Nat.le_of_ble_eq_true rfl⟩) (k1 := 19) (k2 := 130) rfl rfl (fun q24 H locs hq25 hn_ => ?_)
  subst hq25
  have h := hn_
  clear hn_
  refine gast (r := (RX3, TX3, 6)) hC h 1 2 (List.length ((((((([(b, .inr (1, [.ref a1, .int (0 : Int32), .int (0 : Int32)]))] ++ [(a1, .inl (G.2 2, 10, .inr (.inr (.inr (.inr (va_up (va_up (va_up (va_up (va_up (fun _ => none) 0 (some (q4 0))) 1 (some (q8 0))) 2 (some (q12 0))) 3 (some (q16 0))) 4 (some (q20 0))))))))]) ++ wl (eOrder G) 3 q4 v0Row) ++ wl (eOrder G) 3 q8 v0Row) ++ wl (eOrder G) 3 q12 v0Row) ++ wl (eOrder G) 3 q16 v0Row) ++ wl (eOrder G) 3 q20 v0Row) : va_W)) 3 rfl rfl ((glast (Nat.le_of_ble_eq_true rfl)).trans rfl) rfl (show ¬ ((5 : Int32) < 0 ∨ 10 ≤ (5 : Int32).toNatClampNeg) by decide) (k := 5) (by decide) (ws1 := ((((((([(b, .inr (1, [.ref a1, .int (0 : Int32), .int (0 : Int32)]))] ++ [(a1, .inl (G.2 2, 10, .inr (.inr (.inr (.inr (va_up (va_up (va_up (va_up (va_up (va_up (fun _ => none) 0 (some (q4 0))) 1 (some (q8 0))) 2 (some (q12 0))) 3 (some (q16 0))) 4 (some (q20 0))) 5 (some (q24 0))))))))]) ++ wl (eOrder G) 3 q4 v0Row) ++ wl (eOrder G) 3 q8 v0Row) ++ wl (eOrder G) 3 q12 v0Row) ++ wl (eOrder G) 3 q16 v0Row) ++ wl (eOrder G) 3 q20 v0Row) ++ wl (eOrder G) 3 q24 v0Row)) rfl dX1_init_46 (fun H locs h => ?_)
  refine lv_iinc (v := (6 : Int32)) (lv' := [(1, .int (6 : Int32)), (0, .ref b)]) hx hb dX1_init_47 hl (k := 0) rfl rfl (by decide) rfl (fun ls hl => ?_)
  refine lv_goto (tgt := 25) hx hb dX1_init_50 (by decide) ?_
  refine lv_iload_n hx hb dX1_init_25 rfl (lv_at hl 0 rfl) ?_
  refine lv_aload_n hx hb dX1_init_26 rfl (lv_at hl 1 rfl) ?_
  refine gget hC h (C := RX1) (T := TX1) (N := 3) (wM_us uw_X1) 0 rfl rfl 0 (by decide) (wM_in fl_X1_11) rfl dX1_init_27 ?_
  refine galen hC h 2 rfl 1 rfl (z := (10 : Int32)) rfl dX1_init_30 ?_
  refine lv_icmp_ge (tgt := 53) hx hb dX1_init_31 (by decide) (fun c26 => absurd c26 (by decide)) (fun c26 => ?_)
  refine lv_aload_n hx hb dX1_init_34 rfl (lv_at hl 1 rfl) ?_
  refine gget hC h (C := RX1) (T := TX1) (N := 3) (wM_us uw_X1) 0 rfl rfl 0 (by decide) (wM_in fl_X1_11) rfl dX1_init_35 ?_
  refine lv_iload_n hx hb dX1_init_38 rfl (lv_at hl 0 rfl) ?_
  refine gnew (ci := 3) (fs := [.int 0, .int 0, .int 0, .int 0, .int 0, .null]) (C := RX3) (T := TX3) (N := 6) hC h (wM_us uw_X3) (ty0 := tyX3) tyX3_ok (wM_in cl_X1_9) (wM_in it_X3) (wM_in in_X3) rfl (fun j hj => by rcases (show j = 0 ∨ j = 1 ∨ j = 2 ∨ j = 3 ∨ j = 4 ∨ j = 5 by omega) with rfl | rfl | rfl | rfl | rfl | rfl <;> rfl) (k1 := 20) (k2 := 136) rfl rfl (Nat.le_of_ble_eq_true rfl) (Nat.le_of_ble_eq_true rfl) dX1_init_39 (fun o27 H h => ?_)
  refine lv_dup hx hb dX1_init_42 rfl ?_
  refine gctor h (va_runIN (As := []) (rest := [.ref o27, .int (6 : Int32), .ref a1]) hC (c_X3_init l G sa o27 H.size) (gcwN hC (fun _ h9 => wM_in h9) (h.2.2.2.1 _ nw_X1_24) in_X3 co_X3_init im_X3_init rfl rfl rfl dd_X3_init ⟨Nat.le_of_ble_eq_true rfl, Nat.le_of_ble_eq_true rfl⟩) (gpre h) rfl rfl hl.1 rfl (lv_room (Nat.le_of_ble_eq_true rfl)) dX1_init_43 ⟨Nat.le_of_ble_eq_true rfl, Nat.le_of_ble_eq_true rfl⟩) (k1 := 22) (k2 := 150) rfl rfl (fun q28 H locs hq29 hn_ => ?_)
  subst hq29
  have h := hn_
  clear hn_
  refine gast (r := (RX3, TX3, 6)) hC h 1 2 (List.length (((((((([(b, .inr (1, [.ref a1, .int (0 : Int32), .int (0 : Int32)]))] ++ [(a1, .inl (G.2 2, 10, .inr (.inr (.inr (.inr (va_up (va_up (va_up (va_up (va_up (va_up (fun _ => none) 0 (some (q4 0))) 1 (some (q8 0))) 2 (some (q12 0))) 3 (some (q16 0))) 4 (some (q20 0))) 5 (some (q24 0))))))))]) ++ wl (eOrder G) 3 q4 v0Row) ++ wl (eOrder G) 3 q8 v0Row) ++ wl (eOrder G) 3 q12 v0Row) ++ wl (eOrder G) 3 q16 v0Row) ++ wl (eOrder G) 3 q20 v0Row) ++ wl (eOrder G) 3 q24 v0Row) : va_W)) 3 rfl rfl ((glast (Nat.le_of_ble_eq_true rfl)).trans rfl) rfl (show ¬ ((6 : Int32) < 0 ∨ 10 ≤ (6 : Int32).toNatClampNeg) by decide) (k := 6) (by decide) (ws1 := (((((((([(b, .inr (1, [.ref a1, .int (0 : Int32), .int (0 : Int32)]))] ++ [(a1, .inl (G.2 2, 10, .inr (.inr (.inr (.inr (va_up (va_up (va_up (va_up (va_up (va_up (va_up (fun _ => none) 0 (some (q4 0))) 1 (some (q8 0))) 2 (some (q12 0))) 3 (some (q16 0))) 4 (some (q20 0))) 5 (some (q24 0))) 6 (some (q28 0))))))))]) ++ wl (eOrder G) 3 q4 v0Row) ++ wl (eOrder G) 3 q8 v0Row) ++ wl (eOrder G) 3 q12 v0Row) ++ wl (eOrder G) 3 q16 v0Row) ++ wl (eOrder G) 3 q20 v0Row) ++ wl (eOrder G) 3 q24 v0Row) ++ wl (eOrder G) 3 q28 v0Row)) rfl dX1_init_46 (fun H locs h => ?_)
  refine lv_iinc (v := (7 : Int32)) (lv' := [(1, .int (7 : Int32)), (0, .ref b)]) hx hb dX1_init_47 hl (k := 0) rfl rfl (by decide) rfl (fun ls hl => ?_)
  refine lv_goto (tgt := 25) hx hb dX1_init_50 (by decide) ?_
  refine lv_iload_n hx hb dX1_init_25 rfl (lv_at hl 0 rfl) ?_
  refine lv_aload_n hx hb dX1_init_26 rfl (lv_at hl 1 rfl) ?_
  refine gget hC h (C := RX1) (T := TX1) (N := 3) (wM_us uw_X1) 0 rfl rfl 0 (by decide) (wM_in fl_X1_11) rfl dX1_init_27 ?_
  refine galen hC h 2 rfl 1 rfl (z := (10 : Int32)) rfl dX1_init_30 ?_
  refine lv_icmp_ge (tgt := 53) hx hb dX1_init_31 (by decide) (fun c30 => absurd c30 (by decide)) (fun c30 => ?_)
  refine lv_aload_n hx hb dX1_init_34 rfl (lv_at hl 1 rfl) ?_
  refine gget hC h (C := RX1) (T := TX1) (N := 3) (wM_us uw_X1) 0 rfl rfl 0 (by decide) (wM_in fl_X1_11) rfl dX1_init_35 ?_
  refine lv_iload_n hx hb dX1_init_38 rfl (lv_at hl 0 rfl) ?_
  refine gnew (ci := 3) (fs := [.int 0, .int 0, .int 0, .int 0, .int 0, .null]) (C := RX3) (T := TX3) (N := 6) hC h (wM_us uw_X3) (ty0 := tyX3) tyX3_ok (wM_in cl_X1_9) (wM_in it_X3) (wM_in in_X3) rfl (fun j hj => by rcases (show j = 0 ∨ j = 1 ∨ j = 2 ∨ j = 3 ∨ j = 4 ∨ j = 5 by omega) with rfl | rfl | rfl | rfl | rfl | rfl <;> rfl) (k1 := 23) (k2 := 156) rfl rfl (Nat.le_of_ble_eq_true rfl) (Nat.le_of_ble_eq_true rfl) dX1_init_39 (fun o31 H h => ?_)
  refine lv_dup hx hb dX1_init_42 rfl ?_
  refine gctor h (va_runIN (As := []) (rest := [.ref o31, .int (7 : Int32), .ref a1]) hC (c_X3_init l G sa o31 H.size) (gcwN hC (fun _ h9 => wM_in h9) (h.2.2.2.1 _ nw_X1_24) in_X3 co_X3_init im_X3_init rfl rfl rfl dd_X3_init ⟨Nat.le_of_ble_eq_true rfl, Nat.le_of_ble_eq_true rfl⟩) (gpre h) rfl rfl hl.1 rfl (lv_room (Nat.le_of_ble_eq_true rfl)) dX1_init_43 ⟨Nat.le_of_ble_eq_true rfl, Nat.le_of_ble_eq_true rfl⟩) (k1 := 25) (k2 := 170) rfl rfl (fun q32 H locs hq33 hn_ => ?_)
  subst hq33
  have h := hn_
  clear hn_
  refine gast (r := (RX3, TX3, 6)) hC h 1 2 (List.length ((((((((([(b, .inr (1, [.ref a1, .int (0 : Int32), .int (0 : Int32)]))] ++ [(a1, .inl (G.2 2, 10, .inr (.inr (.inr (.inr (va_up (va_up (va_up (va_up (va_up (va_up (va_up (fun _ => none) 0 (some (q4 0))) 1 (some (q8 0))) 2 (some (q12 0))) 3 (some (q16 0))) 4 (some (q20 0))) 5 (some (q24 0))) 6 (some (q28 0))))))))]) ++ wl (eOrder G) 3 q4 v0Row) ++ wl (eOrder G) 3 q8 v0Row) ++ wl (eOrder G) 3 q12 v0Row) ++ wl (eOrder G) 3 q16 v0Row) ++ wl (eOrder G) 3 q20 v0Row) ++ wl (eOrder G) 3 q24 v0Row) ++ wl (eOrder G) 3 q28 v0Row) : va_W)) 3 rfl rfl ((glast (Nat.le_of_ble_eq_true rfl)).trans rfl) rfl (show ¬ ((7 : Int32) < 0 ∨ 10 ≤ (7 : Int32).toNatClampNeg) by decide) (k := 7) (by decide) (ws1 := ((((((((([(b, .inr (1, [.ref a1, .int (0 : Int32), .int (0 : Int32)]))] ++ [(a1, .inl (G.2 2, 10, .inr (.inr (.inr (.inr (va_up (va_up (va_up (va_up (va_up (va_up (va_up (va_up (fun _ => none) 0 (some (q4 0))) 1 (some (q8 0))) 2 (some (q12 0))) 3 (some (q16 0))) 4 (some (q20 0))) 5 (some (q24 0))) 6 (some (q28 0))) 7 (some (q32 0))))))))]) ++ wl (eOrder G) 3 q4 v0Row) ++ wl (eOrder G) 3 q8 v0Row) ++ wl (eOrder G) 3 q12 v0Row) ++ wl (eOrder G) 3 q16 v0Row) ++ wl (eOrder G) 3 q20 v0Row) ++ wl (eOrder G) 3 q24 v0Row) ++ wl (eOrder G) 3 q28 v0Row) ++ wl (eOrder G) 3 q32 v0Row)) rfl dX1_init_46 (fun H locs h => ?_)
  refine lv_iinc (v := (8 : Int32)) (lv' := [(1, .int (8 : Int32)), (0, .ref b)]) hx hb dX1_init_47 hl (k := 0) rfl rfl (by decide) rfl (fun ls hl => ?_)
  refine lv_goto (tgt := 25) hx hb dX1_init_50 (by decide) ?_
  refine lv_iload_n hx hb dX1_init_25 rfl (lv_at hl 0 rfl) ?_
  refine lv_aload_n hx hb dX1_init_26 rfl (lv_at hl 1 rfl) ?_
  refine gget hC h (C := RX1) (T := TX1) (N := 3) (wM_us uw_X1) 0 rfl rfl 0 (by decide) (wM_in fl_X1_11) rfl dX1_init_27 ?_
  refine galen hC h 2 rfl 1 rfl (z := (10 : Int32)) rfl dX1_init_30 ?_
  refine lv_icmp_ge (tgt := 53) hx hb dX1_init_31 (by decide) (fun c34 => absurd c34 (by decide)) (fun c34 => ?_)
  refine lv_aload_n hx hb dX1_init_34 rfl (lv_at hl 1 rfl) ?_
  refine gget hC h (C := RX1) (T := TX1) (N := 3) (wM_us uw_X1) 0 rfl rfl 0 (by decide) (wM_in fl_X1_11) rfl dX1_init_35 ?_
  refine lv_iload_n hx hb dX1_init_38 rfl (lv_at hl 0 rfl) ?_
  refine gnew (ci := 3) (fs := [.int 0, .int 0, .int 0, .int 0, .int 0, .null]) (C := RX3) (T := TX3) (N := 6) hC h (wM_us uw_X3) (ty0 := tyX3) tyX3_ok (wM_in cl_X1_9) (wM_in it_X3) (wM_in in_X3) rfl (fun j hj => by rcases (show j = 0 ∨ j = 1 ∨ j = 2 ∨ j = 3 ∨ j = 4 ∨ j = 5 by omega) with rfl | rfl | rfl | rfl | rfl | rfl <;> rfl) (k1 := 26) (k2 := 176) rfl rfl (Nat.le_of_ble_eq_true rfl) (Nat.le_of_ble_eq_true rfl) dX1_init_39 (fun o35 H h => ?_)
  refine lv_dup hx hb dX1_init_42 rfl ?_
  refine gctor h (va_runIN (As := []) (rest := [.ref o35, .int (8 : Int32), .ref a1]) hC (c_X3_init l G sa o35 H.size) (gcwN hC (fun _ h9 => wM_in h9) (h.2.2.2.1 _ nw_X1_24) in_X3 co_X3_init im_X3_init rfl rfl rfl dd_X3_init ⟨Nat.le_of_ble_eq_true rfl, Nat.le_of_ble_eq_true rfl⟩) (gpre h) rfl rfl hl.1 rfl (lv_room (Nat.le_of_ble_eq_true rfl)) dX1_init_43 ⟨Nat.le_of_ble_eq_true rfl, Nat.le_of_ble_eq_true rfl⟩) (k1 := 28) (k2 := 190) rfl rfl (fun q36 H locs hq37 hn_ => ?_)
  subst hq37
  have h := hn_
  clear hn_
  refine gast (r := (RX3, TX3, 6)) hC h 1 2 (List.length (((((((((([(b, .inr (1, [.ref a1, .int (0 : Int32), .int (0 : Int32)]))] ++ [(a1, .inl (G.2 2, 10, .inr (.inr (.inr (.inr (va_up (va_up (va_up (va_up (va_up (va_up (va_up (va_up (fun _ => none) 0 (some (q4 0))) 1 (some (q8 0))) 2 (some (q12 0))) 3 (some (q16 0))) 4 (some (q20 0))) 5 (some (q24 0))) 6 (some (q28 0))) 7 (some (q32 0))))))))]) ++ wl (eOrder G) 3 q4 v0Row) ++ wl (eOrder G) 3 q8 v0Row) ++ wl (eOrder G) 3 q12 v0Row) ++ wl (eOrder G) 3 q16 v0Row) ++ wl (eOrder G) 3 q20 v0Row) ++ wl (eOrder G) 3 q24 v0Row) ++ wl (eOrder G) 3 q28 v0Row) ++ wl (eOrder G) 3 q32 v0Row) : va_W)) 3 rfl rfl ((glast (Nat.le_of_ble_eq_true rfl)).trans rfl) rfl (show ¬ ((8 : Int32) < 0 ∨ 10 ≤ (8 : Int32).toNatClampNeg) by decide) (k := 8) (by decide) (ws1 := (((((((((([(b, .inr (1, [.ref a1, .int (0 : Int32), .int (0 : Int32)]))] ++ [(a1, .inl (G.2 2, 10, .inr (.inr (.inr (.inr (va_up (va_up (va_up (va_up (va_up (va_up (va_up (va_up (va_up (fun _ => none) 0 (some (q4 0))) 1 (some (q8 0))) 2 (some (q12 0))) 3 (some (q16 0))) 4 (some (q20 0))) 5 (some (q24 0))) 6 (some (q28 0))) 7 (some (q32 0))) 8 (some (q36 0))))))))]) ++ wl (eOrder G) 3 q4 v0Row) ++ wl (eOrder G) 3 q8 v0Row) ++ wl (eOrder G) 3 q12 v0Row) ++ wl (eOrder G) 3 q16 v0Row) ++ wl (eOrder G) 3 q20 v0Row) ++ wl (eOrder G) 3 q24 v0Row) ++ wl (eOrder G) 3 q28 v0Row) ++ wl (eOrder G) 3 q32 v0Row) ++ wl (eOrder G) 3 q36 v0Row)) rfl dX1_init_46 (fun H locs h => ?_)
  refine lv_iinc (v := (9 : Int32)) (lv' := [(1, .int (9 : Int32)), (0, .ref b)]) hx hb dX1_init_47 hl (k := 0) rfl rfl (by decide) rfl (fun ls hl => ?_)
  refine lv_goto (tgt := 25) hx hb dX1_init_50 (by decide) ?_
  refine lv_iload_n hx hb dX1_init_25 rfl (lv_at hl 0 rfl) ?_
  refine lv_aload_n hx hb dX1_init_26 rfl (lv_at hl 1 rfl) ?_
  refine gget hC h (C := RX1) (T := TX1) (N := 3) (wM_us uw_X1) 0 rfl rfl 0 (by decide) (wM_in fl_X1_11) rfl dX1_init_27 ?_
  refine galen hC h 2 rfl 1 rfl (z := (10 : Int32)) rfl dX1_init_30 ?_
  refine lv_icmp_ge (tgt := 53) hx hb dX1_init_31 (by decide) (fun c38 => absurd c38 (by decide)) (fun c38 => ?_)
  refine lv_aload_n hx hb dX1_init_34 rfl (lv_at hl 1 rfl) ?_
  refine gget hC h (C := RX1) (T := TX1) (N := 3) (wM_us uw_X1) 0 rfl rfl 0 (by decide) (wM_in fl_X1_11) rfl dX1_init_35 ?_
  refine lv_iload_n hx hb dX1_init_38 rfl (lv_at hl 0 rfl) ?_
  refine gnew (ci := 3) (fs := [.int 0, .int 0, .int 0, .int 0, .int 0, .null]) (C := RX3) (T := TX3) (N := 6) hC h (wM_us uw_X3) (ty0 := tyX3) tyX3_ok (wM_in cl_X1_9) (wM_in it_X3) (wM_in in_X3) rfl (fun j hj => by rcases (show j = 0 ∨ j = 1 ∨ j = 2 ∨ j = 3 ∨ j = 4 ∨ j = 5 by omega) with rfl | rfl | rfl | rfl | rfl | rfl <;> rfl) (k1 := 29) (k2 := 196) rfl rfl (Nat.le_of_ble_eq_true rfl) (Nat.le_of_ble_eq_true rfl) dX1_init_39 (fun o39 H h => ?_)
  refine lv_dup hx hb dX1_init_42 rfl ?_
  refine gctor h (va_runIN (As := []) (rest := [.ref o39, .int (9 : Int32), .ref a1]) hC (c_X3_init l G sa o39 H.size) (gcwN hC (fun _ h9 => wM_in h9) (h.2.2.2.1 _ nw_X1_24) in_X3 co_X3_init im_X3_init rfl rfl rfl dd_X3_init ⟨Nat.le_of_ble_eq_true rfl, Nat.le_of_ble_eq_true rfl⟩) (gpre h) rfl rfl hl.1 rfl (lv_room (Nat.le_of_ble_eq_true rfl)) dX1_init_43 ⟨Nat.le_of_ble_eq_true rfl, Nat.le_of_ble_eq_true rfl⟩) (k1 := 31) (k2 := 210) rfl rfl (fun q40 H locs hq41 hn_ => ?_)
  subst hq41
  have h := hn_
  clear hn_
  refine gast (r := (RX3, TX3, 6)) hC h 1 2 (List.length ((((((((((([(b, .inr (1, [.ref a1, .int (0 : Int32), .int (0 : Int32)]))] ++ [(a1, .inl (G.2 2, 10, .inr (.inr (.inr (.inr (va_up (va_up (va_up (va_up (va_up (va_up (va_up (va_up (va_up (fun _ => none) 0 (some (q4 0))) 1 (some (q8 0))) 2 (some (q12 0))) 3 (some (q16 0))) 4 (some (q20 0))) 5 (some (q24 0))) 6 (some (q28 0))) 7 (some (q32 0))) 8 (some (q36 0))))))))]) ++ wl (eOrder G) 3 q4 v0Row) ++ wl (eOrder G) 3 q8 v0Row) ++ wl (eOrder G) 3 q12 v0Row) ++ wl (eOrder G) 3 q16 v0Row) ++ wl (eOrder G) 3 q20 v0Row) ++ wl (eOrder G) 3 q24 v0Row) ++ wl (eOrder G) 3 q28 v0Row) ++ wl (eOrder G) 3 q32 v0Row) ++ wl (eOrder G) 3 q36 v0Row) : va_W)) 3 rfl rfl ((glast (Nat.le_of_ble_eq_true rfl)).trans rfl) rfl (show ¬ ((9 : Int32) < 0 ∨ 10 ≤ (9 : Int32).toNatClampNeg) by decide) (k := 9) (by decide) (ws1 := ((((((((((([(b, .inr (1, [.ref a1, .int (0 : Int32), .int (0 : Int32)]))] ++ [(a1, .inl (G.2 2, 10, .inr (.inr (.inr (.inr (va_up (va_up (va_up (va_up (va_up (va_up (va_up (va_up (va_up (va_up (fun _ => none) 0 (some (q4 0))) 1 (some (q8 0))) 2 (some (q12 0))) 3 (some (q16 0))) 4 (some (q20 0))) 5 (some (q24 0))) 6 (some (q28 0))) 7 (some (q32 0))) 8 (some (q36 0))) 9 (some (q40 0))))))))]) ++ wl (eOrder G) 3 q4 v0Row) ++ wl (eOrder G) 3 q8 v0Row) ++ wl (eOrder G) 3 q12 v0Row) ++ wl (eOrder G) 3 q16 v0Row) ++ wl (eOrder G) 3 q20 v0Row) ++ wl (eOrder G) 3 q24 v0Row) ++ wl (eOrder G) 3 q28 v0Row) ++ wl (eOrder G) 3 q32 v0Row) ++ wl (eOrder G) 3 q36 v0Row) ++ wl (eOrder G) 3 q40 v0Row)) rfl dX1_init_46 (fun H locs h => ?_)
  refine lv_iinc (v := (10 : Int32)) (lv' := [(1, .int (10 : Int32)), (0, .ref b)]) hx hb dX1_init_47 hl (k := 0) rfl rfl (by decide) rfl (fun ls hl => ?_)
  refine lv_goto (tgt := 25) hx hb dX1_init_50 (by decide) ?_
  refine lv_iload_n hx hb dX1_init_25 rfl (lv_at hl 0 rfl) ?_
  refine lv_aload_n hx hb dX1_init_26 rfl (lv_at hl 1 rfl) ?_
  refine gget hC h (C := RX1) (T := TX1) (N := 3) (wM_us uw_X1) 0 rfl rfl 0 (by decide) (wM_in fl_X1_11) rfl dX1_init_27 ?_
  refine galen hC h 2 rfl 1 rfl (z := (10 : Int32)) rfl dX1_init_30 ?_
  refine lv_icmp_ge (tgt := 53) hx hb dX1_init_31 (by decide) (fun c42 => ?_) (fun c42 => absurd (by decide) c42)
  exact gret hC hr hlk h (fun j => match j with | 0 => b | 1 => a1 | 2 => q4 0 | 3 => q4 1 | 4 => q4 2 | 5 => q8 0 | 6 => q8 1 | 7 => q8 2 | 8 => q12 0 | 9 => q12 1 | 10 => q12 2 | 11 => q16 0 | 12 => q16 1 | 13 => q16 2 | 14 => q20 0 | 15 => q20 1 | 16 => q20 2 | 17 => q24 0 | 18 => q24 1 | 19 => q24 2 | 20 => q28 0 | 21 => q28 1 | 22 => q28 2 | 23 => q32 0 | 24 => q32 1 | 25 => q32 2 | 26 => q36 0 | 27 => q36 1 | 28 => q36 2 | 29 => q40 0 | 30 => q40 1 | _ => q40 2) rfl (fun k => k) (bk (bk (bk (bk (bk (bk (bk (bk (bk (bk (bk (bk (bk (bk (bk (bk (bk (bk (bk (bk (bk (bk (bk (bk (bk (bk (bk (bk (bk (bk (bk (bk bk0 rfl) (congrArg (fun f => some (a1, (Sum.inl (G.2 2, 10, .inr (.inr (.inr (.inr f)))) : va_E))) (varr10 (g := (fun j => match j with | 0 => b | 1 => a1 | 2 => q4 0 | 3 => q4 1 | 4 => q4 2 | 5 => q8 0 | 6 => q8 1 | 7 => q8 2 | 8 => q12 0 | 9 => q12 1 | 10 => q12 2 | 11 => q16 0 | 12 => q16 1 | 13 => q16 2 | 14 => q20 0 | 15 => q20 1 | 16 => q20 2 | 17 => q24 0 | 18 => q24 1 | 19 => q24 2 | 20 => q28 0 | 21 => q28 1 | 22 => q28 2 | 23 => q32 0 | 24 => q32 1 | 25 => q32 2 | 26 => q36 0 | 27 => q36 1 | 28 => q36 2 | 29 => q40 0 | 30 => q40 1 | _ => q40 2)) (bk (bk (bk (bk (bk (bk (bk (bk (bk (bk bk0 rfl) rfl) rfl) rfl) rfl) rfl) rfl) rfl) rfl) rfl) (fun k => by simp [va_up])))) rfl) rfl) rfl) rfl) rfl) rfl) rfl) rfl) rfl) rfl) rfl) rfl) rfl) rfl) rfl) rfl) rfl) rfl) rfl) rfl) rfl) rfl) rfl) rfl) rfl) rfl) rfl) rfl) rfl) rfl) (fun i j _ _ h9 => h9) rfl rfl dX1_init_53
set_option maxHeartbeats 4000000 in
set_option maxRecDepth 100000 in
theorem c_X0_init (l : Launch) (G : xGl) (sa : Nat → Nat) : mCT l yX0_init (wM yX0_init cX0_init 1 none) { frames := 1, cells := 3, slots := 520, locals := 23 } G sa 0 [.null, .null, .null, .int 0] (eCells G) 4 v0Cells 3 520 := by
  refine xCT (cc := cX0_init) (maxL := 1) (by decide) rfl rfl (Nat.le_of_ble_eq_true rfl) ?_
  intro p e s m below meth c ls b hC hin hr hlk h hl
  have hx := hC.1
  have hb := hC.2.1
  refine lv_aload_n hx hb dX0_init_0 rfl (lv_at hl 0 rfl) ?_
  refine gobj hC hl.1 (wM_in lko_X0_3) (wM_in im_obj) (wM_in co_obj) dX0_init_1 ⟨Nat.le_of_ble_eq_true rfl, Nat.le_of_ble_eq_true rfl⟩ ?_
  refine lv_aload_n hx hb dX0_init_4 rfl (lv_at hl 0 rfl) ?_
  refine lv_sipush (v := (256 : Int32)) hx hb dX0_init_5 (by decide) ?_
  refine gnewi hC h (wM_in ac_int) (N := 256) (by decide) (by decide) (Nat.le_of_ble_eq_true rfl) (k1 := 1) (k2 := 256) rfl rfl (Nat.le_of_ble_eq_true rfl) (Nat.le_of_ble_eq_true rfl) dX0_init_8 (fun a1 H h => ?_)
  refine gputF hC h hin (C := RX0) (T := TX0) (N := 4) (wM_us uw_X0) (ty0 := tyX0) tyX0_ok nmX0 0 rfl rfl 0 (by decide) (wM_in fl_X0_9) rfl rfl rfl rfl (Nat.le_of_ble_eq_true rfl) (ws1 := ([(b, .inr (0, [.ref a1, .null, .null, .int 0]))] ++ [(a1, .inl (G.2 0, 256, .inl (fun _ => 0)))])) rfl dX0_init_10 (fun H locs h => ?_)
  refine lv_aload_n hx hb dX0_init_13 rfl (lv_at hl 0 rfl) ?_
  refine lv_sipush (v := (256 : Int32)) hx hb dX0_init_14 (by decide) ?_
  refine gnewi hC h (wM_in ac_int) (N := 256) (by decide) (by decide) (Nat.le_of_ble_eq_true rfl) (k1 := 2) (k2 := 512) rfl rfl (Nat.le_of_ble_eq_true rfl) (Nat.le_of_ble_eq_true rfl) dX0_init_17 (fun a2 H h => ?_)
  refine gputF hC h hin (C := RX0) (T := TX0) (N := 4) (wM_us uw_X0) (ty0 := tyX0) tyX0_ok nmX0 0 rfl rfl 1 (by decide) (wM_in fl_X0_15) rfl rfl rfl rfl (Nat.le_of_ble_eq_true rfl) (ws1 := (([(b, .inr (0, [.ref a1, .ref a2, .null, .int 0]))] ++ [(a1, .inl (G.2 0, 256, .inl (fun _ => 0)))]) ++ [(a2, .inl (G.2 0, 256, .inl (fun _ => 0)))])) rfl dX0_init_19 (fun H locs h => ?_)
  refine lv_aload_n hx hb dX0_init_22 rfl (lv_at hl 0 rfl) ?_
  refine lv_bipush (v := (8 : Int32)) hx hb dX0_init_23 (by decide) ?_
  refine gnewi hC h (wM_in ac_int) (N := 8) (by decide) (by decide) (Nat.le_of_ble_eq_true rfl) (k1 := 3) (k2 := 520) rfl rfl (Nat.le_of_ble_eq_true rfl) (Nat.le_of_ble_eq_true rfl) dX0_init_25 (fun a3 H h => ?_)
  refine gputF hC h hin (C := RX0) (T := TX0) (N := 4) (wM_us uw_X0) (ty0 := tyX0) tyX0_ok nmX0 0 rfl rfl 2 (by decide) (wM_in fl_X0_18) rfl rfl rfl rfl (Nat.le_of_ble_eq_true rfl) (ws1 := ((([(b, .inr (0, [.ref a1, .ref a2, .ref a3, .int 0]))] ++ [(a1, .inl (G.2 0, 256, .inl (fun _ => 0)))]) ++ [(a2, .inl (G.2 0, 256, .inl (fun _ => 0)))]) ++ [(a3, .inl (G.2 0, 8, .inl (fun _ => 0)))])) rfl dX0_init_27 (fun H locs h => ?_)
  refine lv_aload_n hx hb dX0_init_30 rfl (lv_at hl 0 rfl) ?_
  refine lv_iconst (v := (0 : Int32)) hx hb dX0_init_31 (by decide) ?_
  refine gput hC h (C := RX0) (T := TX0) (N := 4) (wM_us uw_X0) (ty0 := tyX0) tyX0_ok nmX0 0 rfl rfl 3 (by decide) (wM_in fl_X0_21) rfl rfl rfl (Nat.le_of_ble_eq_true rfl) (ws1 := ((([(b, .inr (0, [.ref a1, .ref a2, .ref a3, .int (0 : Int32)]))] ++ [(a1, .inl (G.2 0, 256, .inl (fun _ => 0)))]) ++ [(a2, .inl (G.2 0, 256, .inl (fun _ => 0)))]) ++ [(a3, .inl (G.2 0, 8, .inl (fun _ => 0)))])) rfl dX0_init_32 (fun H locs h => ?_)
  have h := gpack (E := eCells G) (n := 4) (v0 := fun _ _ => 0) h (fun j => match j with | 0 => b | 1 => a1 | 2 => a2 | _ => a3) (fun k => k) (fun k hk => by match k, hk with | 0, _ => rfl | 1, _ => rfl | 2, _ => rfl | 3, _ => rfl) (fun i j _ _ h9 => h9)
  obtain ⟨q, hq⟩ : ∃ q : Nat → Nat, q = (fun j => match j with | 0 => b | 1 => a1 | 2 => a2 | _ => a3) := ⟨_, rfl⟩
  have hq0 : q 0 = b := (congrFun hq 0).trans rfl
  rw [← hq] at h
  have hl : lv_has ls 1 [(0, .ref (q 0))] := by rw [hq0]; exact hl
  clear hq
  refine lv_aload_n hx hb dX0_init_35 rfl (lv_at hl 0 rfl) ?_
  refine xget hC h.o (C := RX0) (T := TX0) (N := 4) (wM_us uw_X0) 0 (Nat.le_of_ble_eq_true rfl) eCells_0 rfl 0 (by decide) (wM_in fl_X0_9) rfl dX0_init_36 ?_
  refine lv_sipush (v := (255 : Int32)) hx hb dX0_init_39 (by decide) ?_
  refine xvc h 1 1 sCells_1 (Nat.le_of_ble_eq_true rfl) (va_runS (As := [.ref (q 1), .int (255 : Int32)]) (rest := []) hC (k_J7_fill_53178 l G (sh 1 q) 256 (by decide) (sh 1 (fun _ _ => 0)) (255 : Int32) H.size) (xcwS hC lk_X0_25 in_J7 co_J7_fill_53178 st_J7_fill_53178 rfl rfl dd_J7_fill_53178 ⟨Nat.le_of_ble_eq_true rfl, Nat.le_of_ble_eq_true rfl⟩) (preS1 h 1 1 sCells_1 (Nat.le_of_ble_eq_true rfl) [.ref (q 1), .int (255 : Int32)]) rfl rfl hl.1 rfl (lv_room (Nat.le_of_ble_eq_true rfl)) dX0_init_42 ⟨Nat.le_of_ble_eq_true rfl, Nat.le_of_ble_eq_true rfl⟩) (fun H locs h => ?_)
  exact gretH hC hr hlk h hq0 (pu_one rfl) rfl rfl dX0_init_45
set_option maxHeartbeats 4000000 in
set_option maxRecDepth 100000 in
theorem c_X6_init (l : Launch) (G : xGl) (sa : Nat → Nat) : mCT l yX6_init (wM yX6_init cX6_init 1 none) { frames := 4, cells := 46, slots := 805, locals := 75 } G sa 6 [.null, .null, .null, .null, .null, .null, .null, .int 0, .int 0, .int 0, .int 0, .int 0, .int 0] (eState G) 47 v0State 46 805 := by
  refine xCT (cc := cX6_init) (maxL := 1) (by decide) rfl rfl (Nat.le_of_ble_eq_true rfl) ?_
  intro p e s m below meth c ls b hC hin hr hlk h hl
  have hx := hC.1
  have hb := hC.2.1
  refine lv_aload_n hx hb dX6_init_0 rfl (lv_at hl 0 rfl) ?_
  refine gobj hC hl.1 (wM_in lko_X6_3) (wM_in im_obj) (wM_in co_obj) dX6_init_1 ⟨Nat.le_of_ble_eq_true rfl, Nat.le_of_ble_eq_true rfl⟩ ?_
  refine lv_aload_n hx hb dX6_init_4 rfl (lv_at hl 0 rfl) ?_
  refine gnew (ci := 0) (fs := [.null, .null, .null, .int 0]) (C := RX0) (T := TX0) (N := 4) hC h (wM_us uw_X0) (ty0 := tyX0) tyX0_ok (wM_in cl_X6_9) (wM_in it_X0) (wM_in in_X0) rfl (fun j hj => by rcases (show j = 0 ∨ j = 1 ∨ j = 2 ∨ j = 3 by omega) with rfl | rfl | rfl | rfl <;> rfl) (k1 := 1) (k2 := 4) rfl rfl (Nat.le_of_ble_eq_true rfl) (Nat.le_of_ble_eq_true rfl) dX6_init_5 (fun o1 H h => ?_)
  refine lv_dup hx hb dX6_init_8 rfl ?_
  refine gctor h (va_runI (As := []) (rest := [.ref o1, .ref b]) hC (c_X0_init l G sa o1 H.size) (gcwI hC (fun _ h9 => wM_in h9) lk_X6_11 in_X0 co_X0_init im_X0_init rfl rfl rfl dd_X0_init ⟨Nat.le_of_ble_eq_true rfl, Nat.le_of_ble_eq_true rfl⟩) (gpre h) rfl rfl hl.1 rfl (lv_room (Nat.le_of_ble_eq_true rfl)) dX6_init_9 ⟨Nat.le_of_ble_eq_true rfl, Nat.le_of_ble_eq_true rfl⟩) (k1 := 4) (k2 := 524) rfl rfl (fun q2 H locs hq3 hn_ => ?_)
  subst hq3
  have h := hn_
  clear hn_
  refine gputF hC h hin (C := RX6) (T := TX6) (N := 13) (wM_us uw_X6) (ty0 := tyX6) tyX6_ok nmX6 0 rfl rfl 0 (by decide) (wM_in fl_X6_12) rfl rfl rfl rfl (Nat.le_of_ble_eq_true rfl) (ws1 := ([(b, .inr (6, [.ref (q2 0), .null, .null, .null, .null, .null, .null, .int 0, .int 0, .int 0, .int 0, .int 0, .int 0]))] ++ wl (eCells G) 4 q2 v0Cells)) rfl dX6_init_12 (fun H locs h => ?_)
  refine lv_aload_n hx hb dX6_init_15 rfl (lv_at hl 0 rfl) ?_
  refine gnew (ci := 2) (fs := [.int 0, .int 0, .int 0]) (C := RX2) (T := TX2) (N := 3) hC h (wM_us uw_X2) (ty0 := tyX2) tyX2_ok (wM_in cl_X6_18) (wM_in it_X2) (wM_in in_X2) rfl (fun j hj => by rcases (show j = 0 ∨ j = 1 ∨ j = 2 by omega) with rfl | rfl | rfl <;> rfl) (k1 := 5) (k2 := 527) rfl rfl (Nat.le_of_ble_eq_true rfl) (Nat.le_of_ble_eq_true rfl) dX6_init_16 (fun o4 H h => ?_)
  refine lv_dup hx hb dX6_init_19 rfl ?_
  refine gctor h (va_runIN (As := []) (rest := [.ref o4, .ref b]) hC (c_X2_init l G sa o4 H.size) (gcwN hC (fun _ h9 => wM_in h9) (h.2.2.2.1 _ nw_X6_20) in_X2 co_X2_init im_X2_init rfl rfl rfl dd_X2_init ⟨Nat.le_of_ble_eq_true rfl, Nat.le_of_ble_eq_true rfl⟩) (gpre h) rfl rfl hl.1 rfl (lv_room (Nat.le_of_ble_eq_true rfl)) dX6_init_20 ⟨Nat.le_of_ble_eq_true rfl, Nat.le_of_ble_eq_true rfl⟩) (k1 := 5) (k2 := 527) rfl rfl (fun q5 H locs hq6 hn_ => ?_)
  subst hq6
  have h := hn_
  clear hn_
  refine gputF hC h hin (C := RX6) (T := TX6) (N := 13) (wM_us uw_X6) (ty0 := tyX6) tyX6_ok nmX6 0 rfl rfl 1 (by decide) (wM_in fl_X6_21) rfl rfl rfl rfl (Nat.le_of_ble_eq_true rfl) (ws1 := (([(b, .inr (6, [.ref (q2 0), .ref (q5 0), .null, .null, .null, .null, .null, .int 0, .int 0, .int 0, .int 0, .int 0, .int 0]))] ++ wl (eCells G) 4 q2 v0Cells) ++ wl (eLocks G) 1 q5 v0Locks)) rfl dX6_init_23 (fun H locs h => ?_)
  refine lv_aload_n hx hb dX6_init_26 rfl (lv_at hl 0 rfl) ?_
  refine gnew (ci := 4) (fs := [.null, .int 0]) (C := RX4) (T := TX4) (N := 2) hC h (wM_us uw_X4) (ty0 := tyX4) tyX4_ok (wM_in cl_X6_25) (wM_in it_X4) (wM_in in_X4) rfl (fun j hj => by rcases (show j = 0 ∨ j = 1 by omega) with rfl | rfl <;> rfl) (k1 := 6) (k2 := 529) rfl rfl (Nat.le_of_ble_eq_true rfl) (Nat.le_of_ble_eq_true rfl) dX6_init_27 (fun o7 H h => ?_)
  refine lv_dup hx hb dX6_init_30 rfl ?_
  refine gctor h (va_runIN (As := []) (rest := [.ref o7, .ref b]) hC (c_X4_init l G sa o7 H.size) (gcwN hC (fun _ h9 => wM_in h9) (h.2.2.2.1 _ nw_X6_27) in_X4 co_X4_init im_X4_init rfl rfl rfl dd_X4_init ⟨Nat.le_of_ble_eq_true rfl, Nat.le_of_ble_eq_true rfl⟩) (gpre h) rfl rfl hl.1 rfl (lv_room (Nat.le_of_ble_eq_true rfl)) dX6_init_31 ⟨Nat.le_of_ble_eq_true rfl, Nat.le_of_ble_eq_true rfl⟩) (k1 := 7) (k2 := 541) rfl rfl (fun q8 H locs hq9 hn_ => ?_)
  subst hq9
  have h := hn_
  clear hn_
  refine gputF hC h hin (C := RX6) (T := TX6) (N := 13) (wM_us uw_X6) (ty0 := tyX6) tyX6_ok nmX6 0 rfl rfl 2 (by decide) (wM_in fl_X6_28) rfl rfl rfl rfl (Nat.le_of_ble_eq_true rfl) (ws1 := ((([(b, .inr (6, [.ref (q2 0), .ref (q5 0), .ref (q8 0), .null, .null, .null, .null, .int 0, .int 0, .int 0, .int 0, .int 0, .int 0]))] ++ wl (eCells G) 4 q2 v0Cells) ++ wl (eLocks G) 1 q5 v0Locks) ++ wl (eRow G) 2 q8 v0Row)) rfl dX6_init_34 (fun H locs h => ?_)
  refine lv_aload_n hx hb dX6_init_37 rfl (lv_at hl 0 rfl) ?_
  refine gnew (ci := 7) (fs := [.int 0, .int 0, .int 0, .int 0, .int 0, .int 0, .int 0, .int 0, .null]) (C := RX7) (T := TX7) (N := 9) hC h (wM_us uw_X7) (ty0 := tyX7) tyX7_ok (wM_in cl_X6_32) (wM_in it_X7) (wM_in in_X7) rfl (fun j hj => by rcases (show j = 0 ∨ j = 1 ∨ j = 2 ∨ j = 3 ∨ j = 4 ∨ j = 5 ∨ j = 6 ∨ j = 7 ∨ j = 8 by omega) with rfl | rfl | rfl | rfl | rfl | rfl | rfl | rfl | rfl <;> rfl) (k1 := 8) (k2 := 550) rfl rfl (Nat.le_of_ble_eq_true rfl) (Nat.le_of_ble_eq_true rfl) dX6_init_38 (fun o10 H h => ?_)
  refine lv_dup hx hb dX6_init_41 rfl ?_
  refine gctor h (va_runIN (As := []) (rest := [.ref o10, .ref b]) hC (c_X7_init l G sa o10 H.size) (gcwN hC (fun _ h9 => wM_in h9) (h.2.2.2.1 _ nw_X6_34) in_X7 co_X7_init im_X7_init rfl rfl rfl dd_X7_init ⟨Nat.le_of_ble_eq_true rfl, Nat.le_of_ble_eq_true rfl⟩) (gpre h) rfl rfl hl.1 rfl (lv_room (Nat.le_of_ble_eq_true rfl)) dX6_init_42 ⟨Nat.le_of_ble_eq_true rfl, Nat.le_of_ble_eq_true rfl⟩) (k1 := 10) (k2 := 564) rfl rfl (fun q11 H locs hq12 hn_ => ?_)
  subst hq12
  have h := hn_
  clear hn_
  refine gputF hC h hin (C := RX6) (T := TX6) (N := 13) (wM_us uw_X6) (ty0 := tyX6) tyX6_ok nmX6 0 rfl rfl 3 (by decide) (wM_in fl_X6_35) rfl rfl rfl rfl (Nat.le_of_ble_eq_true rfl) (ws1 := (((([(b, .inr (6, [.ref (q2 0), .ref (q5 0), .ref (q8 0), .ref (q11 0), .null, .null, .null, .int 0, .int 0, .int 0, .int 0, .int 0, .int 0]))] ++ wl (eCells G) 4 q2 v0Cells) ++ wl (eLocks G) 1 q5 v0Locks) ++ wl (eRow G) 2 q8 v0Row) ++ wl (eWork G) 3 q11 v0Work)) rfl dX6_init_45 (fun H locs h => ?_)
  refine lv_aload_n hx hb dX6_init_48 rfl (lv_at hl 0 rfl) ?_
  refine gnew (ci := 7) (fs := [.int 0, .int 0, .int 0, .int 0, .int 0, .int 0, .int 0, .int 0, .null]) (C := RX7) (T := TX7) (N := 9) hC h (wM_us uw_X7) (ty0 := tyX7) tyX7_ok (wM_in cl_X6_32) (wM_in it_X7) (wM_in in_X7) rfl (fun j hj => by rcases (show j = 0 ∨ j = 1 ∨ j = 2 ∨ j = 3 ∨ j = 4 ∨ j = 5 ∨ j = 6 ∨ j = 7 ∨ j = 8 by omega) with rfl | rfl | rfl | rfl | rfl | rfl | rfl | rfl | rfl <;> rfl) (k1 := 11) (k2 := 573) rfl rfl (Nat.le_of_ble_eq_true rfl) (Nat.le_of_ble_eq_true rfl) dX6_init_49 (fun o13 H h => ?_)
  refine lv_dup hx hb dX6_init_52 rfl ?_
  refine gctor h (va_runIN (As := []) (rest := [.ref o13, .ref b]) hC (c_X7_init l G sa o13 H.size) (gcwN hC (fun _ h9 => wM_in h9) (h.2.2.2.1 _ nw_X6_34) in_X7 co_X7_init im_X7_init rfl rfl rfl dd_X7_init ⟨Nat.le_of_ble_eq_true rfl, Nat.le_of_ble_eq_true rfl⟩) (gpre h) rfl rfl hl.1 rfl (lv_room (Nat.le_of_ble_eq_true rfl)) dX6_init_53 ⟨Nat.le_of_ble_eq_true rfl, Nat.le_of_ble_eq_true rfl⟩) (k1 := 13) (k2 := 587) rfl rfl (fun q14 H locs hq15 hn_ => ?_)
  subst hq15
  have h := hn_
  clear hn_
  refine gputF hC h hin (C := RX6) (T := TX6) (N := 13) (wM_us uw_X6) (ty0 := tyX6) tyX6_ok nmX6 0 rfl rfl 4 (by decide) (wM_in fl_X6_39) rfl rfl rfl rfl (Nat.le_of_ble_eq_true rfl) (ws1 := ((((([(b, .inr (6, [.ref (q2 0), .ref (q5 0), .ref (q8 0), .ref (q11 0), .ref (q14 0), .null, .null, .int 0, .int 0, .int 0, .int 0, .int 0, .int 0]))] ++ wl (eCells G) 4 q2 v0Cells) ++ wl (eLocks G) 1 q5 v0Locks) ++ wl (eRow G) 2 q8 v0Row) ++ wl (eWork G) 3 q11 v0Work) ++ wl (eWork G) 3 q14 v0Work)) rfl dX6_init_56 (fun H locs h => ?_)
  refine lv_aload_n hx hb dX6_init_59 rfl (lv_at hl 0 rfl) ?_
  refine gnew (ci := 1) (fs := [.null, .int 0, .int 0]) (C := RX1) (T := TX1) (N := 3) hC h (wM_us uw_X1) (ty0 := tyX1) tyX1_ok (wM_in cl_X6_42) (wM_in it_X1) (wM_in in_X1) rfl (fun j hj => by rcases (show j = 0 ∨ j = 1 ∨ j = 2 by omega) with rfl | rfl | rfl <;> rfl) (k1 := 14) (k2 := 590) rfl rfl (Nat.le_of_ble_eq_true rfl) (Nat.le_of_ble_eq_true rfl) dX6_init_60 (fun o16 H h => ?_)
  refine lv_dup hx hb dX6_init_63 rfl ?_
  refine gctor h (va_runI (As := []) (rest := [.ref o16, .ref b]) hC (c_X1_init l G sa o16 H.size) (gcwI hC (fun _ h9 => wM_in h9) lk_X6_44 in_X1 co_X1_init im_X1_init rfl rfl rfl dd_X1_init ⟨Nat.le_of_ble_eq_true rfl, Nat.le_of_ble_eq_true rfl⟩) (gpre h) rfl rfl hl.1 rfl (lv_room (Nat.le_of_ble_eq_true rfl)) dX6_init_64 ⟨Nat.le_of_ble_eq_true rfl, Nat.le_of_ble_eq_true rfl⟩) (k1 := 45) (k2 := 800) rfl rfl (fun q17 H locs hq18 hn_ => ?_)
  subst hq18
  have h := hn_
  clear hn_
  refine gputF hC h hin (C := RX6) (T := TX6) (N := 13) (wM_us uw_X6) (ty0 := tyX6) tyX6_ok nmX6 0 rfl rfl 5 (by decide) (wM_in fl_X6_45) rfl rfl rfl rfl (Nat.le_of_ble_eq_true rfl) (ws1 := (((((([(b, .inr (6, [.ref (q2 0), .ref (q5 0), .ref (q8 0), .ref (q11 0), .ref (q14 0), .ref (q17 0), .null, .int 0, .int 0, .int 0, .int 0, .int 0, .int 0]))] ++ wl (eCells G) 4 q2 v0Cells) ++ wl (eLocks G) 1 q5 v0Locks) ++ wl (eRow G) 2 q8 v0Row) ++ wl (eWork G) 3 q11 v0Work) ++ wl (eWork G) 3 q14 v0Work) ++ wl (eLine G) 32 q17 v0Line)) rfl dX6_init_67 (fun H locs h => ?_)
  refine lv_aload_n hx hb dX6_init_70 rfl (lv_at hl 0 rfl) ?_
  refine ggs hC h (xfln h.2.2.2.2.2.2) dX6_init_71 ?_
  refine gclone hC h hl.1 (wM_in lk_clone) (wM_in sm_clone) (wM_in na_clone) (wM_in im_clone) (wM_in se_clone) (k1 := 46) (k2 := 805) rfl rfl (Nat.le_of_ble_eq_true rfl) (Nat.le_of_ble_eq_true rfl) ⟨Nat.le_of_ble_eq_true rfl, Nat.le_of_ble_eq_true rfl⟩ dX6_init_74 (fun a19 H h => ?_)
  refine gcast hC h (wM_in cl_X6_54) 46 rfl dX6_init_77 ?_
  refine gputF hC h hin (C := RX6) (T := TX6) (N := 13) (wM_us uw_X6) (ty0 := tyX6) tyX6_ok nmX6 0 rfl rfl 6 (by decide) (wM_in fl_X6_58) rfl rfl rfl rfl (Nat.le_of_ble_eq_true rfl) (ws1 := ((((((([(b, .inr (6, [.ref (q2 0), .ref (q5 0), .ref (q8 0), .ref (q11 0), .ref (q14 0), .ref (q17 0), .ref a19, .int 0, .int 0, .int 0, .int 0, .int 0, .int 0]))] ++ wl (eCells G) 4 q2 v0Cells) ++ wl (eLocks G) 1 q5 v0Locks) ++ wl (eRow G) 2 q8 v0Row) ++ wl (eWork G) 3 q11 v0Work) ++ wl (eWork G) 3 q14 v0Work) ++ wl (eLine G) 32 q17 v0Line) ++ [(a19, .inl (G.2 0, 5, .inl xs0))])) rfl dX6_init_80 (fun H locs h => ?_)
  refine lv_aload_n hx hb dX6_init_83 rfl (lv_at hl 0 rfl) ?_
  refine lv_iconst (v := (0 : Int32)) hx hb dX6_init_84 (by decide) ?_
  refine gput hC h (C := RX6) (T := TX6) (N := 13) (wM_us uw_X6) (ty0 := tyX6) tyX6_ok nmX6 0 rfl rfl 7 (by decide) (wM_in fl_X6_61) rfl rfl rfl (Nat.le_of_ble_eq_true rfl) (ws1 := ((((((([(b, .inr (6, [.ref (q2 0), .ref (q5 0), .ref (q8 0), .ref (q11 0), .ref (q14 0), .ref (q17 0), .ref a19, .int (0 : Int32), .int 0, .int 0, .int 0, .int 0, .int 0]))] ++ wl (eCells G) 4 q2 v0Cells) ++ wl (eLocks G) 1 q5 v0Locks) ++ wl (eRow G) 2 q8 v0Row) ++ wl (eWork G) 3 q11 v0Work) ++ wl (eWork G) 3 q14 v0Work) ++ wl (eLine G) 32 q17 v0Line) ++ [(a19, .inl (G.2 0, 5, .inl xs0))])) rfl dX6_init_85 (fun H locs h => ?_)
  refine lv_aload_n hx hb dX6_init_88 rfl (lv_at hl 0 rfl) ?_
  refine lv_iconst (v := (0 : Int32)) hx hb dX6_init_89 (by decide) ?_
  refine gput hC h (C := RX6) (T := TX6) (N := 13) (wM_us uw_X6) (ty0 := tyX6) tyX6_ok nmX6 0 rfl rfl 8 (by decide) (wM_in fl_X6_65) rfl rfl rfl (Nat.le_of_ble_eq_true rfl) (ws1 := ((((((([(b, .inr (6, [.ref (q2 0), .ref (q5 0), .ref (q8 0), .ref (q11 0), .ref (q14 0), .ref (q17 0), .ref a19, .int (0 : Int32), .int (0 : Int32), .int 0, .int 0, .int 0, .int 0]))] ++ wl (eCells G) 4 q2 v0Cells) ++ wl (eLocks G) 1 q5 v0Locks) ++ wl (eRow G) 2 q8 v0Row) ++ wl (eWork G) 3 q11 v0Work) ++ wl (eWork G) 3 q14 v0Work) ++ wl (eLine G) 32 q17 v0Line) ++ [(a19, .inl (G.2 0, 5, .inl xs0))])) rfl dX6_init_90 (fun H locs h => ?_)
  refine lv_aload_n hx hb dX6_init_93 rfl (lv_at hl 0 rfl) ?_
  refine lv_iconst (v := (0 : Int32)) hx hb dX6_init_94 (by decide) ?_
  refine gput hC h (C := RX6) (T := TX6) (N := 13) (wM_us uw_X6) (ty0 := tyX6) tyX6_ok nmX6 0 rfl rfl 9 (by decide) (wM_in fl_X6_69) rfl rfl rfl (Nat.le_of_ble_eq_true rfl) (ws1 := ((((((([(b, .inr (6, [.ref (q2 0), .ref (q5 0), .ref (q8 0), .ref (q11 0), .ref (q14 0), .ref (q17 0), .ref a19, .int (0 : Int32), .int (0 : Int32), .int (0 : Int32), .int 0, .int 0, .int 0]))] ++ wl (eCells G) 4 q2 v0Cells) ++ wl (eLocks G) 1 q5 v0Locks) ++ wl (eRow G) 2 q8 v0Row) ++ wl (eWork G) 3 q11 v0Work) ++ wl (eWork G) 3 q14 v0Work) ++ wl (eLine G) 32 q17 v0Line) ++ [(a19, .inl (G.2 0, 5, .inl xs0))])) rfl dX6_init_95 (fun H locs h => ?_)
  refine lv_aload_n hx hb dX6_init_98 rfl (lv_at hl 0 rfl) ?_
  refine lv_iconst (v := (0 : Int32)) hx hb dX6_init_99 (by decide) ?_
  refine gput hC h (C := RX6) (T := TX6) (N := 13) (wM_us uw_X6) (ty0 := tyX6) tyX6_ok nmX6 0 rfl rfl 10 (by decide) (wM_in fl_X6_72) rfl rfl rfl (Nat.le_of_ble_eq_true rfl) (ws1 := ((((((([(b, .inr (6, [.ref (q2 0), .ref (q5 0), .ref (q8 0), .ref (q11 0), .ref (q14 0), .ref (q17 0), .ref a19, .int (0 : Int32), .int (0 : Int32), .int (0 : Int32), .int (0 : Int32), .int 0, .int 0]))] ++ wl (eCells G) 4 q2 v0Cells) ++ wl (eLocks G) 1 q5 v0Locks) ++ wl (eRow G) 2 q8 v0Row) ++ wl (eWork G) 3 q11 v0Work) ++ wl (eWork G) 3 q14 v0Work) ++ wl (eLine G) 32 q17 v0Line) ++ [(a19, .inl (G.2 0, 5, .inl xs0))])) rfl dX6_init_100 (fun H locs h => ?_)
  refine lv_aload_n hx hb dX6_init_103 rfl (lv_at hl 0 rfl) ?_
  refine lv_iconst (v := (0 : Int32)) hx hb dX6_init_104 (by decide) ?_
  refine gput hC h (C := RX6) (T := TX6) (N := 13) (wM_us uw_X6) (ty0 := tyX6) tyX6_ok nmX6 0 rfl rfl 11 (by decide) (wM_in fl_X6_75) rfl rfl rfl (Nat.le_of_ble_eq_true rfl) (ws1 := ((((((([(b, .inr (6, [.ref (q2 0), .ref (q5 0), .ref (q8 0), .ref (q11 0), .ref (q14 0), .ref (q17 0), .ref a19, .int (0 : Int32), .int (0 : Int32), .int (0 : Int32), .int (0 : Int32), .int (0 : Int32), .int 0]))] ++ wl (eCells G) 4 q2 v0Cells) ++ wl (eLocks G) 1 q5 v0Locks) ++ wl (eRow G) 2 q8 v0Row) ++ wl (eWork G) 3 q11 v0Work) ++ wl (eWork G) 3 q14 v0Work) ++ wl (eLine G) 32 q17 v0Line) ++ [(a19, .inl (G.2 0, 5, .inl xs0))])) rfl dX6_init_105 (fun H locs h => ?_)
  refine lv_aload_n hx hb dX6_init_108 rfl (lv_at hl 0 rfl) ?_
  refine lv_iconst (v := (0 : Int32)) hx hb dX6_init_109 (by decide) ?_
  refine gput hC h (C := RX6) (T := TX6) (N := 13) (wM_us uw_X6) (ty0 := tyX6) tyX6_ok nmX6 0 rfl rfl 12 (by decide) (wM_in fl_X6_78) rfl rfl rfl (Nat.le_of_ble_eq_true rfl) (ws1 := ((((((([(b, .inr (6, [.ref (q2 0), .ref (q5 0), .ref (q8 0), .ref (q11 0), .ref (q14 0), .ref (q17 0), .ref a19, .int (0 : Int32), .int (0 : Int32), .int (0 : Int32), .int (0 : Int32), .int (0 : Int32), .int (0 : Int32)]))] ++ wl (eCells G) 4 q2 v0Cells) ++ wl (eLocks G) 1 q5 v0Locks) ++ wl (eRow G) 2 q8 v0Row) ++ wl (eWork G) 3 q11 v0Work) ++ wl (eWork G) 3 q14 v0Work) ++ wl (eLine G) 32 q17 v0Line) ++ [(a19, .inl (G.2 0, 5, .inl xs0))])) rfl dX6_init_110 (fun H locs h => ?_)
  exact gret hC hr hlk h (fun j => match j with | 0 => b | 1 => q2 0 | 2 => q2 1 | 3 => q2 2 | 4 => q2 3 | 5 => q5 0 | 6 => q8 0 | 7 => q8 1 | 8 => q11 0 | 9 => q11 1 | 10 => q11 2 | 11 => q14 0 | 12 => q14 1 | 13 => q14 2 | 14 => q17 0 | 15 => q17 1 | 16 => q17 2 | 17 => q17 3 | 18 => q17 4 | 19 => q17 5 | 20 => q17 6 | 21 => q17 7 | 22 => q17 8 | 23 => q17 9 | 24 => q17 10 | 25 => q17 11 | 26 => q17 12 | 27 => q17 13 | 28 => q17 14 | 29 => q17 15 | 30 => q17 16 | 31 => q17 17 | 32 => q17 18 | 33 => q17 19 | 34 => q17 20 | 35 => q17 21 | 36 => q17 22 | 37 => q17 23 | 38 => q17 24 | 39 => q17 25 | 40 => q17 26 | 41 => q17 27 | 42 => q17 28 | 43 => q17 29 | 44 => q17 30 | 45 => q17 31 | _ => a19) rfl (fun k => k) (bk (bk (bk (bk (bk (bk (bk (bk (bk (bk (bk (bk (bk (bk (bk (bk (bk (bk (bk (bk (bk (bk (bk (bk (bk (bk (bk (bk (bk (bk (bk (bk (bk (bk (bk (bk (bk (bk (bk (bk (bk (bk (bk (bk (bk (bk (bk bk0 rfl) rfl) rfl) rfl) rfl) rfl) rfl) rfl) rfl) rfl) rfl) rfl) rfl) rfl) rfl) (congrArg (fun f => some (q17 1, (Sum.inl (G.2 2, 10, .inr (.inr (.inr (.inr f)))) : va_E))) (varrQ (n := 10) (c := fun r => (v0Line 1 r).toNatClampNeg) (f := fun k => q17 (2 + 3 * k)) (g := fun k => sh 14 ((fun j => match j with | 0 => b | 1 => q2 0 | 2 => q2 1 | 3 => q2 2 | 4 => q2 3 | 5 => q5 0 | 6 => q8 0 | 7 => q8 1 | 8 => q11 0 | 9 => q11 1 | 10 => q11 2 | 11 => q14 0 | 12 => q14 1 | 13 => q14 2 | 14 => q17 0 | 15 => q17 1 | 16 => q17 2 | 17 => q17 3 | 18 => q17 4 | 19 => q17 5 | 20 => q17 6 | 21 => q17 7 | 22 => q17 8 | 23 => q17 9 | 24 => q17 10 | 25 => q17 11 | 26 => q17 12 | 27 => q17 13 | 28 => q17 14 | 29 => q17 15 | 30 => q17 16 | 31 => q17 17 | 32 => q17 18 | 33 => q17 19 | 34 => q17 20 | 35 => q17 21 | 36 => q17 22 | 37 => q17 23 | 38 => q17 24 | 39 => q17 25 | 40 => q17 26 | 41 => q17 27 | 42 => q17 28 | 43 => q17 29 | 44 => q17 30 | 45 => q17 31 | _ => a19) : Nat → Nat) (2 + 3 * k)) (bk (bk (bk (bk (bk (bk (bk (bk (bk (bk bk0 rfl) rfl) rfl) rfl) rfl) rfl) rfl) rfl) rfl) rfl)))) rfl) rfl) rfl) rfl) rfl) rfl) rfl) rfl) rfl) rfl) rfl) rfl) rfl) rfl) rfl) rfl) rfl) rfl) rfl) rfl) rfl) rfl) rfl) rfl) rfl) rfl) rfl) rfl) rfl) rfl) rfl) (fun i j _ _ h9 => h9) rfl rfl dX6_init_113
