theorem un1_e {α β : Type} {f : α → β} {a : α} {z : β} (h : un1 f a = z) : f a = z := h
theorem un2_e {α β γ : Type} {f : α → β → γ} {a : α} {b : β} {z : γ} (h : un2 f (a, b) = z) : f a b = z := h
theorem un3_e {α β γ δ : Type} {f : α → β → γ → δ} {a : α} {b : β} {c : γ} {z : δ} (h : un3 f (a, b, c) = z) : f a b c = z := h
theorem un4_e {α β γ δ ε : Type} {f : α → β → γ → δ → ε} {a : α} {b : β} {c : γ} {d : δ} {z : ε} (h : un4 f (a, b, c, d) = z) : f a b c d = z := h
theorem un5_e {α β γ δ ε ζ : Type} {f : α → β → γ → δ → ε → ζ} {a : α} {b : β} {c : γ} {d : δ} {e : ε} {z : ζ} (h : un5 f (a, b, c, d, e) = z) : f a b c d e = z := h
theorem xne {x y : Int32} {k : Int} (hk : y.toInt = k) (c : ¬ x = y) : x.toInt ≠ k := fun h => c (Int32.toInt_inj.mp (h.trans hk.symm))
theorem xchr {x : Int32} (h : 0 ≤ x ∧ x < 65536) : narrow .char (.int x) = .int x ∧ fits .char (.int x) = true ∧ vp_nar .char x = x := by
  obtain ⟨k, hk, rfl⟩ := nI_of (x := x) (by
    intro h2
    have h1 := Int32.le_iff_toInt_le.mp h.1
    have h3 := Int32.lt_iff_toInt_lt.mp h2
    omega)
  have hk2 : k < 65536 := by
    have h1 := Int32.lt_iff_toInt_lt.mp h.2
    rw [nI_toInt hk] at h1
    have : (65536 : Int32).toInt = 65536 := by decide
    omega
  have h1 := pk_charN hk2
  refine ⟨h1.1, h1.2, ?_⟩
  unfold vp_nar
  rw [h1.1]
theorem s_int0 {G : xGl} {N : Nat} {q : Nat → Nat} : ∀ i, i < 1 → ∀ z, eInt G N q (0 + i) z = eInt G N (sh 0 q) i z := fun _ _ _ => rfl
theorem pu_one {b : Nat} {v : xSt} {f : Nat → Int32} {w : xSt} (h : w 0 = f) : pu b 1 v w = va_up v b f := by
  funext j
  unfold pu va_up
  by_cases hj : j = b
  · subst hj
    rw [if_pos ⟨Nat.le_refl _, Nat.lt_succ_self _⟩, if_pos rfl, Nat.sub_self]
    exact h
  · rw [if_neg (by omega), if_neg hj]
section XD
variable {p : Program} {l : Launch} {e : Env} {R : Room} {s : State} {m : MethodId} {args : Array Value} {below : List Frame} {meth : Method} {c : Code} {H : Heap} {locs : List Loc} {cells slots : Nat} {Q : State → Prop}
variable {cc : ByteArray} {nL pcc : Nat} {ls : Array Slot} {rest st0 : List Value} {Ts : List Cond} {own : String} {G : xGl} {E E' : xLay} {n n' : Nat} {q : Nat → Nat} {v w : xSt} {A : Nat → Prop}
theorem xaldo (hC : CallFix p m c cc nL s args Ts own) (h : ho G E n q v A s H locs) (j : Nat) (hj : j < n) {B : Nat → Nat} (he : E q j (v j) = .inl (G.2 2, 10, .inr (.inr (.inr (.inr (fun r => if (v j r).toNatClampNeg < 10 then some (q (B (v j r).toNatClampNeg)) else none)))))) {i : Int32} (hin : vp_in i 10) {k : Nat} (ek : k = (v j i.toNatClampNeg).toNatClampNeg) (hk : k < 10) (hdg : decode cc pcc = .ok (.aaload, 1))
    (kk : W p l e R s m args below meth c H locs cells slots Q (F0 m (pcc + 1) ls (.ref (q (B k)) :: rest))) : W p l e R s m args below meth c H locs cells slots Q (F0 m pcc ls (.int i :: .ref (q j) :: rest)) := by
  refine va_aldq (D := G.1) (tys := xtys G) hC.1 hC.2.1 h.2.1 h.1 j 2 (wl_eq hj he) rfl hin hdg ?_
  rw [← ek, if_pos hk]
  exact kk
theorem xalds (hC : CallFix p m c cc nL s args Ts own) (h : ho G E n q v A s H locs) (j : Nat) (hj : j < n) {B : Nat → Nat} (he : E q j (v j) = .inl (G.2 3, 6, .inr (.inr (.inr (.inr (fun r => if (v j r).toNatClampNeg < 6 then some (q (B (v j r).toNatClampNeg)) else none)))))) {i : Int32} (hin : vp_in i 6) {k : Nat} (ek : k = (v j i.toNatClampNeg).toNatClampNeg) (hk : k < 6) (hdg : decode cc pcc = .ok (.aaload, 1))
    (kk : W p l e R s m args below meth c H locs cells slots Q (F0 m (pcc + 1) ls (.ref (q (B k)) :: rest))) : W p l e R s m args below meth c H locs cells slots Q (F0 m pcc ls (.int i :: .ref (q j) :: rest)) := by
  refine va_aldq (D := G.1) (tys := xtys G) hC.1 hC.2.1 h.2.1 h.1 j 3 (wl_eq hj he) rfl hin hdg ?_
  rw [← ek, if_pos hk]
  exact kk
theorem xref {N : Nat} (hN : N < 2 ^ 31) {q : Nat → Nat} {B : Nat → Nat} {f : Nat → Int32} {i k : Nat} (hk : k < N) : va_up (fun r => if (f r).toNatClampNeg < N then some (q (B (f r).toNatClampNeg)) else none) i (some (q (B k))) = fun r => if (va_up f i (nI k) r).toNatClampNeg < N then some (q (B (va_up f i (nI k) r).toNatClampNeg)) else none := by
  funext r
  by_cases hr : r = i
  · subst hr
    rw [va_up_self, va_up_self, nI_clamp (by omega), if_pos hk]
  · rw [va_up_ne _ _ hr, va_up_ne _ _ hr]
theorem xasto (hC : CallFix p m c cc nL s args Ts own) (h : hg G E n q v A s H locs) (j : Nat) (hj : j < n) {B : Nat → Nat} (he : ∀ z, E q j z = .inl (G.2 2, 10, .inr (.inr (.inr (.inr (fun r => if (z r).toNatClampNeg < 10 then some (q (B (z r).toNatClampNeg)) else none)))))) {k : Nat} (hk : k < 10) (hjk : B k < n) {vs : List Value} (hx : E q (B k) (v (B k)) = .inr (3, vs)) {i : Int32} (hin : vp_in i 10) (hdg : decode cc pcc = .ok (.aastore, 1))
    (kk : ∀ (H1 : Heap) (locs1 : List Loc), hg G E n q (st2 v j i.toNatClampNeg (nI k)) A s H1 locs1 → W p l e R s m args below meth c H1 locs1 cells slots Q (F0 m (pcc + 1) ls rest)) : W p l e R s m args below meth c H locs cells slots Q (F0 m pcc ls (.ref (q (B k)) :: .int i :: .ref (q j) :: rest)) := by
  refine va_astq (D := G.1) (tys := xtys G) (r := (RX3, TX3, 6)) hC.1 hC.2.1 h.1.2.1 h.1.1 h.2 h.1.2.2.1 j 2 (B k) 3 (wl_eq hj (he _)) rfl (wl_eq hjk hx) rfl hin hdg (fun H1 locs1 hP hD hS => ?_)
  rw [xref (by decide) hk] at hP hD
  have e := wl_set (E := E) (n := n) (q := q) (v := v) (s' := va_up (v j) i.toNatClampNeg (nI k)) hj (he _)
  exact kk H1 locs1 ⟨⟨by rw [show st2 v j i.toNatClampNeg (nI k) = va_up v j (va_up (v j) i.toNatClampNeg (nI k)) from rfl, ← e]; exact hP, h.1.2.1, hS, h.1.2.2.2.1, h.1.2.2.2.2⟩, by rw [show st2 v j i.toNatClampNeg (nI k) = va_up v j (va_up (v j) i.toNatClampNeg (nI k)) from rfl, ← e]; exact hD⟩
theorem xasts (hC : CallFix p m c cc nL s args Ts own) (h : hg G E n q v A s H locs) (j : Nat) (hj : j < n) {B : Nat → Nat} (he : ∀ z, E q j z = .inl (G.2 3, 6, .inr (.inr (.inr (.inr (fun r => if (z r).toNatClampNeg < 6 then some (q (B (z r).toNatClampNeg)) else none)))))) {k : Nat} (hk : k < 6) (hjk : B k < n) {vs : List Value} (hx : E q (B k) (v (B k)) = .inr (6, vs)) {i : Int32} (hin : vp_in i 6) (hdg : decode cc pcc = .ok (.aastore, 1))
    (kk : ∀ (H1 : Heap) (locs1 : List Loc), hg G E n q (st2 v j i.toNatClampNeg (nI k)) A s H1 locs1 → W p l e R s m args below meth c H1 locs1 cells slots Q (F0 m (pcc + 1) ls rest)) : W p l e R s m args below meth c H locs cells slots Q (F0 m pcc ls (.ref (q (B k)) :: .int i :: .ref (q j) :: rest)) := by
  refine va_astq (D := G.1) (tys := xtys G) (r := (RX6, TX6, 13)) hC.1 hC.2.1 h.1.2.1 h.1.1 h.2 h.1.2.2.1 j 3 (B k) 6 (wl_eq hj (he _)) rfl (wl_eq hjk hx) rfl hin hdg (fun H1 locs1 hP hD hS => ?_)
  rw [xref (by decide) hk] at hP hD
  have e := wl_set (E := E) (n := n) (q := q) (v := v) (s' := va_up (v j) i.toNatClampNeg (nI k)) hj (he _)
  exact kk H1 locs1 ⟨⟨by rw [show st2 v j i.toNatClampNeg (nI k) = va_up v j (va_up (v j) i.toNatClampNeg (nI k)) from rfl, ← e]; exact hP, h.1.2.1, hS, h.1.2.2.2.1, h.1.2.2.2.2⟩, by rw [show st2 v j i.toNatClampNeg (nI k) = va_up v j (va_up (v j) i.toNatClampNeg (nI k)) from rfl, ← e]; exact hD⟩
/-- System.arraycopy of the first n ints of one row of a world to another -/
theorem xacpy {index : Nat} (hC : CallFix p m c cc nL s args Ts own) (h : hg G E n q v A s H locs) (hlink : (Cond.methodLink own index arraycopyName).before args s = true) (hnat : (Cond.native arraycopyName).before args s = true) (hstat : (Cond.static arraycopyName).before args s = true) (hini : (Cond.initialized "java/lang/System").before args s = true) (hml : c.maxLocals = ls.size) (j0 j1 : Nat) (hj0 : j0 < n) (hj1 : j1 < n) {N0 N : Nat} (he0 : E q j0 (v j0) = .inl (G.2 0, N0, .inl (v j0))) (he1 : ∀ z, E q j1 z = .inl (G.2 0, N, .inl z)) {k : Int32} (hn : 0 ≤ k ∧ k.toNatClampNeg ≤ N ∧ k.toNatClampNeg ≤ N0) (hframes : 1 ≤ R.frames) (hlocals : (rest.map fun v => v.category).sum + (nativeFrameWords "java/lang/System" "arraycopy" 5 + 11) ≤ R.locals) (hdg : decode cc pcc = .ok (.invokestatic index, 3))
    (kk : ∀ (H1 : Heap) (locs1 : List Loc), hg G E n q (va_up v j1 (va_cpy (v j0) (v j1) 0 0 k.toNatClampNeg)) A s H1 locs1 → W p l e R s m args below meth c H1 locs1 cells slots Q (F0 m (pcc + 3) ls rest)) : W p l e R s m args below meth c H locs cells slots Q (F0 m pcc ls (.int k :: .int 0 :: .ref (q j1) :: .int 0 :: .ref (q j0) :: rest)) := by
  have h3 : ¬ k < 0 := by
    intro h2
    have h1 := Int32.le_iff_toInt_le.mp hn.1
    have h3 := Int32.lt_iff_toInt_lt.mp h2
    omega
  refine va_copyi (D := G.1) (tys := xtys G) (ty := .int) hC.1 hC.2.1 hml hC.2.2.2.1 hlink hnat hstat hini h.1.2.1 h.1.1 h.2 h.1.2.2.1 j0 j1 0 0 (wl_eq hj0 he0) (wl_eq hj1 (he1 _)) rfl rfl rfl (by decide) (by decide) h3 (by rw [show (0 : Int32).toNatClampNeg = 0 from rfl, Nat.zero_add]; exact hn.2.2) (by rw [show (0 : Int32).toNatClampNeg = 0 from rfl, Nat.zero_add]; exact hn.2.1) (fun _ _ => rfl) hframes hlocals hdg (fun H1 locs1 hP hD hS => ?_)
  have e := wl_set (E := E) (n := n) (q := q) (v := v) (s' := va_cpy (v j0) (v j1) 0 0 k.toNatClampNeg) hj1 (he1 _)
  exact kk H1 locs1 ⟨⟨by rw [← e]; exact hP, h.1.2.1, hS, h.1.2.2.2.1, h.1.2.2.2.2⟩, by rw [← e]; exact hD⟩
end XD
theorem locInt {G : xGl} {N : Nat} : ∀ (q q' : Nat → Nat), (∀ j, j < 1 → q j = q' j) → ∀ i, i < 1 → ∀ z, eInt G N q i z = eInt G N q' i z := fun _ _ _ _ _ _ => rfl
theorem preS2 {s : State} {H : Heap} {locs : List Loc} {G : xGl} {E : xLay} {n : Nat} {q : Nat → Nat} {v : xSt} {A : Nat → Prop} (h : hg G E n q v A s H locs) (b1 n1 b2 n2 : Nat) {E' : xLay} (hE1 : ∀ i, i < n1 → ∀ z, E q (b1 + i) z = E' (ct n1 (sh b1 q) (sh b2 q)) i z) (hE2 : ∀ i, i < n2 → ∀ z, E q (b2 + i) z = E' (ct n1 (sh b1 q) (sh b2 q)) (n1 + i) z) (hb1 : b1 + n1 ≤ n) (hb2 : b2 + n2 ≤ n) (hap : b1 + n1 ≤ b2 ∨ b2 + n2 ≤ b1) (As : List Value) : PreS s H (va_Pc As (cP G E' (n1 + n2) (ct n1 (sh b1 q) (sh b2 q)) (ct n1 (sh b1 v) (sh b2 v)) H.size)) As :=
  ⟨blindP, fun U hU hW => ⟨rfl, by rw [hU], by rw [hU]; exact wl_sub2 h.1.1 hb1 hb2 hE1 hE2, xK.warm hW ⟨h.1.2.1, h.1.2.2.2.1⟩, wl_sub2D h.2 hb1 hb2 hap (fun _ _ => trivial)⟩⟩
section XE
variable {p : Program} {l : Launch} {e : Env} {R : Room} {s : State} {m : MethodId} {args : Array Value} {below : List Frame} {meth : Method} {c : Code} {H : Heap} {locs : List Loc} {cells slots : Nat} {Q : State → Prop}
variable {cc : ByteArray} {nL pcc : Nat} {ls : Array Slot} {rest st0 : List Value} {Ts : List Cond} {own : String} {G : xGl} {E E' : xLay} {n n' : Nat} {q : Nat → Nat} {v w : xSt} {A : Nat → Prop}
theorem preVp (h : hg G E n q v A s H locs) (n' : Nat) {E' : xLay} (hE : ∀ i, i < n' → ∀ z, E q (0 + i) z = E' (sh 0 q) i z) (hb : 0 + n' ≤ n) (hbn : 0 < n) {ci : Nat} {fs : List Value} {C : String} {T : u_T} {N : Nat} (he : E q 0 (v 0) = .inr (ci, fs)) (hc : vwCl[ci]? = some (C, T, N)) (As : List Value) : PreV s H C (q 0) (va_Pc (.ref (q 0) :: As) (cP G E' n' q v H.size)) As := by
  have := preV1 h 0 n' hE hb hbn he hc As
  simp only [sh_0] at this
  exact this
theorem preVOp (h : ho G E n q v A s H locs) (n' : Nat) {E' : xLay} (hE : ∀ i, i < n' → ∀ z, E q (0 + i) z = E' (sh 0 q) i z) (hb : 0 + n' ≤ n) (hbn : 0 < n) {ci : Nat} {fs : List Value} {C : String} {T : u_T} {N : Nat} (he : E q 0 (v 0) = .inr (ci, fs)) (hc : vwCl[ci]? = some (C, T, N)) (As : List Value) : PreV s H C (q 0) (va_Pc (.ref (q 0) :: As) (cO G E' n' q v H.size)) As := by
  have := preVO h 0 n' hE hb hbn he hc As
  simp only [sh_0] at this
  exact this
theorem xip (h : hg G E n q v A s H locs) (n' : Nat) {E' : xLay} (hE : ∀ i, i < n' → ∀ z, E q (0 + i) z = E' (sh 0 q) i z) (hb : 0 + n' ≤ n) {r : Int32} {a : Array Value} (hr : va_Run p l e R s m args below meth c H locs cells slots 0 0 (F0 m pcc ls st0) rest (qI r (cB G E' n' q w (cA E' n' q v H.size)) (cA E' n' q v H.size) a) (cA E' n' q v H.size))
    (kk : ∀ (H1 : Heap) (locs1 : List Loc), hg G E n q (pu 0 n' v w) A s H1 locs1 → W p l e R s m args below meth c H1 locs1 cells slots Q (F0 m (pcc + 3) ls (.int r :: rest))) : W p l e R s m args below meth c H locs cells slots Q (F0 m pcc ls st0) :=
  xi1 h 0 n' hE hb (by simp only [sh_0]; exact hr) kk
theorem xzp (h : hg G E n q v A s H locs) (n' : Nat) {E' : xLay} (hE : ∀ i, i < n' → ∀ z, E q (0 + i) z = E' (sh 0 q) i z) (hb : 0 + n' ≤ n) {r : Int32} {a : Array Value} (hr : va_Run p l e R s m args below meth c H locs cells slots 0 0 (F0 m pcc ls st0) rest (qZ r (cB G E' n' q w (cA E' n' q v H.size)) (cA E' n' q v H.size) a) (cA E' n' q v H.size))
    (kk : ∀ (H1 : Heap) (locs1 : List Loc), r = 0 ∨ r = 1 → hg G E n q (pu 0 n' v w) A s H1 locs1 → W p l e R s m args below meth c H1 locs1 cells slots Q (F0 m (pcc + 3) ls (.int r :: rest))) : W p l e R s m args below meth c H locs cells slots Q (F0 m pcc ls st0) :=
  xz1 h 0 n' hE hb (by simp only [sh_0]; exact hr) kk
theorem xvp (h : hg G E n q v A s H locs) (n' : Nat) {E' : xLay} (hE : ∀ i, i < n' → ∀ z, E q (0 + i) z = E' (sh 0 q) i z) (hb : 0 + n' ≤ n)  {a : Array Value} (hr : va_Run p l e R s m args below meth c H locs cells slots 0 0 (F0 m pcc ls st0) rest (qV (cB G E' n' q w (cA E' n' q v H.size)) (cA E' n' q v H.size) a) (cA E' n' q v H.size))
    (kk : ∀ (H1 : Heap) (locs1 : List Loc), hg G E n q (pu 0 n' v w) A s H1 locs1 → W p l e R s m args below meth c H1 locs1 cells slots Q (F0 m (pcc + 3) ls rest)) : W p l e R s m args below meth c H locs cells slots Q (F0 m pcc ls st0) :=
  xv1 h 0 n' hE hb (by simp only [sh_0]; exact hr) kk
theorem xlp (h : hg G E n q v A s H locs) (n' : Nat) {E' : xLay} (hE : ∀ i, i < n' → ∀ z, E q (0 + i) z = E' (sh 0 q) i z) (hb : 0 + n' ≤ n) {r : Int64} {a : Array Value} (hr : va_Run p l e R s m args below meth c H locs cells slots 0 0 (F0 m pcc ls st0) rest (qL r (cB G E' n' q w (cA E' n' q v H.size)) (cA E' n' q v H.size) a) (cA E' n' q v H.size))
    (kk : ∀ (H1 : Heap) (locs1 : List Loc), hg G E n q (pu 0 n' v w) A s H1 locs1 → W p l e R s m args below meth c H1 locs1 cells slots Q (F0 m (pcc + 3) ls (.long r :: rest))) : W p l e R s m args below meth c H locs cells slots Q (F0 m pcc ls st0) :=
  xl1 h 0 n' hE hb (by simp only [sh_0]; exact hr) kk
theorem xqp (h : hg G E n q v A s H locs) (n' : Nat) {E' : xLay} (hE : ∀ i, i < n' → ∀ z, E q (0 + i) z = E' (sh 0 q) i z) (hb : 0 + n' ≤ n) {r : Option Nat} {a : Array Value} (hr : va_Run p l e R s m args below meth c H locs cells slots 0 0 (F0 m pcc ls st0) rest (qQ r (cB G E' n' q w (cA E' n' q v H.size)) (cA E' n' q v H.size) a) (cA E' n' q v H.size))
    (kk : ∀ (H1 : Heap) (locs1 : List Loc), hg G E n q (pu 0 n' v w) A s H1 locs1 → W p l e R s m args below meth c H1 locs1 cells slots Q (F0 m (pcc + 3) ls (va_rf r :: rest))) : W p l e R s m args below meth c H locs cells slots Q (F0 m pcc ls st0) :=
  xq1 h 0 n' hE hb (by simp only [sh_0]; exact hr) kk
end XE
