/-! THE METHODS, both sides: keep to order -/
theorem MN_b {B B' : Nat} {a b : Option (Int32 × xSt)} (h : MN B a b) (hB : B ≤ B') : MN B' a b := by
  obtain ⟨z, v', w', h1, h2, h3, h4⟩ := h
  exact ⟨z, v', w', h1, h2, h3, RBC_b h4 hB⟩
/-- the array of the reference is copied whole -/
theorem r_cp {N M p q : Nat} {u : xSt} {a b : Nat} (hp : p + 797 ≤ N) (hq : q + 797 ≤ M) (hN : N < 100000) (hM : M < 100000) (hab : a ≠ b) : ∃ u', ob (m_X9_copies N M (ct 1 (sh a u) (sh b u)) (nI p) (nI q)) (fun r => some (pu b 1 (pu a 1 u r) (sh 1 r))) = some u' ∧ (∀ j, j ≠ b → u' j = u j) ∧ u' b = fl (u b) q 797 (fun k => u a (p + k)) := by
  rw [r_copies hp hq hN hM]
  simp only [q_ob]
  refine ⟨_, rfl, fun j hj => ?_, ?_⟩
  · rw [pu_o (by omega)]
    by_cases c : j = a
    · subst c
      rw [pu_i (by omega) (by omega), Nat.sub_self, va_up_ne _ _ (by omega)]
      rfl
    · rw [pu_o (by omega)]
  · rw [pu_i (by omega) (by omega), Nat.sub_self, sh_e, va_up_self]
    rfl
theorem RR_cp {B : Nat} {v : xSt} {σ τ : Nat → Int32} (H : RR B v σ) (g : ∀ k, k < 797 → τ k = σ k) : RR B v τ := ⟨R0_s H.1 (fun k hk _ => g k hk), by rw [g 561 (by omega)]; exact H.2⟩
theorem b_keep {B : Nat} {v w : xSt} (H : RBC B v w) : MN B (m_X8_keep v) (m_X9_keep w) := by
  obtain ⟨h1, h2, ⟨h, g1, g2, g3, g4, g5⟩, h4, h5⟩ := id H
  obtain ⟨r, hr, r1, r2⟩ := s_become (B := B) (c := ct 47 (sh 101 v) (sh 7 v)) (σ := w 1) (SH_c g4 rfl) (RR_v h1 (fun j hj => by rw [sh_e, ct_h (by omega), sh_e, sh_e]; exact congrArg v (by omega)))
  obtain ⟨u, e1, e2, e3⟩ := r_cp (N := 797) (M := 797) (p := 0) (q := 0) (u := st2 w 0 8 0) (a := 1) (b := 4) (by omega) (by omega) (by omega) (by omega) (by omega)
  obtain ⟨v3, hv3⟩ : ∃ v3, v3 = pu 7 47 (pu 101 47 v r) (sh 47 r) := ⟨_, rfl⟩
  have k3 : ∀ j, v3 j = if 101 ≤ j ∧ j < 148 then r (j - 101) else v j := by
    intro j
    rw [hv3]
    by_cases c : 7 ≤ j ∧ j < 7 + 47
    · rw [pu_i c.1 c.2, sh_e, r2 _ (by omega), ct_h (by omega), sh_e, if_neg (by omega)]
      exact congrArg v (by omega)
    · rw [pu_o (by omega)]
      by_cases c2 : 101 ≤ j ∧ j < 101 + 47
      · rw [pu_i c2.1 c2.2, if_pos (by omega)]
      · rw [pu_o (by omega), if_neg (by omega)]
  have hu4 : ∀ k, k < 797 → u 4 k = w 1 k := by
    intro k hk
    rw [e3, fl_i (by omega) (by omega), w1_1]
    exact congrArg _ (by omega)
  refine ⟨w 1 561, st2 v3 0 3 1, st2 u 0 5 1, ?_, ?_, ?_, ?_⟩
  · unfold m_X8_keep
    rw [hr]
    simp only [q_ob, q_lt]
    rw [← hv3, q_sn (by omega), k3 7, if_neg (by omega)]
    exact congrArg some (congrArg (·, _) h1.2)
  · unfold m_X9_keep
    simp only [q_lt]
    have e1' : ob (m_X9_copies 797 797 (ct 1 (sh 1 (st2 w 0 8 0)) (sh 4 (st2 w 0 8 0))) (0 : Int32) (0 : Int32)) (fun r => some (pu 4 1 (pu 1 1 (st2 w 0 8 0) r) (sh 1 r))) = some u := e1
    cases hc : m_X9_copies 797 797 (ct 1 (sh 1 (st2 w 0 8 0)) (sh 4 (st2 w 0 8 0))) (0 : Int32) (0 : Int32) with
    | none => rw [hc] at e1'; cases e1'
    | some x =>
      rw [hc] at e1'
      simp only [q_ob] at e1' ⊢
      rw [Option.some.inj e1', kn561, kc561, q_sn (by omega), e2 1 (by omega), w1_1]
  · rw [q_ss, va_up_ne _ _ (by omega), e2 0 (by omega), w1_8]
  · have hv : ∀ j, j ≠ 0 → (j < 101 ∨ 148 ≤ j) → (st2 v3 0 3 1) j = v j := by
      intro j j0 j1
      rw [q_sn j0, k3, if_neg (by omega)]
    have hv0 : ∀ k, k ≠ 3 → (st2 v3 0 3 1) 0 k = v 0 k := by
      intro k hk
      rw [q_ss, va_up_ne _ _ hk, k3, if_neg (by omega)]
    have hw : ∀ j, j ≠ 0 → j ≠ 4 → (st2 u 0 5 1) j = w j := by
      intro j j0 j4
      rw [q_sn j0, e2 j j4, q_sn j0]
    have hw0 : ∀ k, k ≠ 5 → k ≠ 8 → (st2 u 0 5 1) 0 k = w 0 k := by
      intro k k5 k8
      rw [q_ss, va_up_ne _ _ k5, e2 0 (by omega), q_ss, va_up_ne _ _ k8]
    obtain ⟨n, n1, n2, n3, h4⟩ := h4
    refine ⟨?_, SH_c h2 (hv 69 (by omega) (by omega)), ⟨1, by omega, by rw [q_ss, va_up_self]; rfl, by rw [q_ss, va_up_self]; rfl, ?_, fun _ => ?_⟩, ⟨n, n1, by rw [hv0 5 (by omega)]; exact n2, by rw [hw0 3 (by omega) (by omega)]; exact n3, RSv_c h4 n1 (Nat.le_refl _) (fun j j1 j2 => hv j (by omega) (by omega)) (hv 1 (by omega) (by omega)) (hw 3 (by omega) (by omega))⟩, RTx_c h5 (hv 2 (by omega) (by omega)) (hv0 7 (by omega)) (hw 5 (by omega) (by omega)) (hw0 7 (by omega) (by omega))⟩
    · rw [hw 1 (by omega) (by omega)]
      exact RR_v h1 (fun j hj => hv (7 + j) (by omega) (by omega))
    · refine SH_c (RR_sh r1) ?_
      show (st2 v3 0 3 1) 116 = _
      rw [q_sn (by omega), k3, if_pos (by omega)]
    · refine RR_v (v := r) (RR_cp r1 (fun k hk => ?_)) (fun j hj => ?_)
      · rw [q_sn (by omega), hu4 k hk]
      · rw [sh_e, q_sn (by omega), k3, if_pos (by omega)]
        exact congrArg r (by omega)
theorem b_goBack {B : Nat} {v w : xSt} (H : RBC B v w) : MN B (m_X8_goBack_n v) (m_X9_goBack w) ∨ MT B (m_X8_goBack_t v) xISE 1 (m_X9_goBack w) := by
  obtain ⟨h, g1, g2, g3, g4, g5⟩ := id H.2.2.1
  have w05 : (st2 w 0 8 0) 0 5 = nI h := by rw [q_ss, va_up_ne _ _ (by omega)]; exact g3
  rcases (show h = 0 ∨ h = 1 by omega) with rfl | rfl
  · right
    refine MT_f H ?_ ?_
    · unfold m_X8_goBack_t
      rw [if_pos (show v 0 3 = 0 from g2)]
    · unfold m_X9_goBack
      simp only [q_lt]
      rw [if_pos (show (st2 w 0 8 0) 0 5 = 0 from w05)]
  · left
    obtain ⟨v1, w1, e1, e2, HR, f1, f2, f3, f4⟩ := s_save (RBC_1 (x := 0) H)
    have HK : RR B (sh 101 v1) (w1 4) := by
      rw [f3 4 (by omega) (by omega)]
      have : (st2 w 0 8 0) 4 = w 4 := q_sn (by omega)
      rw [this]
      exact RR_v (g5 rfl) (fun j hj => by rw [sh_e, sh_e, f1 _ (by omega) (by omega)])
    obtain ⟨r, hr, r1, r2⟩ := s_become (B := B) (c := ct 47 (sh 7 v1) (sh 101 v1)) (σ := w1 4) (SH_c (RR_sh HR.1) rfl) (RR_v HK (fun j hj => by rw [sh_e, ct_h (by omega), sh_e, sh_e]; exact congrArg v1 (by omega)))
    obtain ⟨u, c1, c2, c3⟩ := r_cp (N := 797) (M := 797) (p := 0) (q := 0) (u := w1) (a := 4) (b := 1) (by omega) (by omega) (by omega) (by omega) (by omega)
    obtain ⟨v3, hv3⟩ : ∃ v3, v3 = pu 101 47 (pu 7 47 v1 r) (sh 47 r) := ⟨_, rfl⟩
    have k3 : ∀ j, v3 j = if 7 ≤ j ∧ j < 54 then r (j - 7) else v1 j := by
      intro j
      rw [hv3]
      by_cases c : 101 ≤ j ∧ j < 101 + 47
      · rw [pu_i c.1 c.2, sh_e, r2 _ (by omega), ct_h (by omega), sh_e, if_neg (by omega)]
        exact congrArg v1 (by omega)
      · rw [pu_o (by omega)]
        by_cases c2 : 7 ≤ j ∧ j < 7 + 47
        · rw [pu_i c2.1 c2.2, if_pos (by omega)]
        · rw [pu_o (by omega), if_neg (by omega)]
    have hu1 : ∀ k, k < 797 → u 1 k = w1 4 k := by
      intro k hk
      rw [c3, fl_i (by omega) (by omega)]
      exact congrArg _ (by omega)
    refine ⟨w1 4 561, v3, u, ?_, ?_, ?_, RBC_now HR (Nat.le_refl _) (fun j j1 j2 => by rw [k3, if_neg (by omega)]) (fun k hk => by rw [k3, if_neg (by omega)]) (fun j j1 j2 => c2 j (by omega)) (fun k hk => by rw [c2 0 (by omega)]) (RR_v (v := r) (RR_cp r1 hu1) (fun j hj => by rw [sh_e, k3, if_pos (by omega)]; exact congrArg r (by omega)))⟩
    · unfold m_X8_goBack_n
      rw [if_neg (show ¬ v 0 3 = 0 by rw [g2]; decide), e1]
      simp only [q_ob]
      rw [hr]
      simp only [q_ob, q_lt]
      rw [← hv3, k3 7, if_pos (by omega)]
      exact congrArg some (congrArg (·, _) r1.2)
    · unfold m_X9_goBack
      simp only [q_lt]
      rw [if_neg (show ¬ (st2 w 0 8 0) 0 5 = 0 by rw [w05]; decide), e2]
      simp only [q_ob]
      have c1' : ob (m_X9_copies 797 797 (ct 1 (sh 4 w1) (sh 1 w1)) (0 : Int32) (0 : Int32)) (fun r => some (pu 1 1 (pu 4 1 w1 r) (sh 1 r))) = some u := c1
      cases hc : m_X9_copies 797 797 (ct 1 (sh 4 w1) (sh 1 w1)) (0 : Int32) (0 : Int32) with
      | none => rw [hc] at c1'; cases c1'
      | some x =>
        rw [hc] at c1'
        simp only [q_ob] at c1' ⊢
        rw [Option.some.inj c1', kn561, kc561, hu1 561 (by omega)]
    · rw [c2 0 (by omega), f4 8 (by omega), w1_8]
theorem b_undo {B : Nat} {v w : xSt} (H : RBC B v w) : MN B (m_X8_undo_n v) (m_X9_undo w) ∨ MT B (m_X8_undo_t v) xISE 1 (m_X9_undo w) := by
  obtain ⟨h1, h2, h3, ⟨n, n1, n2, n3, π, h4, h5, h6⟩, h7⟩ := id H
  have w03 : (st2 w 0 8 0) 0 3 = nI n := by rw [q_ss, va_up_ne _ _ (by omega)]; exact n3
  by_cases hn : n = 0
  · right
    subst hn
    refine MT_f H ?_ ?_
    · unfold m_X8_undo_t
      rw [if_neg (show ¬ 0 < v 0 5 by rw [n2]; decide)]
    · unfold m_X9_undo
      simp only [q_lt]
      rw [if_pos (show (st2 w 0 8 0) 0 3 = 0 from w03)]
  · left
    obtain ⟨m, rfl⟩ : ∃ m, n = m + 1 := ⟨n - 1, by omega⟩
    obtain ⟨q1, q2⟩ := h4.1 m (by omega)
    obtain ⟨v2, hv2⟩ : ∃ v2, v2 = st2 v 0 5 ((v 0 5) - (1 : Int32)) := ⟨_, rfl⟩
    have k2 : ∀ j, j ≠ 0 → v2 j = v j := fun j hj => by rw [hv2, q_sn hj]
    have k25 : v2 0 5 = nI m := by rw [hv2, q_ss, va_up_self, n2]; exact nI_pred m
    obtain ⟨r, hr, r1, r2⟩ := s_become (B := B) (c := ct 47 (sh 7 v2) (sh (148 + 47 * π m) v2)) (σ := sh (797 * m) (w 3)) (SH_c (RR_sh h1) (k2 22 (by omega))) (RR_v (h6 m (by omega)) (fun j hj => by rw [sh_e, ct_h (by omega), sh_e, sh_e, k2 _ (by omega)]; exact congrArg v (by omega)))
    obtain ⟨v3, hv3⟩ : ∃ v3, v3 = pu (148 + 47 * π m) 47 (pu 7 47 v2 r) (sh 47 r) := ⟨_, rfl⟩
    have k3 : ∀ j, v3 j = if 7 ≤ j ∧ j < 54 then r (j - 7) else v2 j := by
      intro j
      rw [hv3]
      by_cases c : 148 + 47 * π m ≤ j ∧ j < 148 + 47 * π m + 47
      · rw [pu_i c.1 c.2, sh_e, r2 _ (by omega), ct_h (by omega), sh_e, if_neg (by omega)]
        exact congrArg v2 (by omega)
      · rw [pu_o (by omega)]
        by_cases c2 : 7 ≤ j ∧ j < 7 + 47
        · rw [pu_i c2.1 c2.2, if_pos (by omega)]
        · rw [pu_o (by omega), if_neg (by omega)]
    have hres : m_X8_restore v2 (nI m) = some v3 := by
      unfold m_X8_restore
      have hx : xwi (nI m) 0 (6 - 1) = 1 := by
        have : ∀ n, n < 6 → xwi (nI n) 0 (6 - 1) = 1 := by decide +kernel
        exact this m (by omega)
      rw [hx, if_neg (by decide), q_cl (by omega), q_ck (by rw [show (0 : Int32) = nI 0 from rfl, q_lts (by omega) (by omega)]; omega), k2 1 (by omega), q2, q_cl (by omega)]
      simp only [q_lt]
      rw [q_ck q1, hr]
      simp only [q_ob]
      rw [hv3]
    obtain ⟨w3, hw3⟩ : ∃ w3, w3 = st2 (st2 w 0 8 0) 0 3 (((st2 w 0 8 0) 0 3) - (1 : Int32)) := ⟨_, rfl⟩
    have l3 : ∀ j, j ≠ 0 → w3 j = w j := fun j hj => by rw [hw3, q_sn hj, q_sn hj]
    have l03 : w3 0 3 = nI m := by rw [hw3, q_ss, va_up_self, w03]; exact nI_pred m
    have l0 : ∀ k, k ≠ 3 → k ≠ 8 → w3 0 k = w 0 k := fun k k3 k8 => by rw [hw3, q_ss, va_up_ne _ _ k3, q_ss, va_up_ne _ _ k8]
    obtain ⟨u, c1, c2, c3⟩ := r_cp (N := 4782) (M := 797) (p := 797 * m) (q := 0) (u := w3) (a := 3) (b := 1) (by omega) (by omega) (by omega) (by omega) (by omega)
    have hu1 : ∀ k, k < 797 → u 1 k = (sh (797 * m) (w 3)) k := by
      intro k hk
      rw [c3, fl_i (by omega) (by omega), l3 3 (by omega), sh_e]
      exact congrArg _ (by omega)
    have hv05 : v3 0 5 = nI m := by rw [k3, if_neg (by omega), k25]
    refine ⟨nI m, v3, u, ?_, ?_, ?_, ?_, ?_, ?_, ⟨m, by omega, hv05, by rw [c2 0 (by omega), l03], π, ?_, fun i hi => ?_, fun i hi => ?_⟩, ?_⟩
    · unfold m_X8_undo_n
      rw [if_pos (show 0 < v 0 5 by rw [n2]; exact nI_lt (a := 0) (by omega) (by omega))]
      simp only [q_lt]
      rw [← hv2, k25, hres]
      simp only [q_ob]
      rw [hv05]
    · unfold m_X9_undo
      simp only [q_lt]
      rw [if_neg (show ¬ (st2 w 0 8 0) 0 3 = 0 by rw [w03]; exact nI_ne0 (by omega) (by omega)), ← hw3, l03, show (797 : Int32) * nI m = nI (797 * m) from pk_mul 797 m]
      have c1' : ob (m_X9_copies 4782 797 (ct 1 (sh 3 w3) (sh 1 w3)) (nI (797 * m)) (0 : Int32)) (fun r => some (pu 1 1 (pu 3 1 w3 r) (sh 1 r))) = some u := c1
      cases hc : m_X9_copies 4782 797 (ct 1 (sh 3 w3) (sh 1 w3)) (nI (797 * m)) (0 : Int32) with
      | none => rw [hc] at c1'; cases c1'
      | some x =>
        rw [hc] at c1'
        simp only [q_ob] at c1' ⊢
        rw [Option.some.inj c1', c2 0 (by omega), l03]
    · rw [c2 0 (by omega), hw3, q_ss, va_up_ne _ _ (by omega), w1_8]
    · exact RR_v (v := r) (RR_cp r1 hu1) (fun j hj => by rw [sh_e, k3, if_pos (by omega)]; exact congrArg r (by omega))
    · refine SH_c h2 ?_
      rw [sh_e, k3, if_neg (by omega), k2 _ (by omega)]
      rfl
    · exact RSn_c h3 (Nat.le_refl _) (fun j j1 j2 => by rw [k3, if_neg (by omega), k2 _ (by omega)]) (by rw [k3, if_neg (by omega), hv2, q_ss, va_up_ne _ _ (by omega)]) (by rw [c2 4 (by omega), l3 4 (by omega)]) (by rw [c2 0 (by omega), l0 5 (by omega) (by omega)])
    · rw [k3, if_neg (by omega), k2 1 (by omega)]
      exact h4
    · refine SH_c (h5 i hi) ?_
      rw [sh_e, k3, if_neg (by omega), k2 _ (by omega)]
      rfl
    · rw [c2 3 (by omega), l3 3 (by omega)]
      exact RR_v (h6 i (by omega)) (fun j hj => by rw [sh_e, k3, if_neg (by omega), k2 _ (by omega)]; rfl)
    · exact RTx_c h7 (by rw [k3, if_neg (by omega), k2 2 (by omega)]) (by rw [k3, if_neg (by omega), hv2, q_ss, va_up_ne _ _ (by omega)]) (by rw [c2 5 (by omega), l3 5 (by omega)]) (by rw [c2 0 (by omega), l0 7 (by omega) (by omega)])
theorem RBC_tx {B : Nat} {v v' w w' : xSt} (H : RBC B v w) (gv : ∀ j, j ≠ 0 → j ≠ 2 → v' j = v j) (g0 : ∀ k, k ≠ 7 → v' 0 k = v 0 k) (gw : ∀ j, j ≠ 0 → j ≠ 5 → w' j = w j) (gw0 : ∀ k, k ≠ 7 → k ≠ 8 → w' 0 k = w 0 k) (ht : RTx v' w') : RBC B v' w' := by
  obtain ⟨h1, h2, h3, ⟨n, n1, n2, n3, h4⟩, h5⟩ := H
  refine ⟨?_, SH_c h2 (gv 69 (by omega) (by omega)), RSn_c h3 (Nat.le_refl _) (fun j j1 j2 => gv j (by omega) (by omega)) (g0 3 (by omega)) (gw 4 (by omega) (by omega)) (gw0 5 (by omega) (by omega)), ⟨n, n1, by rw [g0 5 (by omega)]; exact n2, by rw [gw0 3 (by omega) (by omega)]; exact n3, RSv_c h4 n1 (Nat.le_refl _) (fun j j1 j2 => gv j (by omega) (by omega)) (gv 1 (by omega) (by omega)) (gw 3 (by omega) (by omega))⟩, ht⟩
  rw [gw 1 (by omega) (by omega)]
  exact RR_v h1 (fun j hj => gv (7 + j) (by omega) (by omega))
theorem b_append {B : Nat} {v w : xSt} {p : Int32} (H : RBC B v w) : MN B (m_X8_append_n v p) (m_X9_append w p) ∨ MT B (m_X8_append_t v p) xIAE 1 (m_X9_append w p) ∨ MT B (m_X8_append_t v p) xISE 2 (m_X9_append w p) := by
  obtain ⟨L, L1, L2, L3, L4⟩ := H.2.2.2.2
  have w07 : (st2 w 0 8 0) 0 7 = nI L := by rw [q_ss, va_up_ne _ _ (by omega)]; exact L3
  rcases xwi_r p 33 126 (by omega) (by omega) with hx | ⟨hx, a, a0, a1, rfl⟩
  · replace hx : xwi p 33 126 = 0 := hx
    refine Or.inr (Or.inl (MT_f H ?_ ?_))
    · unfold m_X8_append_t
      rw [if_pos hx]
    · unfold m_X9_append
      simp only [q_lt]
      rw [if_pos hx]
  · have hx' : ¬ xwi (nI a) 33 126 = 0 := by rw [show xwi (nI a) 33 126 = 1 from hx]; decide
    have hw : ∀ L, L < 61 → xwi (nI L) 0 (60 - 1) = if L = 60 then 0 else 1 := by decide +kernel
    by_cases hL : L = 60
    · refine Or.inr (Or.inr (MT_f H ?_ ?_))
      · unfold m_X8_append_t
        rw [if_neg hx', L2, hw L (by omega), if_pos hL, if_pos rfl]
      · unfold m_X9_append
        simp only [q_lt]
        rw [if_neg hx', w07, hL, if_pos (by decide)]
    · left
      have hch : ((nI a).toUInt32 % 65536).toInt32 = nI a := by
        have : ∀ a, a < 127 → ((nI a).toUInt32 % 65536).toInt32 = nI a := by decide +kernel
        exact this a (by omega)
      have hch2 : (0 : Int32) ≤ nI a ∧ nI a < 65536 := ⟨nI_pos' (by omega), nI_lt (b := 65536) (by omega) (by omega)⟩
      have hin : ¬ (nI L < 0 ∨ 60 ≤ L) := by rw [show (0 : Int32) = nI 0 from rfl, q_lts (by omega) (by omega)]; omega
      refine ⟨nI (L + 1), st2 (st2 v 2 L (nI a)) 0 7 (nI (L + 1)), st2 (st2 (st2 w 0 8 0) 5 L (nI a)) 0 7 (nI (L + 1)), ?_, ?_, ?_, RBC_tx H (fun j j0 j2 => by rw [q_sn j0, q_sn j2]) (fun k hk => by rw [q_ss, va_up_ne _ _ hk, q_sn (by omega)]) (fun j j0 j5 => by rw [q_sn j0, q_sn j5, q_sn j0]) (fun k k7 k8 => by rw [q_ss, va_up_ne _ _ k7, q_sn (by omega), q_ss, va_up_ne _ _ k8]) ⟨L + 1, by omega, by rw [q_ss, va_up_self], by rw [q_ss, va_up_self], fun i hi => ?_⟩⟩
      · unfold m_X8_append_n
        rw [if_neg hx', L2, hw L (by omega), if_neg hL, if_neg (by decide), q_cl (by omega), q_ck hin, hch, q_ck hch2]
        simp only [q_lt]
        rw [q_ss, va_up_self, q_sn (by omega), L2, show nI L + 1 = nI (L + 1) from nI_1 L]
      · unfold m_X9_append
        simp only [q_lt]
        rw [if_neg hx', w07, if_neg (show ¬ nI L = (60 : Int32) from fun e => hL ((nI_eq (by omega) (by omega)).mp (show nI L = nI 60 from e))), q_cl (by omega), q_ck hin, q_ss, va_up_self, q_sn (by omega), w07, show nI L + 1 = nI (L + 1) from nI_1 L]
      · rw [q_ss, va_up_ne _ _ (by omega), q_sn (by omega), w1_8]
      · rw [q_sn (by omega), q_ss, q_sn (by omega), q_ss, q_sn (by omega)]
        by_cases c : i = L
        · subst c
          rw [va_up_self, va_up_self]
          exact ⟨rfl, a, a0, a1, rfl⟩
        · rw [va_up_ne _ _ c, va_up_ne _ _ c]
          exact L4 i (by omega)
theorem b_clear {B : Nat} {v w : xSt} (H : RBC B v w) : MN B (m_X8_clearBuffer v) (m_X9_clearBuffer w) := by
  obtain ⟨L, L1, L2, L3, L4⟩ := H.2.2.2.2
  have w07 : (st2 w 0 8 0) 0 7 = nI L := by rw [q_ss, va_up_ne _ _ (by omega)]; exact L3
  refine ⟨nI L, st2 v 0 7 0, st2 (st2 w 0 8 0) 0 7 0, ?_, ?_, ?_, RBC_tx H (fun j j0 j2 => q_sn j0) (fun k hk => by rw [q_ss, va_up_ne _ _ hk]) (fun j j0 j5 => by rw [q_sn j0, q_sn j0]) (fun k k7 k8 => by rw [q_ss, va_up_ne _ _ k7, q_ss, va_up_ne _ _ k8]) ⟨0, by omega, by rw [q_ss, va_up_self]; rfl, by rw [q_ss, va_up_self]; rfl, fun i hi => absurd hi (by omega)⟩⟩
  · unfold m_X8_clearBuffer
    simp only [q_lt]
    rw [L2]
  · unfold m_X9_clearBuffer
    simp only [q_lt]
    rw [w07]
  · rw [q_ss, va_up_ne _ _ (by omega), w1_8]
