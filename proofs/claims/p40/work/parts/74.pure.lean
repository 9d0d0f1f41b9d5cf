/-! LOOKS, the methods -/
theorem MO_t {B : Nat} {v w : xSt} {a : Option Int32} {b : Option (Int32 × xSt)} (H : RBC B v w) (h : ∃ z, a = some z ∧ b = some (z, st2 w 0 8 0)) : MO B v a b := by
  obtain ⟨z, h1, h2⟩ := h
  exact ⟨z, st2 w 0 8 0, h1, h2, w1_8 _ _, RBC_1 H⟩
theorem b_count {B : Nat} {v w : xSt} {p : Int32} (H : RBC B v w) : MO B v (m_X8_count_n v p) (m_X9_count w p) ∨ MT B (m_X8_count_t v p) xIAE 1 (m_X9_count w p) := by
  rcases xwi_r p 0 15 (by omega) (by omega) with hx | ⟨hx, a, a0, a1, rfl⟩
  · replace hx : xwi p 0 15 = 0 := hx
    refine Or.inr (MT_f H ?_ ?_)
    · unfold m_X8_count_t
      rw [if_pos hx]
    · unfold m_X9_count
      simp only [q_lt]
      rw [if_pos hx]
  · have hx' : ¬ xwi (nI a) 0 15 = 0 := by rw [show xwi (nI a) 0 15 = 1 from hx]; decide
    left
    obtain ⟨z, h1, h2⟩ := s_counted (RBC_1 (x := 0) H) (q := a) (by omega)
    refine MO_t H ⟨z, h1, ?_⟩
    unfold m_X9_count
    simp only [q_lt]
    rw [if_neg hx', h2]
    rfl
theorem b_sector {B : Nat} {v w : xSt} {p q : Int32} (H : RBC B v w) (hB : B < 16000000) : MO B v (m_X8_sector_n v p q) (m_X9_sector w p q) ∨ MT B (m_X8_sector_t v p q) xIOB 1 (m_X9_sector w p q) ∨ MT B (m_X8_sector_t v p q) xIAE 2 (m_X9_sector w p q) := by
  rcases xwi_r p 0 7 (by omega) (by omega) with hx | ⟨hx, a, a0, a1, rfl⟩
  · replace hx : xwi p 0 7 = 0 := hx
    refine Or.inr (Or.inl (MT_f H ?_ ?_))
    · unfold m_X8_sector_t
      rw [if_pos hx]
    · unfold m_X9_sector
      simp only [q_lt]
      rw [if_pos hx]
  · have hx' : ¬ xwi (nI a) 0 7 = 0 := by rw [show xwi (nI a) 0 7 = 1 from hx]; decide
    rcases xwi_r q 0 6 (by omega) (by omega) with hy | ⟨hy, b, b0, b1, rfl⟩
    · replace hy : xwi q 0 6 = 0 := hy
      refine Or.inr (Or.inr (MT_f H ?_ ?_))
      · unfold m_X8_sector_t
        rw [if_neg hx', if_pos hy]
      · unfold m_X9_sector
        simp only [q_lt]
        rw [if_neg hx', if_pos hy]
    · have hy' : ¬ xwi (nI b) 0 6 = 0 := by rw [show xwi (nI b) 0 6 = 1 from hy]; decide
      left
      obtain ⟨z, h1, h2⟩ := s_sectorTold (RBC_1 (x := 0) H) hB (p := a) (q := b) (by omega) (by omega)
      refine MO_t H ⟨z, h1, ?_⟩
      unfold m_X9_sector
      simp only [q_lt]
      rw [if_neg hx', if_neg hy', h2]
      rfl
theorem b_work {B : Nat} {v w : xSt} {p q : Int32} (H : RBC B v w) : MO B v (m_X8_work_n v p q) (m_X9_work w p q) ∨ MT B (m_X8_work_t v p q) xIAE 1 (m_X9_work w p q) := by
  rcases xwi_r p 0 1 (by omega) (by omega) with hx | ⟨hx, a, a0, a1, rfl⟩
  · replace hx : xwi p 0 1 = 0 := hx
    refine Or.inr (MT_f H ?_ ?_)
    · unfold m_X8_work_t
      rw [if_pos hx]
    · unfold m_X9_work
      simp only [q_lt]
      rw [if_pos hx]
  · have hx' : ¬ xwi (nI a) 0 1 = 0 := by rw [show xwi (nI a) 0 1 = 1 from hx]; decide
    rcases xwi_r q 0 4 (by omega) (by omega) with hy | ⟨hy, b, b0, b1, rfl⟩
    · replace hy : xwi q 0 4 = 0 := hy
      refine Or.inr (MT_f H ?_ ?_)
      · unfold m_X8_work_t
        rw [if_neg hx', if_pos hy]
      · unfold m_X9_work
        simp only [q_lt]
        rw [if_neg hx', if_pos hy]
    · have hy' : ¬ xwi (nI b) 0 4 = 0 := by rw [show xwi (nI b) 0 4 = 1 from hy]; decide
      left
      obtain ⟨z, h1, h2⟩ := s_workTold (RBC_1 (x := 0) H) (p := a) (q := b) (by omega) (by omega)
      refine MO_t H ⟨z, h1, ?_⟩
      unfold m_X9_work
      simp only [q_lt]
      rw [if_neg hx', if_neg hy', h2]
      rfl
theorem b_order {B : Nat} {v w : xSt} {p q : Int32} (H : RBC B v w) : MO B v (m_X8_order_n v p q) (m_X9_order w p q) ∨ MT B (m_X8_order_t v p q) xIOB 1 (m_X9_order w p q) ∨ MT B (m_X8_order_t v p q) xIAE 2 (m_X9_order w p q) := by
  obtain ⟨n, qq, π, a1, a2, a3, a4, a5, a6, a7, a8, a9⟩ := id H.1.1.2.2.2.2.2.2.1
  have n1 : (st2 w 0 8 0) 1 580 = nI n := by rw [w1_1]; exact a3
  have out : m_X1_orderAt (sh 21 v) p = some none → xwi p 0 (nI n - 1) = 0 → MT B (m_X8_order_t v p q) xIOB 1 (m_X9_order w p q) := by
    intro h1 h2
    refine MT_f H ?_ ?_
    · unfold m_X8_order_t
      rw [h1]
      rfl
    · unfold m_X9_order
      simp only [q_lt, kc580, kn580, n1]
      rw [if_pos h2]
  by_cases h0 : p < 0
  · refine Or.inr (Or.inl (out ?_ ?_))
    · unfold m_X1_orderAt
      simp only [q_lt]
      rw [if_pos h0]
    · unfold xwi
      rw [if_pos h0]
  · obtain ⟨r, hr, rfl⟩ := nI_of h0
    by_cases hrn : r < n
    · have hx : ¬ xwi (nI r) 0 (nI n - 1) = 0 := by
        unfold xwi
        rw [if_neg h0, show nI n - 1 = nI (n - 1) from q_sub (b := 1) (by omega), if_neg (nI_nlt (by omega) (by omega))]
        decide
      have eo : m_X1_orderAt (sh 21 v) (nI r) = some (some (π r)) := e_orderAt (c := sh 21 v) a4 a1 a7 hrn
      have hπ := (a7.1 r (by omega)).1
      rcases xwi_r q 0 5 (by omega) (by omega) with hy | ⟨hy, b, b0, b1, rfl⟩
      · replace hy : xwi q 0 5 = 0 := hy
        refine Or.inr (Or.inr (MT_f H ?_ ?_))
        · unfold m_X8_order_t
          rw [eo]
          simp only [q_ob, q_oms]
          rw [q_ck hπ, if_pos hy]
        · unfold m_X9_order
          simp only [q_lt, kc580, kn580, n1]
          rw [if_neg hx, if_pos hy]
      · have hy' : ¬ xwi (nI b) 0 5 = 0 := by rw [show xwi (nI b) 0 5 = 1 from hy]; decide
        left
        obtain ⟨z, h1, h2⟩ := s_orderTold (RBC_1 (x := 0) H) n1 a1 hrn (q := b) (by omega)
        refine MO_t H ⟨z, h1, ?_⟩
        unfold m_X9_order
        simp only [q_lt, kc580, kn580, n1]
        rw [if_neg hx, if_neg hy', h2]
        rfl
    · refine Or.inr (Or.inl (out (e_orderN (c := sh 21 v) a4 a1 (by omega) hr) ?_))
      unfold xwi
      rw [if_neg h0]
      rcases Nat.eq_zero_or_pos n with h | h
      · subst h
        rw [if_pos]
        rw [show nI 0 - 1 = (-1 : Int32) by decide, Int32.lt_iff_toInt_lt, nI_toInt hr, show (-1 : Int32).toInt = -1 by decide]
        omega
      · rw [show nI n - 1 = nI (n - 1) from q_sub (b := 1) (by omega), if_pos (nI_lt (by omega) hr)]
theorem b_why {B : Nat} {v w : xSt} {k p : Int32} (H : RBC B v w) : MO B v (m_X8_why_n v k p) (m_X9_why w k p) ∨ MT B (m_X8_why_t v k p) xIAE 1 (m_X9_why w k p) ∨ MT B (m_X8_why_t v k p) xIOB 2 (m_X9_why w k p) := by
  rcases xwi_r k 1 3 (by omega) (by omega) with hx | ⟨hx, a, a0, a1, rfl⟩
  · replace hx : xwi k 1 3 = 0 := hx
    refine Or.inr (Or.inl (MT_f H ?_ ?_))
    · unfold m_X8_why_t
      rw [if_pos hx]
    · unfold m_X9_why
      simp only [q_lt]
      rw [if_pos hx]
  · have hx' : ¬ xwi (nI a) 1 3 = 0 := by rw [show xwi (nI a) 1 3 = 1 from hx]; decide
    obtain ⟨M, hM, hM2⟩ : ∃ M, m_X8_isPlace (nI a) p = some (xwi p 0 M) ∧ ∀ (f : Int32 → Int32 → Int32 → Option (Int32 × xSt)), (if nI a = 1 then f p 0 255 else if nI a = 2 then f p 0 7 else f p 0 4) = f p 0 M := by
      rcases (show a = 1 ∨ a = 2 ∨ a = 3 by omega) with rfl | rfl | rfl
      · exact ⟨255, by unfold m_X8_isPlace; rw [if_pos (by decide)], fun f => by rw [if_pos (by decide)]⟩
      · exact ⟨7, by unfold m_X8_isPlace; rw [if_neg (by decide), if_pos (by decide)], fun f => by rw [if_neg (by decide), if_pos (by decide)]⟩
      · exact ⟨4, by unfold m_X8_isPlace; rw [if_neg (by decide), if_neg (by decide)], fun f => by rw [if_neg (by decide), if_neg (by decide)]⟩
    have hw : m_X9_why w (nI a) p = if xwi p 0 M = 0 then ob (m_X9_fails (st2 w 0 8 0) 2) (fun r => lt r.2 (fun v => some (r.1, v))) else ob (m_X9_whyNot (st2 w 0 8 0) (nI a) p) (fun r14 => some (r14, st2 w 0 8 0)) := by
      unfold m_X9_why
      simp only [q_lt]
      rw [if_neg hx']
      exact hM2 (fun t4 t5 t6 => if xwi t4 t5 t6 = 0 then ob (m_X9_fails (st2 w 0 8 0) 2) (fun r => some (r.1, r.2)) else ob (m_X9_whyNot (st2 w 0 8 0) (nI a) p) (fun r14 => some (r14, st2 w 0 8 0)))
    by_cases hp : xwi p 0 M = 0
    · refine Or.inr (Or.inr (MT_f H ?_ ?_))
      · unfold m_X8_why_t
        rw [if_neg hx', hM]
        simp only [q_ob]
        rw [if_pos hp]
      · rw [hw, if_pos hp]
    · left
      obtain ⟨j, hj, c1, c2, c3⟩ := s_hind (k := nI a) (p := p) H.1.1
      have c2' := c2 (st2 w 0 8 0)
      rw [w1_s] at c2'
      refine MO_t H ⟨nI j, ?_, ?_⟩
      · unfold m_X8_why_n
        rw [if_neg hx', hM]
        simp only [q_ob]
        rw [if_neg hp, c1]
        rfl
      · rw [hw, if_neg hp, c2']
        rfl
theorem b_misses {B : Nat} {v w : xSt} {p : Int32} (H : RBC B v w) : MO B v (m_X8_misses_n v p) (m_X9_misses w p) ∨ MT B (m_X8_misses_t v p) xIOB 1 (m_X9_misses w p) := by
  rcases xwi_r p 0 255 (by omega) (by omega) with hx | ⟨hx, a, a0, a1, rfl⟩
  · replace hx : xwi p 0 255 = 0 := hx
    refine Or.inr (MT_f H ?_ ?_)
    · unfold m_X8_misses_t
      rw [if_pos hx]
    · unfold m_X9_misses
      simp only [q_lt]
      rw [if_pos hx]
  · have hx' : ¬ xwi (nI a) 0 255 = 0 := by rw [show xwi (nI a) 0 255 = 1 from hx]; decide
    left
    obtain ⟨z, hz, h1, h2⟩ := s_misses H.1.1 (c := a) (by omega)
    have h2' := h2 (st2 w 0 8 0)
    rw [w1_s] at h2'
    refine MO_t H ⟨nI z, ?_, ?_⟩
    · unfold m_X8_misses_n
      rw [if_neg hx', h1]
      rfl
    · unfold m_X9_misses
      simp only [q_lt]
      rw [if_neg hx', h2']
      rfl
theorem b_cell {B : Nat} {v w : xSt} {p q : Int32} (H : RBC B v w) : MO B v (m_X8_cell_n v p q) (m_X9_cell w p q) ∨ MT B (m_X8_cell_t v p q) xIOB 1 (m_X9_cell w p q) ∨ MT B (m_X8_cell_t v p q) xIAE 2 (m_X9_cell w p q) := by
  rcases xwi_r p 0 255 (by omega) (by omega) with hx | ⟨hx, a, a0, a1, rfl⟩
  · replace hx : xwi p 0 255 = 0 := hx
    refine Or.inr (Or.inl (MT_f H ?_ ?_))
    · unfold m_X8_cell_t
      rw [if_pos hx]
    · unfold m_X9_cell
      simp only [q_lt]
      rw [if_pos hx]
  · have hx' : ¬ xwi (nI a) 0 255 = 0 := by rw [show xwi (nI a) 0 255 = 1 from hx]; decide
    rcases xwi_r q 0 3 (by omega) (by omega) with hy | ⟨hy, b, b0, b1, rfl⟩
    · replace hy : xwi q 0 3 = 0 := hy
      refine Or.inr (Or.inr (MT_f H ?_ ?_))
      · unfold m_X8_cell_t
        rw [if_neg hx', if_pos hy]
      · unfold m_X9_cell
        simp only [q_lt]
        rw [if_neg hx', if_pos hy]
    · have hy' : ¬ xwi (nI b) 0 3 = 0 := by rw [show xwi (nI b) 0 3 = 1 from hy]; decide
      left
      have wp : ∃ z, m_X8_cell_n v (nI a) (nI b) = some z ∧ m_X9_cellTold (st2 w 0 8 0) (nI a) (nI b) = some z := by
        unfold m_X8_cell_n m_X9_cellTold
        rw [if_neg hx', if_neg hy', w1_1]
        have hin : ∀ j, j < 797 → ¬ (nI j < (0 : Int32) ∨ 797 ≤ j) := by
          intro j hj
          rw [show (0 : Int32) = nI 0 from rfl, q_lts (by omega) (by omega)]
          omega
        have e8 : nI a / 8 = nI (a / 8) := q_div (d := 8) (by omega) (by omega) (by omega)
        have m8 : nI a - nI a / 8 * 8 = nI (a % 8) := xrem (d := 8) (by omega) (by omega) (by omega)
        rcases (show b = 0 ∨ b = 1 ∨ b = 2 ∨ b = 3 by omega) with rfl | rfl | rfl | rfl
        · rw [if_pos (by decide), if_pos (by decide), q_cl (by omega), q_ck (hin a (by omega)), xat_n (by omega) (by omega), show v 9 a = w 1 a from (H.1.1.2.1.1 a (by omega)).1]
          exact ⟨_, rfl, rfl⟩
        · rw [if_neg (by decide), if_pos (by decide), if_neg (by decide), if_pos (by decide), show (256 : Int32) + nI a = nI (256 + a) from nI_add 256 a, q_cl (by omega), q_ck (hin _ (by omega)), xat_n (by omega) (by omega), show v 10 a = w 1 (256 + a) from (H.1.1.2.1.2.1 a (by omega)).1]
          exact ⟨_, rfl, rfl⟩
        · rw [if_neg (by decide), if_neg (by decide), if_pos (by decide), if_neg (by decide), if_neg (by decide), if_pos (by decide), e8, show (512 : Int32) + nI (a / 8) = nI (512 + a / 8) from nI_add 512 _, q_cl (by omega), q_ck (hin _ (by omega)), H.1.1.2.1.2.2.1 (a / 8) (by omega)]
          refine ⟨_, ?_, rfl⟩
          have hu : m_X0_isUnsure (sh 8 v) (nI (a / 8)) = some (xb (v 8 3) (a / 8)) := by
            unfold m_X0_isUnsure
            obtain ⟨N, hN, eN⟩ := i32_of ((sh 8 v) 0 3)
            have hs : ∀ k, k < 32 → (((nI k).toUInt32 &&& Int32.toUInt32 31).toBitVec % 32).toNat = k := by decide +kernel
            rw [show v 8 3 = nI N from eN, eN, usr hN (nI (a / 8)) (a / 8) (2 ^ (a / 8)) (hs _ (by omega)) rfl, show (1 : Int32) = nI 1 from rfl, nI_and, xb_n (by omega), Nat.and_one_is_mod]
            rcases (show N / 2 ^ (a / 8) % 2 = 0 ∨ N / 2 ^ (a / 8) % 2 = 1 by omega) with h | h
            · rw [h, if_neg (by decide)]; rfl
            · rw [h, if_pos rfl]
          rw [hu]
          simp only [q_ob]
          refine bz _ ?_
          unfold xb
          split
          · exact Or.inr rfl
          · exact Or.inl rfl
        · obtain ⟨m, m1, m2, m3, m4, m5, m6⟩ := RLd_f H.1.1.2.2.2.1
          have e1 := e_valueFor (c := sh 13 v) (k := nI (a % 8))
          have e2 := r_loadedFor (w := st2 w 0 8 0) (σ := w 1) (k := a % 8) m3 m1 (by omega)
          rw [w1_s] at e2
          rw [if_neg (by decide), if_neg (by decide), if_neg (by decide), if_neg (by decide), if_neg (by decide), if_neg (by decide), m8, e1, e2]
          simp only [q_ob]
          refine ⟨_, rfl, ?_⟩
          show some _ = some (xvf (v 13 1) (v 14) (nI (a % 8)))
          rw [show v 13 1 = nI m from m2]
          by_cases c : a % 8 < m
          · rw [if_pos c, xvf_n m1 c]
            exact congrArg some (m6 _ (by unfold vi; split <;> omega)).1.symm
          · rw [if_neg c, xvf_x m1 (by omega) (by omega)]
      obtain ⟨z, h1, h2⟩ := wp
      refine MO_t H ⟨z, h1, ?_⟩
      unfold m_X9_cell
      simp only [q_lt]
      rw [if_neg hx', if_neg hy', h2]
      rfl
theorem b_read {B : Nat} {v w : xSt} {p : Int32} (H : RBC B v w) : MO B v (m_X8_read_n v p) (m_X9_read w p) ∨ MT B (m_X8_read_t v p) xIOB 1 (m_X9_read w p) ∨ MT B (m_X8_read_t v p) xISE 2 (m_X9_read w p) := by
  rcases xwi_r p 0 255 (by omega) (by omega) with hx | ⟨hx, a, a0, a1, rfl⟩
  · replace hx : xwi p 0 255 = 0 := hx
    refine Or.inr (Or.inl (MT_f H ?_ ?_))
    · unfold m_X8_read_t
      rw [if_pos hx]
    · unfold m_X9_read
      simp only [q_lt]
      rw [if_pos hx]
  · have hx' : ¬ xwi (nI a) 0 255 = 0 := by rw [show xwi (nI a) 0 255 = 1 from hx]; decide
    have p0 := r_apart (w := st2 w 0 8 0) (σ := w 1) (j := 0) (by omega)
    have p1 := r_apart (w := st2 w 0 8 0) (σ := w 1) (j := 1) (by omega)
    rw [w1_s] at p0 p1
    rcases s_busy H.1.1 with ⟨c1, -, c2⟩ | ⟨c1, c2⟩
    · have c2' := c2 (st2 w 0 8 0)
      rw [w1_s] at c2'
      have hid : ∃ z, (z = 0 ∨ z = 1) ∧ m_X7_concerns (sh 18 v) (nI a) = some z ∧ m_X9_isHidden (st2 w 0 8 0) (nI a) = some z := by
        obtain ⟨⟨k, k3, k0, kb, kz, kn⟩, h2, h3, h4⟩ := RWk_t H.1.1.2.2.2.2.2.1
        have g0 : (sh 18 v) 0 0 = nI k := k0
        have q0 : m_X9_apart (st2 w 0 8 0) 0 = some (nI k) := p0.trans (congrArg some kb)
        have q1 : m_X9_apart (st2 w 0 8 0) 1 = some (w 1 600) := p1
        unfold m_X7_concerns m_X9_isHidden
        simp only [q_lt]
        rw [g0, c2']
        simp only [q_ob, q0, q1]
        rcases (show k = 0 ∨ k = 1 ∨ k = 2 ∨ k = 3 by omega) with rfl | rfl | rfl | rfl
        · refine ⟨0, Or.inl rfl, ?_, ?_⟩ <;> repeat first | rw [if_neg (by decide)] | rw [if_pos (by decide)]
        · have g1 : (sh 18 v) 0 1 = w 1 600 := (kn (by omega)).1
          rw [g1]
          by_cases c : nI a / 8 = w 1 600 / 8
          · refine ⟨1, Or.inr rfl, ?_, ?_⟩
            · rw [if_pos (by decide), if_pos c]
            · rw [if_pos (by decide), if_pos (by decide), if_pos c.symm]
          · refine ⟨0, Or.inl rfl, ?_, ?_⟩
            · rw [if_pos (by decide), if_neg c]
            · rw [if_pos (by decide), if_pos (by decide), if_neg (fun e => c e.symm), if_neg (by decide)]
        · have g1 : (sh 18 v) 0 1 = w 1 600 := (kn (by omega)).1
          rw [g1]
          by_cases c : nI a / 32 = w 1 600
          · refine ⟨1, Or.inr rfl, ?_, ?_⟩
            · rw [if_neg (by decide), if_pos (by decide), if_pos c]
            · rw [if_pos (by decide), if_neg (by decide), if_pos (by decide), if_pos c.symm]
          · refine ⟨0, Or.inl rfl, ?_, ?_⟩
            · rw [if_neg (by decide), if_pos (by decide), if_neg c]
            · rw [if_pos (by decide), if_neg (by decide), if_pos (by decide), if_neg (fun e => c e.symm)]
        · refine ⟨0, Or.inl rfl, ?_, ?_⟩ <;> repeat first | rw [if_neg (by decide)] | rw [if_pos (by decide)]
      obtain ⟨z, hz, h1, h2⟩ := hid
      rcases hz with rfl | rfl
      · left
        refine MO_t H ⟨w 1 a, ?_, ?_⟩
        · unfold m_X8_read_n
          rw [if_neg hx', c1]
          simp only [q_ob]
          rw [if_pos (by decide), h1]
          simp only [q_ob]
          rw [if_pos (by decide), xat_n (by omega) (by omega), show v 9 a = w 1 a from (H.1.1.2.1.1 a (by omega)).1]
        · unfold m_X9_read
          simp only [q_lt]
          rw [if_neg hx', h2]
          simp only [q_ob]
          rw [if_pos (by decide), q_cl (by omega), q_ck (by rw [show (0 : Int32) = nI 0 from rfl, q_lts (by omega) (by omega)]; omega), w1_1]
      · refine Or.inr (Or.inr (MT_f H ?_ ?_))
        · unfold m_X8_read_t
          rw [if_neg hx', c1]
          simp only [q_ob]
          rw [if_pos (by decide), h1]
          simp only [q_ob]
          rw [if_neg (by decide)]
        · unfold m_X9_read
          simp only [q_lt]
          rw [if_neg hx', h2]
          simp only [q_ob]
          rw [if_neg (by decide)]
    · have c2' := c2 (st2 w 0 8 0)
      rw [w1_s] at c2'
      refine Or.inr (Or.inr (MT_f H ?_ ?_))
      · unfold m_X8_read_t
        rw [if_neg hx', c1]
        simp only [q_ob]
        rw [if_neg (by decide)]
      · unfold m_X9_read m_X9_isHidden
        simp only [q_lt]
        rw [if_neg hx', c2']
        simp only [q_ob]
        rw [if_neg (by decide)]
        simp only [q_ob]
        rw [if_neg (by decide)]
theorem s_fits {B : Nat} {v w : xSt} (H : RBC B v w) : ∃ z, m_X8_fits v = some z ∧ m_X9_fitting w = some z := by
  obtain ⟨⟨l, l1, l2, l3⟩, l4, l5⟩ := id H.1.1.2.2.1
  have el : ∀ s, m_X2_hold (sh 12 v) s = some (lk (w 1 554) (w 1 555) s) := by
    intro s
    have e1 := e_hold (u := sh 12 v) (s := s) l2 l1
    rw [show (sh 12 v) 0 0 = w 1 554 from l2.trans l3.symm, show (sh 12 v) 0 1 = w 1 555 from l4] at e1
    exact e1
  have rl : ∀ s, m_X9_isLocked w s = some (lk (w 1 554) (w 1 555) s) := by
    intro s
    have e2 := r_locked (w := w) (σ := w 1) (s := s)
    rw [va_up_id] at e2
    exact e2
  have ms : ∀ c, c < 256 → ∃ z, m_X6_missesAt (sh 7 v) (nI c) = some z ∧ m_X9_missesAt w (nI c) = some z := by
    intro c hc
    obtain ⟨z, hz, h1, h2⟩ := s_misses H.1.1 hc
    have h2' := h2 w
    rw [va_up_id] at h2'
    exact ⟨nI z, h1, h2'⟩
  have p : wp (m_X8_fits v) (FD 0 256 (fun c => lk (w 1 554) (w 1 555) (nI c / 32) = 0 ∧ m_X9_missesAt w (nI c) = some 0)) := by
    unfold m_X8_fits
    refine lp_fi (p := fun c => lk (w 1 554) (w 1 555) (nI c / 32) = 0 ∧ m_X9_missesAt w (nI c) = some 0) (xFg (by omega)) rfl (fun c rec hc hp => ?_) (fun c rec hc hp => ?_) (fun rec => ?_)
    · obtain ⟨z, h1, h2⟩ := ms c hc
      rw [h2] at hp
      simp only [q_u1, q_lt]
      rw [if_neg (show ¬ (256 : Int32) ≤ nI c from nI_ge (b := 256) hc (by omega)), el]
      simp only [q_ob]
      rw [if_pos hp.1, h1]
      simp only [q_ob]
      rw [if_pos (Option.some.inj hp.2)]
    · obtain ⟨z, h1, h2⟩ := ms c hc
      rw [h2] at hp
      simp only [q_u1, q_lt]
      rw [if_neg (show ¬ (256 : Int32) ≤ nI c from nI_ge (b := 256) hc (by omega)), el]
      simp only [q_ob]
      by_cases c1 : lk (w 1 554) (w 1 555) (nI c / 32) = 0
      · rw [if_pos c1, h1]
        simp only [q_ob]
        rw [if_neg (fun e => hp ⟨c1, congrArg some e⟩), show nI c + 1 = nI (c + 1) from nI_1 c]
      · rw [if_neg c1, show nI c + 1 = nI (c + 1) from nI_1 c]
    · simp only [q_u1]
      rw [if_pos (show (256 : Int32) ≤ nI 256 by decide)]
  have r : wp (m_X9_fitting w) (FD 0 256 (fun c => lk (w 1 554) (w 1 555) (nI c / 32) = 0 ∧ m_X9_missesAt w (nI c) = some 0)) := by
    unfold m_X9_fitting
    refine lp_fi (p := fun c => lk (w 1 554) (w 1 555) (nI c / 32) = 0 ∧ m_X9_missesAt w (nI c) = some 0) (xFg (by omega)) rfl (fun c rec hc hp => ?_) (fun c rec hc hp => ?_) (fun rec => ?_)
    · simp only [q_u1, q_lt]
      rw [if_neg (show ¬ (256 : Int32) ≤ nI c from nI_ge (b := 256) hc (by omega)), rl]
      simp only [q_ob]
      rw [if_pos hp.1, hp.2]
      simp only [q_ob]
      rw [if_pos (by decide)]
    · obtain ⟨z, h1, h2⟩ := ms c hc
      rw [h2] at hp
      simp only [q_u1, q_lt]
      rw [if_neg (show ¬ (256 : Int32) ≤ nI c from nI_ge (b := 256) hc (by omega)), rl]
      simp only [q_ob]
      by_cases c1 : lk (w 1 554) (w 1 555) (nI c / 32) = 0
      · rw [if_pos c1, h2]
        simp only [q_ob]
        rw [if_neg (fun e => hp ⟨c1, congrArg some e⟩), show nI c + 1 = nI (c + 1) from nI_1 c]
      · rw [if_neg c1, show nI c + 1 = nI (c + 1) from nI_1 c]
    · simp only [q_u1]
      rw [if_pos (show (256 : Int32) ≤ nI 256 by decide)]
  obtain ⟨z, h1, h2⟩ := p
  obtain ⟨y, g1, g2⟩ := r
  obtain rfl := FD_u h2 g2
  exact ⟨z, h1, g1⟩
theorem b_fits {B : Nat} {v w : xSt} (H : RBC B v w) : MO B v (m_X8_fits v) (m_X9_fits w) := by
  obtain ⟨z, h1, h2⟩ := s_fits (RBC_1 (x := 0) H)
  refine MO_t H ⟨z, h1, ?_⟩
  unfold m_X9_fits
  simp only [q_lt]
  rw [h2]
  rfl
theorem s_least {B : Nat} {v w : xSt} (H : RBC B v w) : ∃ z, m_X8_leastWorn v = some z ∧ m_X9_leastErased w = some z := by
  obtain ⟨⟨l, l1, l2, l3⟩, l4, l5⟩ := id H.1.1.2.2.1
  obtain ⟨e, h4, h5⟩ := H.1.1.2.1.2.2.2
  have el : ∀ s, m_X2_hold (sh 12 v) s = some (lk (w 1 554) (w 1 555) s) := by
    intro s
    have e1 := e_hold (u := sh 12 v) (s := s) l2 l1
    rw [show (sh 12 v) 0 0 = w 1 554 from l2.trans l3.symm, show (sh 12 v) 0 1 = w 1 555 from l4] at e1
    exact e1
  have rl : ∀ s, m_X9_isLocked w s = some (lk (w 1 554) (w 1 555) s) := by
    intro s
    have e2 := r_locked (w := w) (σ := w 1) (s := s)
    rw [va_up_id] at e2
    exact e2
  have hin : ∀ j, j < 797 → ¬ (nI j < (0 : Int32) ∨ 797 ≤ j) := by
    intro j hj
    rw [show (0 : Int32) = nI 0 from rfl, q_lts (by omega) (by omega)]
    omega
  have er : ∀ i, i < 8 → v 11 i = w 1 (544 + i) := fun i hi => (h4 i hi).1.trans (h4 i hi).2.symm
  have key : ∀ n k (a : Int32), k + n = 8 → (a = -1 ∨ ∃ j, j < 8 ∧ a = nI j) → ∃ z, (∀ F, n < F → lp (fun (rec3 : Int32 × Int32 → Option (Int32)) => un2 (fun (a1 : Int32) (a2 : Int32) => (if (8 : Int32) ≤ a2 then some a1 else ob (m_X2_hold (sh 12 v) a2) (fun r6 => lt (fun (a8 : Int32) => rec3 (a8, (a2 + 1))) (fun j9 => (if r6 = 0 then lt (fun (_ : Unit) => j9 a2) (fun j11 => (if a1 = (-1 : Int32) then j11 () else (if (xat 8 (v 11) a1) ≤ (xat 8 (v 11) a2) then j9 a1 else j11 ()))) else j9 a1)))))) F (a, nI k) = some z) ∧ (∀ F, n < F → lp (fun (rec3 : Int32 × Int32 → Option (Int32)) => un2 (fun (a1 : Int32) (a2 : Int32) => (if (8 : Int32) ≤ a2 then some a1 else ob (m_X9_isLocked w a2) (fun r6 => lt (fun (t8 : Int32) => rec3 (t8, (a2 + 1))) (fun j9 => lt (fun (_ : Unit) => j9 a1) (fun j10 => (if r6 = 0 then lt (fun (_ : Unit) => j9 a2) (fun j12 => (if a1 = (-1 : Int32) then j12 () else ck (¬ (((544 : Int32) + a2) < 0 ∨ 797 ≤ ((544 : Int32) + a2).toNatClampNeg)) (ck (¬ (((544 : Int32) + a1) < 0 ∨ 797 ≤ ((544 : Int32) + a1).toNatClampNeg)) ((if (w 1 ((544 : Int32) + a1).toNatClampNeg) ≤ (w 1 ((544 : Int32) + a2).toNatClampNeg) then j10 () else j12 ()))))) else j10 ()))))))) F (a, nI k) = some z) := by
    intro n
    induction n with
    | zero =>
      intro k a hk ha
      obtain rfl : k = 8 := by omega
      refine ⟨a, fun F hF => ?_, fun F hF => ?_⟩
      · obtain ⟨F, rfl⟩ : ∃ t, F = t + 1 := ⟨F - 1, by omega⟩
        rw [lp]
        simp only [q_u2]
        rw [if_pos (show (8 : Int32) ≤ nI 8 by decide)]
      · obtain ⟨F, rfl⟩ : ∃ t, F = t + 1 := ⟨F - 1, by omega⟩
        rw [lp]
        simp only [q_u2]
        rw [if_pos (show (8 : Int32) ≤ nI 8 by decide)]
    | succ n ih =>
      intro k a hk ha
      have hk8 : k < 8 := by omega
      have step : ∃ b, (b = -1 ∨ ∃ j, j < 8 ∧ b = nI j) ∧ (∀ rec : Int32 × Int32 → Option Int32, (if (8 : Int32) ≤ nI k then some a else ob (m_X2_hold (sh 12 v) (nI k)) (fun r6 => lt (fun (a8 : Int32) => rec (a8, (nI k + 1))) (fun j9 => (if r6 = 0 then lt (fun (_ : Unit) => j9 (nI k)) (fun j11 => (if a = (-1 : Int32) then j11 () else (if (xat 8 (v 11) a) ≤ (xat 8 (v 11) (nI k)) then j9 a else j11 ()))) else j9 a)))) = rec (b, nI (k + 1))) ∧ (∀ rec : Int32 × Int32 → Option Int32, (if (8 : Int32) ≤ nI k then some a else ob (m_X9_isLocked w (nI k)) (fun r6 => lt (fun (t8 : Int32) => rec (t8, (nI k + 1))) (fun j9 => lt (fun (_ : Unit) => j9 a) (fun j10 => (if r6 = 0 then lt (fun (_ : Unit) => j9 (nI k)) (fun j12 => (if a = (-1 : Int32) then j12 () else ck (¬ (((544 : Int32) + nI k) < 0 ∨ 797 ≤ ((544 : Int32) + nI k).toNatClampNeg)) (ck (¬ (((544 : Int32) + a) < 0 ∨ 797 ≤ ((544 : Int32) + a).toNatClampNeg)) ((if (w 1 ((544 : Int32) + a).toNatClampNeg) ≤ (w 1 ((544 : Int32) + nI k).toNatClampNeg) then j10 () else j12 ()))))) else j10 ()))))) = rec (b, nI (k + 1))) := by
        have k1 : nI k + 1 = nI (k + 1) := nI_1 k
        have h8 : ¬ (8 : Int32) ≤ nI k := nI_ge (b := 8) hk8 (by omega)
        by_cases c1 : lk (w 1 554) (w 1 555) (nI k) = 0
        · rcases ha with rfl | ⟨j, hj, rfl⟩
          · refine ⟨nI k, Or.inr ⟨k, hk8, rfl⟩, fun rec => ?_, fun rec => ?_⟩
            · simp only [q_lt]
              rw [if_neg h8, el]
              simp only [q_ob]
              rw [if_pos c1, if_pos (by decide), k1]
            · simp only [q_lt]
              rw [if_neg h8, rl]
              simp only [q_ob]
              rw [if_pos c1, if_pos (by decide), k1]
          · have hj1 : ¬ nI j = -1 := by rw [q_ne1 (by omega)]; exact id
            have e54 : ∀ i, (544 : Int32) + nI i = nI (544 + i) := fun i => nI_add 544 i
            by_cases c2 : w 1 (544 + j) ≤ w 1 (544 + k)
            · refine ⟨nI j, Or.inr ⟨j, hj, rfl⟩, fun rec => ?_, fun rec => ?_⟩
              · simp only [q_lt]
                rw [if_neg h8, el]
                simp only [q_ob]
                rw [if_pos c1, if_neg hj1, xat_n hj (by omega), xat_n hk8 (by omega), er j hj, er k hk8, if_pos c2, k1]
              · simp only [q_lt]
                rw [if_neg h8, rl]
                simp only [q_ob]
                rw [if_pos c1, if_neg hj1, e54, e54, q_cl (by omega), q_cl (by omega), q_ck (hin _ (by omega)), q_ck (hin _ (by omega)), if_pos c2, k1]
            · refine ⟨nI k, Or.inr ⟨k, hk8, rfl⟩, fun rec => ?_, fun rec => ?_⟩
              · simp only [q_lt]
                rw [if_neg h8, el]
                simp only [q_ob]
                rw [if_pos c1, if_neg hj1, xat_n hj (by omega), xat_n hk8 (by omega), er j hj, er k hk8, if_neg c2, k1]
              · simp only [q_lt]
                rw [if_neg h8, rl]
                simp only [q_ob]
                rw [if_pos c1, if_neg hj1, e54, e54, q_cl (by omega), q_cl (by omega), q_ck (hin _ (by omega)), q_ck (hin _ (by omega)), if_neg c2, k1]
        · refine ⟨a, ha, fun rec => ?_, fun rec => ?_⟩
          · simp only [q_lt]
            rw [if_neg h8, el]
            simp only [q_ob]
            rw [if_neg c1, k1]
          · simp only [q_lt]
            rw [if_neg h8, rl]
            simp only [q_ob]
            rw [if_neg c1, k1]
      obtain ⟨b, hb, s1, s2⟩ := step
      obtain ⟨z, z1, z2⟩ := ih (k + 1) b (by omega) hb
      refine ⟨z, fun F hF => ?_, fun F hF => ?_⟩
      · obtain ⟨F, rfl⟩ : ∃ t, F = t + 1 := ⟨F - 1, by omega⟩
        rw [lp]
        exact (s1 _).trans (z1 F (by omega))
      · obtain ⟨F, rfl⟩ : ∃ t, F = t + 1 := ⟨F - 1, by omega⟩
        rw [lp]
        exact (s2 _).trans (z2 F (by omega))
  obtain ⟨z, z1, z2⟩ := key 8 0 (-1) rfl (Or.inl rfl)
  exact ⟨z, z1 xF (xFg (by omega)), z2 xF (xFg (by omega))⟩
theorem b_least {B : Nat} {v w : xSt} (H : RBC B v w) : MO B v (m_X8_leastWorn v) (m_X9_leastWorn w) := by
  obtain ⟨z, h1, h2⟩ := s_least (RBC_1 (x := 0) H)
  refine MO_t H ⟨z, h1, ?_⟩
  unfold m_X9_leastWorn
  simp only [q_lt]
  rw [h2]
  rfl
