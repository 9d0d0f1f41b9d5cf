/-! LOOKS, both sides -/
theorem bz (x : Int32) (h : x = 0 ∨ x = 1) : (if x = 0 then some (0 : Int32) else some 1) = some x := by
  rcases h with rfl | rfl <;> rfl
theorem s_counted {B : Nat} {v w : xSt} (H : RBC B v w) {q : Nat} (hq : q < 16) : ∃ z, m_X8_count_n v (nI q) = some z ∧ m_X9_counted w (nI q) = some z := by
  have n21 : v 21 1 = w 1 580 := by
    obtain ⟨n, q, π, a1, a2, a3, a4, -⟩ := H.1.1.2.2.2.2.2.2.1
    exact a4.trans a3.symm
  have n13 : v 13 1 = w 1 567 := by
    obtain ⟨m, m1, m2, m3, -⟩ := RLd_f H.1.1.2.2.2.1
    exact m2.trans m3.symm
  have n05 : v 0 5 = w 0 3 := by
    obtain ⟨n, n1, n2, n3, -⟩ := H.2.2.2.1
    exact n2.trans n3.symm
  have er : ∀ i, i < 8 → v 11 i = w 1 (544 + i) := by
    obtain ⟨z, h4, h5⟩ := H.1.1.2.1.2.2.2
    exact fun i hi => (h4 i hi).1.trans (h4 i hi).2.symm
  rcases (show q = 0 ∨ q = 1 ∨ q = 2 ∨ q = 3 ∨ q = 4 ∨ q = 5 ∨ q = 6 ∨ q = 7 ∨ q = 8 ∨ q = 9 ∨ q = 10 ∨ q = 11 ∨ q = 12 ∨ q = 13 ∨ q = 14 ∨ q = 15 by omega) with rfl | rfl | rfl | rfl | rfl | rfl | rfl | rfl | rfl | rfl | rfl | rfl | rfl | rfl | rfl | rfl
  · -- 0
    refine ⟨w 1 561, ?_, ?_⟩
    · unfold m_X8_count_n
      repeat rw [if_neg (by decide)]
      rw [if_pos (by decide)]
      exact congrArg some H.1.2
    · unfold m_X9_counted
      simp only [q_lt]
      repeat rw [if_neg (by decide)]
      rw [if_pos (by decide), kn561, kc561]
  · -- 1
    refine ⟨w 1 552, ?_, ?_⟩
    · unfold m_X8_count_n
      repeat rw [if_neg (by decide)]
      rw [if_pos (by decide), show v 7 7 = w 1 552 from H.1.1.1.1]
      exact bz _ H.1.1.1.2.1
    · unfold m_X9_counted
      simp only [q_lt]
      repeat rw [if_neg (by decide)]
      rw [if_pos (by decide), q_ck (by decide), show ((552 : Int32) + nI 1 - 1).toNatClampNeg = 552 from rfl]
  · -- 2
    refine ⟨w 1 553, ?_, ?_⟩
    · unfold m_X8_count_n
      repeat rw [if_neg (by decide)]
      rw [if_pos (by decide), show v 12 2 = w 1 553 from H.1.1.2.2.1.2.2.1]
      exact bz _ H.1.1.2.2.1.2.2.2
    · unfold m_X9_counted
      simp only [q_lt]
      repeat rw [if_neg (by decide)]
      rw [if_pos (by decide), q_ck (by decide), show ((552 : Int32) + nI 2 - 1).toNatClampNeg = 553 from rfl]
  · -- 3
    refine ⟨w 1 554, ?_, ?_⟩
    · unfold m_X8_count_n
      repeat rw [if_neg (by decide)]
      rw [if_pos (by decide)]
      exact congrArg some ((fun l => l.2.1.trans l.2.2.symm) H.1.1.2.2.1.1.choose_spec)
    · unfold m_X9_counted
      simp only [q_lt]
      repeat rw [if_neg (by decide)]
      rw [if_pos (by decide), q_ck (by decide), show ((552 : Int32) + nI 3 - 1).toNatClampNeg = 554 from rfl]
  · -- 4
    refine ⟨w 1 555, ?_, ?_⟩
    · unfold m_X8_count_n
      repeat rw [if_neg (by decide)]
      rw [if_pos (by decide)]
      exact congrArg some (H.1.1.2.2.1.2.1)
    · unfold m_X9_counted
      simp only [q_lt]
      repeat rw [if_neg (by decide)]
      rw [if_pos (by decide), q_ck (by decide), show ((552 : Int32) + nI 4 - 1).toNatClampNeg = 555 from rfl]
  · -- 5
    have e1 := e_ones (c := sh 8 v) (σ := w 1) (a := 0) (n := 256) (fun i hi => (H.1.1.2.1.1 i hi).1) (by omega)
    have e2 := r_onesFrom (w := w) (σ := w 1) (a := 0) (n := 256) (by omega) (fun i hi => by rw [Nat.zero_add]; exact (H.1.1.2.1.1 i hi).2)
    rw [va_up_id] at e2
    refine ⟨oN (w 1) 0 256, ?_, ?_⟩
    · unfold m_X8_count_n
      repeat rw [if_neg (by decide)]
      rw [if_pos (by decide), show (0 : Int32) = nI 0 from rfl, show (256 : Int32) = nI 256 from rfl, e1]
      rfl
    · unfold m_X9_counted
      simp only [q_lt]
      repeat rw [if_neg (by decide)]
      rw [if_pos (by decide), show (0 : Int32) = nI 0 from rfl, show (256 : Int32) = nI (0 + 256) from rfl, e2]
      rfl
  · -- 6
    have e1 := e_allEr (c := sh 8 v) (σ := w 1) (fun i hi => er i hi)
    have e2 := r_erasures (w := w) (σ := w 1)
    rw [va_up_id] at e2
    refine ⟨eR (w 1) 8, ?_, ?_⟩
    · unfold m_X8_count_n
      repeat rw [if_neg (by decide)]
      rw [if_pos (by decide), e1]
      rfl
    · unfold m_X9_counted
      simp only [q_lt]
      repeat rw [if_neg (by decide)]
      rw [if_pos (by decide), e2]
      rfl
  · -- 7
    refine ⟨w 1 562, ?_, ?_⟩
    · unfold m_X8_count_n
      repeat rw [if_neg (by decide)]
      rw [if_pos (by decide)]
      exact congrArg some H.1.1.1.2.2.1
    · unfold m_X9_counted
      simp only [q_lt]
      repeat rw [if_neg (by decide)]
      rw [if_pos (by decide), kn562, kc562]
  · -- 8
    refine ⟨w 1 563, ?_, ?_⟩
    · unfold m_X8_count_n
      repeat rw [if_neg (by decide)]
      rw [if_pos (by decide)]
      exact congrArg some H.1.1.1.2.2.2.1
    · unfold m_X9_counted
      simp only [q_lt]
      repeat rw [if_neg (by decide)]
      rw [if_pos (by decide), kn563, kc563]
  · -- 9
    refine ⟨w 1 564, ?_, ?_⟩
    · unfold m_X8_count_n
      repeat rw [if_neg (by decide)]
      rw [if_pos (by decide)]
      exact congrArg some H.1.1.1.2.2.2.2.1
    · unfold m_X9_counted
      simp only [q_lt]
      repeat rw [if_neg (by decide)]
      rw [if_pos (by decide), kn564, kc564]
  · -- 10
    refine ⟨w 1 580, ?_, ?_⟩
    · unfold m_X8_count_n
      repeat rw [if_neg (by decide)]
      rw [if_pos (by decide)]
      exact congrArg some n21
    · unfold m_X9_counted
      simp only [q_lt]
      repeat rw [if_neg (by decide)]
      rw [if_pos (by decide), kn580, kc580]
  · -- 11
    refine ⟨w 1 567, ?_, ?_⟩
    · unfold m_X8_count_n
      repeat rw [if_neg (by decide)]
      rw [if_pos (by decide)]
      exact congrArg some n13
    · unfold m_X9_counted
      simp only [q_lt]
      repeat rw [if_neg (by decide)]
      rw [if_pos (by decide), kn567, kc567]
  · -- 12
    have e1 := e_stuck (c := sh 8 v) (σ := w 1) (fun i hi => (H.1.1.2.1.2.1 i hi).1)
    have e2 := r_stuck (w := w) (σ := w 1) (fun i hi => (H.1.1.2.1.2.1 i hi).2)
    rw [va_up_id] at e2
    refine ⟨oN (w 1) 256 256, ?_, ?_⟩
    · unfold m_X8_count_n
      repeat rw [if_neg (by decide)]
      rw [if_pos (by decide), e1]
      rfl
    · unfold m_X9_counted
      simp only [q_lt]
      repeat rw [if_neg (by decide)]
      rw [if_pos (by decide), e2]
      rfl
  · -- 13
    have e1 := (e_unsure H.1.1.2.1.2.2.1).1
    have e2 := r_unsure (w := w) (σ := w 1) (a := 0) (n := 32) (by omega)
    rw [va_up_id] at e2
    refine ⟨uR (w 1) 0 32, ?_, ?_⟩
    · unfold m_X8_count_n
      repeat rw [if_neg (by decide)]
      rw [if_pos (by decide)]
      exact congrArg some e1
    · unfold m_X9_counted
      simp only [q_lt]
      repeat rw [if_neg (by decide)]
      rw [if_pos (by decide), show (0 : Int32) = nI 0 from rfl, show (32 : Int32) = nI (0 + 32) from rfl, e2]
      rfl
  · -- 14
    refine ⟨w 1 565, ?_, ?_⟩
    · unfold m_X8_count_n
      repeat rw [if_neg (by decide)]
      rw [if_pos (by decide)]
      exact congrArg some H.1.1.1.2.2.2.2.2
    · unfold m_X9_counted
      simp only [q_lt]
      repeat rw [if_neg (by decide)]
      rw [if_pos (by decide), kn565, kc565]
  · -- 15
    refine ⟨w 0 3, ?_, ?_⟩
    · unfold m_X8_count_n
      repeat rw [if_neg (by decide)]
      exact congrArg some n05
    · unfold m_X9_counted
      simp only [q_lt]
      repeat rw [if_neg (by decide)]
theorem s_sectorTold {B : Nat} {v w : xSt} (H : RBC B v w) (hB : B < 16000000) {p q : Nat} (hp : p < 8) (hq : q < 7) : ∃ z, m_X8_sector_n v (nI p) (nI q) = some z ∧ m_X9_sectorTold w (nI p) (nI q) = some z := by
  have hx : xwi (nI p) 0 7 = 1 := by
    have : ∀ p, p < 8 → xwi (nI p) 0 7 = 1 := by decide +kernel
    exact this p hp
  have er : ∀ i, i < 8 → v 11 i = w 1 (544 + i) := by
    obtain ⟨z, h4, h5⟩ := H.1.1.2.1.2.2.2
    exact fun i hi => (h4 i hi).1.trans (h4 i hi).2.symm
  obtain ⟨n, qq, π, a1, a2, a3, -⟩ := id H.1.1.2.2.2.2.2.2.1
  obtain ⟨⟨l, l1, l2, l3⟩, l4, l5⟩ := id H.1.1.2.2.1
  rcases (show q = 0 ∨ q = 1 ∨ q = 2 ∨ q = 3 ∨ q = 4 ∨ q = 5 ∨ q = 6 by omega) with rfl | rfl | rfl | rfl | rfl | rfl | rfl
  · refine ⟨w 1 (544 + p), ?_, ?_⟩
    · unfold m_X8_sector_n
      rw [hx]
      repeat rw [if_neg (by decide)]
      rw [if_pos (by decide), xat_n hp (by omega), er p hp]
    · unfold m_X9_sectorTold
      rw [if_pos (by decide), show (544 : Int32) + nI p = nI (544 + p) from nI_add 544 p, q_cl (by omega), q_ck (by rw [show (0 : Int32) = nI 0 from rfl, q_lts (by omega) (by omega)]; omega)]
  · have e1 := e_hold (u := sh 12 v) (s := nI p) l2 l1
    have e2 := r_locked (w := w) (σ := w 1) (s := nI p)
    rw [va_up_id] at e2
    rw [show (sh 12 v) 0 0 = w 1 554 from l2.trans l3.symm, show (sh 12 v) 0 1 = w 1 555 from l4] at e1
    refine ⟨lk (w 1 554) (w 1 555) (nI p), ?_, ?_⟩
    · unfold m_X8_sector_n
      rw [hx]
      repeat rw [if_neg (by decide)]
      rw [if_pos (by decide), e1]
      exact bz _ (lk_01 _ _ _)
    · unfold m_X9_sectorTold
      repeat rw [if_neg (by decide)]
      rw [if_pos (by decide), e2]
      exact bz _ (lk_01 _ _ _)
  · have e1 := e_ones (c := sh 8 v) (σ := w 1) (a := 32 * p) (n := 32) (fun i hi => (H.1.1.2.1.1 i hi).1) (by omega)
    have e2 := r_onesFrom (w := w) (σ := w 1) (a := 32 * p) (n := 32) (by omega) (fun i hi => (H.1.1.2.1.1 _ (by omega)).2)
    rw [va_up_id] at e2
    refine ⟨oN (w 1) (32 * p) 32, ?_, ?_⟩
    · unfold m_X8_sector_n
      rw [hx]
      repeat rw [if_neg (by decide)]
      rw [if_pos (by decide), show nI p * 32 = nI (32 * p) by rw [show (32 : Int32) = nI 32 from rfl, pk_mul, Nat.mul_comm], show (32 : Int32) = nI 32 from rfl, e1]
      rfl
    · unfold m_X9_sectorTold
      repeat rw [if_neg (by decide)]
      rw [if_pos (by decide), show (32 : Int32) * nI p = nI (32 * p) from pk_mul 32 p, show nI (32 * p) + 32 = nI (32 * p + 32) from nI_add _ 32, e2]
      rfl
  · have e1 := e_fallen (c := sh 8 v) (σ := w 1) (p := p) (fun i hi => (H.1.1.2.1.1 i hi).1) hp
    have e2 := r_used (w := w) (σ := w 1) hp (fun i hi => (H.1.1.2.1.1 i hi).2)
    rw [va_up_id] at e2
    refine ⟨nI (fP (w 1) p 4), ?_, ?_⟩
    · unfold m_X8_sector_n
      rw [hx]
      repeat rw [if_neg (by decide)]
      rw [if_pos (by decide), e1]
      rfl
    · unfold m_X9_sectorTold
      repeat rw [if_neg (by decide)]
      rw [if_pos (by decide), e2]
      rfl
  · have e1 := (e_unsure H.1.1.2.1.2.2.1).2 p hp
    have e2 := r_unsure (w := w) (σ := w 1) (a := 4 * p) (n := 4) (by omega)
    rw [va_up_id] at e2
    refine ⟨uR (w 1) (4 * p) 4, ?_, ?_⟩
    · unfold m_X8_sector_n
      rw [hx]
      repeat rw [if_neg (by decide)]
      rw [if_pos (by decide)]
      exact congrArg some e1
    · unfold m_X9_sectorTold
      repeat rw [if_neg (by decide)]
      rw [if_pos (by decide), show (4 : Int32) * nI p = nI (4 * p) from pk_mul 4 p, show nI (4 * p) + 4 = nI (4 * p + 4) from nI_add _ 4, e2]
      rfl
  · obtain ⟨t, t1, t2, t3, t4⟩ := e_eraseTicks H.1.1 hB hp
    have e2 := r_eraseTicks (w := w) (σ := w 1) hp
    rw [va_up_id, t4] at e2
    refine ⟨nI t, ?_, ?_⟩
    · unfold m_X8_sector_n
      rw [hx]
      repeat rw [if_neg (by decide)]
      rw [if_pos (by decide), t3]
      rfl
    · unfold m_X9_sectorTold
      repeat rw [if_neg (by decide)]
      rw [if_pos (by decide), e2]
      rfl
  · have e1 := e_ordersFor (c := sh 21 v) (s := nI p) H.1.1 a3 a1 (fun j hj => by rw [sh_e, sh_e]; exact congrArg v (by omega))
    have e2 := r_ordersFor (w := w) (σ := w 1) (s := nI p) a3 a1
    rw [va_up_id] at e2
    refine ⟨nI (oF (w 1) (nI p) n), ?_, ?_⟩
    · unfold m_X8_sector_n
      rw [hx]
      repeat rw [if_neg (by decide)]
      rw [e1]
      rfl
    · unfold m_X9_sectorTold
      repeat rw [if_neg (by decide)]
      rw [e2]
      rfl
theorem RWk_t {o : Nat → Int32} {z : Int32} {r σ : Nat → Int32} {b : Nat} (H : RWk o z r σ b) : (∃ k, k ≤ 3 ∧ o 0 = nI k ∧ σ b = nI k ∧ (k = 0 → o 1 = -1 ∧ o 6 = -1) ∧ (1 ≤ k → o 1 = σ (b + 1) ∧ o 6 = σ (b + 5))) ∧ o 4 - o 5 = σ (b + 3) - σ (b + 2) ∧ o 7 = σ (b + 6) ∧ (o 7 = 0 ∨ o 7 = 1) := by
  refine ⟨?_, RWk_l H, ?_, ?_⟩
  · rcases H.2 with h | ⟨k, d, t, p, b1, b2, b3, b4, b5, b6, b7, b8, b9, b10, b11, b12, b13, b14⟩
    · exact ⟨0, by omega, h.2.1, h.1, fun _ => ⟨h.2.2.1, h.2.2.2.1⟩, fun hh => absurd hh (by omega)⟩
    · exact ⟨k, b2, b4, b3, fun hh => absurd hh (by omega), fun _ => ⟨b11.trans b12.symm, b13⟩⟩
  · obtain ⟨u, u1, u2, u3⟩ := H.1
    exact u2.trans u3.symm
  · obtain ⟨u, u1, u2, u3⟩ := H.1
    rw [u2]
    rcases (show u = 0 ∨ u = 1 by omega) with rfl | rfl
    · exact Or.inl rfl
    · exact Or.inr rfl
theorem s_workTold {B : Nat} {v w : xSt} (H : RBC B v w) {p q : Nat} (hp : p < 2) (hq : q < 5) : ∃ z, m_X8_work_n v (nI p) (nI q) = some z ∧ m_X9_workTold w (nI p) (nI q) = some z := by
  have u8 := RWk_t H.1.1.2.2.2.2.1
  have u11 := RWk_t H.1.1.2.2.2.2.2.1
  have key : ∀ (p b : Nat), p < 2 → b = 581 + 18 * p → ∀ (o : Nat → Int32), ((∃ k, k ≤ 3 ∧ o 0 = nI k ∧ w 1 b = nI k ∧ (k = 0 → o 1 = -1 ∧ o 6 = -1) ∧ (1 ≤ k → o 1 = w 1 (b + 1) ∧ o 6 = w 1 (b + 5))) ∧ o 4 - o 5 = w 1 (b + 3) - w 1 (b + 2) ∧ o 7 = w 1 (b + 6) ∧ (o 7 = 0 ∨ o 7 = 1)) → m_X9_workTold w (nI p) (nI q) = some (if q = 0 then o 0 else if q = 1 then o 1 else if q = 2 then o 4 - o 5 else if q = 3 then o 6 else o 7) := by
    intro p b hp hb o ⟨⟨k, k3, k0, kb, kz, kn⟩, h2, h3, h4⟩
    unfold m_X9_workTold
    have hx : ∀ j, j < 7 → (((581 : Int32) + ((18 : Int32) * nI p)) + nI j) = nI (b + j) := by
      intro j hj
      rw [show (18 : Int32) * nI p = nI (18 * p) from pk_mul 18 p, show (581 : Int32) + nI (18 * p) = nI (581 + 18 * p) from nI_add 581 _, nI_add, hb]
    have hc : ∀ j, j < 7 → ¬ (nI (b + j) < (0 : Int32) ∨ 797 ≤ b + j) := by
      intro j hj
      rw [show (0 : Int32) = nI 0 from rfl, q_lts (by omega) (by omega)]
      omega
    have b0 : b + 0 = b := rfl
    rw [show ((581 : Int32) + (18 : Int32) * nI p) + 0 = nI (b + 0) from hx 0 (by omega), show ((581 : Int32) + (18 : Int32) * nI p) + 1 = nI (b + 1) from hx 1 (by omega), show ((581 : Int32) + (18 : Int32) * nI p) + 2 = nI (b + 2) from hx 2 (by omega), show ((581 : Int32) + (18 : Int32) * nI p) + 3 = nI (b + 3) from hx 3 (by omega), show ((581 : Int32) + (18 : Int32) * nI p) + 5 = nI (b + 5) from hx 5 (by omega), show ((581 : Int32) + (18 : Int32) * nI p) + 6 = nI (b + 6) from hx 6 (by omega)]
    rw [q_cl (by omega), q_cl (by omega), q_cl (by omega), q_cl (by omega), q_cl (by omega), q_cl (by omega)]
    rw [q_ck (hc 0 (by omega)), q_ck (hc 0 (by omega)), q_ck (hc 1 (by omega)), q_ck (hc 3 (by omega)), q_ck (hc 2 (by omega)), q_ck (hc 5 (by omega)), q_ck (hc 6 (by omega))]
    simp only [q_lt, b0, kb]
    rcases Nat.eq_zero_or_pos k with h | h
    · subst h
      obtain ⟨z1, z6⟩ := kz rfl
      rw [if_pos (show nI 0 ≤ 0 by decide)]
      rcases (show q = 0 ∨ q = 1 ∨ q = 2 ∨ q = 3 ∨ q = 4 by omega) with rfl | rfl | rfl | rfl | rfl
      · repeat first | rw [if_neg (by decide)] | rw [if_pos (by decide)]
        rw [k0]
      · repeat first | rw [if_neg (by decide)] | rw [if_pos (by decide)]
        rw [z1]
      · repeat first | rw [if_neg (by decide)] | rw [if_pos (by decide)]
        rw [h2]
      · repeat first | rw [if_neg (by decide)] | rw [if_pos (by decide)]
        rw [z6]
      · repeat first | rw [if_neg (by decide)] | rw [if_pos (by decide)]
        rw [h3]
    · obtain ⟨z1, z6⟩ := kn h
      rw [if_neg (nI_nle h (by omega))]
      rcases (show q = 0 ∨ q = 1 ∨ q = 2 ∨ q = 3 ∨ q = 4 by omega) with rfl | rfl | rfl | rfl | rfl
      · repeat first | rw [if_neg (by decide)] | rw [if_pos (by decide)]
        rw [k0]
      · repeat first | rw [if_neg (by decide)] | rw [if_pos (by decide)]
        rw [z1]
      · repeat first | rw [if_neg (by decide)] | rw [if_pos (by decide)]
        rw [h2]
      · repeat first | rw [if_neg (by decide)] | rw [if_pos (by decide)]
        rw [z6]
      · repeat first | rw [if_neg (by decide)] | rw [if_pos (by decide)]
        rw [h3]
  rcases (show p = 0 ∨ p = 1 by omega) with rfl | rfl
  · refine ⟨_, ?_, key 0 581 (by omega) rfl (v 15) u8⟩
    unfold m_X8_work_n
    rcases (show q = 0 ∨ q = 1 ∨ q = 2 ∨ q = 3 ∨ q = 4 by omega) with rfl | rfl | rfl | rfl | rfl
    · repeat first | rw [if_neg (by decide)] | rw [if_pos (by decide)]
    · repeat first | rw [if_neg (by decide)] | rw [if_pos (by decide)]
    · repeat first | rw [if_neg (by decide)] | rw [if_pos (by decide)]
      rfl
    · repeat first | rw [if_neg (by decide)] | rw [if_pos (by decide)]
    · repeat first | rw [if_neg (by decide)] | rw [if_pos (by decide)]
      refine (bz (v 15 7) u8.2.2.2).trans ?_
      repeat first | rw [if_neg (by decide)] | rw [if_pos (by decide)]
  · refine ⟨_, ?_, key 1 599 (by omega) rfl (v 18) u11⟩
    unfold m_X8_work_n
    rcases (show q = 0 ∨ q = 1 ∨ q = 2 ∨ q = 3 ∨ q = 4 by omega) with rfl | rfl | rfl | rfl | rfl
    · repeat first | rw [if_neg (by decide)] | rw [if_pos (by decide)]
    · repeat first | rw [if_neg (by decide)] | rw [if_pos (by decide)]
    · repeat first | rw [if_neg (by decide)] | rw [if_pos (by decide)]
      rfl
    · repeat first | rw [if_neg (by decide)] | rw [if_pos (by decide)]
    · repeat first | rw [if_neg (by decide)] | rw [if_pos (by decide)]
      refine (bz (v 18 7) u11.2.2.2).trans ?_
      repeat first | rw [if_neg (by decide)] | rw [if_pos (by decide)]
theorem s_orderTold {B n r : Nat} {v w : xSt} (H : RBC B v w) (hn : w 1 580 = nI n) (hn1 : n ≤ 10) (hr : r < n) {q : Nat} (hq : q < 6) : ∃ z, m_X8_order_n v (nI r) (nI q) = some z ∧ m_X9_orderTold w (nI r) (nI q) = some z := by
  obtain ⟨n', qq, π, a1, a2, a3, a4, a5, a6, a7, a8, a9⟩ := id H.1.1.2.2.2.2.2.2.1
  obtain rfl : n' = n := (nI_eq (by omega) (by omega)).mp (a3.symm.trans hn)
  have hπ := (a7.1 r (by omega)).1
  obtain ⟨⟨num, c1, c2, c3⟩, ⟨k, p, m, d1, d2, d3, d4, d5, d6, d7, d8, d9, d10⟩, ⟨u, f1, f2, f3⟩, f4⟩ := a8 r hr
  have eo : m_X1_orderAt (sh 21 v) (nI r) = some (some (π r)) := e_orderAt (c := sh 21 v) a4 a1 a7 hr
  have e16 : 7 + (14 + (2 + 3 * π r)) = 7 + (16 + 3 * π r) := by omega
  have e17 : 7 + (16 + 3 * π r) + 1 = 7 + (17 + 3 * π r) := by omega
  have g : ∀ j, v (7 + j) = sh 7 v j := fun _ => rfl
  have of : ∀ j, 617 + 18 * r + j < 797 → m_X9_ofOrder w (nI r) (nI j) = some (w 1 (617 + 18 * r + j)) := by
    intro j hj
    have := r_ofOrder (w := w) (σ := w 1) hj
    rw [va_up_id] at this
    exact this
  have hx : xwi (nI q) 0 5 = 1 := by
    have : ∀ p, p < 6 → xwi (nI p) 0 5 = 1 := by decide +kernel
    exact this q hq
  unfold m_X8_order_n m_X9_orderTold
  rw [eo, hx]
  simp only [q_ob, q_oms, e16, e17]
  rw [q_ck hπ, if_neg (show ¬ (1 : Int32) = 0 by decide), g, g]
  rcases (show q = 0 ∨ q = 1 ∨ q = 2 ∨ q = 3 ∨ q = 4 ∨ q = 5 by omega) with rfl | rfl | rfl | rfl | rfl | rfl
  · repeat first | rw [if_neg (by decide)] | rw [if_pos (by decide)]
    refine ⟨nI num, by rw [c2], ?_⟩
    rw [of 0 (by omega), Nat.add_zero, c3]
    rfl
  · refine ⟨nI k, ?_, ?_⟩
    · repeat first | rw [if_neg (by decide)] | rw [if_pos (by decide)]
      rw [d2]
      rcases (show k = 0 ∨ k = 1 by omega) with rfl | rfl <;> rfl
    · rw [if_neg (by decide), of 1 (by omega), d3]
      rfl
  · repeat first | rw [if_neg (by decide)] | rw [if_pos (by decide)]
    refine ⟨nI p, by rw [d4], ?_⟩
    rw [of 2 (by omega), d5]
    rfl
  · repeat first | rw [if_neg (by decide)] | rw [if_pos (by decide)]
    refine ⟨nI u, by rw [f2], ?_⟩
    rw [of 3 (by omega), f3]
    rfl
  · repeat first | rw [if_neg (by decide)] | rw [if_pos (by decide)]
    refine ⟨_, rfl, ?_⟩
    rw [kn561, kc561, show (4 : Int32) = nI 4 from rfl, of 4 (by omega)]
    simp only [q_ob]
    rw [f4, show v 7 8 = w 1 561 from H.1.2]
  · repeat first | rw [if_neg (by decide)] | rw [if_pos (by decide)]
    refine ⟨nI m, by rw [d8.1], ?_⟩
    rw [of 5 (by omega), d9]
    rfl
