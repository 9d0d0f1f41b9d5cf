/-! WHAT THE LOOKS TELL, as numbers of the array -/
theorem c_0 {B : Nat} {v w : xSt} (H : RBC B v w) : m_X8_count_n v (0 : Int32) = some (w 1 561) := by
  obtain ⟨z, h1, h2⟩ := s_counted H (q := 0) (by omega)
  refine (show m_X8_count_n v (0 : Int32) = some z from h1).trans ?_
  rw [← h2]
  unfold m_X9_counted
  simp only [q_lt]
  repeat rw [if_neg (by decide)]
  rw [if_pos (by decide), kn561, kc561]
theorem c_1 {B : Nat} {v w : xSt} (H : RBC B v w) : m_X8_count_n v (1 : Int32) = some (w 1 552) := by
  obtain ⟨z, h1, h2⟩ := s_counted H (q := 1) (by omega)
  refine (show m_X8_count_n v (1 : Int32) = some z from h1).trans ?_
  rw [← h2]
  unfold m_X9_counted
  simp only [q_lt]
  repeat rw [if_neg (by decide)]
  rw [if_pos (by decide), q_ck (by decide), show ((552 : Int32) + nI 1 - 1).toNatClampNeg = 552 from rfl]
theorem c_2 {B : Nat} {v w : xSt} (H : RBC B v w) : m_X8_count_n v (2 : Int32) = some (w 1 553) := by
  obtain ⟨z, h1, h2⟩ := s_counted H (q := 2) (by omega)
  refine (show m_X8_count_n v (2 : Int32) = some z from h1).trans ?_
  rw [← h2]
  unfold m_X9_counted
  simp only [q_lt]
  repeat rw [if_neg (by decide)]
  rw [if_pos (by decide), q_ck (by decide), show ((552 : Int32) + nI 2 - 1).toNatClampNeg = 553 from rfl]
theorem c_3 {B : Nat} {v w : xSt} (H : RBC B v w) : m_X8_count_n v (3 : Int32) = some (w 1 554) := by
  obtain ⟨z, h1, h2⟩ := s_counted H (q := 3) (by omega)
  refine (show m_X8_count_n v (3 : Int32) = some z from h1).trans ?_
  rw [← h2]
  unfold m_X9_counted
  simp only [q_lt]
  repeat rw [if_neg (by decide)]
  rw [if_pos (by decide), q_ck (by decide), show ((552 : Int32) + nI 3 - 1).toNatClampNeg = 554 from rfl]
theorem c_4 {B : Nat} {v w : xSt} (H : RBC B v w) : m_X8_count_n v (4 : Int32) = some (w 1 555) := by
  obtain ⟨z, h1, h2⟩ := s_counted H (q := 4) (by omega)
  refine (show m_X8_count_n v (4 : Int32) = some z from h1).trans ?_
  rw [← h2]
  unfold m_X9_counted
  simp only [q_lt]
  repeat rw [if_neg (by decide)]
  rw [if_pos (by decide), q_ck (by decide), show ((552 : Int32) + nI 4 - 1).toNatClampNeg = 555 from rfl]
theorem c_5 {B : Nat} {v w : xSt} (H : RBC B v w) : m_X8_count_n v (5 : Int32) = some (oN (w 1) 0 256) := by
  obtain ⟨z, h1, h2⟩ := s_counted H (q := 5) (by omega)
  refine (show m_X8_count_n v (5 : Int32) = some z from h1).trans ?_
  rw [← h2]
  have e2 := r_onesFrom (w := w) (σ := w 1) (a := 0) (n := 256) (by omega) (fun i hi => by rw [Nat.zero_add]; exact (H.1.1.2.1.1 i hi).2)
  rw [va_up_id] at e2
  unfold m_X9_counted
  simp only [q_lt]
  repeat rw [if_neg (by decide)]
  rw [if_pos (by decide), show (0 : Int32) = nI 0 from rfl, show (256 : Int32) = nI (0 + 256) from rfl, e2]
  rfl
theorem c_6 {B : Nat} {v w : xSt} (H : RBC B v w) : m_X8_count_n v (6 : Int32) = some (eR (w 1) 8) := by
  obtain ⟨z, h1, h2⟩ := s_counted H (q := 6) (by omega)
  refine (show m_X8_count_n v (6 : Int32) = some z from h1).trans ?_
  rw [← h2]
  have e2 := r_erasures (w := w) (σ := w 1)
  rw [va_up_id] at e2
  unfold m_X9_counted
  simp only [q_lt]
  repeat rw [if_neg (by decide)]
  rw [if_pos (by decide), e2]
  rfl
theorem c_7 {B : Nat} {v w : xSt} (H : RBC B v w) : m_X8_count_n v (7 : Int32) = some (w 1 562) := by
  obtain ⟨z, h1, h2⟩ := s_counted H (q := 7) (by omega)
  refine (show m_X8_count_n v (7 : Int32) = some z from h1).trans ?_
  rw [← h2]
  unfold m_X9_counted
  simp only [q_lt]
  repeat rw [if_neg (by decide)]
  rw [if_pos (by decide), kn562, kc562]
theorem c_8 {B : Nat} {v w : xSt} (H : RBC B v w) : m_X8_count_n v (8 : Int32) = some (w 1 563) := by
  obtain ⟨z, h1, h2⟩ := s_counted H (q := 8) (by omega)
  refine (show m_X8_count_n v (8 : Int32) = some z from h1).trans ?_
  rw [← h2]
  unfold m_X9_counted
  simp only [q_lt]
  repeat rw [if_neg (by decide)]
  rw [if_pos (by decide), kn563, kc563]
theorem c_9 {B : Nat} {v w : xSt} (H : RBC B v w) : m_X8_count_n v (9 : Int32) = some (w 1 564) := by
  obtain ⟨z, h1, h2⟩ := s_counted H (q := 9) (by omega)
  refine (show m_X8_count_n v (9 : Int32) = some z from h1).trans ?_
  rw [← h2]
  unfold m_X9_counted
  simp only [q_lt]
  repeat rw [if_neg (by decide)]
  rw [if_pos (by decide), kn564, kc564]
theorem c_10 {B : Nat} {v w : xSt} (H : RBC B v w) : m_X8_count_n v (10 : Int32) = some (w 1 580) := by
  obtain ⟨z, h1, h2⟩ := s_counted H (q := 10) (by omega)
  refine (show m_X8_count_n v (10 : Int32) = some z from h1).trans ?_
  rw [← h2]
  unfold m_X9_counted
  simp only [q_lt]
  repeat rw [if_neg (by decide)]
  rw [if_pos (by decide), kn580, kc580]
theorem c_11 {B : Nat} {v w : xSt} (H : RBC B v w) : m_X8_count_n v (11 : Int32) = some (w 1 567) := by
  obtain ⟨z, h1, h2⟩ := s_counted H (q := 11) (by omega)
  refine (show m_X8_count_n v (11 : Int32) = some z from h1).trans ?_
  rw [← h2]
  unfold m_X9_counted
  simp only [q_lt]
  repeat rw [if_neg (by decide)]
  rw [if_pos (by decide), kn567, kc567]
theorem c_14 {B : Nat} {v w : xSt} (H : RBC B v w) : m_X8_count_n v (14 : Int32) = some (w 1 565) := by
  obtain ⟨z, h1, h2⟩ := s_counted H (q := 14) (by omega)
  refine (show m_X8_count_n v (14 : Int32) = some z from h1).trans ?_
  rw [← h2]
  unfold m_X9_counted
  simp only [q_lt]
  repeat rw [if_neg (by decide)]
  rw [if_pos (by decide), kn565, kc565]
theorem c_12 {B : Nat} {v w : xSt} (H : RBC B v w) : m_X8_count_n v (12 : Int32) = some (oN (w 1) 256 256) := by
  obtain ⟨z, h1, h2⟩ := s_counted H (q := 12) (by omega)
  refine (show m_X8_count_n v (12 : Int32) = some z from h1).trans ?_
  rw [← h2]
  have e2 := r_stuck (w := w) (σ := w 1) (fun i hi => (H.1.1.2.1.2.1 i hi).2)
  rw [va_up_id] at e2
  unfold m_X9_counted
  simp only [q_lt]
  repeat rw [if_neg (by decide)]
  rw [if_pos (by decide), e2]
  rfl
theorem c_13 {B : Nat} {v w : xSt} (H : RBC B v w) : m_X8_count_n v (13 : Int32) = some (uR (w 1) 0 32) := by
  obtain ⟨z, h1, h2⟩ := s_counted H (q := 13) (by omega)
  refine (show m_X8_count_n v (13 : Int32) = some z from h1).trans ?_
  rw [← h2]
  have e2 := r_unsure (w := w) (σ := w 1) (a := 0) (n := 32) (by omega)
  rw [va_up_id] at e2
  unfold m_X9_counted
  simp only [q_lt]
  repeat rw [if_neg (by decide)]
  rw [if_pos (by decide), show (0 : Int32) = nI 0 from rfl, show (32 : Int32) = nI (0 + 32) from rfl, e2]
  rfl
theorem c_15 {B : Nat} {v w : xSt} (H : RBC B v w) : m_X8_count_n v (15 : Int32) = some (w 0 3) := by
  obtain ⟨z, h1, h2⟩ := s_counted H (q := 15) (by omega)
  refine (show m_X8_count_n v (15 : Int32) = some z from h1).trans ?_
  rw [← h2]
  unfold m_X9_counted
  simp only [q_lt]
  repeat rw [if_neg (by decide)]
def cF (σ : Nat → Int32) (q : Nat) : Int32 := if q = 0 then σ 561 else if q < 5 then σ (551 + q) else if q = 5 then oN σ 0 256 else if q = 6 then eR σ 8 else if q < 10 then σ (555 + q) else if q = 10 then σ 580 else if q = 11 then σ 567 else if q = 12 then oN σ 256 256 else if q = 13 then uR σ 0 32 else σ 565
theorem c_F {B : Nat} {v w : xSt} (H : RBC B v w) {q : Nat} (hq : q < 15) : m_X8_count_n v (nI q) = some (cF (w 1) q) := by
  rcases (show q = 0 ∨ q = 1 ∨ q = 2 ∨ q = 3 ∨ q = 4 ∨ q = 5 ∨ q = 6 ∨ q = 7 ∨ q = 8 ∨ q = 9 ∨ q = 10 ∨ q = 11 ∨ q = 12 ∨ q = 13 ∨ q = 14 by omega) with rfl | rfl | rfl | rfl | rfl | rfl | rfl | rfl | rfl | rfl | rfl | rfl | rfl | rfl | rfl
  · exact c_0 H
  · exact c_1 H
  · exact c_2 H
  · exact c_3 H
  · exact c_4 H
  · exact c_5 H
  · exact c_6 H
  · exact c_7 H
  · exact c_8 H
  · exact c_9 H
  · exact c_10 H
  · exact c_11 H
  · exact c_12 H
  · exact c_13 H
  · exact c_14 H
theorem d_0 {B : Nat} {v w : xSt} (H : RBC B v w) (hB : B < 16000000) {p : Nat} (hp : p < 8) : m_X8_sector_n v (nI p) (0 : Int32) = some (w 1 (544 + p)) := by
  obtain ⟨z, h1, h2⟩ := s_sectorTold H hB hp (q := 0) (by omega)
  refine (show m_X8_sector_n v (nI p) (0 : Int32) = some z from h1).trans ?_
  rw [← h2]
  unfold m_X9_sectorTold
  repeat rw [if_neg (by decide)]
  rw [if_pos (by decide), show (544 : Int32) + nI p = nI (544 + p) from nI_add 544 p, q_cl (by omega), q_ck (by rw [show (0 : Int32) = nI 0 from rfl, q_lts (by omega) (by omega)]; omega)]
theorem d_1 {B : Nat} {v w : xSt} (H : RBC B v w) (hB : B < 16000000) {p : Nat} (hp : p < 8) : m_X8_sector_n v (nI p) (1 : Int32) = some (lk (w 1 554) (w 1 555) (nI p)) := by
  obtain ⟨z, h1, h2⟩ := s_sectorTold H hB hp (q := 1) (by omega)
  refine (show m_X8_sector_n v (nI p) (1 : Int32) = some z from h1).trans ?_
  rw [← h2]
  unfold m_X9_sectorTold
  repeat rw [if_neg (by decide)]
  have e2 := r_locked (w := w) (σ := w 1) (s := nI p)
  rw [va_up_id] at e2
  rw [if_pos (by decide), e2]
  exact bz _ (lk_01 _ _ _)
theorem d_2 {B : Nat} {v w : xSt} (H : RBC B v w) (hB : B < 16000000) {p : Nat} (hp : p < 8) : m_X8_sector_n v (nI p) (2 : Int32) = some (oN (w 1) (32 * p) 32) := by
  obtain ⟨z, h1, h2⟩ := s_sectorTold H hB hp (q := 2) (by omega)
  refine (show m_X8_sector_n v (nI p) (2 : Int32) = some z from h1).trans ?_
  rw [← h2]
  unfold m_X9_sectorTold
  repeat rw [if_neg (by decide)]
  have e2 := r_onesFrom (w := w) (σ := w 1) (a := 32 * p) (n := 32) (by omega) (fun i hi => (H.1.1.2.1.1 _ (by omega)).2)
  rw [va_up_id] at e2
  rw [if_pos (by decide), show (32 : Int32) * nI p = nI (32 * p) from pk_mul 32 p, show nI (32 * p) + 32 = nI (32 * p + 32) from nI_add _ 32, e2]
  rfl
theorem d_4 {B : Nat} {v w : xSt} (H : RBC B v w) (hB : B < 16000000) {p : Nat} (hp : p < 8) : m_X8_sector_n v (nI p) (4 : Int32) = some (uR (w 1) (4 * p) 4) := by
  obtain ⟨z, h1, h2⟩ := s_sectorTold H hB hp (q := 4) (by omega)
  refine (show m_X8_sector_n v (nI p) (4 : Int32) = some z from h1).trans ?_
  rw [← h2]
  unfold m_X9_sectorTold
  repeat rw [if_neg (by decide)]
  have e2 := r_unsure (w := w) (σ := w 1) (a := 4 * p) (n := 4) (by omega)
  rw [va_up_id] at e2
  rw [if_pos (by decide), show (4 : Int32) * nI p = nI (4 * p) from pk_mul 4 p, show nI (4 * p) + 4 = nI (4 * p + 4) from nI_add _ 4, e2]
  rfl
theorem d_5 {B : Nat} {v w : xSt} (H : RBC B v w) (hB : B < 16000000) {p : Nat} (hp : p < 8) : m_X8_sector_n v (nI p) (5 : Int32) = some (4 + w 1 557 + w 1 (544 + p) / 4) := by
  obtain ⟨z, h1, h2⟩ := s_sectorTold H hB hp (q := 5) (by omega)
  refine (show m_X8_sector_n v (nI p) (5 : Int32) = some z from h1).trans ?_
  rw [← h2]
  unfold m_X9_sectorTold
  repeat rw [if_neg (by decide)]
  have e2 := r_eraseTicks (w := w) (σ := w 1) hp
  rw [va_up_id] at e2
  rw [if_pos (by decide), e2]
  rfl
theorem d_6 {B : Nat} {v w : xSt} (H : RBC B v w) (hB : B < 16000000) {p n : Nat} (hp : p < 8) (hn : w 1 580 = nI n) (hn1 : n ≤ 10) : m_X8_sector_n v (nI p) (6 : Int32) = some (nI (oF (w 1) (nI p) n)) := by
  obtain ⟨z, h1, h2⟩ := s_sectorTold H hB hp (q := 6) (by omega)
  refine (show m_X8_sector_n v (nI p) (6 : Int32) = some z from h1).trans ?_
  rw [← h2]
  unfold m_X9_sectorTold
  repeat rw [if_neg (by decide)]
  have e2 := r_ordersFor (w := w) (σ := w 1) (s := nI p) hn hn1
  rw [va_up_id] at e2
  rw [e2]
  rfl
def ldF (σ : Nat → Int32) (k : Nat) : Int32 := if k < (σ 567).toNatClampNeg then σ (568 + vi (σ 567).toNatClampNeg k) else -1
def wF (σ : Nat → Int32) (b q : Nat) : Int32 := if q = 0 then σ b else if q = 1 then (if σ b = 0 then -1 else σ (b + 1)) else if q = 2 then σ (b + 3) - σ (b + 2) else if q = 3 then (if σ b = 0 then -1 else σ (b + 5)) else σ (b + 6)
def orF (σ : Nat → Int32) (r q : Nat) : Int32 := if q = 4 then σ 561 - σ (617 + 18 * r + 4) else σ (617 + 18 * r + q)
theorem xw255 : ∀ c, c < 256 → xwi (nI c) 0 255 = 1 := by decide +kernel
theorem e_0 {B : Nat} {v w : xSt} (H : RBC B v w) {c : Nat} (hc : c < 256) : m_X8_cell_n v (nI c) (0 : Int32) = some (w 1 c) := by
  unfold m_X8_cell_n
  rw [xw255 c hc]
  repeat rw [if_neg (by decide)]
  rw [if_pos (by decide), xat_n hc (by omega)]
  exact congrArg some (H.1.1.2.1.1 c hc).1
theorem e_1 {B : Nat} {v w : xSt} (H : RBC B v w) {c : Nat} (hc : c < 256) : m_X8_cell_n v (nI c) (1 : Int32) = some (w 1 (256 + c)) := by
  unfold m_X8_cell_n
  rw [xw255 c hc]
  repeat rw [if_neg (by decide)]
  rw [if_pos (by decide), xat_n hc (by omega)]
  exact congrArg some (H.1.1.2.1.2.1 c hc).1
theorem e_3 {B : Nat} {v w : xSt} (H : RBC B v w) {c : Nat} (hc : c < 256) : m_X8_cell_n v (nI c) (3 : Int32) = some (ldF (w 1) (c % 8)) := by
  obtain ⟨m, m1, m2, m3, m4⟩ := RLd_f H.1.1.2.2.2.1
  unfold m_X8_cell_n
  rw [xw255 c hc]
  repeat rw [if_neg (by decide)]
  rw [show nI c - nI c / (8 : Int32) * (8 : Int32) = nI (c % 8) from xrem (d := 8) (by omega) (by omega) (by omega), e_valueFor, q_ob]
  refine congrArg some ?_
  rw [show (sh 13 v) 0 1 = nI m from m2]
  unfold ldF
  rw [m3, q_cl (by omega)]
  by_cases h : c % 8 < m
  · rw [if_pos h, xvf_n m1 h]
    exact (m4.2.2 _ (by unfold vi; split <;> omega)).1
  · rw [if_neg h, xvf_x m1 (by omega) (by omega)]
theorem k_F {B : Nat} {v w : xSt} (H : RBC B v w) {p b : Nat} (hp : p < 2) (hb : b = 581 + 18 * p) {q : Nat} (hq : q < 5) : m_X8_work_n v (nI p) (nI q) = some (wF (w 1) b q) := by
  have u8 := RWk_t H.1.1.2.2.2.2.1
  have u11 := RWk_t H.1.1.2.2.2.2.2.1
  have key : ∀ (b : Nat) (o : Nat → Int32), ((∃ k, k ≤ 3 ∧ o 0 = nI k ∧ w 1 b = nI k ∧ (k = 0 → o 1 = -1 ∧ o 6 = -1) ∧ (1 ≤ k → o 1 = w 1 (b + 1) ∧ o 6 = w 1 (b + 5))) ∧ o 4 - o 5 = w 1 (b + 3) - w 1 (b + 2) ∧ o 7 = w 1 (b + 6) ∧ (o 7 = 0 ∨ o 7 = 1)) →
      o 0 = wF (w 1) b 0 ∧ o 1 = wF (w 1) b 1 ∧ o 4 - o 5 = wF (w 1) b 2 ∧ o 6 = wF (w 1) b 3 ∧ o 7 = wF (w 1) b 4 := by
    intro b o ⟨⟨k, k3, k0, kb, kz, kn⟩, h2, h3, h4⟩
    have x1 : o 1 = wF (w 1) b 1 ∧ o 6 = wF (w 1) b 3 := by
      show o 1 = (if w 1 b = 0 then -1 else w 1 (b + 1)) ∧ o 6 = (if w 1 b = 0 then -1 else w 1 (b + 5))
      rw [kb]
      rcases Nat.eq_zero_or_pos k with h | h
      · subst h
        rw [if_pos (show nI 0 = 0 from rfl), if_pos (show nI 0 = 0 from rfl)]
        exact kz rfl
      · rw [if_neg (nI_ne0 h (by omega)), if_neg (nI_ne0 h (by omega))]
        exact kn h
    exact ⟨k0.trans kb.symm, x1.1, h2, x1.2, h3⟩
  rcases (show p = 0 ∨ p = 1 by omega) with rfl | rfl
  · obtain rfl : b = 581 := hb
    obtain ⟨y0, y1, y2, y3, y4⟩ := key 581 (v 15) u8
    unfold m_X8_work_n
    rcases (show q = 0 ∨ q = 1 ∨ q = 2 ∨ q = 3 ∨ q = 4 by omega) with rfl | rfl | rfl | rfl | rfl
    · repeat first | rw [if_neg (by decide)] | rw [if_pos (by decide)]
      exact congrArg some y0
    · repeat first | rw [if_neg (by decide)] | rw [if_pos (by decide)]
      exact congrArg some y1
    · repeat first | rw [if_neg (by decide)] | rw [if_pos (by decide)]
      exact congrArg some y2
    · repeat first | rw [if_neg (by decide)] | rw [if_pos (by decide)]
      exact congrArg some y3
    · rw [if_neg (by decide), if_neg (by decide), if_neg (by decide), if_neg (by decide), if_neg (by decide), if_neg (by decide), if_neg (by decide)]
      exact (bz _ u8.2.2.2).trans (congrArg some y4)
  · obtain rfl : b = 599 := hb
    obtain ⟨y0, y1, y2, y3, y4⟩ := key 599 (v 18) u11
    unfold m_X8_work_n
    rcases (show q = 0 ∨ q = 1 ∨ q = 2 ∨ q = 3 ∨ q = 4 by omega) with rfl | rfl | rfl | rfl | rfl
    · repeat first | rw [if_neg (by decide)] | rw [if_pos (by decide)]
      exact congrArg some y0
    · repeat first | rw [if_neg (by decide)] | rw [if_pos (by decide)]
      exact congrArg some y1
    · repeat first | rw [if_neg (by decide)] | rw [if_pos (by decide)]
      exact congrArg some y2
    · repeat first | rw [if_neg (by decide)] | rw [if_pos (by decide)]
      exact congrArg some y3
    · rw [if_neg (by decide), if_neg (by decide), if_pos (by decide), if_neg (by decide), if_neg (by decide), if_neg (by decide), if_neg (by decide)]
      exact (bz _ u11.2.2.2).trans (congrArg some y4)
theorem o_F {B n r : Nat} {v w : xSt} (H : RBC B v w) (hn : w 1 580 = nI n) (hn1 : n ≤ 10) (hr : r < n) {q : Nat} (hq : q < 6) : m_X8_order_n v (nI r) (nI q) = some (orF (w 1) r q) := by
  obtain ⟨z, h1, h2⟩ := s_orderTold H hn hn1 hr hq
  refine h1.trans ?_
  rw [← h2]
  have key : ∀ j, j < 6 → m_X9_ofOrder w (nI r) (nI j) = some (w 1 (617 + 18 * r + j)) := fun j hj => by
    have := r_ofOrder (w := w) (σ := w 1) (r := r) (j := j) (by omega)
    rw [va_up_id] at this
    exact this
  unfold m_X9_orderTold orF
  by_cases h4 : q = 4
  · subst h4
    rw [if_pos (show nI 4 = (4 : Int32) from rfl), if_pos rfl, show m_X9_ofOrder w (nI r) (4 : Int32) = _ from key 4 (by omega), q_ob, kn561, kc561]
  · rw [if_neg (show ¬ nI q = (4 : Int32) by rw [show (4 : Int32) = nI 4 from rfl, q_eq (by omega) (by omega)]; exact h4), if_neg h4, key q hq, q_ob]
theorem s_F {B : Nat} {v w : xSt} (H : RBC B v w) {j : Nat} (hj : j < 5) : m_X8_setting_n v (nI j) = some (w 1 (556 + j), v) := by
  unfold m_X8_setting_n
  have hx : ∀ j, j < 5 → ¬ xwi (nI j) 0 4 = 0 := by decide +kernel
  rw [if_neg (hx j hj), e_setting (v := sh 7 v) H.1.1.2.2.2.2.2.2.2 hj, q_ob]
