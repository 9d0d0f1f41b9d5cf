/-! COUNTS over a state -/
theorem xbc_b {v : Nat} (h : v < 256) : xbc (nI v) = nI (pp v) := by
  have := xbc_4 (a := v) (b := 0) (c := 0) (d := 0) h (by omega) (by omega) (by omega)
  have p0 : pp 0 = 0 := by decide
  have e1 : w4 v 0 0 0 = v := by unfold w4; omega
  have e2 : pp v + pp 0 + pp 0 + pp 0 = pp v := by omega
  rw [e1, e2] at this
  exact this
def oN (σ : Nat → Int32) (a : Nat) : Nat → Int32
  | 0 => nI 0
  | k + 1 => oN σ a k + xbc (σ (a + k))
theorem oN_s {σ : Nat → Int32} {a k : Nat} : oN σ a (k + 1) = oN σ a k + xbc (σ (a + k)) := rfl
theorem oN_n {σ : Nat → Int32} {a : Nat} : ∀ k, (∀ i, i < k → ∃ v, v < 256 ∧ σ (a + i) = nI v) → ∃ z, z ≤ 8 * k ∧ oN σ a k = nI z := by
  intro k
  induction k with
  | zero => intro _; exact ⟨0, by omega, rfl⟩
  | succ k ih =>
    intro h
    obtain ⟨z, hz, e⟩ := ih (fun i hi => h i (by omega))
    obtain ⟨v, hv, ev⟩ := h k (by omega)
    have := pp_8 v hv
    exact ⟨z + pp v, by omega, by rw [oN_s, e, ev, xbc_b hv, nI_add]⟩
theorem e_ones {c : xSt} {σ : Nat → Int32} {a n : Nat} (hc : ∀ i, i < 256 → c 1 i = σ i) (h : a + n ≤ 256) : m_X0_ones c (nI a) (nI n) = some (oN σ a n) := by
  unfold m_X0_ones
  rw [nI_add]
  refine lpf_r (fun k => (oN σ a k, nI (a + k))) n (xFg (by omega)) rfl (fun k rec hk => ?_) (fun rec => ?_)
  · simp only [q_u2]
    rw [if_neg (nI_ge (by omega) (by omega)), xat_n (by omega) (by omega), hc _ (by omega), oN_s, nI_1]
    rfl
  · simp only [q_u2]
    rw [if_pos (nI_le (Nat.le_refl _) (by omega))]
theorem r_onesFrom {w : xSt} {σ : Nat → Int32} {a n : Nat} (h : a + n ≤ 256) (hc : ∀ i, i < n → ∃ v, v < 256 ∧ σ (a + i) = nI v) : m_X9_onesFrom (va_up w 1 σ) (nI a) (nI (a + n)) = some (oN σ a n) := by
  unfold m_X9_onesFrom
  refine lpf_r (fun k => (oN σ a k, nI (a + k))) n (xFg (by omega)) rfl (fun k rec hk => ?_) (fun rec => ?_)
  · obtain ⟨v, hv, ev⟩ := hc k hk
    simp only [q_u2]
    rw [if_neg (nI_ge (by omega) (by omega)), q_cl (by omega), q_ck (by rw [show (0 : Int32) = nI 0 from rfl, q_lts (by omega) (by omega)]; omega), va_up_self, ev, r_ones v hv, oN_s, ev, nI_1]
    rfl
  · simp only [q_u2]
    rw [if_pos (nI_le (Nat.le_refl _) (by omega))]
theorem e_stuck {c : xSt} {σ : Nat → Int32} (hc : ∀ i, i < 256 → c 2 i = σ (256 + i)) : m_X0_stuckBits c = some (oN σ 256 256) := by
  unfold m_X0_stuckBits
  refine lpf_r (fun k => (oN σ 256 k, nI k)) 256 (xFg (by omega)) rfl (fun k rec hk => ?_) (fun rec => ?_)
  · simp only [q_u2]
    rw [if_neg (show ¬ (256 : Int32) ≤ nI k from nI_ge (b := 256) hk (by omega)), q_cl (by omega), q_ck (by rw [show (0 : Int32) = nI 0 from rfl, q_lts (by omega) (by omega)]; omega), hc _ hk, oN_s, nI_1]
  · simp only [q_u2]
    rw [if_pos (show (256 : Int32) ≤ nI 256 by decide)]
theorem r_stuck {w : xSt} {σ : Nat → Int32} (hc : ∀ i, i < 256 → ∃ v, v < 256 ∧ σ (256 + i) = nI v) : m_X9_stuckBits (va_up w 1 σ) = some (oN σ 256 256) := by
  unfold m_X9_stuckBits
  refine lpf_r (fun k => (oN σ 256 k, nI k)) 256 (xFg (by omega)) rfl (fun k rec hk => ?_) (fun rec => ?_)
  · obtain ⟨v, hv, ev⟩ := hc k hk
    simp only [q_u2]
    rw [if_neg (show ¬ (256 : Int32) ≤ nI k from nI_ge (b := 256) hk (by omega)), show (256 : Int32) + nI k = nI (256 + k) from nI_add 256 k, q_cl (by omega), q_ck (by rw [show (0 : Int32) = nI 0 from rfl, q_lts (by omega) (by omega)]; omega), va_up_self, ev, r_ones v hv, oN_s, ev, nI_1]
    rfl
  · simp only [q_u2]
    rw [if_pos (show (256 : Int32) ≤ nI 256 by decide)]
def eR (σ : Nat → Int32) : Nat → Int32
  | 0 => nI 0
  | k + 1 => eR σ k + σ (544 + k)
theorem eR_s {σ : Nat → Int32} {k : Nat} : eR σ (k + 1) = eR σ k + σ (544 + k) := rfl
theorem e_allEr {c : xSt} {σ : Nat → Int32} (hc : ∀ i, i < 8 → c 3 i = σ (544 + i)) : m_X0_allErasures c = some (eR σ 8) := by
  unfold m_X0_allErasures
  refine lpf_r (fun k => (eR σ k, nI k)) 8 (xFg (by omega)) rfl (fun k rec hk => ?_) (fun rec => ?_)
  · simp only [q_u2]
    rw [if_neg (show ¬ (8 : Int32) ≤ nI k from nI_ge (b := 8) hk (by omega)), q_cl (by omega), q_ck (by rw [show (0 : Int32) = nI 0 from rfl, q_lts (by omega) (by omega)]; omega), hc _ hk, eR_s, nI_1]
  · simp only [q_u2]
    rw [if_pos (show (8 : Int32) ≤ nI 8 by decide)]
theorem r_erasures {w : xSt} {σ : Nat → Int32} : m_X9_erasures (va_up w 1 σ) = some (eR σ 8) := by
  unfold m_X9_erasures
  refine lpf_r (fun k => (eR σ k, nI k)) 8 (xFg (by omega)) rfl (fun k rec hk => ?_) (fun rec => ?_)
  · simp only [q_u2]
    rw [if_neg (show ¬ (8 : Int32) ≤ nI k from nI_ge (b := 8) hk (by omega)), show (544 : Int32) + nI k = nI (544 + k) from nI_add 544 k, q_cl (by omega), q_ck (by rw [show (0 : Int32) = nI 0 from rfl, q_lts (by omega) (by omega)]; omega), va_up_self, eR_s, nI_1]
    rfl
  · simp only [q_u2]
    rw [if_pos (show (8 : Int32) ≤ nI 8 by decide)]
theorem eR_8 {B : Nat} {u : Int32} {h t e σ : Nat → Int32} (H : RCell B u h t e σ) : ∃ z, z ≤ B ∧ eR σ 8 = nI z := by
  obtain ⟨h1, h2, h3, z, h4, h5⟩ := H
  refine ⟨_, h5, ?_⟩
  unfold eR eR eR eR eR eR eR eR eR
  rw [(h4 0 (by omega)).2, (h4 1 (by omega)).2, (h4 2 (by omega)).2, (h4 3 (by omega)).2, (h4 4 (by omega)).2, (h4 5 (by omega)).2, (h4 6 (by omega)).2, (h4 7 (by omega)).2]
  simp only [nI_add, Nat.zero_add]
def fP (σ : Nat → Int32) (p : Nat) : Nat → Nat
  | 0 => 0
  | k + 1 => fP σ p k + (if (64 : Int32) ≤ oN σ (8 * (4 * p + k)) 8 then 0 else 1)
theorem fP_s {σ : Nat → Int32} {p k : Nat} : fP σ p (k + 1) = fP σ p k + (if (64 : Int32) ≤ oN σ (8 * (4 * p + k)) 8 then 0 else 1) := rfl
theorem e_fallen {c : xSt} {σ : Nat → Int32} {p : Nat} (hc : ∀ i, i < 256 → c 1 i = σ i) (hp : p < 8) : m_X0_fallenPages c (nI p) = some (nI (fP σ p 4)) := by
  have e1 : (nI p + 1) * 4 = nI (4 * p + 4) := by
    rw [show (1 : Int32) = nI 1 from rfl, show (4 : Int32) = nI 4 from rfl, nI_add, pk_mul]
    congr 1
    omega
  have e2 : nI p * 4 = nI (4 * p) := by
    rw [show (4 : Int32) = nI 4 from rfl, pk_mul, Nat.mul_comm]
  unfold m_X0_fallenPages
  rw [e1, e2]
  refine lpf_r (fun k => (nI (fP σ p k), nI (4 * p + k))) 4 (xFg (by omega)) rfl (fun k rec hk => ?_) (fun rec => ?_)
  · have eo := e_ones (c := c) (σ := σ) (a := 8 * (4 * p + k)) (n := 8) hc (by omega)
    simp only [q_u2, q_lt]
    rw [if_neg (nI_ge (by omega) (by omega)), show nI (4 * p + k) * 8 = nI (8 * (4 * p + k)) by rw [show (8 : Int32) = nI 8 from rfl, pk_mul, Nat.mul_comm], show (8 : Int32) = nI 8 from rfl, eo, nI_1]
    simp only [q_ob]
    rw [fP_s]
    by_cases c1 : (64 : Int32) ≤ oN σ (8 * (4 * p + k)) 8
    · rw [if_pos c1, if_pos c1]
      rfl
    · rw [if_neg c1, if_neg c1, nI_1]
      rfl
  · simp only [q_u2]
    rw [if_pos (nI_le (Nat.le_refl _) (by omega))]
theorem r_used {w : xSt} {σ : Nat → Int32} {p : Nat} (hp : p < 8) (hc : ∀ i, i < 256 → ∃ v, v < 256 ∧ σ i = nI v) : m_X9_usedPages (va_up w 1 σ) (nI p) = some (nI (fP σ p 4)) := by
  unfold m_X9_usedPages
  rw [show (4 : Int32) * nI p = nI (4 * p) from pk_mul 4 p, show nI (4 * p) + 4 = nI (4 * p + 4) from nI_add _ 4]
  refine lpf_r (fun k => (nI (fP σ p k), nI (4 * p + k))) 4 (xFg (by omega)) rfl (fun k rec hk => ?_) (fun rec => ?_)
  · have eo := r_onesFrom (w := w) (σ := σ) (a := 8 * (4 * p + k)) (n := 8) (by omega) (fun i hi => hc _ (by omega))
    simp only [q_u2, q_lt]
    rw [if_neg (nI_ge (by omega) (by omega)), show (8 : Int32) * nI (4 * p + k) = nI (8 * (4 * p + k)) from pk_mul 8 _, show nI (8 * (4 * p + k)) + 8 = nI (8 * (4 * p + k) + 8) from nI_add _ 8, eo, nI_1]
    simp only [q_ob]
    rw [fP_s]
    by_cases c1 : (64 : Int32) ≤ oN σ (8 * (4 * p + k)) 8
    · rw [if_pos c1, if_pos c1, show (0 : Int32) = nI 0 from rfl, nI_add]
      rfl
    · rw [if_neg c1, if_neg c1, nI_1]
      rfl
  · simp only [q_u2]
    rw [if_pos (nI_le (Nat.le_refl _) (by omega))]
def oF (σ : Nat → Int32) (s : Int32) : Nat → Nat
  | 0 => 0
  | k + 1 => oF σ s k + (if sa σ k = s then 1 else 0)
theorem oF_s {σ : Nat → Int32} {s : Int32} {k : Nat} : oF σ s (k + 1) = oF σ s k + (if sa σ k = s then 1 else 0) := rfl
theorem e_ordersFor {B n : Nat} {v c : xSt} {σ : Nat → Int32} {s : Int32} (H : R0 B v σ) (hn : σ 580 = nI n) (hn1 : n ≤ 10) (hc : ∀ j, j < 32 → c j = v (14 + j)) : m_X1_ordersFor c s = some (nI (oF σ s n)) := by
  obtain ⟨n', q, π, a1, a2, a3, a4, a5, a6, a7, a8, a9⟩ := id H.2.2.2.2.2.2.1
  obtain rfl : n' = n := (nI_eq (by omega) (by omega)).mp (a3.symm.trans hn)
  have c0 : c 0 1 = nI n' := by rw [hc 0 (by omega)]; exact a4
  have cp : PM 10 π (c 1) := by rw [hc 1 (by omega)]; exact a7
  unfold m_X1_ordersFor
  refine lpf_r (fun k => (nI (oF σ s k), nI k)) n' (xFg (by omega)) rfl (fun k rec hk => ?_) (fun rec => ?_)
  · obtain ⟨kd, p, b1, b2, b3, b4, b5, b6, b7⟩ := od_f H hn hk a7 a8
    have hπ := (a7.1 k (by omega)).1
    have e16 : 14 + (2 + 3 * π k) = 16 + 3 * π k := by omega
    have es : xso (nI (kd + 1)) (nI p) = sa σ k := by
      unfold sa xso
      rw [b2, b5]
      rcases (show kd = 0 ∨ kd = 1 by omega) with rfl | rfl
      · rw [if_pos (by rfl), if_pos (by rfl)]
      · rw [if_neg (by decide), if_neg (by decide)]
    simp only [q_u2, c0]
    rw [if_neg (nI_ge hk (by omega)), e_orderAt c0 hn1 cp hk]
    simp only [q_ob, q_oms, q_lt]
    rw [q_ck hπ, hc _ (by omega), e16, b3, b4, es, oF_s, nI_1 k]
    by_cases c1 : sa σ k = s
    · rw [if_pos c1, if_pos c1, nI_1]
    · rw [if_neg c1, if_neg c1]
      rfl
  · simp only [q_u2, c0]
    rw [if_pos (nI_le (Nat.le_refl _) (by omega))]
theorem r_ordersFor {w : xSt} {σ : Nat → Int32} {n : Nat} {s : Int32} (hn : σ 580 = nI n) (hn1 : n ≤ 10) : m_X9_ordersFor (va_up w 1 σ) s = some (nI (oF σ s n)) := by
  unfold m_X9_ordersFor
  refine lpf_r (fun k => (nI (oF σ s k), nI k)) n (xFg (by omega)) rfl (fun k rec hk => ?_) (fun rec => ?_)
  · simp only [q_u2, kc580, kn580, va_up_self, hn, q_lt]
    rw [if_neg (nI_ge hk (by omega)), r_sectorAt (by omega)]
    simp only [q_ob]
    rw [oF_s, nI_1 k]
    by_cases c1 : sa σ k = s
    · rw [if_pos c1, if_pos c1, nI_1]
    · rw [if_neg c1, if_neg c1, show (0 : Int32) = nI 0 from rfl, nI_add]
  · simp only [q_u2, kc580, kn580, va_up_self, hn]
    rw [if_pos (nI_le (Nat.le_refl _) (by omega))]
/-! pages in doubt -/
def uR (σ : Nat → Int32) (a : Nat) : Nat → Int32
  | 0 => nI 0
  | k + 1 => uR σ a k + σ (512 + (a + k))
theorem uR_s {σ : Nat → Int32} {a k : Nat} : uR σ a (k + 1) = uR σ a k + σ (512 + (a + k)) := rfl
theorem uR_a {σ : Nat → Int32} {a m : Nat} : ∀ k, uR σ a (m + k) = uR σ a m + uR σ (a + m) k := by
  intro k
  induction k with
  | zero => exact (Int32.add_zero _).symm
  | succ k ih =>
    rw [show m + (k + 1) = m + k + 1 by omega, uR_s, uR_s, ih, Int32.add_assoc, show a + m + k = a + (m + k) by omega]
theorem r_unsure {w : xSt} {σ : Nat → Int32} {a n : Nat} (h : a + n ≤ 32) : m_X9_unsurePages (va_up w 1 σ) (nI a) (nI (a + n)) = some (uR σ a n) := by
  unfold m_X9_unsurePages
  refine lpf_r (fun k => (uR σ a k, nI (a + k))) n (xFg (by omega)) rfl (fun k rec hk => ?_) (fun rec => ?_)
  · simp only [q_u2]
    rw [if_neg (nI_ge (by omega) (by omega)), show (512 : Int32) + nI (a + k) = nI (512 + (a + k)) from nI_add 512 _, q_cl (by omega), q_ck (by rw [show (0 : Int32) = nI 0 from rfl, q_lts (by omega) (by omega)]; omega), va_up_self, uR_s, nI_1]
    rfl
  · simp only [q_u2]
    rw [if_pos (nI_le (Nat.le_refl _) (by omega))]
theorem xb_n {N i : Nat} (hi : i < 32) : xb (nI N) i = nI (N / 2 ^ i % 2) := by
  unfold xb
  show (if (BitVec.ofNat 32 N).getLsbD i = true then (1 : Int32) else 0) = _
  rw [BitVec.getLsbD_ofNat, Nat.testBit_eq_decide_div_mod_eq]
  rcases (show N / 2 ^ i % 2 = 0 ∨ N / 2 ^ i % 2 = 1 by omega) with h | h
  · rw [h]; simp [hi]; rfl
  · rw [h]; simp [hi]; rfl
theorem w4_of (N : Nat) (h : N < 4294967296) : ∃ a b c d, a < 256 ∧ b < 256 ∧ c < 256 ∧ d < 256 ∧ N = w4 a b c d := ⟨N % 256, N / 256 % 256, N / 65536 % 256, N / 16777216, by omega, by omega, by omega, by omega, by unfold w4; omega⟩
theorem i32_of (x : Int32) : ∃ n, n < 4294967296 ∧ x = nI n := by
  refine ⟨x.toBitVec.toNat, x.toBitVec.isLt, ?_⟩
  apply Int32.toBitVec_inj.mp
  show x.toBitVec = BitVec.ofNat 32 x.toBitVec.toNat
  apply BitVec.eq_of_toNat_eq
  rw [BitVec.toNat_ofNat, Nat.mod_eq_of_lt x.toBitVec.isLt]
theorem pp_s : ∀ b, b < 256 → b % 2 + b / 2 % 2 + b / 4 % 2 + b / 8 % 2 + b / 16 % 2 + b / 32 % 2 + b / 64 % 2 + b / 128 % 2 = pp b := by decide +kernel
theorem pp_l : ∀ b, b < 256 → b % 2 + b / 2 % 2 + b / 4 % 2 + b / 8 % 2 = pp (b &&& 15) ∧ b / 16 % 2 + b / 32 % 2 + b / 64 % 2 + b / 128 % 2 = pp (b &&& 240) := by decide +kernel
/-- eight and four bits, counted -/
theorem uR_8 {σ : Nat → Int32} {N q b : Nat} (hq : q < 4) (hb : b < 256) (h : ∀ i, i < 32 → σ (512 + i) = nI (N / 2 ^ i % 2)) (hN : N / 2 ^ (8 * q) % 256 = b) : uR σ (8 * q) 4 = nI (pp (b &&& 15)) ∧ uR σ (8 * q + 4) 4 = nI (pp (b &&& 240)) ∧ uR σ (8 * q) 8 = nI (pp b) := by
  have bit : ∀ i, i < 8 → σ (512 + (8 * q + i)) = nI (b / 2 ^ i % 2) := by
    intro i hi
    rw [h _ (by omega), ← hN]
    congr 1
    rw [Nat.pow_add, ← Nat.div_div_eq_div_mul]
    generalize N / 2 ^ (8 * q) = M
    rcases (show i = 0 ∨ i = 1 ∨ i = 2 ∨ i = 3 ∨ i = 4 ∨ i = 5 ∨ i = 6 ∨ i = 7 by omega) with rfl | rfl | rfl | rfl | rfl | rfl | rfl | rfl <;> simp only [Nat.reducePow] <;> omega
  have p1 := pp_l b hb
  have p2 := pp_s b hb
  have f4 : uR σ (8 * q) 4 = nI (pp (b &&& 15)) := by
    rw [uR_s, uR_s, uR_s, uR_s, bit 0 (by omega), bit 1 (by omega), bit 2 (by omega), bit 3 (by omega)]
    unfold uR
    simp only [nI_add, Nat.reducePow, Nat.zero_add, Nat.div_one]
    rw [p1.1]
  have f5 : uR σ (8 * q + 4) 4 = nI (pp (b &&& 240)) := by
    rw [uR_s, uR_s, uR_s, uR_s, show 8 * q + 4 + 0 = 8 * q + 4 by omega, show 8 * q + 4 + 1 = 8 * q + 5 by omega, show 8 * q + 4 + 2 = 8 * q + 6 by omega, show 8 * q + 4 + 3 = 8 * q + 7 by omega, bit 4 (by omega), bit 5 (by omega), bit 6 (by omega), bit 7 (by omega)]
    unfold uR
    simp only [nI_add, Nat.reducePow, Nat.zero_add]
    rw [p1.2]
  refine ⟨f4, f5, ?_⟩
  rw [show (8 : Nat) = 4 + 4 by rfl, uR_a 4, show (4 + 4 : Nat) = 8 by rfl, f4, f5, nI_add, ← p1.1, ← p1.2, ← p2]
  congr 1
  omega
theorem xpg_n : ∀ p, p < 8 → xpg (nI p) = nI (15 * 16 ^ p) := by decide +kernel
theorem e_unsure {u : Int32} {σ : Nat → Int32} (h : ∀ i, i < 32 → σ (512 + i) = xb u i) : xbc u = uR σ 0 32 ∧ ∀ p, p < 8 → xbc (u &&& xpg (nI p)) = uR σ (4 * p) 4 := by
  obtain ⟨N, hN, rfl⟩ := i32_of u
  obtain ⟨a, b, c, d, ha, hb, hc, hd, rfl⟩ := w4_of N hN
  have h' : ∀ i, i < 32 → σ (512 + i) = nI (w4 a b c d / 2 ^ i % 2) := fun i hi => by rw [h i hi, xb_n hi]
  have q0 := uR_8 (q := 0) (b := a) (by omega) ha h' (by unfold w4; simp only [Nat.reducePow, Nat.reduceMul]; omega)
  have q1 := uR_8 (q := 1) (b := b) (by omega) hb h' (by unfold w4; simp only [Nat.reducePow, Nat.reduceMul]; omega)
  have q2 := uR_8 (q := 2) (b := c) (by omega) hc h' (by unfold w4; simp only [Nat.reducePow, Nat.reduceMul]; omega)
  have q3 := uR_8 (q := 3) (b := d) (by omega) hd h' (by unfold w4; simp only [Nat.reducePow, Nat.reduceMul]; omega)
  simp only [Nat.reduceMul, Nat.reduceAdd] at q0 q1 q2 q3
  refine ⟨?_, fun p hp => ?_⟩
  · rw [xbc_4 ha hb hc hd, show (32 : Nat) = 8 + (8 + (8 + 8)) by rfl, uR_a, uR_a, uR_a]
    simp only [Nat.zero_add, Nat.reduceAdd]
    rw [q0.2.2, q1.2.2, q2.2.2, q3.2.2]
    simp only [nI_add]
    congr 1
    omega
  · have m1 : ∀ b, b < 256 → (b &&& 15) < 256 ∧ (b &&& 240) < 256 ∧ b &&& 0 = 0 := by decide +kernel
    have ma := m1 a ha
    have mb := m1 b hb
    have mc := m1 c hc
    have md := m1 d hd
    have p0 : pp 0 = 0 := by decide
    rw [xpg_n p hp, nI_and]
    have mk : ∀ x y z t, x < 256 → y < 256 → z < 256 → t < 256 → w4 a b c d &&& w4 x y z t = w4 (a &&& x) (b &&& y) (c &&& z) (d &&& t) := by
      intro x y z t hx hy hz ht
      unfold w4
      rw [and256 ha hx, and256 hb hy, and256 hc hz]
    rcases (show p = 0 ∨ p = 1 ∨ p = 2 ∨ p = 3 ∨ p = 4 ∨ p = 5 ∨ p = 6 ∨ p = 7 by omega) with rfl | rfl | rfl | rfl | rfl | rfl | rfl | rfl
    · rw [show 15 * 16 ^ 0 = w4 15 0 0 0 by rfl, mk _ _ _ _ (by omega) (by omega) (by omega) (by omega), mb.2.2, mc.2.2, md.2.2, xbc_4 ma.1 (by omega) (by omega) (by omega), p0]
      exact q0.1.symm
    · rw [show 15 * 16 ^ 1 = w4 240 0 0 0 by rfl, mk _ _ _ _ (by omega) (by omega) (by omega) (by omega), mb.2.2, mc.2.2, md.2.2, xbc_4 ma.2.1 (by omega) (by omega) (by omega), p0]
      exact q0.2.1.symm
    · rw [show 15 * 16 ^ 2 = w4 0 15 0 0 by rfl, mk _ _ _ _ (by omega) (by omega) (by omega) (by omega), ma.2.2, mc.2.2, md.2.2, xbc_4 (by omega) mb.1 (by omega) (by omega), p0]
      simp only [Nat.zero_add, Nat.add_zero]
      exact q1.1.symm
    · rw [show 15 * 16 ^ 3 = w4 0 240 0 0 by rfl, mk _ _ _ _ (by omega) (by omega) (by omega) (by omega), ma.2.2, mc.2.2, md.2.2, xbc_4 (by omega) mb.2.1 (by omega) (by omega), p0]
      simp only [Nat.zero_add, Nat.add_zero]
      exact q1.2.1.symm
    · rw [show 15 * 16 ^ 4 = w4 0 0 15 0 by rfl, mk _ _ _ _ (by omega) (by omega) (by omega) (by omega), ma.2.2, mb.2.2, md.2.2, xbc_4 (by omega) (by omega) mc.1 (by omega), p0]
      simp only [Nat.zero_add, Nat.add_zero]
      exact q2.1.symm
    · rw [show 15 * 16 ^ 5 = w4 0 0 240 0 by rfl, mk _ _ _ _ (by omega) (by omega) (by omega) (by omega), ma.2.2, mb.2.2, md.2.2, xbc_4 (by omega) (by omega) mc.2.1 (by omega), p0]
      simp only [Nat.zero_add, Nat.add_zero]
      exact q2.2.1.symm
    · rw [show 15 * 16 ^ 6 = w4 0 0 0 15 by rfl, mk _ _ _ _ (by omega) (by omega) (by omega) (by omega), ma.2.2, mb.2.2, mc.2.2, xbc_4 (by omega) (by omega) (by omega) md.1, p0]
      simp only [Nat.zero_add, Nat.add_zero]
      exact q3.1.symm
    · rw [show 15 * 16 ^ 7 = w4 0 0 0 240 by rfl, mk _ _ _ _ (by omega) (by omega) (by omega) (by omega), ma.2.2, mb.2.2, mc.2.2, xbc_4 (by omega) (by omega) (by omega) md.2.1, p0]
      simp only [Nat.zero_add, Nat.add_zero]
      exact q3.2.1.symm
