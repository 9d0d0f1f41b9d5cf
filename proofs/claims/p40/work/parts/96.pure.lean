/-! SHARES -/
def shV (n : Nat) : UInt64 := FP.ddiv (FP.i2d (nI n)) (4656722014701092864 : UInt64)
set_option maxHeartbeats 400000 in
theorem shr_t : ∀ n, n < 2049 → xn64 (shV n) ∧ m_X8_shareBits (nI n) = m_Jxe99ae_doubleToLongBits_ccdee (shV n) ∧ m_X8_shareBits (nI n) = some (shV n).toInt64 := by decide +kernel
theorem b_onesShare {B : Nat} {v w : xSt} (H : RBC B v w) : ∃ n w', n < 2049 ∧ m_X8_onesShare v = some (shV n) ∧ m_X9_onesShare w = some (shV n, w') ∧ w' 0 8 = 0 ∧ RBC B v w' := by
  obtain ⟨h1, -⟩ := H.1.1.2.1
  have hc : ∀ i, i < 256 → ∃ a, a < 256 ∧ (w 1) (0 + i) = nI a := fun i hi => by
    have := h1 i hi
    rw [Nat.zero_add]
    obtain ⟨x, a, y, z⟩ := this
    exact ⟨a, y, z⟩
  have a1 := e_ones (c := sh 8 v) (σ := w 1) (a := 0) (n := 256) (fun i hi => (h1 i hi).1) (by omega)
  obtain ⟨n, n1, n2⟩ := oN_n (σ := w 1) (a := 0) 256 hc
  have a2 := r_onesFrom (w := st2 w 0 8 0) (σ := w 1) (a := 0) (n := 256) (by omega) hc
  rw [w1_s] at a2
  rw [n2] at a1 a2
  refine ⟨n, st2 w 0 8 0, by omega, ?_, ?_, by rw [q_ss, va_up_self], RBC_1 H⟩
  · unfold m_X8_onesShare
    rw [show m_X0_ones (sh 8 v) (0 : Int32) (256 : Int32) = some (nI n) from a1, q_ob]
    exact q_ck (shr_t n (by omega)).1
  · unfold m_X9_onesShare m_X9_share
    rw [q_lt, show m_X9_onesFrom (st2 w 0 8 0) (0 : Int32) (256 : Int32) = some (nI n) from a2, q_ob]
    rw [q_ck (show xn64 (FP.ddiv (FP.i2d (nI n)) (4656722014701092864 : UInt64)) from (shr_t n (by omega)).1)]
    rfl
