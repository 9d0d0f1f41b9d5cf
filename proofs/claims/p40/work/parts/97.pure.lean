/-! WEAR -/
def wrV (n : Nat) : UInt32 := FP.fdiv (FP.i2f (nI n)) (1090519040 : UInt32)
theorem b_meanWear0 {B : Nat} {v w : xSt} (hw : ∀ n, n < 16000000 → xn32 (wrV n)) (H : RBC B v w) (hB : B < 16000000) : ∃ n w', n ≤ B ∧ m_X8_meanWear v = some (wrV n) ∧ m_X9_meanWear w = some (wrV n, w') ∧ w' 0 8 = 0 ∧ RBC B v w' := by
  obtain ⟨n, n1, n2⟩ := eR_8 H.1.1.2.1
  obtain ⟨z, z1, -⟩ := H.1.1.2.1.2.2.2
  have a1 := e_allEr (c := sh 8 v) (σ := w 1) (fun i hi => (z1 i hi).1.trans (z1 i hi).2.symm)
  have a2 := r_erasures (w := st2 w 0 8 0) (σ := w 1)
  rw [w1_s] at a2
  rw [n2] at a1 a2
  refine ⟨n, st2 w 0 8 0, n1, ?_, ?_, by rw [q_ss, va_up_self], RBC_1 H⟩
  · unfold m_X8_meanWear
    rw [a1, q_ob]
    exact q_ck (hw n (by omega))
  · unfold m_X9_meanWear m_X9_wear
    rw [q_lt, a2, q_ob]
    rw [q_ck (show xn32 (FP.fdiv (FP.i2f (nI n)) (1090519040 : UInt32)) from hw n (by omega))]
    rfl
