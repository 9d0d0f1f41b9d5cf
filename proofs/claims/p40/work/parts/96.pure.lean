/-! SHARES -/
def shV (n : Nat) : UInt64 := FP.ddiv (FP.i2d (nI n)) (4656722014701092864 : UInt64)
set_option maxHeartbeats 400000 in
theorem shr_t : ∀ n, n < 2049 → xn64 (shV n) := by decide +kernel
