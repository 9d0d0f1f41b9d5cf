/-! WEAR -/
def wrV (n : Nat) : UInt32 := FP.fdiv (FP.i2f (nI n)) (1090519040 : UInt32)
