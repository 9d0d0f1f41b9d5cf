/-! COUNTS: bits of a word -/
def pA (b : Nat) : Nat := b - ((b / 2) &&& 85)
def pB (a : Nat) : Nat := (a &&& 51) + ((a / 4) &&& 51)
def pC (s : Nat) : Nat := (s + s / 16) &&& 15
theorem and256 {a b m M : Nat} (ha : a < 256) (hm : m < 256) : (a + 256 * b) &&& (m + 256 * M) = (a &&& m) + 256 * (b &&& M) := by
  have e1 : ((a + 256 * b) &&& (m + 256 * M)) % 2 ^ 8 = a &&& m := by
    rw [Nat.and_mod_two_pow, show (a + 256 * b) % 2 ^ 8 = a by omega, show (m + 256 * M) % 2 ^ 8 = m by omega]
  have e2 : ((a + 256 * b) &&& (m + 256 * M)) / 2 ^ 8 = b &&& M := by
    rw [Nat.and_div_two_pow, show (a + 256 * b) / 2 ^ 8 = b by omega, show (m + 256 * M) / 2 ^ 8 = M by omega]
  omega
def w4 (a b c d : Nat) : Nat := a + 256 * (b + 256 * (c + 256 * d))
theorem and4 {a b c d m : Nat} (ha : a < 256) (hb : b < 256) (hc : c < 256) (hd : d < 256) (hm : m < 256) : w4 a b c d &&& w4 m m m m = w4 (a &&& m) (b &&& m) (c &&& m) (d &&& m) := by
  unfold w4
  rw [and256 ha hm, and256 hb hm, and256 hc hm]
theorem pA_d : ∀ e, e < 2 → ∀ b, b < 256 → (b / 2 + 128 * e) &&& 85 = (b / 2) &&& 85 ∧ (b / 2) &&& 85 ≤ b ∧ pA b < 256 := by decide +kernel
theorem pB_d : ∀ e, e < 4 → ∀ b, b < 256 → (b / 4 + 64 * e) &&& 51 = (b / 4) &&& 51 := by decide +kernel
theorem pB_b : ∀ b, b < 256 → pB (pA b) / 16 ≤ 4 ∧ pB (pA b) % 16 ≤ 4 ∧ (pA b &&& 51) < 256 ∧ ((pA b / 4) &&& 51) < 256 := by decide +kernel
theorem pC_d : ∀ e, e < 5 → ∀ b, b < 256 → (pB (pA b) + pB (pA b) / 16 + 16 * e) &&& 15 = pC (pB (pA b)) := by decide +kernel
/-- the bits of a byte -/
def pp (b : Nat) : Nat := pC (pB (pA b))
theorem pp_8 : ∀ b, b < 256 → pp b ≤ 8 := by decide +kernel
theorem usr {n : Nat} (hn : n < 4294967296) (s : Int32) (k p : Nat) (hs : ((s.toUInt32 &&& Int32.toUInt32 31).toBitVec % 32).toNat = k) (hp : 2 ^ k = p) : ((nI n).toUInt32 >>> (s.toUInt32 &&& Int32.toUInt32 31)).toInt32 = nI (n / p) := by
  rw [pk_ushrN hn s k hs, hp]
theorem xbc_4 {a b c d : Nat} (ha : a < 256) (hb : b < 256) (hc : c < 256) (hd : d < 256) : xbc (nI (w4 a b c d)) = nI (pp a + pp b + pp c + pp d) := by
  have Aa := pA_d (b % 2) (by omega) a ha
  have Ab := pA_d (c % 2) (by omega) b hb
  have Ac := pA_d (d % 2) (by omega) c hc
  have Ad := pA_d 0 (by omega) d hd
  have h1 : w4 a b c d / 2 = w4 (a / 2 + 128 * (b % 2)) (b / 2 + 128 * (c % 2)) (c / 2 + 128 * (d % 2)) (d / 2 + 128 * 0) := by unfold w4; omega
  have h1' : w4 a b c d / 2 &&& 1431655765 = w4 (a / 2 &&& 85) (b / 2 &&& 85) (c / 2 &&& 85) (d / 2 &&& 85) := by
    rw [h1, show 1431655765 = w4 85 85 85 85 by rfl, and4 (by omega) (by omega) (by omega) (by omega) (by omega), Aa.1, Ab.1, Ac.1, Ad.1]
  have h2 : w4 a b c d - w4 (a / 2 &&& 85) (b / 2 &&& 85) (c / 2 &&& 85) (d / 2 &&& 85) = w4 (pA a) (pA b) (pA c) (pA d) ∧ w4 (a / 2 &&& 85) (b / 2 &&& 85) (c / 2 &&& 85) (d / 2 &&& 85) ≤ w4 a b c d := by
    have := Aa.2.1
    have := Ab.2.1
    have := Ac.2.1
    have := Ad.2.1
    unfold w4 pA
    omega
  have Ba := pB_b a ha
  have Bb := pB_b b hb
  have Bc := pB_b c hc
  have Bd := pB_b d hd
  have h3 : w4 (pA a) (pA b) (pA c) (pA d) &&& 858993459 = w4 (pA a &&& 51) (pA b &&& 51) (pA c &&& 51) (pA d &&& 51) := by
    rw [show 858993459 = w4 51 51 51 51 by rfl, and4 Aa.2.2 Ab.2.2 Ac.2.2 Ad.2.2 (by omega)]
  have h4 : w4 (pA a) (pA b) (pA c) (pA d) / 4 &&& 858993459 = w4 (pA a / 4 &&& 51) (pA b / 4 &&& 51) (pA c / 4 &&& 51) (pA d / 4 &&& 51) := by
    have := Aa.2.2
    have := Ab.2.2
    have := Ac.2.2
    have := Ad.2.2
    have e : w4 (pA a) (pA b) (pA c) (pA d) / 4 = w4 (pA a / 4 + 64 * (pA b % 4)) (pA b / 4 + 64 * (pA c % 4)) (pA c / 4 + 64 * (pA d % 4)) (pA d / 4 + 64 * 0) := by unfold w4; omega
    rw [e, show 858993459 = w4 51 51 51 51 by rfl, and4 (by omega) (by omega) (by omega) (by omega) (by omega), pB_d _ (by omega) _ Aa.2.2, pB_d _ (by omega) _ Ab.2.2, pB_d _ (by omega) _ Ac.2.2, pB_d _ (by omega) _ Ad.2.2]
  have h5 : w4 (pA a &&& 51) (pA b &&& 51) (pA c &&& 51) (pA d &&& 51) + w4 (pA a / 4 &&& 51) (pA b / 4 &&& 51) (pA c / 4 &&& 51) (pA d / 4 &&& 51) = w4 (pB (pA a)) (pB (pA b)) (pB (pA c)) (pB (pA d)) := by
    unfold w4 pB
    omega
  have h6 : (w4 (pB (pA a)) (pB (pA b)) (pB (pA c)) (pB (pA d)) + w4 (pB (pA a)) (pB (pA b)) (pB (pA c)) (pB (pA d)) / 16) &&& 252645135 = w4 (pp a) (pp b) (pp c) (pp d) := by
    have e : w4 (pB (pA a)) (pB (pA b)) (pB (pA c)) (pB (pA d)) + w4 (pB (pA a)) (pB (pA b)) (pB (pA c)) (pB (pA d)) / 16 = w4 (pB (pA a) + pB (pA a) / 16 + 16 * (pB (pA b) % 16)) (pB (pA b) + pB (pA b) / 16 + 16 * (pB (pA c) % 16)) (pB (pA c) + pB (pA c) / 16 + 16 * (pB (pA d) % 16)) (pB (pA d) + pB (pA d) / 16 + 16 * 0) := by unfold w4; omega
    rw [e, show 252645135 = w4 15 15 15 15 by rfl, and4 (by omega) (by omega) (by omega) (by omega) (by omega), pC_d _ (by omega) _ ha, pC_d _ (by omega) _ hb, pC_d _ (by omega) _ hc, pC_d _ (by omega) _ hd]
    rfl
  have Ca := pp_8 a ha
  have Cb := pp_8 b hb
  have Cc := pp_8 c hc
  have Cd := pp_8 d hd
  have Pa := Aa.2.2
  have Pb := Ab.2.2
  have Pc := Ac.2.2
  have Pd := Ad.2.2
  have l1 : w4 a b c d < 4294967296 := by unfold w4; omega
  have l2 : w4 (pA a) (pA b) (pA c) (pA d) < 4294967296 := by unfold w4; omega
  have l3 : w4 (pB (pA a)) (pB (pA b)) (pB (pA c)) (pB (pA d)) < 4294967296 := by unfold w4; omega
  have l4 : w4 (pp a) (pp b) (pp c) (pp d) < 4294967296 := by unfold w4; omega
  have h7 : w4 (pp a) (pp b) (pp c) (pp d) + w4 (pp a) (pp b) (pp c) (pp d) / 256 = w4 (pp a + pp b) (pp b + pp c) (pp c + pp d) (pp d) := by unfold w4; omega
  have l5 : w4 (pp a + pp b) (pp b + pp c) (pp c + pp d) (pp d) < 4294967296 := by unfold w4; omega
  have h8 : (w4 (pp a + pp b) (pp b + pp c) (pp c + pp d) (pp d) + w4 (pp a + pp b) (pp b + pp c) (pp c + pp d) (pp d) / 65536) &&& 63 = pp a + pp b + pp c + pp d := by
    have e : w4 (pp a + pp b) (pp b + pp c) (pp c + pp d) (pp d) + w4 (pp a + pp b) (pp b + pp c) (pp c + pp d) (pp d) / 65536 = (pp a + pp b + pp c + pp d) + 64 * (4 * (pp b + pp c + pp d) + 1024 * (pp c + pp d) + 262144 * pp d) := by unfold w4; omega
    rw [e, show (63 : Nat) = 2 ^ 6 - 1 by rfl, Nat.and_two_pow_sub_one_eq_mod]
    omega
  have key : m_J6_bitCount_0f7a4 (nI (w4 a b c d)) = some (nI (pp a + pp b + pp c + pp d)) := by
    unfold m_J6_bitCount_0f7a4
    simp only [q_lt]
    rw [usr l1 (1 : Int32) 1 2 (by decide) rfl, show (1431655765 : Int32) = nI 1431655765 from rfl, nI_and, h1', pk_sub h2.2, h2.1]
    rw [usr l2 (2 : Int32) 2 4 (by decide) rfl, show (858993459 : Int32) = nI 858993459 from rfl, nI_and, nI_and, h3, h4, nI_add, h5]
    rw [usr l3 (4 : Int32) 4 16 (by decide) rfl, show (252645135 : Int32) = nI 252645135 from rfl, nI_add, nI_and, h6]
    rw [usr l4 (8 : Int32) 8 256 (by decide) rfl, nI_add, h7]
    rw [usr l5 (16 : Int32) 16 65536 (by decide) rfl, nI_add, show (63 : Int32) = nI 63 from rfl, nI_and, h8]
  unfold xbc
  rw [key]
