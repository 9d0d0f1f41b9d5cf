/-! WEAR'S BITS -/
theorem sh_k : ∀ h, h < 31 → ((nI h &&& 31).toBitVec.smod 32).toNat = h := by decide +kernel
theorem hb_e {n h : Nat} (h1 : 2 ^ h ≤ n) (h2 : n < 2 ^ (h + 1)) (hh : h < 24) : m_X8_highestBit (nI n) = some (nI h) := by
  have hn : n < 2147483648 := Nat.lt_of_lt_of_le h2 (Nat.le_trans (Nat.pow_le_pow_right (by decide) (show h + 1 ≤ 31 by omega)) (by decide))
  have hs : ∀ k, k < 31 → nI n >>> (nI k &&& 31) = nI (n / 2 ^ k) := fun k hk => pk_shrN hn _ k (sh_k k hk)
  unfold m_X8_highestBit
  refine lpf_r (fun k => nI (30 - k)) (30 - h) (xFg (by omega)) rfl (fun k rec hk => ?_) (fun rec => ?_)
  · rw [q_u1, if_neg (nI_nle (by omega) (by omega)), hs _ (by omega), Nat.div_eq_of_lt (Nat.lt_of_lt_of_le h2 (Nat.pow_le_pow_right (by decide) (by omega))), if_pos (show nI 0 = 0 from nI_0)]
    obtain ⟨j, hj⟩ : ∃ j, 30 - k = j + 1 := ⟨29 - k, by omega⟩
    rw [hj, pk_m1, show 30 - (k + 1) = j by omega]
  · rw [q_u1, show 30 - (30 - h) = h by omega]
    by_cases h0 : h = 0
    · subst h0
      rw [if_pos (show nI 0 ≤ 0 by decide)]
      rfl
    · rw [if_neg (nI_nle (by omega) (by omega)), hs _ (by omega), show n / 2 ^ h = 1 from Nat.div_eq_of_lt_le (by omega) (by rw [Nat.pow_succ] at h2; omega), if_neg (show ¬ nI 1 = 0 by decide)]
theorem pw_1 {h : Nat} (hh : h < 24) : 2 ^ h * 2 ^ (23 - h) = 8388608 := by
  rw [← Nat.pow_add, show h + (23 - h) = 23 by omega]
theorem pw_2 {n h : Nat} (h1 : 2 ^ h ≤ n) (h2 : n < 2 ^ (h + 1)) (hh : h < 24) : 8388608 ≤ n * 2 ^ (23 - h) ∧ n * 2 ^ (23 - h) < 16777216 := by
  have e := pw_1 hh
  have a := Nat.mul_le_mul_right (2 ^ (23 - h)) h1
  have b := Nat.mul_lt_mul_of_pos_right h2 (Nat.two_pow_pos (23 - h))
  rw [Nat.pow_succ, Nat.mul_right_comm, e] at b
  omega
theorem wb_e {n h : Nat} (h1 : 2 ^ h ≤ n) (h2 : n < 2 ^ (h + 1)) (hh : h < 24) : m_X8_wearBits (nI n) = some (nI ((124 + h) * 8388608 + (n * 2 ^ (23 - h) - 8388608))) := by
  have hn : n < 2147483648 := Nat.lt_of_lt_of_le h2 (Nat.le_trans (Nat.pow_le_pow_right (by decide) (show h + 1 ≤ 31 by omega)) (by decide))
  have p0 := Nat.two_pow_pos h
  have e := pw_1 hh
  have ⟨a1, a2⟩ := pw_2 h1 h2 hh
  have e0 : (n - 2 ^ h) * 2 ^ (23 - h) = n * 2 ^ (23 - h) - 8388608 := by rw [Nat.sub_mul, e]
  have e1 : (1 : Int32) <<< (nI h &&& 31) = nI (2 ^ h) := by
    have g := pk_shlN (n := 1) (nI h &&& 31) h (sh_k h (by omega)) (by rw [Nat.one_mul]; exact Nat.lt_of_le_of_lt h1 (by omega))
    rw [Nat.one_mul] at g
    exact g
  have e3 : (23 : Int32) - nI h = nI (23 - h) := q_sub (a := 23) (b := h) (by omega)
  have e4 : nI (n - 2 ^ h) <<< (nI (23 - h) &&& 31) = nI (n * 2 ^ (23 - h) - 8388608) := by
    rw [pk_shlN (nI (23 - h) &&& 31) (23 - h) (sh_k (23 - h) (by omega)) (by rw [e0]; omega), e0]
  have e5 : (127 : Int32) + nI h - (3 : Int32) = nI (124 + h) := by
    rw [show (127 : Int32) + nI h = nI (127 + h) from nI_add 127 h, show nI (127 + h) - (3 : Int32) = nI (127 + h - 3) from q_sub (a := 127 + h) (b := 3) (by omega), show 127 + h - 3 = 124 + h by omega]
  have e6 : nI (124 + h) <<< ((23 : Int32) &&& 31) = nI ((124 + h) * 8388608) := pk_shlN (n := 124 + h) ((23 : Int32) &&& 31) 23 (by decide) (by omega)
  unfold m_X8_wearBits
  rw [if_pos (show (0 : Int32) < nI n from nI_lt (a := 0) (b := n) (by omega) hn), hb_e h1 h2 hh, q_ob, q_lt, e1, q_sub h1, e3, e4, e5, e6, nI_add]
theorem wf_1 : FP.Core.b32.tails = 8388608 ∧ FP.Core.b32.exps = 256 ∧ FP.Core.b32.qmin = -149 ∧ FP.Core.b32.qmax = 104 ∧ 2 ^ FP.Core.b32.p = 16777216 := by decide +kernel
theorem wf_2 : FP.Core.b64.tails = 4503599627370496 ∧ FP.Core.b64.exps = 2048 ∧ FP.Core.b64.qmin = -1074 ∧ FP.Core.b64.qmax = 971 ∧ 2 ^ FP.Core.b64.p = 9007199254740992 := by decide +kernel
theorem wf_r {f : FP.Core.Fmt} {s : Bool} {a num den D : Nat} {e q : Int} (h0 : num ≠ 0) (hq : FP.Core.quantum f num den e = q) (hn : FP.Core.unitsNum num e q = a * D) (hd : FP.Core.unitsDen den e q = D) (hD : 0 < D) (ha : a < 2 ^ f.p) (hq2 : q ≤ f.qmax) : FP.Core.roundRatio f s num den e = FP.Core.Datum.fin s a q := by
  unfold FP.Core.roundRatio
  rw [if_neg h0, hq]
  unfold FP.Core.roundAt
  rw [hn, hd]
  have e1 : FP.Core.nearest (a * D) D = a := by
    unfold FP.Core.nearest
    rw [Nat.mul_mod_left, if_pos (by omega), Nat.mul_div_cancel _ hD]
  rw [e1]
  unfold FP.Core.settle FP.Core.bound
  rw [if_pos ha, if_pos hq2]
theorem wf_l {num den h g : Nat} (h1 : num.log2 = h) (h2 : den.log2 = g) (hle : den * 2 ^ ((h : Int) - (g : Int)).toNat ≤ num * 2 ^ (-((h : Int) - (g : Int))).toNat) : FP.Core.leading num den = (h : Int) - (g : Int) := by
  unfold FP.Core.leading
  rw [h1, h2]
  exact if_pos hle
theorem wf_q {f : FP.Core.Fmt} {num den : Nat} {e l q m : Int} (hl : FP.Core.leading num den = l) (hp : f.qmin = m) (hm : m ≤ q) (hq : l + e - ((f.p : Int) - 1) = q) : FP.Core.quantum f num den e = q := by
  unfold FP.Core.quantum
  rw [hl, hq, hp]
  exact Int.max_eq_right hm
theorem wf_d {E T : Nat} (h1 : 1 ≤ E) (h2 : E < 255) (hT : T < 8388608) : FP.Core.decode FP.Core.b32 (E * 8388608 + T) = FP.Core.Datum.fin false (8388608 + T) ((E : Int) - 150) := by
  obtain ⟨t1, t2, t3, t4, t5⟩ := wf_1
  have a1 : FP.Core.fieldE FP.Core.b32 (E * 8388608 + T) = E := by
    unfold FP.Core.fieldE
    rw [t1, t2]
    omega
  have a2 : FP.Core.fieldT FP.Core.b32 (E * 8388608 + T) = T := by
    unfold FP.Core.fieldT
    rw [t1]
    omega
  have a3 : FP.Core.fieldS FP.Core.b32 (E * 8388608 + T) = false := by
    unfold FP.Core.fieldS
    rw [t1, t2, show (E * 8388608 + T) / 8388608 / 256 % 2 = 0 by omega]
    rfl
  unfold FP.Core.decode
  rw [a1, a2, a3, t1, t2, t3, if_neg (by omega), if_neg (by omega), show (-149 : Int) + ((E : Int) - 1) = (E : Int) - 150 by omega]
theorem wf_3 {a : Nat} {q : Int} (h1 : 8388608 ≤ a) : FP.Core.encode FP.Core.b32 (FP.Core.Datum.fin false a q) = ((q + 149).toNat + 1) * 8388608 + (a - 8388608) := by
  obtain ⟨t1, t2, t3, t4, t5⟩ := wf_1
  unfold FP.Core.encode FP.Core.assemble
  dsimp only
  rw [t1, t3, if_neg (by omega), show q - -149 = q + 149 by omega]
  rw [show false.toNat = 0 from rfl, Nat.zero_mul, Nat.zero_add]
theorem wf_4 {a : Nat} {q : Int} (h1 : 4503599627370496 ≤ a) : FP.Core.encode FP.Core.b64 (FP.Core.Datum.fin false a q) = ((q + 1074).toNat + 1) * 4503599627370496 + (a - 4503599627370496) := by
  obtain ⟨t1, t2, t3, t4, t5⟩ := wf_2
  unfold FP.Core.encode FP.Core.assemble
  dsimp only
  rw [t1, t3, if_neg (by omega), show q - -1074 = q + 1074 by omega]
  rw [show false.toNat = 0 from rfl, Nat.zero_mul, Nat.zero_add]
theorem wg_1 {n h : Nat} (h1 : 2 ^ h ≤ n) (h2 : n < 2 ^ (h + 1)) (hh : h < 24) : FP.Core.roundRatio FP.Core.b32 false n 1 0 = FP.Core.Datum.fin false (n * 2 ^ (23 - h)) ((h : Int) - 23) := by
  have ⟨a1, a2⟩ := pw_2 h1 h2 hh
  obtain ⟨t1, t2, t3, t4, t5⟩ := wf_1
  have p0 := Nat.two_pow_pos h
  have n0 : n ≠ 0 := by omega
  refine wf_r (D := 1) n0 (wf_q (wf_l (h := h) (g := 0) ((Nat.log2_eq_iff n0).mpr ⟨h1, h2⟩) (by decide) ?_) t3 (by omega) (by rw [show (FP.Core.b32.p : Int) = 24 from rfl]; omega)) ?_ ?_ (by omega) (by rw [t5]; exact a2) (by rw [t4]; omega)
  · rw [show ((h : Int) - ((0 : Nat) : Int)).toNat = h by omega, show (-((h : Int) - ((0 : Nat) : Int))).toNat = 0 by omega, Nat.one_mul, Nat.pow_zero, Nat.mul_one]
    exact h1
  · unfold FP.Core.unitsNum
    rw [show (0 - ((h : Int) - 23)).toNat = 23 - h by omega, Nat.mul_one]
  · unfold FP.Core.unitsDen
    rw [show ((h : Int) - 23 - 0).toNat = 0 by omega]
theorem lg_23 {a : Nat} (a1 : 8388608 ≤ a) (a2 : a < 16777216) : a.log2 = 23 := (Nat.log2_eq_iff (by omega)).mpr ⟨a1, a2⟩
theorem wg_2 {a h : Nat} (a1 : 8388608 ≤ a) (a2 : a < 16777216) (hh : h < 24) : FP.Core.roundRatio FP.Core.b32 false a 8388608 ((h : Int) - 23 - -20) = FP.Core.Datum.fin false a ((h : Int) - 26) := by
  obtain ⟨t1, t2, t3, t4, t5⟩ := wf_1
  refine wf_r (D := 8388608) (by omega) (wf_q (wf_l (h := 23) (g := 23) (lg_23 a1 a2) (by decide) ?_) t3 (by omega) (by rw [show (FP.Core.b32.p : Int) = 24 from rfl]; omega)) ?_ ?_ (by omega) (by rw [t5]; exact a2) (by rw [t4]; omega)
  · rw [show (((23 : Nat) : Int) - ((23 : Nat) : Int)).toNat = 0 by omega, show (-(((23 : Nat) : Int) - ((23 : Nat) : Int))).toNat = 0 by omega, Nat.pow_zero, Nat.mul_one, Nat.mul_one]
    exact a1
  · unfold FP.Core.unitsNum
    rw [show ((h : Int) - 23 - -20 - ((h : Int) - 26)).toNat = 23 by omega]
  · unfold FP.Core.unitsDen
    rw [show ((h : Int) - 26 - ((h : Int) - 23 - -20)).toNat = 0 by omega, Nat.pow_zero, Nat.mul_one]
theorem wg_3 {a h : Nat} (a1 : 8388608 ≤ a) (a2 : a < 16777216) (hh : h < 24) : FP.Core.roundRatio FP.Core.b64 false a 1 ((h : Int) - 26) = FP.Core.Datum.fin false (a * 536870912) ((h : Int) - 55) := by
  obtain ⟨t1, t2, t3, t4, t5⟩ := wf_2
  refine wf_r (D := 1) (by omega) (wf_q (wf_l (h := 23) (g := 0) (lg_23 a1 a2) (by decide) ?_) t3 (by omega) (by rw [show (FP.Core.b64.p : Int) = 53 from rfl]; omega)) ?_ ?_ (by omega) (by rw [t5]; omega) (by rw [t4]; omega)
  · rw [show (((23 : Nat) : Int) - ((0 : Nat) : Int)).toNat = 23 by omega, show (-(((23 : Nat) : Int) - ((0 : Nat) : Int))).toNat = 0 by omega, Nat.pow_zero, Nat.mul_one, Nat.one_mul]
    exact a1
  · unfold FP.Core.unitsNum
    rw [show ((h : Int) - 26 - ((h : Int) - 55)).toNat = 29 by omega, Nat.mul_one]
  · unfold FP.Core.unitsDen
    rw [show ((h : Int) - 55 - ((h : Int) - 26)).toNat = 0 by omega]
theorem u32n {m : Nat} (h : m < 4294967296) : (UInt32.ofNat m).toNat = m := UInt32.toNat_ofNat_of_lt' h
theorem wv_1 {n h : Nat} (h1 : 2 ^ h ≤ n) (h2 : n < 2 ^ (h + 1)) (hh : h < 24) : FP.Core.decode FP.Core.b32 (FP.Core.i2f (nI n)).toNat = FP.Core.Datum.fin false (n * 2 ^ (23 - h)) ((h : Int) - 23) := by
  have hn : n < 2147483648 := Nat.lt_of_lt_of_le h2 (Nat.le_trans (Nat.pow_le_pow_right (by decide) (show h + 1 ≤ 31 by omega)) (by decide))
  have ⟨a1, a2⟩ := pw_2 h1 h2 hh
  have e0 : FP.Core.round FP.Core.b32 (FP.Core.ofInt (nI n).toInt) = FP.Core.Datum.fin false (n * 2 ^ (23 - h)) ((h : Int) - 23) := by
    rw [nI_toInt hn, show FP.Core.ofInt (n : Int) = FP.Core.Datum.fin false n 0 by unfold FP.Core.ofInt; rw [Int.natAbs_natCast, decide_eq_false (by omega)]]
    exact wg_1 h1 h2 hh
  unfold FP.Core.i2f FP.Core.fromInt
  rw [e0, wf_3 a1, show ((h : Int) - 23 + 149).toNat + 1 = h + 127 by omega]
  obtain ⟨a, ha⟩ : ∃ a, a = n * 2 ^ (23 - h) := ⟨_, rfl⟩
  rw [← ha] at a1 a2 ⊢
  rw [u32n (by omega), wf_d (by omega) (by omega) (by omega), show 8388608 + (a - 8388608) = a by omega, show ((h + 127 : Nat) : Int) - 150 = (h : Int) - 23 by omega]
theorem wv_3 {n h : Nat} (h1 : 2 ^ h ≤ n) (h2 : n < 2 ^ (h + 1)) (hh : h < 24) : wrV n = UInt32.ofNat ((124 + h) * 8388608 + (n * 2 ^ (23 - h) - 8388608)) := by
  have ⟨a1, a2⟩ := pw_2 h1 h2 hh
  have e : wrV n = UInt32.ofNat (FP.Core.encode FP.Core.b32 (FP.Core.quotient FP.Core.b32 (FP.Core.decode FP.Core.b32 (FP.Core.i2f (nI n)).toNat) (FP.Core.decode FP.Core.b32 (1090519040 : UInt32).toNat))) := Eq.trans rfl rfl
  rw [e, wv_1 h1 h2 hh, show FP.Core.decode FP.Core.b32 (1090519040 : UInt32).toNat = FP.Core.Datum.fin false 8388608 (-20) by decide +kernel]
  have e2 : FP.Core.quotient FP.Core.b32 (FP.Core.Datum.fin false (n * 2 ^ (23 - h)) ((h : Int) - 23)) (FP.Core.Datum.fin false 8388608 (-20)) = FP.Core.Datum.fin false (n * 2 ^ (23 - h)) ((h : Int) - 26) := by
    unfold FP.Core.quotient
    dsimp only
    rw [if_neg (show ¬ (8388608 : Nat) = 0 by omega)]
    exact wg_2 a1 a2 hh
  rw [e2, wf_3 a1, show ((h : Int) - 26 + 149).toNat + 1 = 124 + h by omega]
theorem wv_d {n h : Nat} (h1 : 2 ^ h ≤ n) (h2 : n < 2 ^ (h + 1)) (hh : h < 24) : FP.Core.decode FP.Core.b32 (wrV n).toNat = FP.Core.Datum.fin false (n * 2 ^ (23 - h)) ((h : Int) - 26) := by
  have ⟨a1, a2⟩ := pw_2 h1 h2 hh
  rw [wv_3 h1 h2 hh]
  obtain ⟨a, ha⟩ : ∃ a, a = n * 2 ^ (23 - h) := ⟨_, rfl⟩
  rw [← ha] at a1 a2 ⊢
  rw [u32n (by omega), wf_d (by omega) (by omega) (by omega), show 8388608 + (a - 8388608) = a by omega, show ((124 + h : Nat) : Int) - 150 = (h : Int) - 26 by omega]
theorem cm_s (a : Int) : compare a a = Ordering.eq := by
  show compareOfLessAndEq a a = Ordering.eq
  unfold compareOfLessAndEq
  rw [if_neg (Int.lt_irrefl a), if_pos rfl]
theorem od_s {d : FP.Core.Datum} (h : d ≠ FP.Core.Datum.nan) : FP.Core.order d d = some Ordering.eq := by
  cases d with
  | nan => exact absurd rfl h
  | inf s => exact congrArg some (cm_s _)
  | fin s c q => exact congrArg some (cm_s _)
theorem fb_e {x : UInt32} (h : FP.Core.decode FP.Core.b32 x.toNat ≠ FP.Core.Datum.nan) : m_Jxf58ca_floatToIntBits_5c35a x = some x.toInt32 := by
  unfold m_Jxf58ca_floatToIntBits_5c35a m_Jxf58ca_isNaN_12338
  rw [show FP.fcmp x x = some Ordering.eq from od_s h, if_pos (by decide), q_ob, if_pos rfl]
theorem wr_t (n : Nat) (hn : n < 16777216) : xn32 (wrV n) ∧ m_X8_wearBits (nI n) = m_Jxf58ca_floatToIntBits_5c35a (wrV n) ∧ m_X8_wearBits (nI n) = some (wrV n).toInt32 := by
  by_cases h0 : n = 0
  · subst h0
    decide +kernel
  · obtain ⟨h, hh⟩ : ∃ h, h = n.log2 := ⟨_, rfl⟩
    have h1 : 2 ^ h ≤ n := by rw [hh]; exact Nat.log2_self_le h0
    have h2 : n < 2 ^ (h + 1) := by rw [hh]; exact Nat.lt_log2_self
    have h3 : h < 24 := by rw [hh]; exact (Nat.log2_lt h0).2 hn
    have ⟨a1, a2⟩ := pw_2 h1 h2 h3
    have e : m_X8_wearBits (nI n) = some (wrV n).toInt32 := by
      rw [wb_e h1 h2 h3, wv_3 h1 h2 h3]
      rfl
    refine ⟨?_, e.trans (fb_e (by rw [wv_d h1 h2 h3]; intro c; cases c)).symm, e⟩
    rw [wv_3 h1 h2 h3]
    obtain ⟨a, ha⟩ : ∃ a, a = n * 2 ^ (23 - h) := ⟨_, rfl⟩
    rw [← ha] at a1 a2 ⊢
    unfold xn32
    rw [UInt32.le_iff_toNat_le, UInt32.toNat_and]
    refine Nat.le_trans Nat.and_le_left ?_
    rw [u32n (by omega), show (2139095040 : UInt32).toNat = 2139095040 by decide]
    omega
/-- the float as a double -/
theorem wr_x (n : Nat) (hn : n < 16777216) : xn64 (FP.f2d (wrV n)) := by
  by_cases h0 : n = 0
  · subst h0
    decide +kernel
  · obtain ⟨h, hh⟩ : ∃ h, h = n.log2 := ⟨_, rfl⟩
    have h1 : 2 ^ h ≤ n := by rw [hh]; exact Nat.log2_self_le h0
    have h2 : n < 2 ^ (h + 1) := by rw [hh]; exact Nat.lt_log2_self
    have h3 : h < 24 := by rw [hh]; exact (Nat.log2_lt h0).2 hn
    have ⟨a1, a2⟩ := pw_2 h1 h2 h3
    have d := wv_d h1 h2 h3
    obtain ⟨a, ha⟩ : ∃ a, a = n * 2 ^ (23 - h) := ⟨_, rfl⟩
    rw [← ha] at a1 a2 d
    obtain ⟨x, hx⟩ : ∃ x, x = wrV n := ⟨_, rfl⟩
    rw [← hx] at d ⊢
    have e1 : FP.Core.fIsNaN x = false := by
      unfold FP.Core.fIsNaN FP.Core.isNaN
      rw [d]
      exact decide_eq_false (fun c => by cases c)
    have e2 : FP.Core.f2d x = UInt64.ofNat ((h + 1020) * 4503599627370496 + (a * 536870912 - 4503599627370496)) := by
      unfold FP.Core.f2d FP.Core.convert
      rw [d, show FP.Core.round FP.Core.b64 (FP.Core.Datum.fin false a ((h : Int) - 26)) = FP.Core.Datum.fin false (a * 536870912) ((h : Int) - 55) from wg_3 a1 a2 h3, wf_4 (by omega), show ((h : Int) - 55 + 1074).toNat + 1 = h + 1020 by omega]
    unfold FP.f2d
    rw [e1, e2]
    show UInt64.ofNat ((h + 1020) * 4503599627370496 + (a * 536870912 - 4503599627370496)) &&& 0x7fffffffffffffff ≤ 0x7ff0000000000000
    rw [UInt64.le_iff_toNat_le, UInt64.toNat_and]
    refine Nat.le_trans Nat.and_le_left ?_
    rw [UInt64.toNat_ofNat_of_lt' (show (h + 1020) * 4503599627370496 + (a * 536870912 - 4503599627370496) < 18446744073709551616 by omega), show (0x7ff0000000000000 : UInt64).toNat = 9218868437227405312 by decide]
    omega
theorem b_meanWear {B : Nat} {v w : xSt} (H : RBC B v w) (hB : B < 16000000) : ∃ n w', n ≤ B ∧ m_X8_meanWear v = some (wrV n) ∧ m_X9_meanWear w = some (wrV n, w') ∧ w' 0 8 = 0 ∧ RBC B v w' := b_meanWear0 (fun n hn => (wr_t n (by omega)).1) H hB
