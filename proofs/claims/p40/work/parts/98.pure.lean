/-! WEAR'S BITS -/
theorem sh_k : ∀ h, h < 31 → ((nI h &&& 31).toBitVec.smod 32).toNat = h := by decide +kernel
theorem pw_1 {h : Nat} (hh : h < 24) : 2 ^ h * 2 ^ (23 - h) = 8388608 := by
  rw [← Nat.pow_add, show h + (23 - h) = 23 by omega]
theorem pw_2 {n h : Nat} (h1 : 2 ^ h ≤ n) (h2 : n < 2 ^ (h + 1)) (hh : h < 24) : 8388608 ≤ n * 2 ^ (23 - h) ∧ n * 2 ^ (23 - h) < 16777216 := by
  have e := pw_1 hh
  have a := Nat.mul_le_mul_right (2 ^ (23 - h)) h1
  have b := Nat.mul_lt_mul_of_pos_right h2 (Nat.two_pow_pos (23 - h))
  rw [Nat.pow_succ, Nat.mul_right_comm, e] at b
  omega
theorem wf_1 : FP.Core.b32.tails = 8388608 ∧ FP.Core.b32.exps = 256 ∧ FP.Core.b32.qmin = -149 ∧ FP.Core.b32.qmax = 104 ∧ 2 ^ FP.Core.b32.p = 16777216 := by decide +kernel
theorem wf_2 : FP.Core.b64.tails = 4503599627370496 ∧ FP.Core.b64.exps = 2048 ∧ FP.Core.b64.qmin = -1074 ∧ FP.Core.b64.qmax = 971 ∧ 2 ^ FP.Core.b64.p = 9007199254740992 := by decide +kernel
theorem wf_r {f : FP.Core.Fmt} {s : Bool} {a num den D : Nat} {e q : Int} (h0 : num ≠ 0) (hq : FP.Core.quantum f num den e = q) (hn : FP.Core.unitsNum num e q = a * D) (hd : FP.Core.unitsDen den e q = D) (hD : 0 < D) (ha : a < 2 ^ f.p) (hq2 : q ≤ f.qmax) : FP.Core.roundRatio f s num den e = FP.Core.Datum.fin s a q := by
  unfold FP.Core.roundRatio
  rw [if_neg h0, hq]
  unfold FP.Core.roundAt
  rw [hn, hd]
  have e1 : FP.Core.nearest (a * D) D = a := by
    unfold FP.Core.nearest
    rw [Nat.mul_mod_left, if_pos (by omega), Nat.mul_div_cancel _ hD]
  rw [e1]
  unfold FP.Core.settle FP.Core.bound
  rw [if_pos ha, if_pos hq2]
theorem wf_l {num den h g : Nat} (h1 : num.log2 = h) (h2 : den.log2 = g) (hle : den * 2 ^ ((h : Int) - (g : Int)).toNat ≤ num * 2 ^ (-((h : Int) - (g : Int))).toNat) : FP.Core.leading num den = (h : Int) - (g : Int) := by
  unfold FP.Core.leading
  rw [h1, h2]
  exact if_pos hle
theorem wf_q {f : FP.Core.Fmt} {num den : Nat} {e l q m : Int} (hl : FP.Core.leading num den = l) (hp : f.qmin = m) (hm : m ≤ q) (hq : l + e - ((f.p : Int) - 1) = q) : FP.Core.quantum f num den e = q := by
  unfold FP.Core.quantum
  rw [hl, hq, hp]
  exact Int.max_eq_right hm
theorem wf_d {E T : Nat} (h1 : 1 ≤ E) (h2 : E < 255) (hT : T < 8388608) : FP.Core.decode FP.Core.b32 (E * 8388608 + T) = FP.Core.Datum.fin false (8388608 + T) ((E : Int) - 150) := by
  obtain ⟨t1, t2, t3, t4, t5⟩ := wf_1
  have a1 : FP.Core.fieldE FP.Core.b32 (E * 8388608 + T) = E := by
    unfold FP.Core.fieldE
    rw [t1, t2]
    omega
  have a2 : FP.Core.fieldT FP.Core.b32 (E * 8388608 + T) = T := by
    unfold FP.Core.fieldT
    rw [t1]
    omega
  have a3 : FP.Core.fieldS FP.Core.b32 (E * 8388608 + T) = false := by
    unfold FP.Core.fieldS
    rw [t1, t2, show (E * 8388608 + T) / 8388608 / 256 % 2 = 0 by omega]
    rfl
  unfold FP.Core.decode
  rw [a1, a2, a3, t1, t2, t3, if_neg (by omega), if_neg (by omega), show (-149 : Int) + ((E : Int) - 1) = (E : Int) - 150 by omega]
theorem wf_3 {a : Nat} {q : Int} (h1 : 8388608 ≤ a) : FP.Core.encode FP.Core.b32 (FP.Core.Datum.fin false a q) = ((q + 149).toNat + 1) * 8388608 + (a - 8388608) := by
  obtain ⟨t1, t2, t3, t4, t5⟩ := wf_1
  unfold FP.Core.encode FP.Core.assemble
  dsimp only
  rw [t1, t3, if_neg (by omega), show q - -149 = q + 149 by omega]
  rw [show false.toNat = 0 from rfl, Nat.zero_mul, Nat.zero_add]
theorem wg_1 {n h : Nat} (h1 : 2 ^ h ≤ n) (h2 : n < 2 ^ (h + 1)) (hh : h < 24) : FP.Core.roundRatio FP.Core.b32 false n 1 0 = FP.Core.Datum.fin false (n * 2 ^ (23 - h)) ((h : Int) - 23) := by
  have ⟨a1, a2⟩ := pw_2 h1 h2 hh
  obtain ⟨t1, t2, t3, t4, t5⟩ := wf_1
  have p0 := Nat.two_pow_pos h
  have n0 : n ≠ 0 := by omega
  refine wf_r (D := 1) n0 (wf_q (wf_l (h := h) (g := 0) ((Nat.log2_eq_iff n0).mpr ⟨h1, h2⟩) (by decide) ?_) t3 (by omega) (by rw [show (FP.Core.b32.p : Int) = 24 from rfl]; omega)) ?_ ?_ (by omega) (by rw [t5]; exact a2) (by rw [t4]; omega)
  · rw [show ((h : Int) - ((0 : Nat) : Int)).toNat = h by omega, show (-((h : Int) - ((0 : Nat) : Int))).toNat = 0 by omega, Nat.one_mul, Nat.pow_zero, Nat.mul_one]
    exact h1
  · unfold FP.Core.unitsNum
    rw [show (0 - ((h : Int) - 23)).toNat = 23 - h by omega, Nat.mul_one]
  · unfold FP.Core.unitsDen
    rw [show ((h : Int) - 23 - 0).toNat = 0 by omega]
theorem lg_23 {a : Nat} (a1 : 8388608 ≤ a) (a2 : a < 16777216) : a.log2 = 23 := (Nat.log2_eq_iff (by omega)).mpr ⟨a1, a2⟩
theorem wg_2 {a h : Nat} (a1 : 8388608 ≤ a) (a2 : a < 16777216) (hh : h < 24) : FP.Core.roundRatio FP.Core.b32 false a 8388608 ((h : Int) - 23 - -20) = FP.Core.Datum.fin false a ((h : Int) - 26) := by
  obtain ⟨t1, t2, t3, t4, t5⟩ := wf_1
  refine wf_r (D := 8388608) (by omega) (wf_q (wf_l (h := 23) (g := 23) (lg_23 a1 a2) (by decide) ?_) t3 (by omega) (by rw [show (FP.Core.b32.p : Int) = 24 from rfl]; omega)) ?_ ?_ (by omega) (by rw [t5]; exact a2) (by rw [t4]; omega)
  · rw [show (((23 : Nat) : Int) - ((23 : Nat) : Int)).toNat = 0 by omega, show (-(((23 : Nat) : Int) - ((23 : Nat) : Int))).toNat = 0 by omega, Nat.pow_zero, Nat.mul_one, Nat.mul_one]
    exact a1
  · unfold FP.Core.unitsNum
    rw [show ((h : Int) - 23 - -20 - ((h : Int) - 26)).toNat = 23 by omega]
  · unfold FP.Core.unitsDen
    rw [show ((h : Int) - 26 - ((h : Int) - 23 - -20)).toNat = 0 by omega, Nat.pow_zero, Nat.mul_one]
theorem u32n {m : Nat} (h : m < 4294967296) : (UInt32.ofNat m).toNat = m := UInt32.toNat_ofNat_of_lt' h
theorem wv_1 {n h : Nat} (h1 : 2 ^ h ≤ n) (h2 : n < 2 ^ (h + 1)) (hh : h < 24) : FP.Core.decode FP.Core.b32 (FP.Core.i2f (nI n)).toNat = FP.Core.Datum.fin false (n * 2 ^ (23 - h)) ((h : Int) - 23) := by
  have hn : n < 2147483648 := Nat.lt_of_lt_of_le h2 (Nat.le_trans (Nat.pow_le_pow_right (by decide) (show h + 1 ≤ 31 by omega)) (by decide))
  have ⟨a1, a2⟩ := pw_2 h1 h2 hh
  have e0 : FP.Core.round FP.Core.b32 (FP.Core.ofInt (nI n).toInt) = FP.Core.Datum.fin false (n * 2 ^ (23 - h)) ((h : Int) - 23) := by
    rw [nI_toInt hn, show FP.Core.ofInt (n : Int) = FP.Core.Datum.fin false n 0 by unfold FP.Core.ofInt; rw [Int.natAbs_natCast, decide_eq_false (by omega)]]
    exact wg_1 h1 h2 hh
  unfold FP.Core.i2f FP.Core.fromInt
  rw [e0, wf_3 a1, show ((h : Int) - 23 + 149).toNat + 1 = h + 127 by omega]
  obtain ⟨a, ha⟩ : ∃ a, a = n * 2 ^ (23 - h) := ⟨_, rfl⟩
  rw [← ha] at a1 a2 ⊢
  rw [u32n (by omega), wf_d (by omega) (by omega) (by omega), show 8388608 + (a - 8388608) = a by omega, show ((h + 127 : Nat) : Int) - 150 = (h : Int) - 23 by omega]
theorem wv_3 {n h : Nat} (h1 : 2 ^ h ≤ n) (h2 : n < 2 ^ (h + 1)) (hh : h < 24) : wrV n = UInt32.ofNat ((124 + h) * 8388608 + (n * 2 ^ (23 - h) - 8388608)) := by
  have ⟨a1, a2⟩ := pw_2 h1 h2 hh
  have e : wrV n = UInt32.ofNat (FP.Core.encode FP.Core.b32 (FP.Core.quotient FP.Core.b32 (FP.Core.decode FP.Core.b32 (FP.Core.i2f (nI n)).toNat) (FP.Core.decode FP.Core.b32 (1090519040 : UInt32).toNat))) := Eq.trans rfl rfl
  rw [e, wv_1 h1 h2 hh, show FP.Core.decode FP.Core.b32 (1090519040 : UInt32).toNat = FP.Core.Datum.fin false 8388608 (-20) by decide +kernel]
  have e2 : FP.Core.quotient FP.Core.b32 (FP.Core.Datum.fin false (n * 2 ^ (23 - h)) ((h : Int) - 23)) (FP.Core.Datum.fin false 8388608 (-20)) = FP.Core.Datum.fin false (n * 2 ^ (23 - h)) ((h : Int) - 26) := by
    unfold FP.Core.quotient
    dsimp only
    rw [if_neg (show ¬ (8388608 : Nat) = 0 by omega)]
    exact wg_2 a1 a2 hh
  rw [e2, wf_3 a1, show ((h : Int) - 26 + 149).toNat + 1 = 124 + h by omega]
theorem wv_d {n h : Nat} (h1 : 2 ^ h ≤ n) (h2 : n < 2 ^ (h + 1)) (hh : h < 24) : FP.Core.decode FP.Core.b32 (wrV n).toNat = FP.Core.Datum.fin false (n * 2 ^ (23 - h)) ((h : Int) - 26) := by
  have ⟨a1, a2⟩ := pw_2 h1 h2 hh
  rw [wv_3 h1 h2 hh]
  obtain ⟨a, ha⟩ : ∃ a, a = n * 2 ^ (23 - h) := ⟨_, rfl⟩
  rw [← ha] at a1 a2 ⊢
  rw [u32n (by omega), wf_d (by omega) (by omega) (by omega), show 8388608 + (a - 8388608) = a by omega, show ((124 + h : Nat) : Int) - 150 = (h : Int) - 26 by omega]
theorem cm_s (a : Int) : compare a a = Ordering.eq := by
  show compareOfLessAndEq a a = Ordering.eq
  unfold compareOfLessAndEq
  rw [if_neg (Int.lt_irrefl a), if_pos rfl]
theorem od_s {d : FP.Core.Datum} (h : d ≠ FP.Core.Datum.nan) : FP.Core.order d d = some Ordering.eq := by
  cases d with
  | nan => exact absurd rfl h
  | inf s => exact congrArg some (cm_s _)
  | fin s c q => exact congrArg some (cm_s _)
theorem wr_t (n : Nat) (hn : n < 16777216) : xn32 (wrV n) ∧ FP.Core.decode FP.Core.b32 (wrV n).toNat ≠ FP.Core.Datum.nan := by
  by_cases h0 : n = 0
  · subst h0
    decide +kernel
  · obtain ⟨h, hh⟩ : ∃ h, h = n.log2 := ⟨_, rfl⟩
    have h1 : 2 ^ h ≤ n := by rw [hh]; exact Nat.log2_self_le h0
    have h2 : n < 2 ^ (h + 1) := by rw [hh]; exact Nat.lt_log2_self
    have h3 : h < 24 := by rw [hh]; exact (Nat.log2_lt h0).2 hn
    have ⟨a1, a2⟩ := pw_2 h1 h2 h3
    refine ⟨?_, by rw [wv_d h1 h2 h3]; intro c; cases c⟩
    rw [wv_3 h1 h2 h3]
    obtain ⟨a, ha⟩ : ∃ a, a = n * 2 ^ (23 - h) := ⟨_, rfl⟩
    rw [← ha] at a1 a2 ⊢
    unfold xn32
    rw [UInt32.le_iff_toNat_le, UInt32.toNat_and]
    refine Nat.le_trans Nat.and_le_left ?_
    rw [u32n (by omega), show (2139095040 : UInt32).toNat = 2139095040 by decide]
    omega
theorem wr_c {n : Nat} (hn : n < 16777216) : Op.cmpValue (FP.fcmp (wrV n) (wrV n)) .l = 0 := by
  rw [show FP.fcmp (wrV n) (wrV n) = some Ordering.eq from od_s (wr_t n hn).2]
  rfl
theorem q_meanWear {B : Nat} {v w : xSt} (H : RBC B v w) (hB : B < 16000000) : ∃ n, n ≤ B ∧ eR (w 1) 8 = nI n ∧ m_X8_meanWear v = some (wrV n) ∧ xn32 (wrV n) ∧ Op.cmpValue (FP.fcmp (wrV n) (wrV n)) .l = 0 := by
  obtain ⟨n, n1, n2⟩ := eR_8 H.1.1.2.1
  obtain ⟨z, z1, -⟩ := H.1.1.2.1.2.2.2
  have a1 := e_allEr (c := sh 8 v) (σ := w 1) (fun i hi => (z1 i hi).1.trans (z1 i hi).2.symm)
  rw [n2] at a1
  refine ⟨n, n1, n2, ?_, (wr_t n (by omega)).1, wr_c (by omega)⟩
  unfold m_X8_meanWear
  rw [a1, q_ob]
  exact q_ck (wr_t n (by omega)).1
/-! the share of ones -/
theorem xn64_n {r : UInt64} (h : xn64 r) : FP.Core.decode FP.Core.b64 r.toNat ≠ FP.Core.Datum.nan := by
  obtain ⟨t1, t2, t3, t4, t5⟩ := wf_2
  have h' : r.toNat % 9223372036854775808 ≤ 9218868437227405312 := by
    have g := h
    unfold xn64 at g
    rw [UInt64.le_iff_toNat_le, UInt64.toNat_and, show (0x7fffffffffffffff : UInt64).toNat = 2 ^ 63 - 1 by decide, Nat.and_two_pow_sub_one_eq_mod, show (0x7ff0000000000000 : UInt64).toNat = 9218868437227405312 by decide] at g
    exact g
  unfold FP.Core.decode
  by_cases c1 : FP.Core.fieldE FP.Core.b64 r.toNat = FP.Core.b64.exps - 1
  · rw [if_pos c1]
    by_cases c2 : FP.Core.fieldT FP.Core.b64 r.toNat = 0
    · rw [if_pos c2]
      intro c
      cases c
    · exfalso
      unfold FP.Core.fieldE at c1
      unfold FP.Core.fieldT at c2
      rw [t1, t2] at c1
      rw [t1] at c2
      omega
  · rw [if_neg c1]
    by_cases c3 : FP.Core.fieldE FP.Core.b64 r.toNat = 0
    · rw [if_pos c3]
      intro c
      cases c
    · rw [if_neg c3]
      intro c
      cases c
theorem xn64_c {r : UInt64} (h : xn64 r) : Op.cmpValue (FP.dcmp r r) .l = 0 := by
  rw [show FP.dcmp r r = some Ordering.eq from od_s (xn64_n h)]
  rfl
theorem q_onesShare {B : Nat} {v w : xSt} (H : RBC B v w) : ∃ n, n < 2049 ∧ oN (w 1) 0 256 = nI n ∧ m_X8_onesShare v = some (shV n) ∧ xn64 (shV n) ∧ Op.cmpValue (FP.dcmp (shV n) (shV n)) .l = 0 := by
  obtain ⟨h1, -⟩ := H.1.1.2.1
  have hc : ∀ i, i < 256 → ∃ a, a < 256 ∧ (w 1) (0 + i) = nI a := fun i hi => by
    have := h1 i hi
    rw [Nat.zero_add]
    obtain ⟨x, a, y, z⟩ := this
    exact ⟨a, y, z⟩
  have a1 := e_ones (c := sh 8 v) (σ := w 1) (a := 0) (n := 256) (fun i hi => (h1 i hi).1) (by omega)
  obtain ⟨n, n1, n2⟩ := oN_n (σ := w 1) (a := 0) 256 hc
  rw [n2] at a1
  refine ⟨n, by omega, n2, ?_, shr_t n (by omega), xn64_c (shr_t n (by omega))⟩
  unfold m_X8_onesShare
  rw [show m_X0_ones (sh 8 v) (0 : Int32) (256 : Int32) = some (nI n) from a1, q_ob]
  exact q_ck (shr_t n (by omega))
