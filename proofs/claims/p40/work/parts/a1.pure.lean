/-! LOOK: one number of all that the array holds -/
def fo (f : Nat → Int32) (h : Int64) : Nat → Int64
  | 0 => h
  | k + 1 => 31 * fo f h k + (f k).toInt64
def fq (f g : Nat → Int32) (h : Int64) : Nat → Int64
  | 0 => h
  | k + 1 => 31 * (31 * fq f g h k + (f k).toInt64) + (g k).toInt64
theorem fo_s {f : Nat → Int32} {h : Int64} {k : Nat} : fo f h (k + 1) = 31 * fo f h k + (f k).toInt64 := rfl
theorem fq_s {f g : Nat → Int32} {h : Int64} {k : Nat} : fq f g h (k + 1) = 31 * (31 * fq f g h k + (f k).toInt64) + (g k).toInt64 := rfl
def LKa (σ : Nat → Int32) : Int64 := fo (cF σ) 337 15
def LKb (σ : Nat → Int32) : Int64 := fq (fun c => σ c) (fun c => ldF σ (c % 8)) (LKa σ) 256
def LKc (σ : Nat → Int32) : Int64 := fq (fun p => σ (544 + p)) (fun p => uR σ (4 * p) 4) (LKb σ) 8
def LKd (σ : Nat → Int32) : Int64 := fq (fun k => wF σ (581 + 18 * (k / 5)) (k % 5)) (fun k => if k < 5 then σ (556 + k) else 0) (LKc σ) 10
def LKn (σ : Nat → Int32) (n : Nat) : Int64 := fo (fun k => orF σ (k / 6) (k % 6)) (LKd σ) (6 * n)
def LK (σ : Nat → Int32) : Int64 := LKn σ (σ 580).toNatClampNeg
theorem n_580 {B : Nat} {v w : xSt} (H : RBC B v w) : ∃ n, n ≤ 10 ∧ w 1 580 = nI n := by
  obtain ⟨n, qq, π, a1, a2, a3, -⟩ := H.1.1.2.2.2.2.2.2.1
  exact ⟨n, a1, a3⟩
theorem t_look {B : Nat} {v w : xSt} (H : RBC B v w) (hB : B < 16000000) : m_L_look v = some (LK (w 1), v) := by
  obtain ⟨n, n1, n2⟩ := n_580 H
  unfold m_L_look
  refine lpf_r (fun k => (fo (cF (w 1)) 337 k, nI k)) 15 (xFg (by omega)) rfl (fun k rec hk => ?_) (fun rec => ?_)
  · simp only [q_u2]
    rw [if_neg (show ¬ (15 : Int32) ≤ nI k from nI_ge (b := 15) hk (by omega)), c_F H hk, q_ob, fo_s, nI_1]
  simp only [q_u2]
  rw [if_pos (show (15 : Int32) ≤ nI 15 by decide)]
  refine lpf_r (fun k => (fq (fun c => w 1 c) (fun c => ldF (w 1) (c % 8)) (LKa (w 1)) k, nI k)) 256 (xFg (by omega)) rfl (fun k rec hk => ?_) (fun rec => ?_)
  · simp only [q_u2]
    rw [if_neg (show ¬ (256 : Int32) ≤ nI k from nI_ge (b := 256) hk (by omega)), e_0 H hk, q_ob, e_3 H hk, q_ob, q_lt, fq_s, nI_1]
  simp only [q_u2]
  rw [if_pos (show (256 : Int32) ≤ nI 256 by decide)]
  refine lpf_r (fun k => (fq (fun p => w 1 (544 + p)) (fun p => uR (w 1) (4 * p) 4) (LKb (w 1)) k, nI k)) 8 (xFg (by omega)) rfl (fun k rec hk => ?_) (fun rec => ?_)
  · simp only [q_u2]
    rw [if_neg (show ¬ (8 : Int32) ≤ nI k from nI_ge (b := 8) hk (by omega)), d_0 H hB hk, q_ob, d_4 H hB hk, q_ob, q_lt, fq_s, nI_1]
  simp only [q_u2]
  rw [if_pos (show (8 : Int32) ≤ nI 8 by decide)]
  refine lpf_r (fun k => (fq (fun k => wF (w 1) (581 + 18 * (k / 5)) (k % 5)) (fun k => if k < 5 then w 1 (556 + k) else 0) (LKc (w 1)) k, nI k, v)) 10 (xFg (by omega)) rfl (fun k rec hk => ?_) (fun rec => ?_)
  · simp only [q_u3]
    rw [if_neg (show ¬ (10 : Int32) ≤ nI k from nI_ge (b := 10) hk (by omega)), show nI k - nI k / (5 : Int32) * (5 : Int32) = nI (k % 5) from xrem (d := 5) (by omega) (by omega) (by omega), show nI k / (5 : Int32) = nI (k / 5) from q_div (d := 5) (by omega) (by omega) (by omega), k_F H (by omega) rfl (Nat.mod_lt _ (by omega)), q_ob, q_lt, fq_s]
    by_cases h5 : k < 5
    · rw [if_neg (show ¬ (5 : Int32) ≤ nI k from nI_ge (b := 5) h5 (by omega)), s_F H h5, q_ob]
      simp only [q_lt]
      rw [if_pos h5, nI_1]
    · rw [if_pos (show (5 : Int32) ≤ nI k from nI_le (a := 5) (by omega) (by omega)), if_neg h5, nI_1]
  simp only [q_u3]
  rw [if_pos (show (10 : Int32) ≤ nI 10 by decide)]
  refine lpf_r (fun k => (fo (fun k => orF (w 1) (k / 6) (k % 6)) (LKd (w 1)) k, nI k)) (6 * n) (xFg (by omega)) rfl (fun k rec hk => ?_) (fun rec => ?_)
  · simp only [q_u2]
    rw [c_10 H, q_ob, n2, show (6 : Int32) * nI n = nI (6 * n) from pk_mul 6 n, if_neg (nI_ge hk (by omega)), show nI k - nI k / (6 : Int32) * (6 : Int32) = nI (k % 6) from xrem (d := 6) (by omega) (by omega) (by omega), show nI k / (6 : Int32) = nI (k / 6) from q_div (d := 6) (by omega) (by omega) (by omega), o_F H n2 n1 (show k / 6 < n by omega) (Nat.mod_lt _ (by omega)), q_ob, fo_s, nI_1]
  · simp only [q_u2]
    rw [c_10 H, q_ob, n2, show (6 : Int32) * nI n = nI (6 * n) from pk_mul 6 n, if_pos (nI_le (Nat.le_refl _) (by omega))]
    unfold LK LKn
    rw [n2, q_cl (by omega)]
