/-! THE DIGEST -/
def ov0 (m : Option Int32) : Int32 := m.getD 0
def fo (g : Nat → Int64 → Int64) (h : Int64) : Nat → Int64
  | 0 => h
  | k + 1 => g k (fo g h k)
theorem fo_s {g : Nat → Int64 → Int64} {h : Int64} {k : Nat} : fo g h (k + 1) = g k (fo g h k) := rfl
theorem fo_c {g g' : Nat → Int64 → Int64} {h : Int64} : ∀ n, (∀ k x, k < n → g k x = g' k x) → fo g h n = fo g' h n := by
  intro n
  induction n with
  | zero => intro _; rfl
  | succ n ih =>
    intro e
    rw [fo_s, fo_s, ih (fun k x hk => e k x (by omega)), e n _ (by omega)]
theorem fo_a {g : Nat → Int64 → Int64} {h : Int64} (a : Nat) : ∀ b, fo g h (a + b) = fo (fun k => g (a + k)) (fo g h a) b := by
  intro b
  induction b with
  | zero => rfl
  | succ b ih =>
    rw [show a + (b + 1) = (a + b) + 1 by omega, fo_s, fo_s, ih]
theorem fo_m {g : Nat → Nat → Int64 → Int64} {n : Nat} (hn : 0 < n) {h : Int64} : ∀ m, fo (fun p x => fo (g p) x n) h m = fo (fun k x => g (k / n) (k % n) x) h (n * m) := by
  intro m
  induction m with
  | zero => rfl
  | succ m ih =>
    rw [fo_s, ih, Nat.mul_succ, fo_a]
    refine fo_c n (fun k x hk => ?_)
    rw [Nat.mul_add_div hn, Nat.div_eq_of_lt hk, Nat.add_zero, Nat.mul_add_mod, Nat.mod_eq_of_lt hk]
def mxf (f : Nat → Int32) : Nat → Int64 → Int64 := fun k x => xmx x (f k).toInt64
def dcF (u : xSt) (q : Nat) : Int32 := ov0 (m_X9_counted u (nI q))
def dsF (u : xSt) (p q : Nat) : Int32 := ov0 (m_X9_sectorTold u (nI p) (nI q))
def dwF (u : xSt) (p q : Nat) : Int32 := ov0 (m_X9_workTold u (nI p) (nI q))
def doF (u : xSt) (p q : Nat) : Int32 := ov0 (m_X9_orderTold u (nI p) (nI q))
def dhF (u : xSt) (k : Nat) : Int32 := ov0 (m_X9_whyNot u (nI (k + 1)) (0 : Int32))
theorem fo_i {g : Nat → Int64 → Int64} {h : Int64} : (h, (0 : Int32)) = (fo g h 0, nI 0) := rfl
theorem fo_i1 {g : Nat → Int64 → Int64} {h : Int64} : (h, (1 : Int32)) = (fo g h 0, nI (0 + 1)) := rfl
theorem fo_n {f : Nat → Int32} {h : Int64} {k : Nat} {α : Type} {rec : Int64 × Int32 → α} {i : Int32} : rec (xmx (fo (mxf f) h k) (f k).toInt64, i) = rec (fo (mxf f) h (k + 1), i) := rfl
theorem fo_p {G : Nat → Nat → Int64 → Int64} {h : Int64} {n p : Nat} {α : Type} {rec : Int64 × Int32 → α} {i : Int32} : rec (fo (G p) (fo (fun p x => fo (G p) x n) h p) n, i) = rec (fo (fun p x => fo (G p) x n) h (p + 1), i) := rfl
theorem d_cnt {B : Nat} {v u : xSt} (H : RBC B v u) {q : Nat} (hq : q < 16) : m_X8_count_n v (nI q) = some (dcF u q) ∧ m_X9_counted u (nI q) = some (dcF u q) := by
  obtain ⟨z, a, b⟩ := s_counted H hq
  unfold dcF
  rw [b]
  exact ⟨a, rfl⟩
theorem d_sec {B : Nat} {v u : xSt} (H : RBC B v u) (hB : B < 16000000) {p q : Nat} (hp : p < 8) (hq : q < 7) : m_X8_sector_n v (nI p) (nI q) = some (dsF u p q) ∧ m_X9_sectorTold u (nI p) (nI q) = some (dsF u p q) := by
  obtain ⟨z, a, b⟩ := s_sectorTold H hB hp hq
  unfold dsF
  rw [b]
  exact ⟨a, rfl⟩
theorem d_wrk {B : Nat} {v u : xSt} (H : RBC B v u) {p q : Nat} (hp : p < 2) (hq : q < 5) : m_X8_work_n v (nI p) (nI q) = some (dwF u p q) ∧ m_X9_workTold u (nI p) (nI q) = some (dwF u p q) := by
  obtain ⟨z, a, b⟩ := s_workTold H hp hq
  unfold dwF
  rw [b]
  exact ⟨a, rfl⟩
theorem d_ord {B n r : Nat} {v u : xSt} (H : RBC B v u) (hn : u 1 580 = nI n) (hn1 : n ≤ 10) (hr : r < n) {q : Nat} (hq : q < 6) : m_X8_order_n v (nI r) (nI q) = some (doF u r q) ∧ m_X9_orderTold u (nI r) (nI q) = some (doF u r q) := by
  obtain ⟨z, a, b⟩ := s_orderTold H hn hn1 hr hq
  unfold doF
  rw [b]
  exact ⟨a, rfl⟩
theorem d_hin {B : Nat} {v u : xSt} (H : RBC B v u) (k : Nat) : m_X6_hindrance (sh 7 v) (nI (k + 1)) (0 : Int32) = some (dhF u k) ∧ m_X9_whyNot u (nI (k + 1)) (0 : Int32) = some (dhF u k) := by
  obtain ⟨j, -, a, b, -⟩ := s_hind (k := nI (k + 1)) (p := 0) H.1.1
  have b := b u
  rw [va_up_id] at b
  unfold dhF
  rw [b]
  exact ⟨a, rfl⟩
theorem d_mis {B : Nat} {v u : xSt} (H : RBC B v u) : ∃ z, m_X6_missesAt (sh 7 v) (0 : Int32) = some z ∧ m_X9_missesAt u (0 : Int32) = some z := by
  obtain ⟨z, -, a, b⟩ := s_misses (c := 0) H.1.1 (by omega)
  have b := b u
  rw [va_up_id] at b
  exact ⟨_, a, b⟩
theorem dm_1 {B : Nat} {v u : xSt} (H : RBC B v u) (h : Int64) : m_X8_mixNumbers v h = some (fo (mxf (fun k => u 1 (556 + k))) (fo (mxf (dcF u)) h 16) 5) := by
  have hs : ∀ k, k < 5 → v 53 k = u 1 (556 + k) := fun k hk => (H.1.1.2.2.2.2.2.2.2 k hk).1
  unfold m_X8_mixNumbers
  refine lpf_r (fun k => (fo (mxf (dcF u)) h k, nI k)) 16 (xFg (by omega)) fo_i (fun k rec hk => ?_) (fun rec => ?_)
  · simp only [q_u2]
    rw [if_neg (show ¬ (15 : Int32) < nI k from nI_nlt (a := 15) (b := k) (by omega) (by omega)), (d_cnt H hk).1, q_ob, e_X8_mix, q_ob, nI_1]
    exact fo_n
  · simp only [q_u2]
    rw [if_pos (show (15 : Int32) < nI 16 by decide)]
    refine lpf_r (fun k => (fo (mxf (fun k => u 1 (556 + k))) (fo (mxf (dcF u)) h 16) k, nI k)) 5 (xFg (by omega)) fo_i (fun k rec hk => ?_) (fun rec => ?_)
    · simp only [q_u2]
      rw [if_neg (show ¬ (5 : Int32) ≤ nI k from nI_ge (b := 5) hk (by omega)), q_ck (nI_in hk (by omega)), q_cl (by omega), hs k hk, e_X8_mix, q_ob, nI_1]
      exact fo_n
    · simp only [q_u2]
      rw [if_pos (show (5 : Int32) ≤ nI 5 by decide)]
def dcG (u : xSt) : Nat → Int64 → Int64 := fun k x => xmx (xmx x (u 1 k).toInt64) (u 1 (256 + k)).toInt64
theorem dm_2 {B : Nat} {v u : xSt} (H : RBC B v u) (hB : B < 16000000) (h : Int64) : m_X8_mixCells v h = some (fo (fun p x => fo (mxf (dsF u p)) x 7) (fo (dcG u) h 256) 8) := by
  have h1 : ∀ k, k < 256 → v 9 k = u 1 k := fun k hk => (H.1.1.2.1.1 k hk).1
  have h2 : ∀ k, k < 256 → v 10 k = u 1 (256 + k) := fun k hk => (H.1.1.2.1.2.1 k hk).1
  unfold m_X8_mixCells
  refine lpf_r (fun k => (fo (dcG u) h k, nI k)) 256 (xFg (by omega)) fo_i (fun k rec hk => ?_) (fun rec => ?_)
  · simp only [q_u2]
    rw [if_neg (show ¬ (256 : Int32) ≤ nI k from nI_ge (b := 256) hk (by omega)), xat_n hk (by omega), xat_n hk (by omega), h1 k hk, h2 k hk, e_X8_mix, q_ob, e_X8_mix, q_ob, nI_1]
    rfl
  · simp only [q_u2]
    rw [if_pos (show (256 : Int32) ≤ nI 256 by decide)]
    refine lpf_r (fun k => (fo (fun p x => fo (mxf (dsF u p)) x 7) (fo (dcG u) h 256) k, nI k)) 8 (xFg (by omega)) fo_i (fun p rec hp => ?_) (fun rec => ?_)
    · simp only [q_u2]
      rw [if_neg (show ¬ (8 : Int32) ≤ nI p from nI_ge (b := 8) hp (by omega))]
      refine lpf_r (fun k => (fo (mxf (dsF u p)) (fo (fun p x => fo (mxf (dsF u p)) x 7) (fo (dcG u) h 256) p) k, nI k)) 7 (xFg (by omega)) fo_i (fun k rec hk => ?_) (fun rec2 => ?_)
      · simp only [q_u2]
        rw [if_neg (show ¬ (6 : Int32) < nI k from nI_nlt (a := 6) (b := k) (by omega) (by omega)), (d_sec H hB hp hk).1, q_ob, e_X8_mix, q_ob, nI_1]
        exact fo_n
      · simp only [q_u2]
        rw [if_pos (show (6 : Int32) < nI 7 by decide), nI_1]
        exact fo_p (G := fun p => mxf (dsF u p))
    · simp only [q_u2]
      rw [if_pos (show (8 : Int32) ≤ nI 8 by decide)]
theorem dm_3 {B : Nat} {v u : xSt} (H : RBC B v u) (h : Int64) : m_X8_mixWorks v h = some (fo (fun p x => fo (mxf (dwF u p)) x 5) h 2) := by
  unfold m_X8_mixWorks
  refine lpf_r (fun k => (fo (fun p x => fo (mxf (dwF u p)) x 5) h k, nI k)) 2 (xFg (by omega)) fo_i (fun p rec hp => ?_) (fun rec => ?_)
  · simp only [q_u2]
    rw [if_neg (show ¬ (1 : Int32) < nI p from nI_nlt (a := 1) (b := p) (by omega) (by omega))]
    refine lpf_r (fun k => (fo (mxf (dwF u p)) (fo (fun p x => fo (mxf (dwF u p)) x 5) h p) k, nI k)) 5 (xFg (by omega)) fo_i (fun k rec hk => ?_) (fun rec2 => ?_)
    · simp only [q_u2]
      rw [if_neg (show ¬ (4 : Int32) < nI k from nI_nlt (a := 4) (b := k) (by omega) (by omega)), (d_wrk H hp hk).1, q_ob, e_X8_mix, q_ob, nI_1]
      exact fo_n
    · simp only [q_u2]
      rw [if_pos (show (4 : Int32) < nI 5 by decide), nI_1]
      exact fo_p (G := fun p => mxf (dwF u p))
  · simp only [q_u2]
    rw [if_pos (show (1 : Int32) < nI 2 by decide)]
theorem dm_4 {B n m : Nat} {v u : xSt} (H : RBC B v u) (hn : u 1 580 = nI n) (hn1 : n ≤ 10) (hm : u 1 567 = nI m) (hm1 : m ≤ 12) (h : Int64) : m_X8_mixOrders v h = some (fo (mxf (fun k => u 1 (568 + k))) (fo (fun p x => fo (mxf (doF u p)) x 6) h n) m) := by
  have e1 : v 21 1 = nI n := by
    obtain ⟨n', q, π, a1, a2, a3, a4, -⟩ := H.1.1.2.2.2.2.2.2.1
    exact (a4.trans a3.symm).trans hn
  obtain ⟨m', ⟨m1, m2, m3⟩, m4⟩ := H.1.1.2.2.2.1
  have e2 : v 13 1 = nI m := (m1.trans m4.symm).trans hm
  have e3 : m' = m := (nI_eq (by omega) (by omega)).mp (m4.symm.trans hm)
  have e4 : ∀ k, k < m → v 14 k = u 1 (568 + k) := fun k hk => (m3 k (by omega)).1
  unfold m_X8_mixOrders
  refine lpf_r (fun k => (fo (fun p x => fo (mxf (doF u p)) x 6) h k, nI k)) n (xFg (by omega)) fo_i (fun p rec hp => ?_) (fun rec => ?_)
  · simp only [q_u2]
    rw [e1, if_neg (nI_ge hp (by omega))]
    refine lpf_r (fun k => (fo (mxf (doF u p)) (fo (fun p x => fo (mxf (doF u p)) x 6) h p) k, nI k)) 6 (xFg (by omega)) fo_i (fun k rec hk => ?_) (fun rec2 => ?_)
    · simp only [q_u2]
      rw [if_neg (show ¬ (5 : Int32) < nI k from nI_nlt (a := 5) (b := k) (by omega) (by omega)), (d_ord H hn hn1 hp hk).1, q_ob, e_X8_mix, q_ob, nI_1]
      exact fo_n
    · simp only [q_u2]
      rw [if_pos (show (5 : Int32) < nI 6 by decide), nI_1]
      exact fo_p (G := fun p => mxf (doF u p))
  · simp only [q_u2]
    rw [e1, if_pos (nI_le (Nat.le_refl n) (by omega))]
    refine lpf_r (fun k => (fo (mxf (fun k => u 1 (568 + k))) (fo (fun p x => fo (mxf (doF u p)) x 6) h n) k, nI k)) m (xFg (by omega)) fo_i (fun k rec hk => ?_) (fun rec => ?_)
    · simp only [q_u2]
      rw [e2, if_neg (nI_ge hk (by omega)), xat_n (by omega) (by omega), e4 k hk, e_X8_mix, q_ob, nI_1]
      exact fo_n
    · simp only [q_u2]
      rw [e2, if_pos (nI_le (Nat.le_refl m) (by omega))]
theorem dm_5 {B : Nat} {v u : xSt} {z : Int32} (H : RBC B v u) (hz : m_X6_missesAt (sh 7 v) (0 : Int32) = some z) (h : Int64) : m_X8_mixReasons v h = some (xmx (fo (mxf (dhF u)) h 3) z.toInt64) := by
  unfold m_X8_mixReasons
  refine lpf_r (fun k => (fo (mxf (dhF u)) h k, nI (k + 1))) 3 (xFg (by omega)) fo_i1 (fun k rec hk => ?_) (fun rec => ?_)
  · simp only [q_u2]
    rw [if_neg (show ¬ (3 : Int32) < nI (k + 1) from nI_nlt (a := 3) (b := k + 1) (by omega) (by omega)), (d_hin H k).1, q_ob, e_X8_mix, q_ob, nI_1]
    exact fo_n
  · simp only [q_u2]
    rw [if_pos (show (3 : Int32) < nI (3 + 1) by decide), hz, q_ob, e_X8_mix, q_ob]
theorem dm_6 {v u : xSt} {g L : Nat} (hg : g < 2) (h1 : v 0 3 = nI g) (hL : L ≤ 60) (h2 : v 0 7 = nI L) (h3 : ∀ k, k < L → v 2 k = u 5 k) (h : Int64) : m_X8_mixTexts v h = some (fo (mxf (u 5)) (xmx (xmx h (nI g).toInt64) (nI L).toInt64) L) := by
  have key : ∀ x : Int64, lp (fun (rec10 : Int64 × Int32 → Option (Int64)) => un2 (fun (a8 : Int64) (a9 : Int32) => (if (v 0 7) ≤ a9 then some a8 else (if (60 : Int32) ≤ a9 then some a8 else ck (¬ (a9 < 0 ∨ 60 ≤ a9.toNatClampNeg)) (ob (m_X8_mix a8 (((v 2 a9.toNatClampNeg)).toInt64)) (fun r15 => rec10 (r15, (a9 + 1)))))))) xF (x, (0 : Int32)) = some (fo (mxf (u 5)) x L) := by
    intro x
    refine lpf_r (fun k => (fo (mxf (u 5)) x k, nI k)) L (xFg (by omega)) fo_i (fun k rec hk => ?_) (fun rec => ?_)
    · simp only [q_u2]
      rw [h2, if_neg (nI_ge hk (by omega)), if_neg (show ¬ (60 : Int32) ≤ nI k from nI_ge (b := 60) (by omega) (by omega)), q_ck (nI_in (show k < 60 by omega) (by omega)), q_cl (by omega), h3 k hk, e_X8_mix, q_ob, nI_1]
      exact fo_n
    · simp only [q_u2]
      rw [h2, if_pos (nI_le (Nat.le_refl L) (by omega))]
  unfold m_X8_mixTexts
  rw [q_lt, h1]
  rcases (show g = 0 ∨ g = 1 by omega) with rfl | rfl
  · rw [if_pos (show nI 0 = 0 by decide)]
    try dsimp only
    rw [e_X8_mix, q_ob, e_X8_mix, q_ob, key, h2, show (nI 0).toInt64 = 0 by decide]
  · rw [if_neg (show ¬ nI 1 = 0 by decide)]
    try dsimp only
    rw [e_X8_mix, q_ob, e_X8_mix, q_ob, key, h2, show (nI 1).toInt64 = 1 by decide]
theorem s_share {B : Nat} {v w : xSt} (H : RBC B v w) : ∃ n, n < 2049 ∧ m_X0_ones (sh 8 v) (0 : Int32) (256 : Int32) = some (nI n) ∧ m_X9_share w = some (shV n) := by
  obtain ⟨h1, -⟩ := H.1.1.2.1
  have hc : ∀ i, i < 256 → ∃ a, a < 256 ∧ (w 1) (0 + i) = nI a := fun i hi => by
    have := h1 i hi
    rw [Nat.zero_add]
    obtain ⟨x, a, y, z⟩ := this
    exact ⟨a, y, z⟩
  have a1 := e_ones (c := sh 8 v) (σ := w 1) (a := 0) (n := 256) (fun i hi => (h1 i hi).1) (by omega)
  obtain ⟨n, n1, n2⟩ := oN_n (σ := w 1) (a := 0) 256 hc
  have a2 := r_onesFrom (w := w) (σ := w 1) (a := 0) (n := 256) (by omega) hc
  rw [va_up_id] at a2
  rw [n2] at a1 a2
  refine ⟨n, by omega, a1, ?_⟩
  unfold m_X9_share
  rw [show m_X9_onesFrom w (0 : Int32) (256 : Int32) = some (nI n) from a2, q_ob]
  rw [q_ck (show xn64 (FP.ddiv (FP.i2d (nI n)) (4656722014701092864 : UInt64)) from (shr_t n (by omega)).1)]
  rfl
theorem s_wear {B : Nat} {v w : xSt} (H : RBC B v w) (hB : B < 16000000) : ∃ n, n < 16777216 ∧ m_X0_allErasures (sh 8 v) = some (nI n) ∧ m_X9_wear w = some (wrV n) := by
  obtain ⟨n, n1, n2⟩ := eR_8 H.1.1.2.1
  obtain ⟨z, z1, -⟩ := H.1.1.2.1.2.2.2
  have a1 := e_allEr (c := sh 8 v) (σ := w 1) (fun i hi => (z1 i hi).1.trans (z1 i hi).2.symm)
  have a2 := r_erasures (w := w) (σ := w 1)
  rw [va_up_id] at a2
  rw [n2] at a1 a2
  refine ⟨n, by omega, a1, ?_⟩
  unfold m_X9_wear
  rw [a2, q_ob]
  rw [q_ck (show xn32 (FP.fdiv (FP.i2f (nI n)) (1090519040 : UInt32)) from (wr_t n (by omega)).1)]
  rfl
