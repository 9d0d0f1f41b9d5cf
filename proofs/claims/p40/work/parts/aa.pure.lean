/-! HOLDS: cells, sectors, works and orders agree -/
theorem q_u7 {α β γ δ ε ζ η θ : Type} (f : α → β → γ → δ → ε → ζ → η → θ) (a : α) (b : β) (c : γ) (d : δ) (e : ε) (g : ζ) (i : η) : un7 f (a, b, c, d, e, g, i) = f a b c d e g i := Eq.trans rfl rfl
theorem l_n {α β : Type} {x : α} {f : α → β} {z : β} (h : ∀ y, y = x → f y = z) : lt x f = z := h x rfl
theorem k_00 {B : Nat} {v w : xSt} (H : RBC B v w) : m_X8_work_n v (0 : Int32) (0 : Int32) = some (w 1 581) := k_F H (p := 0) (q := 0) (b := 581) (by omega) rfl (by omega)
theorem k_01 {B : Nat} {v w : xSt} (H : RBC B v w) : m_X8_work_n v (0 : Int32) (1 : Int32) = some (wF (w 1) 581 1) := k_F H (p := 0) (q := 1) (b := 581) (by omega) rfl (by omega)
theorem k_02 {B : Nat} {v w : xSt} (H : RBC B v w) : m_X8_work_n v (0 : Int32) (2 : Int32) = some (w 1 584 - w 1 583) := k_F H (p := 0) (q := 2) (b := 581) (by omega) rfl (by omega)
theorem k_03 {B : Nat} {v w : xSt} (H : RBC B v w) : m_X8_work_n v (0 : Int32) (3 : Int32) = some (wF (w 1) 581 3) := k_F H (p := 0) (q := 3) (b := 581) (by omega) rfl (by omega)
theorem k_10 {B : Nat} {v w : xSt} (H : RBC B v w) : m_X8_work_n v (1 : Int32) (0 : Int32) = some (w 1 599) := k_F H (p := 1) (q := 0) (b := 599) (by omega) rfl (by omega)
theorem k_12 {B : Nat} {v w : xSt} (H : RBC B v w) : m_X8_work_n v (1 : Int32) (2 : Int32) = some (w 1 602 - w 1 601) := k_F H (p := 1) (q := 2) (b := 599) (by omega) rfl (by omega)
theorem k_14 {B : Nat} {v w : xSt} (H : RBC B v w) : m_X8_work_n v (1 : Int32) (4 : Int32) = some (w 1 605) := k_F H (p := 1) (q := 4) (b := 599) (by omega) rfl (by omega)
theorem o_0 {B n r : Nat} {v w : xSt} (H : RBC B v w) (hn : w 1 580 = nI n) (hn1 : n ≤ 10) (hr : r < n) : m_X8_order_n v (nI r) (0 : Int32) = some (w 1 (617 + 18 * r)) := o_F H hn hn1 hr (q := 0) (by omega)
theorem o_1 {B n r : Nat} {v w : xSt} (H : RBC B v w) (hn : w 1 580 = nI n) (hn1 : n ≤ 10) (hr : r < n) : m_X8_order_n v (nI r) (1 : Int32) = some (w 1 (617 + 18 * r + 1)) := o_F H hn hn1 hr (q := 1) (by omega)
theorem o_2 {B n r : Nat} {v w : xSt} (H : RBC B v w) (hn : w 1 580 = nI n) (hn1 : n ≤ 10) (hr : r < n) : m_X8_order_n v (nI r) (2 : Int32) = some (w 1 (617 + 18 * r + 2)) := o_F H hn hn1 hr (q := 2) (by omega)
theorem o_3 {B n r : Nat} {v w : xSt} (H : RBC B v w) (hn : w 1 580 = nI n) (hn1 : n ≤ 10) (hr : r < n) : m_X8_order_n v (nI r) (3 : Int32) = some (w 1 (617 + 18 * r + 3)) := o_F H hn hn1 hr (q := 3) (by omega)
theorem o_4 {B n r : Nat} {v w : xSt} (H : RBC B v w) (hn : w 1 580 = nI n) (hn1 : n ≤ 10) (hr : r < n) : m_X8_order_n v (nI r) (4 : Int32) = some (w 1 561 - w 1 (617 + 18 * r + 4)) := o_F H hn hn1 hr (q := 4) (by omega)
theorem o_5 {B n r : Nat} {v w : xSt} (H : RBC B v w) (hn : w 1 580 = nI n) (hn1 : n ≤ 10) (hr : r < n) : m_X8_order_n v (nI r) (5 : Int32) = some (w 1 (617 + 18 * r + 5)) := o_F H hn hn1 hr (q := 5) (by omega)
theorem und_le {B : Nat} {v w : xSt} (H : RBC B v w) : (w 1 581 = 0 ∧ w 1 581 ≤ 0) ∨ (¬ w 1 581 = 0 ∧ ¬ w 1 581 ≤ 0) := by
  rcases (s_und H.1.1).2 with c | ⟨k, k1, k2, c⟩
  · exact Or.inl ⟨c, by rw [c]; decide⟩
  · exact Or.inr ⟨by rw [c]; exact nI_ne0 (by omega) (by omega), by rw [c]; exact nI_nle (by omega) (by omega)⟩
theorem asd_le {B : Nat} {v w : xSt} (H : RBC B v w) : (w 1 599 = 0 ∧ w 1 599 ≤ 0) ∨ (¬ w 1 599 = 0 ∧ ¬ w 1 599 ≤ 0) := by
  rcases s_asd H.1.1 with ⟨-, c, -⟩ | ⟨-, ⟨k, k1, k2, c⟩, -⟩
  · exact Or.inl ⟨c, by rw [c]; decide⟩
  · exact Or.inr ⟨by rw [c]; exact nI_ne0 (by omega) (by omega), by rw [c]; exact nI_nle (by omega) (by omega)⟩
set_option maxHeartbeats 1000000 in
theorem t_holds {B : Nat} {v w : xSt} (hJ : J B v w) (hB : B < 16000000) : m_L_holds v = some (1, v) := by
  have H := hJ.1
  obtain ⟨n, n1, n2⟩ := n_580 H
  obtain ⟨σ, hσ⟩ : ∃ σ, σ = w 1 := ⟨_, rfl⟩
  unfold m_L_holds
  rw [c_3 H, q_ob]
  refine l_n (fun j4 e4 => ?_)
  have e0 : ∀ (g : Int32 → Option (Int32 × xSt)), (if w 1 554 = 0 then g 0 else g ((1 : Int32) <<< ((w 1 554 - (1 : Int32)) &&& 31))) = g (lkm (w 1 554)) := fun g => by
    unfold lkm
    split <;> rfl
  rw [q_ob, e0, e4]
  dsimp only
  obtain ⟨x, x1, x2, x3, x4, x5⟩ := q_onesShare H
  rw [x3, q_ob, c_5 H, q_ob, x2, q_ck (show xn64 (FP.ddiv (FP.i2d (nI x)) (4656722014701092864 : UInt64)) from x4)]
  refine l_n (fun j11 e11 => ?_)
  refine l_n (fun j151 e151 => ?_)
  rw [if_pos (show Op.cmpValue (FP.dcmp (shV x) (FP.ddiv (FP.i2d (nI x)) (4656722014701092864 : UInt64))) .l = 0 from x5)]
  obtain ⟨y, y1, y2, y3, y4, y5⟩ := q_meanWear H hB
  rw [y3, q_ob, c_6 H, q_ob, y2, q_ck (show xn32 (FP.fdiv (FP.i2f (nI y)) (1090519040 : UInt32)) from y4), if_pos (show Op.cmpValue (FP.fcmp (wrV y) (FP.fdiv (FP.i2f (nI y)) (1090519040 : UInt32))) .l = 0 from y5)]
  obtain ⟨z, z1, z2⟩ := t_least H
  rw [z1, q_ob]
  suffices hj : j11 1 = some (1, v) by
    refine l_n (fun j162 e162 => ?_)
    rcases z2 with ⟨a, b⟩ | ⟨a, b⟩
    · rw [if_pos a, e162]
      dsimp only
      rw [q_ob, b]
      simp only [q_lt]
      rw [if_pos (show nI 4 = (4 : Int32) from rfl), if_pos trivial]
      exact hj
    · rw [if_neg a, e162]
      dsimp only
      rw [q_ob]
      simp only [q_lt]
      rw [if_neg (show ¬ w 1 554 = (4 : Int32) from b), if_pos trivial]
      exact hj
  rw [e11]
  dsimp only
  clear e11 e151 e4
  refine lpf_r (fun k => (oN (w 1) 0 (32 * k), eR (w 1) k, uR (w 1) 0 (4 * k), nI (SK (w 1) n k), 1, nI k, v)) 8 (xFg (by omega)) rfl (fun k rec hk => ?_) (fun rec => ?_)
  · simp only [q_u7]
    refine l_n (fun j20 e20 => ?_)
    clear e20
    rw [if_neg (show ¬ (8 : Int32) ≤ nI k from nI_ge (b := 8) hk (by omega)), if_neg (show ¬ (1 : Int32) = 0 by decide), d_2 H hB hk, q_ob, d_0 H hB hk, q_ob, d_4 H hB hk, q_ob, d_6 H hB hk n2 n1, q_ob, c_4 H, q_ob]
    refine l_n (fun j111 e111 => ?_)
    have e1 : ∀ (g : Int32 → Option (Int32 × xSt)), (if w 1 555 = 1 then (if nI k < (8 : Int32) - lkm (w 1 554) then g 0 else g 1) else (if lkm (w 1 554) ≤ nI k then g 0 else g 1)) = g (lk (w 1 554) (w 1 555) (nI k)) := fun g => by
      unfold lk
      split
      · split <;> rfl
      · split <;> rfl
    rw [e1, e111]
    dsimp only
    clear e111 e1
    rw [d_1 H hB hk, q_ob]
    refine l_n (fun j116 e116 => ?_)
    have e2 : ∀ (g : Int32 → Int32 → Option (Int32 × xSt)), (if lk (w 1 554) (w 1 555) (nI k) = 0 then g (lk (w 1 554) (w 1 555) (nI k)) 0 else g (lk (w 1 554) (w 1 555) (nI k)) 1) = g (lk (w 1 554) (w 1 555) (nI k)) (lk (w 1 554) (w 1 555) (nI k)) := fun g => by
      rcases lk_01 (w 1 554) (w 1 555) (nI k) with c | c
      · rw [if_pos c, c]
      · rw [if_neg (by rw [c]; decide), c]
    rw [e2, e116]
    dsimp only
    clear e116 e2
    refine l_n (fun j119 e119 => ?_)
    refine l_n (fun j121 e121 => ?_)
    clear e121
    rw [if_pos rfl, d_5 H hB hk, q_ob, show m_X8_setting_n v (1 : Int32) = some (w 1 557, v) from s_F H (j := 1) (by omega), q_ob, q_lt]
    dsimp only
    rw [d_0 H hB hk, q_ob, if_pos rfl, t_why2 H hk, q_ob, k_00 H, q_ob]
    refine l_n (fun j137 e137 => ?_)
    have e3 : ∀ (g : Int32 → Int32 → Option (Int32 × xSt)), (if w 1 581 ≤ 0 then ob (m_X8_count_n v (1 : Int32)) (fun r141 => (if r141 = 0 then g (wy2 (w 1) k) (2 : Int32) else (if lk (w 1 554) (w 1 555) (nI k) = 0 then ob (m_X8_work_n v (1 : Int32) (0 : Int32)) (fun r145 => (if r145 ≤ 0 then g (wy2 (w 1) k) (0 : Int32) else g (wy2 (w 1) k) (4 : Int32))) else g (wy2 (w 1) k) (3 : Int32)))) else g (wy2 (w 1) k) (1 : Int32)) = g (wy2 (w 1) k) (wy2 (w 1) k) := fun g => by
      rw [c_1 H, q_ob, k_10 H, q_ob]
      unfold wy2
      rcases und_le H with ⟨c, c'⟩ | ⟨c, c'⟩
      · rw [if_pos c', if_pos c]
        by_cases ca : w 1 552 = 0
        · rw [if_pos ca, if_pos ca]
        · rw [if_neg ca, if_neg ca]
          by_cases cl : lk (w 1 554) (w 1 555) (nI k) = 0
          · rw [if_pos cl, if_pos cl]
            rcases asd_le H with ⟨d, d'⟩ | ⟨d, d'⟩
            · rw [if_pos d', if_pos d]
            · rw [if_neg d', if_neg d]
          · rw [if_neg cl, if_neg cl]
      · rw [if_neg c', if_neg c]
    rw [e3, e137]
    dsimp only
    rw [if_pos rfl, e119]
    dsimp only
    refine congrArg rec ?_
    rw [show 32 * (k + 1) = 32 * k + 32 by omega, oN_a (a := 0) (m := 32 * k) 32, show 0 + 32 * k = 32 * k by omega, eR_s, show 4 * (k + 1) = 4 * k + 4 by omega, uR_a (a := 0) (m := 4 * k) 4, show 0 + 4 * k = 4 * k by omega, SK_s, nI_add, nI_1]
  · simp only [q_u7]
    refine l_n (fun j20 e20 => ?_)
    rw [if_pos (show (8 : Int32) ≤ nI 8 by decide), e20]
    dsimp only
    clear e20
    refine lpf_r (fun k => (1, nI (k + 1))) (n - 1) (xFg (by omega)) rfl (fun k rec2 hk => ?_) (fun rec2 => ?_)
    · simp only [q_u2]
      rw [c_10 H, q_ob, n2]
      refine l_n (fun j26 e26 => ?_)
      clear e26
      rw [if_neg (nI_ge (show k + 1 < n by omega) (by omega)), if_neg (show ¬ (1 : Int32) = 0 by decide), show nI (k + 1) - (1 : Int32) = nI k from nI_pred k, o_3 H n2 n1 (show k < n by omega), q_ob, o_3 H n2 n1 (show k + 1 < n by omega), q_ob]
      refine l_n (fun j84 e84 => ?_)
      refine l_n (fun j85 e85 => ?_)
      have hso := hJ.2.1.2.1 n n2 n1 k (by omega)
      have h85 : j85 () = rec2 (1, nI (k + 1 + 1)) := by
        rw [e85]
        dsimp only
        rw [e84]
        dsimp only
        rw [nI_1]
      rcases hso with h | ⟨h1, h2⟩
      · rw [if_pos h]
        exact h85
      · rw [if_neg (show ¬ w 1 (617 + 18 * (k + 1) + 3) < w 1 (617 + 18 * k + 3) by rw [h1]; exact fun h => Int32.lt_irrefl h)]
        rw [q_ob, q_ob]
        refine l_n (fun j91 e91 => ?_)
        rw [if_pos h1, o_0 H n2 n1 (show k < n by omega), q_ob, o_0 H n2 n1 (show k + 1 < n by omega), q_ob, if_neg (Int32.not_le.mpr h2)]
        exact h85
    · simp only [q_u2]
      rw [c_10 H, q_ob, n2]
      refine l_n (fun j26 e26 => ?_)
      rw [if_pos (nI_le (show n ≤ n - 1 + 1 by omega) (by omega)), e26]
      dsimp only
      clear e26
      refine l_n (fun j27 e27 => ?_)
      clear e27
      obtain ⟨m, m1, m2, m4, m5⟩ := RLd_f H.1.1.2.2.2.1
      rw [if_neg (show ¬ (1 : Int32) = 0 by decide), c_5 H, q_ob, if_pos (show oN (w 1) 0 (32 * 8) = oN (w 1) 0 256 from rfl), c_6 H, q_ob, if_pos rfl, c_13 H, q_ob, if_pos (show uR (w 1) 0 (4 * 8) = uR (w 1) 0 32 from rfl), q_ob, SK_8 H.1.1 n2 n1, if_pos rfl, q_ob, if_neg (show ¬ (10 : Int32) < nI n from nI_nlt (a := 10) (by omega) (by omega)), c_11 H, q_ob, show w 1 567 = nI m from m4, if_neg (show ¬ (12 : Int32) < nI m from nI_nlt (a := 12) (by omega) (by omega)), k_02 H, q_ob, k_12 H, q_ob, k_00 H, q_ob, k_10 H]
      have ng : ∀ x, x < 20000000 → ¬ nI x < 0 := fun x hx => nI_nlt (b := 0) (by omega) (by omega)
      have h0 : ¬ (0 : Int32) < 0 := by decide
      rcases lf_e H.1.1.2.2.2.2.1 with ⟨a1, a2⟩ | ⟨a1, s1, ka, -, -, -, a2, a3, a4⟩
      · rw [show w 1 584 - w 1 583 = 0 from a2, show w 1 581 = 0 from a1, if_neg h0]
        rcases lf_e H.1.1.2.2.2.2.2.1 with ⟨b1, b2⟩ | ⟨b1, s2, kb, -, -, -, b2, b3, b4⟩
        · rw [show w 1 602 - w 1 601 = 0 from b2, show w 1 599 = 0 from b1, if_neg h0]
          rfl
        · rw [show w 1 602 - w 1 601 = nI s2 from b4, if_neg (ng s2 b3)]
          simp only [q_lt, q_ob]
          rw [if_neg (show ¬ w 1 599 = 0 from b1), if_neg (nI_ne0 b2 (by omega))]
          rfl
      · rw [show w 1 584 - w 1 583 = nI s1 from a4, if_neg (ng s1 a3)]
        have a5 : ¬ nI s1 = 0 := nI_ne0 a2 (by omega)
        have a6 : ¬ w 1 581 = 0 := a1
        rcases lf_e H.1.1.2.2.2.2.2.1 with ⟨b1, b2⟩ | ⟨b1, s2, kb, -, -, -, b2, b3, b4⟩
        · rw [show w 1 602 - w 1 601 = 0 from b2, show w 1 599 = 0 from b1, if_neg h0]
          simp only [q_lt, q_ob]
          rw [if_neg a6, if_neg a5]
          rfl
        · rw [show w 1 602 - w 1 601 = nI s2 from b4, if_neg (ng s2 b3)]
          simp only [q_lt, q_ob]
          rw [if_neg a6, if_neg a5, if_neg (show ¬ w 1 599 = 0 from b1), if_neg (nI_ne0 b2 (by omega))]
          rfl
