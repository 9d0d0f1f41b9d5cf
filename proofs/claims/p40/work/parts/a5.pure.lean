/-! THE LINE: what keeps its order; cut, withdraw, post -/
theorem so_t {σ : Nat → Int32} {r s t : Nat} (h : so σ r s) (g : so σ s t) : so σ r t := by
  unfold so at *
  rcases h with h | ⟨h1, h2⟩
  · rcases g with g | ⟨g1, g2⟩
    · exact Or.inl (Int32.lt_trans g h)
    · exact Or.inl (by rw [← g1]; exact h)
  · rcases g with g | ⟨g1, g2⟩
    · exact Or.inl (by rw [h1]; exact g)
    · exact Or.inr ⟨h1.trans g1, Int32.lt_trans h2 g2⟩
theorem so_e {σ τ : Nat → Int32} {r s r' s' : Nat} (h : so σ r' s') (h1 : τ (617 + 18 * r) = σ (617 + 18 * r')) (h2 : τ (617 + 18 * r + 3) = σ (617 + 18 * r' + 3)) (h3 : τ (617 + 18 * s) = σ (617 + 18 * s')) (h4 : τ (617 + 18 * s + 3) = σ (617 + 18 * s' + 3)) : so τ r s := by
  unfold so
  rw [h1, h2, h3, h4]
  exact h
theorem rM_a {σ : Nat → Int32} {r n a : Nat} (ha : a < 9) : rM σ r n (617 + 18 * a) = σ (617 + 18 * (if a < r then a else a + 1)) ∧ rM σ r n (617 + 18 * a + 3) = σ (617 + 18 * (if a < r then a else a + 1) + 3) := by
  by_cases c : a < r
  · rw [if_pos c]
    exact ⟨rM_lo (k := 0) c (by omega), rM_lo (k := 3) c (by omega)⟩
  · rw [if_neg c]
    exact ⟨rM_hi (k := 0) (by omega) ha (by omega), rM_hi (k := 3) (by omega) ha (by omega)⟩
theorem IS_rM {σ : Nat → Int32} {r n : Nat} (H : IS σ) (hn : σ 580 = nI n) (hn1 : n ≤ 10) (hr : r < n) : IS (rM σ r n) := by
  intro m hm hm1 a ha
  rw [rM_580] at hm
  obtain rfl : n - 1 = m := (nI_eq (by omega) (by omega)).mp hm
  have h1 := rM_a (σ := σ) (r := r) (n := n) (a := a) (by omega)
  have h2 := rM_a (σ := σ) (r := r) (n := n) (a := a + 1) (by omega)
  refine so_e (r' := if a < r then a else a + 1) (s' := if a + 1 < r then a + 1 else a + 1 + 1) ?_ h1.1 h1.2 h2.1 h2.2
  by_cases c1 : a + 1 < r
  · rw [if_pos (by omega), if_pos c1]
    exact H n hn hn1 a (by omega)
  · rw [if_neg c1]
    by_cases c2 : a < r
    · rw [if_pos c2]
      exact so_t (H n hn hn1 a (by omega)) (H n hn hn1 (a + 1) (by omega))
    · rw [if_neg c2]
      exact H n hn hn1 (a + 1) (by omega)
theorem rM_z {σ : Nat → Int32} {r n j : Nat} (hr : r < 10) (hj : 797 ≤ j) : rM σ r n j = σ j := by
  unfold rM
  rw [va_up_ne _ _ (by omega), fl_o (by omega)]
theorem IV_rM {B r n : Nat} {σ : Nat → Int32} (H : IV B σ) (hn : σ 580 = nI n) (hn1 : n ≤ 10) (hr : r < n) : IV B (rM σ r n) := by
  obtain ⟨h1, h2, ⟨m, q, g1, g2, g3, g4, g5⟩, h4, h5⟩ := H
  obtain rfl : m = n := (nI_eq (by omega) (by omega)).mp (g3.symm.trans hn)
  refine ⟨IC_c h1 (fun k hk => rM_o (by omega) (by omega)), IS_rM h2 hn hn1 hr, ⟨m - 1, q, by omega, g2, rM_580, ?_, by omega⟩, IF_c h4 (fun k hk => rM_o (by omega) (by omega)), IZ_c h5 (fun k hk => rM_z (by omega) hk)⟩
  rw [rM_o (by omega) (by omega)]
  exact g4
/-! cut -/
theorem r_lose0 {o r σ : Nat → Int32} {z : Int32} (H : RWk o z r σ 581) : ∃ τ, (∀ w, m_X9_loses (va_up w 1 σ) (nI 0) = some ((if σ 581 = 0 then 0 else 1), va_up w 1 τ)) ∧ τ 581 = 0 ∧ ∀ k, (k < 512 ∨ (544 ≤ k ∧ k < 581) ∨ 599 ≤ k) → τ k = σ k := by
  have hcl : ∀ (τ : Nat → Int32) (w : xSt), m_X9_clears (va_up w 1 τ) (nI 0) = some (va_up w 1 (fl τ 581 18 (fun _ => nI 0))) := fun τ w => r_clears (s := 0) (by omega)
  rcases H.2 with hu | ⟨k, d, t, p, b1, b2, b3, b4, b5, b6, b7, b8, b9, b10, b11, b12, b13, b14, b15, b16, b17⟩
  · refine ⟨fl σ 581 18 (fun _ => nI 0), fun w => ?_, fl_i (by omega) (by omega), fun k hk => fl_o (by omega)⟩
    rw [if_pos hu.1]
    unfold m_X9_loses
    simp (disch := omega) only [li, q_lt, q_ob, q_u1, q_u2, q_u3, q_u4, nI_add, pk_mul, q_cl, q_lts, q_le, q_eq, q_sub, q_div, q_ck, q_st, va_up_self, Nat.reduceAdd, Nat.reduceMul]
    rw [hu.1, if_neg (show ¬ (0 : Int32) = nI 1 by decide)]
    refine (lp_1 _ _).trans ?_
    simp only [q_u2]
    rw [if_neg (by decide), if_neg (show ¬ (0 : Int32) = nI 2 by decide), hcl]
    simp only [q_ob]
    rw [if_pos (by decide)]
  · have n0 : ¬ σ 581 = 0 := by rw [b3]; exact nI_ne0 (by omega) (by omega)
    rcases (show k = 1 ∨ k = 2 ∨ k = 3 by omega) with rfl | rfl | rfl
    · obtain ⟨p1, -⟩ := b15 rfl
      obtain ⟨ρ, hρ⟩ : ∃ ρ, ρ = va_up σ (512 + p / 8) (nI 1) := ⟨_, rfl⟩
      refine ⟨fl ρ 581 18 (fun _ => nI 0), fun w => ?_, fl_i (by omega) (by omega), fun k hk => by rw [fl_o (by omega), hρ, va_up_ne _ _ (by omega)]⟩
      rw [if_neg n0]
      unfold m_X9_loses
      simp (disch := omega) only [li, q_lt, q_ob, q_u1, q_u2, q_u3, q_u4, nI_add, pk_mul, q_cl, q_lts, q_le, q_eq, q_sub, q_div, q_ck, q_st, va_up_self, Nat.reduceAdd, Nat.reduceMul, b3, b12]
      rw [if_pos trivial, ← hρ]
      refine (lp_1 _ _).trans ?_
      simp only [q_u2]
      rw [if_neg (by decide), if_neg (by decide), hcl]
      simp only [q_ob]
      rw [if_neg (by decide)]
    · obtain ⟨p1, -⟩ := b16 rfl
      obtain ⟨ρ, hρ⟩ : ∃ ρ, ρ = fl σ (512 + 4 * p) 4 (fun _ => nI 1) := ⟨_, rfl⟩
      refine ⟨fl ρ 581 18 (fun _ => nI 0), fun w => ?_, fl_i (by omega) (by omega), fun k hk => by rw [fl_o (by omega), hρ, fl_o (by omega)]⟩
      rw [if_neg n0]
      unfold m_X9_loses
      simp (disch := omega) only [li, q_lt, q_ob, q_u1, q_u2, q_u3, q_u4, nI_add, pk_mul, q_cl, q_lts, q_le, q_eq, q_sub, q_div, q_ck, q_st, va_up_self, Nat.reduceAdd, Nat.reduceMul, b3, b12]
      rw [if_neg (by decide)]
      refine lpf_r (fun k => (nI k, va_up w 1 (fl σ (512 + 4 * p) k (fun _ => nI 1)))) 4 (xFg (by omega)) (by simp only [fl_0]) (fun k rec hk => ?_) (fun rec => ?_)
      · simp (disch := omega) only [li, q_lt, q_ob, q_u1, q_u2, q_u3, q_u4, nI_add, pk_mul, q_cl, q_lts, q_le, q_eq, q_sub, q_div, q_ck, q_st, va_up_self, Nat.reduceAdd, Nat.reduceMul]
        rw [if_neg (by omega), if_pos trivial, fl_s rfl rfl]
      · simp (disch := omega) only [li, q_lt, q_ob, q_u1, q_u2, q_u3, q_u4, nI_add, pk_mul, q_cl, q_lts, q_le, q_eq, q_sub, q_div, q_ck, q_st, va_up_self, Nat.reduceAdd, Nat.reduceMul]
        rw [if_pos (by omega), ← hρ, hcl]
        simp only [q_ob]
        rw [if_neg (by decide)]
    · refine ⟨fl σ 581 18 (fun _ => nI 0), fun w => ?_, fl_i (by omega) (by omega), fun k hk => fl_o (by omega)⟩
      rw [if_neg n0]
      unfold m_X9_loses
      simp (disch := omega) only [li, q_lt, q_ob, q_u1, q_u2, q_u3, q_u4, nI_add, pk_mul, q_cl, q_lts, q_le, q_eq, q_sub, q_div, q_ck, q_st, va_up_self, Nat.reduceAdd, Nat.reduceMul, b3, b12]
      rw [if_neg (by decide)]
      refine (lp_1 _ _).trans ?_
      simp only [q_u2]
      rw [if_neg (by decide), if_neg (by decide), hcl]
      simp only [q_ob]
      rw [if_neg (by decide)]
theorem r_lose1 {o r σ : Nat → Int32} {z : Int32} (H : RWk o z r σ 599) : ∃ τ, (∀ w, m_X9_loses (va_up w 1 σ) (nI 1) = some ((if σ 599 = 0 then 0 else 1), va_up w 1 τ)) ∧ τ 599 = 0 ∧ ∀ k, (k < 512 ∨ (544 ≤ k ∧ k < 599) ∨ 617 ≤ k) → τ k = σ k := by
  have hcl : ∀ (τ : Nat → Int32) (w : xSt), m_X9_clears (va_up w 1 τ) (nI 1) = some (va_up w 1 (fl τ 599 18 (fun _ => nI 0))) := fun τ w => r_clears (s := 1) (by omega)
  rcases H.2 with hu | ⟨k, d, t, p, b1, b2, b3, b4, b5, b6, b7, b8, b9, b10, b11, b12, b13, b14, b15, b16, b17⟩
  · refine ⟨fl σ 599 18 (fun _ => nI 0), fun w => ?_, fl_i (by omega) (by omega), fun k hk => fl_o (by omega)⟩
    rw [if_pos hu.1]
    unfold m_X9_loses
    simp (disch := omega) only [li, q_lt, q_ob, q_u1, q_u2, q_u3, q_u4, nI_add, pk_mul, q_cl, q_lts, q_le, q_eq, q_sub, q_div, q_ck, q_st, va_up_self, Nat.reduceAdd, Nat.reduceMul]
    rw [hu.1, if_neg (show ¬ (0 : Int32) = nI 1 by decide)]
    refine (lp_1 _ _).trans ?_
    simp only [q_u2]
    rw [if_neg (by decide), if_neg (show ¬ (0 : Int32) = nI 2 by decide), hcl]
    simp only [q_ob]
    rw [if_pos (by decide)]
  · have n0 : ¬ σ 599 = 0 := by rw [b3]; exact nI_ne0 (by omega) (by omega)
    rcases (show k = 1 ∨ k = 2 ∨ k = 3 by omega) with rfl | rfl | rfl
    · obtain ⟨p1, -⟩ := b15 rfl
      obtain ⟨ρ, hρ⟩ : ∃ ρ, ρ = va_up σ (512 + p / 8) (nI 1) := ⟨_, rfl⟩
      refine ⟨fl ρ 599 18 (fun _ => nI 0), fun w => ?_, fl_i (by omega) (by omega), fun k hk => by rw [fl_o (by omega), hρ, va_up_ne _ _ (by omega)]⟩
      rw [if_neg n0]
      unfold m_X9_loses
      simp (disch := omega) only [li, q_lt, q_ob, q_u1, q_u2, q_u3, q_u4, nI_add, pk_mul, q_cl, q_lts, q_le, q_eq, q_sub, q_div, q_ck, q_st, va_up_self, Nat.reduceAdd, Nat.reduceMul, b3, b12]
      rw [if_pos trivial, ← hρ]
      refine (lp_1 _ _).trans ?_
      simp only [q_u2]
      rw [if_neg (by decide), if_neg (by decide), hcl]
      simp only [q_ob]
      rw [if_neg (by decide)]
    · obtain ⟨p1, -⟩ := b16 rfl
      obtain ⟨ρ, hρ⟩ : ∃ ρ, ρ = fl σ (512 + 4 * p) 4 (fun _ => nI 1) := ⟨_, rfl⟩
      refine ⟨fl ρ 599 18 (fun _ => nI 0), fun w => ?_, fl_i (by omega) (by omega), fun k hk => by rw [fl_o (by omega), hρ, fl_o (by omega)]⟩
      rw [if_neg n0]
      unfold m_X9_loses
      simp (disch := omega) only [li, q_lt, q_ob, q_u1, q_u2, q_u3, q_u4, nI_add, pk_mul, q_cl, q_lts, q_le, q_eq, q_sub, q_div, q_ck, q_st, va_up_self, Nat.reduceAdd, Nat.reduceMul, b3, b12]
      rw [if_neg (by decide)]
      refine lpf_r (fun k => (nI k, va_up w 1 (fl σ (512 + 4 * p) k (fun _ => nI 1)))) 4 (xFg (by omega)) (by simp only [fl_0]) (fun k rec hk => ?_) (fun rec => ?_)
      · simp (disch := omega) only [li, q_lt, q_ob, q_u1, q_u2, q_u3, q_u4, nI_add, pk_mul, q_cl, q_lts, q_le, q_eq, q_sub, q_div, q_ck, q_st, va_up_self, Nat.reduceAdd, Nat.reduceMul]
        rw [if_neg (by omega), if_pos trivial, fl_s rfl rfl]
      · simp (disch := omega) only [li, q_lt, q_ob, q_u1, q_u2, q_u3, q_u4, nI_add, pk_mul, q_cl, q_lts, q_le, q_eq, q_sub, q_div, q_ck, q_st, va_up_self, Nat.reduceAdd, Nat.reduceMul]
        rw [if_pos (by omega), ← hρ, hcl]
        simp only [q_ob]
        rw [if_neg (by decide)]
    · refine ⟨fl σ 599 18 (fun _ => nI 0), fun w => ?_, fl_i (by omega) (by omega), fun k hk => fl_o (by omega)⟩
      rw [if_neg n0]
      unfold m_X9_loses
      simp (disch := omega) only [li, q_lt, q_ob, q_u1, q_u2, q_u3, q_u4, nI_add, pk_mul, q_cl, q_lts, q_le, q_eq, q_sub, q_div, q_ck, q_st, va_up_self, Nat.reduceAdd, Nat.reduceMul, b3, b12]
      rw [if_neg (by decide)]
      refine (lp_1 _ _).trans ?_
      simp only [q_u2]
      rw [if_neg (by decide), if_neg (by decide), hcl]
      simp only [q_ob]
      rw [if_neg (by decide)]
def cutn (σ : Nat → Int32) : Int32 := (if σ 581 = 0 then 0 else 1) + (if σ 599 = 0 then 0 else 1)
theorem D_cut {B : Nat} {v w : xSt} (hJ : J B v w) : ∃ ρ, OK B w (m_X8_cut v) (cutn (w 1)) ρ ∧ ρ 564 = w 1 564 + cutn (w 1) ∧ ρ 552 = 0 ∧ ρ 553 = 0 ∧ ρ 567 = 0 ∧ ρ 581 = 0 ∧ ρ 599 = 0 := by
  have H := hJ.1
  obtain ⟨w1, e2, hS, h1, h8, hj⟩ := sv_8 H
  obtain ⟨τ0, b1, b2, b3⟩ := r_lose0 H.1.1.2.2.2.2.1
  obtain ⟨τ1, d1, d2, d3⟩ := r_lose1 (RWk_c H.1.1.2.2.2.2.2.1 (τ := τ0) (b' := 599) (fun k hk => b3 _ (by omega)) (fun _ _ => rfl) (fun _ _ => rfl))
  rw [b3 599 (by omega)] at d1
  obtain ⟨ρ, hρ⟩ : ∃ ρ, ρ = va_up (fl (va_up (va_up (va_up τ1 564 (τ1 564 + cutn (w 1))) 552 0) 553 0) 568 12 (fun _ => nI 0)) 567 (nI 0) := ⟨_, rfl⟩
  have rk : ∀ k, k ≠ 564 → k ≠ 552 → k ≠ 553 → (k < 567 ∨ 580 ≤ k) → ρ k = τ1 k := by
    intro k h1 h2 h3 h4
    rw [hρ, va_up_ne _ _ (by omega), fl_o (by omega), va_up_ne _ _ h3, va_up_ne _ _ h2, va_up_ne _ _ h1]
  have e : m_X9_cut w = some (cutn (w 1), va_up w1 1 ρ) := by
    have b1' := b1 w1
    rw [show va_up w1 1 (w 1) = w1 by rw [← h1]; exact va_up_id] at b1'
    unfold m_X9_cut
    simp only [q_lt]
    rw [e2]
    simp only [q_ob]
    rw [show (0 : Int32) = nI 0 from rfl, b1']
    simp only [q_ob]
    rw [show (1 : Int32) = nI 1 from rfl, d1 w1]
    simp only [q_ob, kc564, kn564, kc552, kn552, kc553, kn553, q_st, va_up_self, r_unloads]
    rw [hρ]
    rfl
  obtain ⟨z', v', w', g1, g2, g3, g4⟩ := b_cut H
  have hτ : IV B ρ := IV_c hJ.2.1 (fun k hk => by rw [rk k (by omega) (by omega) (by omega) (by omega), d3 k (by omega), b3 k (by omega)])
  obtain ⟨v', hv, hJ'⟩ := OK_f hJ.2 (Nat.le_refl _) (b_cut H) e hS hτ
  refine ⟨ρ, ⟨v', _, hv, SV_1 hS, va_up_self _ _ _, hJ'⟩, ?_, ?_, ?_, ?_, ?_, ?_⟩
  · rw [hρ, va_up_ne _ _ (by omega), fl_o (by omega), va_up_ne _ _ (by omega), va_up_ne _ _ (by omega), va_up_self, d3 564 (by omega), b3 564 (by omega)]
  · rw [hρ, va_up_ne _ _ (by omega), fl_o (by omega), va_up_ne _ _ (by omega), va_up_self]
  · rw [hρ, va_up_ne _ _ (by omega), fl_o (by omega), va_up_self]
  · rw [hρ, va_up_self]
    rfl
  · rw [rk 581 (by omega) (by omega) (by omega) (by omega), d3 581 (by omega), b2]
  · rw [rk 599 (by omega) (by omega) (by omega) (by omega), d2]
/-! withdraw -/
theorem D_withdraw {B n : Nat} {v w : xSt} {p : Int32} (hJ : J B v w) (hn : w 1 580 = nI n) (hn1 : n ≤ 10) : ((∀ r, r < n → ¬ w 1 (617 + 18 * r) = p) ∧ NO B w (m_L_withdraw v p) (-101)) ∨ ∃ r, r < n ∧ w 1 (617 + 18 * r) = p ∧ OK B w (m_L_withdraw v p) (nI (n - 1)) (rM (w 1) r n) := by
  have H := hJ.1
  obtain ⟨n', q, π, a1, a2, a3, a4, a5, a6, a7, a8, a9⟩ := id H.1.1.2.2.2.2.2.2.1
  obtain rfl : n' = n := (nI_eq (by omega) (by omega)).mp (a3.symm.trans hn)
  obtain ⟨z', hz', hf'⟩ := r_rankOf (w := st2 w 0 8 0) (p := p) a3 a1 a9
  rw [w1_s] at hz'
  rcases id hf' with ⟨f1, f2⟩ | ⟨r, -, hr, f1, f2, f3⟩
  · left
    have e : m_X9_withdraw w p = some (0, e8 w 1) := by
      unfold m_X9_withdraw
      simp only [q_lt]
      rw [hz']
      simp only [q_ob]
      rw [if_pos f1]
      rfl
    obtain ⟨v', hv, hJ'⟩ := NO_f hJ.2 (p2_1 (b_withdraw H) e (e8_8 _ _)) e (EQ_f _ _)
    exact ⟨fun r hr => f2 r (Nat.zero_le _) hr, v', _, by unfold m_L_withdraw m_L_withdraw_n; exact L_t1 (XN_withdraw hv) hv, EQ_f _ _, hJ'⟩
  · right
    obtain ⟨w1, e2, hS, h1, h8, hj⟩ := sv_8 H
    have hrm := r_removes (w := w1) (σ := w 1) (r := r) (n := n') (by omega) a3 (by omega) a1
    rw [show va_up w1 1 (w 1) = w1 by rw [← h1]; exact va_up_id] at hrm
    have e : m_X9_withdraw w p = some (nI (n' - 1), va_up w1 1 (rM (w 1) r n')) := by
      unfold m_X9_withdraw
      simp only [q_lt]
      rw [hz']
      simp only [q_ob]
      rw [f1, if_neg (by rw [q_ne1 (by omega)]; exact id), e2]
      simp only [q_ob]
      rw [hrm]
      simp only [q_ob, kc580, kn580, va_up_self]
      rfl
    obtain ⟨v', hv, hJ'⟩ := OK_f hJ.2 (Nat.le_refl _) (p2_0 (b_withdraw H) e (fl8 h8)) e hS (IV_rM hJ.2.1 a3 a1 hr)
    exact ⟨r, hr, f2, v', _, by unfold m_L_withdraw m_L_withdraw_n; exact L_n hv, SV_1 hS, va_up_self _ _ _, hJ'⟩
