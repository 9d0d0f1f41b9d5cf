/-! THE METHODS, both sides: cut -/
theorem lp_1 {σ ρ : Type} (B : (σ → Option ρ) → σ → Option ρ) (s : σ) : lp B xF s = B (lp B 1099511627775) s := rfl
theorem xb_or (u m : Int32) (i : Nat) : xb (u ||| m) i = if m.toBitVec.getLsbD i = true then 1 else xb u i := by
  unfold xb
  rw [Int32.toBitVec_or, BitVec.getLsbD_or]
  cases m.toBitVec.getLsbD i <;> cases u.toBitVec.getLsbD i <;> simp
theorem x1s_b : ∀ q, q < 32 → ∀ i, i < 32 → ((1 : Int32) <<< (nI q &&& 31)).toBitVec.getLsbD i = decide (i = q) := by decide +kernel
theorem R0_uns {B : Nat} {v v' : xSt} {σ τ : Nat → Int32} (H : R0 B v σ) (gv : ∀ j, j < 47 → j ≠ 1 → v' j = v j) (g : ∀ k, (k < 512 ∨ 544 ≤ k) → τ k = σ k) (hu : ∀ i, i < 32 → τ (512 + i) = xb (v' 1 3) i) : R0 B v' τ := by
  obtain ⟨h1, h2, h3, h4, h5, h6, h7, h8⟩ := H
  unfold R0
  rw [gv 0 (by omega) (by omega), gv 2 (by omega) (by omega), gv 3 (by omega) (by omega), gv 4 (by omega) (by omega), gv 5 (by omega) (by omega), gv 6 (by omega) (by omega), gv 7 (by omega) (by omega), gv 8 (by omega) (by omega), gv 9 (by omega) (by omega), gv 10 (by omega) (by omega), gv 11 (by omega) (by omega), gv 12 (by omega) (by omega), gv 13 (by omega) (by omega), gv 46 (by omega) (by omega)]
  refine ⟨RSc_c h1 (fun k hk => g k (by omega)) (fun _ _ => rfl), ?_, RLk_c h3 (fun k hk hk2 => g k (by omega)) (fun _ _ => rfl), RLd_c h4 (fun k hk hk2 => g k (by omega)) (fun _ _ => rfl), RWk_c h5 (fun k hk => g _ (by omega)) (fun _ _ => rfl) (fun _ _ => rfl), RWk_c h6 (fun k hk => g _ (by omega)) (fun _ _ => rfl) (fun _ _ => rfl), RLn_c h7 (Nat.le_refl _) (fun k hk => g k (by omega)) (fun j hj hj2 => gv j (by omega) (by omega)), RSt_c h8 (fun k hk hk2 => g k (by omega)) (fun _ _ => rfl)⟩
  obtain ⟨a1, a2, a3, z, a4, a5⟩ := h2
  refine ⟨fun c hc => ?_, fun c hc => ?_, hu, z, fun s hs => ?_, a5⟩
  · rw [g c (by omega)]; exact a1 c hc
  · rw [g _ (by omega)]; exact a2 c hc
  · rw [g _ (by omega)]; exact a4 s hs
theorem s_dpage {B q : Nat} {v : xSt} {σ : Nat → Int32} (H : R0 B v σ) (hq : q < 32) : R0 B (pu 1 4 v (st2 (sh 1 v) 0 3 ((v 1 3) ||| ((1 : Int32) <<< (nI q &&& 31))))) (va_up σ (512 + q) (nI 1)) := by
  have hv : ∀ j, j ≠ 1 → pu 1 4 v (st2 (sh 1 v) 0 3 ((v 1 3) ||| ((1 : Int32) <<< (nI q &&& 31)))) j = v j := by
    intro j hj
    by_cases jj : 1 ≤ j ∧ j < 1 + 4
    · rw [pu_i jj.1 jj.2, q_sn (by omega), sh_e]
      exact congrArg v (by omega)
    · rw [pu_o (by omega)]
  refine R0_uns H (fun j _ h => hv j h) (fun k hk => va_up_ne _ _ (by omega)) (fun i hi => ?_)
  rw [pu_i (by omega) (by omega), q_ss, va_up_self, xb_or, x1s_b q hq i hi]
  by_cases c : i = q
  · rw [c, va_up_self, if_pos (by simp)]
    rfl
  · rw [va_up_ne _ _ (by omega), if_neg (by simp [c])]
    exact H.2.1.2.2.1 i hi
theorem s_dsec {B q : Nat} {v : xSt} {σ : Nat → Int32} (H : R0 B v σ) (hq : q < 8) : R0 B (pu 1 4 v (st2 (sh 1 v) 0 3 ((v 1 3) ||| (xpg (nI q))))) (fl σ (512 + 4 * q) 4 (fun _ => nI 1)) := by
  have hv : ∀ j, j ≠ 1 → pu 1 4 v (st2 (sh 1 v) 0 3 ((v 1 3) ||| (xpg (nI q)))) j = v j := by
    intro j hj
    by_cases jj : 1 ≤ j ∧ j < 1 + 4
    · rw [pu_i jj.1 jj.2, q_sn (by omega), sh_e]
      exact congrArg v (by omega)
    · rw [pu_o (by omega)]
  refine R0_uns H (fun j _ h => hv j h) (fun k hk => fl_o (by omega)) (fun i hi => ?_)
  rw [pu_i (by omega) (by omega), q_ss, va_up_self, xb_or, xpg_b q hq i hi]
  by_cases c : 4 * q ≤ i ∧ i < 4 * q + 4
  · rw [fl_i (by omega) (by omega), if_pos (by simp [c])]
    rfl
  · rw [fl_o (by omega), if_neg (by simp; omega)]
    exact H.2.1.2.2.1 i hi
/-- the end of a lost work -/
def xlos (b : Nat) (v : xSt) : xSt := pu b 3 v (st2 (st2 (st2 (st2 (st2 (st2 (sh b v) 0 0 0) 0 1 (-1)) 0 4 0) 0 5 0) 0 6 (-1)) 0 7 0)
theorem xlos_o {b j : Nat} {v : xSt} (h : j ≠ b) : xlos b v j = v j := by
  unfold xlos
  by_cases jj : b ≤ j ∧ j < b + 3
  · rw [pu_i jj.1 jj.2, q_sn (by omega), q_sn (by omega), q_sn (by omega), q_sn (by omega), q_sn (by omega), q_sn (by omega), sh_e]
    exact congrArg v (by omega)
  · rw [pu_o (by omega)]
theorem xlos_i {b : Nat} {v : xSt} : xlos b v b = va_up (va_up (va_up (va_up (va_up (va_up (v b) 0 0) 1 (-1)) 4 0) 5 0) 6 (-1)) 7 0 := by
  unfold xlos
  rw [pu_i (by omega) (by omega), Nat.sub_self, q_ss, q_ss, q_ss, q_ss, q_ss, q_ss]
  rfl
theorem R0_8 {B : Nat} {v v' : xSt} {σ τ : Nat → Int32} (H : R0 B v σ) (gv : ∀ j, j < 47 → j ≠ 8 → v' j = v j) (g : ∀ k, (k < 581 ∨ 599 ≤ k) → τ k = σ k) (hw : RWk (v' 8) (v 9 1) (v 10) τ 581) : R0 B v' τ := by
  refine R0_work H (fun j h1 h2 _ _ => gv j h1 h2) g ?_
  rw [gv 9 (by omega) (by omega), gv 10 (by omega) (by omega)]
  exact hw
theorem R0_11 {B : Nat} {v v' : xSt} {σ τ : Nat → Int32} (H : R0 B v σ) (gv : ∀ j, j < 47 → j ≠ 11 → v' j = v j) (g : ∀ k, (k < 599 ∨ 617 ≤ k) → τ k = σ k) (hw : RWk (v' 11) (v 12 1) (v 13) τ 599) : R0 B v' τ := by
  obtain ⟨h1, h2, h3, h4, h5, h6, h7, h8⟩ := H
  unfold R0
  rw [gv 0 (by omega) (by omega), gv 1 (by omega) (by omega), gv 2 (by omega) (by omega), gv 3 (by omega) (by omega), gv 4 (by omega) (by omega), gv 5 (by omega) (by omega), gv 6 (by omega) (by omega), gv 7 (by omega) (by omega), gv 8 (by omega) (by omega), gv 9 (by omega) (by omega), gv 10 (by omega) (by omega), gv 12 (by omega) (by omega), gv 13 (by omega) (by omega), gv 46 (by omega) (by omega)]
  exact ⟨RSc_c h1 (fun k hk => g k (by omega)) (fun _ _ => rfl), RCell_c h2 (fun k hk => g k (by omega)), RLk_c h3 (fun k hk hk2 => g k (by omega)) (fun _ _ => rfl), RLd_c h4 (fun k hk hk2 => g k (by omega)) (fun _ _ => rfl), RWk_c h5 (fun k hk => g _ (by omega)) (fun _ _ => rfl) (fun _ _ => rfl), hw, RLn_c h7 (Nat.le_refl _) (fun k hk => g k (by omega)) (fun j hj hj2 => gv j (by omega) (by omega)), RSt_c h8 (fun k hk hk2 => g k (by omega)) (fun _ _ => rfl)⟩
theorem s_end8 {B : Nat} {v : xSt} {σ : Nat → Int32} (H : R0 B v σ) : R0 B (xlos 8 v) (fl σ 581 18 (fun _ => nI 0)) ∧ ob (m_X7_end (sh 8 v)) (fun r5 => lt (pu 8 3 v r5) (fun v6 => some ((1 : Int32), v6))) = some (1, xlos 8 v) ∧ (xlos 8 v) 0 = v 0 := by
  refine ⟨R0_8 H (fun j _ h => xlos_o h) (fun k hk => fl_o (by omega)) ?_, rfl, xlos_o (by omega)⟩
  rw [xlos_i]
  exact RWk_0 (fun k hk => fl_i (by omega) (by omega)) rfl rfl rfl rfl rfl rfl
theorem s_end11 {B : Nat} {v : xSt} {σ : Nat → Int32} (H : R0 B v σ) : R0 B (xlos 11 v) (fl σ 599 18 (fun _ => nI 0)) ∧ ob (m_X7_end (sh 11 v)) (fun r5 => lt (pu 11 3 v r5) (fun v6 => some ((1 : Int32), v6))) = some (1, xlos 11 v) ∧ (xlos 11 v) 0 = v 0 := by
  refine ⟨R0_11 H (fun j _ h => xlos_o h) (fun k hk => fl_o (by omega)) ?_, rfl, xlos_o (by omega)⟩
  rw [xlos_i]
  exact RWk_0 (fun k hk => fl_i (by omega) (by omega)) rfl rfl rfl rfl rfl rfl
theorem s_end8_0 {B : Nat} {v : xSt} {σ : Nat → Int32} (H : R0 B v σ) (hu : σ 581 = 0 ∧ v 8 0 = 0 ∧ v 8 1 = -1 ∧ v 8 6 = -1 ∧ v 8 4 = 0 ∧ v 8 5 = 0 ∧ σ (581 + 2) = 0 ∧ σ (581 + 3) = 0 ∧ v 8 7 = 0) : R0 B v (fl σ 581 18 (fun _ => nI 0)) := by
  obtain ⟨a1, a2, a3, a4, a5, a6, a7, a8, a9⟩ := hu
  exact R0_8 H (fun _ _ _ => rfl) (fun k hk => fl_o (by omega)) (RWk_0 (fun k hk => fl_i (by omega) (by omega)) a2 a3 a5 a6 a4 a9)
theorem s_end11_0 {B : Nat} {v : xSt} {σ : Nat → Int32} (H : R0 B v σ) (hu : σ 599 = 0 ∧ v 11 0 = 0 ∧ v 11 1 = -1 ∧ v 11 6 = -1 ∧ v 11 4 = 0 ∧ v 11 5 = 0 ∧ σ (599 + 2) = 0 ∧ σ (599 + 3) = 0 ∧ v 11 7 = 0) : R0 B v (fl σ 599 18 (fun _ => nI 0)) := by
  obtain ⟨a1, a2, a3, a4, a5, a6, a7, a8, a9⟩ := hu
  exact R0_11 H (fun _ _ _ => rfl) (fun k hk => fl_o (by omega)) (RWk_0 (fun k hk => fl_i (by omega) (by omega)) a2 a3 a5 a6 a4 a9)
theorem s_lose8 {B : Nat} {v : xSt} {σ : Nat → Int32} (H : R0 B v σ) : ∃ j τ, j < 2 ∧ wp (m_X6_lose_v8 v) (fun r => r.1 = nI j ∧ R0 B r.2 τ ∧ r.2 0 = v 0) ∧ (∀ w, m_X9_loses (va_up w 1 σ) (nI 0) = some (nI j, va_up w 1 τ)) ∧ ∀ k, 552 ≤ k → k < 581 → τ k = σ k := by
  have hcl : ∀ (τ : Nat → Int32) (w : xSt), m_X9_clears (va_up w 1 τ) (nI 0) = some (va_up w 1 (fl τ 581 18 (fun _ => nI 0))) := fun τ w => r_clears (s := 0) (by omega)
  rcases H.2.2.2.2.1.2 with hu | ⟨k, d, t, p, b1, b2, b3, b4, b5, b6, b7, b8, b9, b10, b11, b12, b13, b14, b15, b16, b17⟩
  · refine ⟨0, fl σ 581 18 (fun _ => nI 0), by omega, ?_, fun w => ?_, fun k h1 h2 => fl_o (by omega)⟩
    · unfold m_X6_lose_v8
      exact wp_t hu.2.1 (wp_s ⟨rfl, s_end8_0 H hu, rfl⟩)
    · unfold m_X9_loses
      simp (disch := omega) only [li, q_lt, q_ob, q_u1, q_u2, q_u3, q_u4, nI_add, pk_mul, q_cl, q_lts, q_le, q_eq, q_sub, q_div, q_ck, q_st, va_up_self, Nat.reduceAdd, Nat.reduceMul]
      rw [hu.1, if_neg (show ¬ (0 : Int32) = nI 1 by decide)]
      refine (lp_1 _ _).trans ?_
      simp only [q_u2]
      rw [if_neg (by decide), if_neg (show ¬ (0 : Int32) = nI 2 by decide), hcl]
      simp only [q_ob]
      rw [if_pos (by decide)]
  · have n0 : ¬ v 8 0 = 0 := by rw [b4]; exact nI_ne0 (by omega) (by omega)
    rcases (show k = 1 ∨ k = 2 ∨ k = 3 by omega) with rfl | rfl | rfl
    · obtain ⟨p1, -⟩ := b15 rfl
      obtain ⟨ρ, hρ⟩ : ∃ ρ, ρ = va_up σ (512 + p / 8) (nI 1) := ⟨_, rfl⟩
      refine ⟨1, fl ρ 581 18 (fun _ => nI 0), by omega, ?_, fun w => ?_, fun k h1 h2 => by rw [fl_o (by omega), hρ, va_up_ne _ _ (by omega)]⟩
      · unfold m_X6_lose_v8
        refine wp_f n0 (wp_n (fun j3 ej => ?_))
        refine wp_t (by rw [b4]; rfl) ?_
        rw [b11, show nI p / 8 = nI (p / 8) from q_div (d := 8) (by omega) (by omega) (by omega)]
        have HU := s_dpage (q := p / 8) H (by omega)
        rw [← hρ] at HU
        refine ⟨(1, _), ?_, rfl, (s_end8 HU).1, ?_⟩
        · rw [ej]
          exact (s_end8 HU).2.1
        · exact (s_end8 HU).2.2
      · unfold m_X9_loses
        simp (disch := omega) only [li, q_lt, q_ob, q_u1, q_u2, q_u3, q_u4, nI_add, pk_mul, q_cl, q_lts, q_le, q_eq, q_sub, q_div, q_ck, q_st, va_up_self, Nat.reduceAdd, Nat.reduceMul, b3, b12]
        rw [if_pos trivial, ← hρ]
        refine (lp_1 _ _).trans ?_
        simp only [q_u2]
        rw [if_neg (by decide), if_neg (by decide), hcl]
        simp only [q_ob]
        rw [if_neg (by decide)]
    · obtain ⟨p1, -⟩ := b16 rfl
      obtain ⟨ρ, hρ⟩ : ∃ ρ, ρ = fl σ (512 + 4 * p) 4 (fun _ => nI 1) := ⟨_, rfl⟩
      refine ⟨1, fl ρ 581 18 (fun _ => nI 0), by omega, ?_, fun w => ?_, fun k h1 h2 => by rw [fl_o (by omega), hρ, fl_o (by omega)]⟩
      · unfold m_X6_lose_v8
        refine wp_f n0 (wp_n (fun j3 ej => ?_))
        refine wp_f (by rw [b4]; decide) (wp_t (by rw [b4]; rfl) ?_)
        rw [b11]
        have HU := s_dsec (q := p) H p1
        rw [← hρ] at HU
        refine ⟨(1, _), ?_, rfl, (s_end8 HU).1, ?_⟩
        · rw [ej]
          exact (s_end8 HU).2.1
        · exact (s_end8 HU).2.2
      · unfold m_X9_loses
        simp (disch := omega) only [li, q_lt, q_ob, q_u1, q_u2, q_u3, q_u4, nI_add, pk_mul, q_cl, q_lts, q_le, q_eq, q_sub, q_div, q_ck, q_st, va_up_self, Nat.reduceAdd, Nat.reduceMul, b3, b12]
        rw [if_neg (by decide)]
        refine lpf_r (fun k => (nI k, va_up w 1 (fl σ (512 + 4 * p) k (fun _ => nI 1)))) 4 (xFg (by omega)) (by simp only [fl_0]) (fun k rec hk => ?_) (fun rec => ?_)
        · simp (disch := omega) only [li, q_lt, q_ob, q_u1, q_u2, q_u3, q_u4, nI_add, pk_mul, q_cl, q_lts, q_le, q_eq, q_sub, q_div, q_ck, q_st, va_up_self, Nat.reduceAdd, Nat.reduceMul]
          rw [if_neg (by omega), if_pos trivial, fl_s rfl rfl]
        · simp (disch := omega) only [li, q_lt, q_ob, q_u1, q_u2, q_u3, q_u4, nI_add, pk_mul, q_cl, q_lts, q_le, q_eq, q_sub, q_div, q_ck, q_st, va_up_self, Nat.reduceAdd, Nat.reduceMul]
          rw [if_pos (by omega), ← hρ, hcl]
          simp only [q_ob]
          rw [if_neg (by decide)]
    · refine ⟨1, fl σ 581 18 (fun _ => nI 0), by omega, ?_, fun w => ?_, fun k h1 h2 => fl_o (by omega)⟩
      · unfold m_X6_lose_v8
        refine wp_f n0 (wp_n (fun j3 ej => ?_))
        refine wp_f (by rw [b4]; decide) (wp_f (by rw [b4]; decide) ?_)
        refine ⟨(1, _), ?_, rfl, (s_end8 H).1, ?_⟩
        · rw [ej]
          exact (s_end8 H).2.1
        · exact (s_end8 H).2.2
      · unfold m_X9_loses
        simp (disch := omega) only [li, q_lt, q_ob, q_u1, q_u2, q_u3, q_u4, nI_add, pk_mul, q_cl, q_lts, q_le, q_eq, q_sub, q_div, q_ck, q_st, va_up_self, Nat.reduceAdd, Nat.reduceMul, b3, b12]
        rw [if_neg (by decide)]
        refine (lp_1 _ _).trans ?_
        simp only [q_u2]
        rw [if_neg (by decide), if_neg (by decide), hcl]
        simp only [q_ob]
        rw [if_neg (by decide)]
theorem s_lose11 {B : Nat} {v : xSt} {σ : Nat → Int32} (H : R0 B v σ) : ∃ j τ, j < 2 ∧ wp (m_X6_lose_v11 v) (fun r => r.1 = nI j ∧ R0 B r.2 τ ∧ r.2 0 = v 0) ∧ (∀ w, m_X9_loses (va_up w 1 σ) (nI 1) = some (nI j, va_up w 1 τ)) ∧ ∀ k, 552 ≤ k → k < 581 → τ k = σ k := by
  have hcl : ∀ (τ : Nat → Int32) (w : xSt), m_X9_clears (va_up w 1 τ) (nI 1) = some (va_up w 1 (fl τ 599 18 (fun _ => nI 0))) := fun τ w => r_clears (s := 1) (by omega)
  rcases H.2.2.2.2.2.1.2 with hu | ⟨k, d, t, p, b1, b2, b3, b4, b5, b6, b7, b8, b9, b10, b11, b12, b13, b14, b15, b16, b17⟩
  · refine ⟨0, fl σ 599 18 (fun _ => nI 0), by omega, ?_, fun w => ?_, fun k h1 h2 => fl_o (by omega)⟩
    · unfold m_X6_lose_v11
      exact wp_t hu.2.1 (wp_s ⟨rfl, s_end11_0 H hu, rfl⟩)
    · unfold m_X9_loses
      simp (disch := omega) only [li, q_lt, q_ob, q_u1, q_u2, q_u3, q_u4, nI_add, pk_mul, q_cl, q_lts, q_le, q_eq, q_sub, q_div, q_ck, q_st, va_up_self, Nat.reduceAdd, Nat.reduceMul]
      rw [hu.1, if_neg (show ¬ (0 : Int32) = nI 1 by decide)]
      refine (lp_1 _ _).trans ?_
      simp only [q_u2]
      rw [if_neg (by decide), if_neg (show ¬ (0 : Int32) = nI 2 by decide), hcl]
      simp only [q_ob]
      rw [if_pos (by decide)]
  · have n0 : ¬ v 11 0 = 0 := by rw [b4]; exact nI_ne0 (by omega) (by omega)
    rcases (show k = 1 ∨ k = 2 ∨ k = 3 by omega) with rfl | rfl | rfl
    · obtain ⟨p1, -⟩ := b15 rfl
      obtain ⟨ρ, hρ⟩ : ∃ ρ, ρ = va_up σ (512 + p / 8) (nI 1) := ⟨_, rfl⟩
      refine ⟨1, fl ρ 599 18 (fun _ => nI 0), by omega, ?_, fun w => ?_, fun k h1 h2 => by rw [fl_o (by omega), hρ, va_up_ne _ _ (by omega)]⟩
      · unfold m_X6_lose_v11
        refine wp_f n0 (wp_n (fun j3 ej => ?_))
        refine wp_t (by rw [b4]; rfl) ?_
        rw [b11, show nI p / 8 = nI (p / 8) from q_div (d := 8) (by omega) (by omega) (by omega)]
        have HU := s_dpage (q := p / 8) H (by omega)
        rw [← hρ] at HU
        refine ⟨(1, _), ?_, rfl, (s_end11 HU).1, ?_⟩
        · rw [ej]
          exact (s_end11 HU).2.1
        · exact (s_end11 HU).2.2
      · unfold m_X9_loses
        simp (disch := omega) only [li, q_lt, q_ob, q_u1, q_u2, q_u3, q_u4, nI_add, pk_mul, q_cl, q_lts, q_le, q_eq, q_sub, q_div, q_ck, q_st, va_up_self, Nat.reduceAdd, Nat.reduceMul, b3, b12]
        rw [if_pos trivial, ← hρ]
        refine (lp_1 _ _).trans ?_
        simp only [q_u2]
        rw [if_neg (by decide), if_neg (by decide), hcl]
        simp only [q_ob]
        rw [if_neg (by decide)]
    · obtain ⟨p1, -⟩ := b16 rfl
      obtain ⟨ρ, hρ⟩ : ∃ ρ, ρ = fl σ (512 + 4 * p) 4 (fun _ => nI 1) := ⟨_, rfl⟩
      refine ⟨1, fl ρ 599 18 (fun _ => nI 0), by omega, ?_, fun w => ?_, fun k h1 h2 => by rw [fl_o (by omega), hρ, fl_o (by omega)]⟩
      · unfold m_X6_lose_v11
        refine wp_f n0 (wp_n (fun j3 ej => ?_))
        refine wp_f (by rw [b4]; decide) (wp_t (by rw [b4]; rfl) ?_)
        rw [b11]
        have HU := s_dsec (q := p) H p1
        rw [← hρ] at HU
        refine ⟨(1, _), ?_, rfl, (s_end11 HU).1, ?_⟩
        · rw [ej]
          exact (s_end11 HU).2.1
        · exact (s_end11 HU).2.2
      · unfold m_X9_loses
        simp (disch := omega) only [li, q_lt, q_ob, q_u1, q_u2, q_u3, q_u4, nI_add, pk_mul, q_cl, q_lts, q_le, q_eq, q_sub, q_div, q_ck, q_st, va_up_self, Nat.reduceAdd, Nat.reduceMul, b3, b12]
        rw [if_neg (by decide)]
        refine lpf_r (fun k => (nI k, va_up w 1 (fl σ (512 + 4 * p) k (fun _ => nI 1)))) 4 (xFg (by omega)) (by simp only [fl_0]) (fun k rec hk => ?_) (fun rec => ?_)
        · simp (disch := omega) only [li, q_lt, q_ob, q_u1, q_u2, q_u3, q_u4, nI_add, pk_mul, q_cl, q_lts, q_le, q_eq, q_sub, q_div, q_ck, q_st, va_up_self, Nat.reduceAdd, Nat.reduceMul]
          rw [if_neg (by omega), if_pos trivial, fl_s rfl rfl]
        · simp (disch := omega) only [li, q_lt, q_ob, q_u1, q_u2, q_u3, q_u4, nI_add, pk_mul, q_cl, q_lts, q_le, q_eq, q_sub, q_div, q_ck, q_st, va_up_self, Nat.reduceAdd, Nat.reduceMul]
          rw [if_pos (by omega), ← hρ, hcl]
          simp only [q_ob]
          rw [if_neg (by decide)]
    · refine ⟨1, fl σ 599 18 (fun _ => nI 0), by omega, ?_, fun w => ?_, fun k h1 h2 => fl_o (by omega)⟩
      · unfold m_X6_lose_v11
        refine wp_f n0 (wp_n (fun j3 ej => ?_))
        refine wp_f (by rw [b4]; decide) (wp_f (by rw [b4]; decide) ?_)
        refine ⟨(1, _), ?_, rfl, (s_end11 H).1, ?_⟩
        · rw [ej]
          exact (s_end11 H).2.1
        · exact (s_end11 H).2.2
      · unfold m_X9_loses
        simp (disch := omega) only [li, q_lt, q_ob, q_u1, q_u2, q_u3, q_u4, nI_add, pk_mul, q_cl, q_lts, q_le, q_eq, q_sub, q_div, q_ck, q_st, va_up_self, Nat.reduceAdd, Nat.reduceMul, b3, b12]
        rw [if_neg (by decide)]
        refine (lp_1 _ _).trans ?_
        simp only [q_u2]
        rw [if_neg (by decide), if_neg (by decide), hcl]
        simp only [q_ob]
        rw [if_neg (by decide)]

