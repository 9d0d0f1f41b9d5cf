/-! WHAT EACH CALL DOES TO THE ARRAY: arm to resume -/
theorem D_arm {B : Nat} {v w : xSt} (hJ : J B v w) : (w 1 581 = 0 ∧ OK B w (m_L_arm v) (w 1 552) (va_up (w 1) 552 1)) ∨ ((∃ k, 1 ≤ k ∧ k ≤ 3 ∧ w 1 581 = nI k) ∧ NO B w (m_L_arm v) (-103)) := by
  have H := hJ.1
  rcases (s_und H.1.1).2 with c0 | ⟨k, k1, k2, c0⟩
  · have c3 := r_busy0 (w := st2 w 0 8 0) (σ := w 1) c0
    rw [w1_s] at c3
    obtain ⟨w1, e2, hS, h1, h8, hj⟩ := sv_8 H
    have e : m_X9_arm w = some (w 1 552, va_up w1 1 (va_up (w 1) 552 1)) := by
      unfold m_X9_arm
      simp only [q_lt]
      rw [c3]
      simp only [q_ob]
      rw [if_pos (by decide), e2]
      simp only [q_ob, kc552, kn552]
      unfold st2
      rw [h1]
    obtain ⟨v', hv, hJ'⟩ := OK_f hJ.2 (Nat.le_refl _) (p2_0 (b_arm H) e (fl8 h8)) e hS (IV_c hJ.2.1 (fun k hk => va_up_ne _ _ (by omega)))
    exact Or.inl ⟨c0, v', _, by unfold m_L_arm m_L_arm_n; exact L_n hv, SV_1 hS, va_up_self _ _ _, hJ'⟩
  · have c3 := r_busy1 (w := st2 w 0 8 0) (σ := w 1) c0 (by omega) k2
    rw [w1_s] at c3
    have e : m_X9_arm w = some (0, e8 w 1) := by
      unfold m_X9_arm
      simp only [q_lt]
      rw [c3]
      rfl
    obtain ⟨v', hv, hJ'⟩ := NO_f hJ.2 (p2_1 (b_arm H) e (e8_8 _ _)) e (EQ_f _ _)
    exact Or.inr ⟨⟨k, k1, k2, c0⟩, v', _, by unfold m_L_arm m_L_arm_n; exact L_t1 (XN_arm hv) hv, EQ_f _ _, hJ'⟩
theorem D_freeze {B : Nat} {v w : xSt} (hJ : J B v w) : (w 1 581 = 0 ∧ OK B w (m_L_freeze v) (w 1 553) (va_up (w 1) 553 1)) ∨ ((∃ k, 1 ≤ k ∧ k ≤ 3 ∧ w 1 581 = nI k) ∧ NO B w (m_L_freeze v) (-103)) := by
  have H := hJ.1
  rcases (s_und H.1.1).2 with c0 | ⟨k, k1, k2, c0⟩
  · have c3 := r_busy0 (w := st2 w 0 8 0) (σ := w 1) c0
    rw [w1_s] at c3
    obtain ⟨w1, e2, hS, h1, h8, hj⟩ := sv_8 H
    have e : m_X9_freeze w = some (w 1 553, va_up w1 1 (va_up (w 1) 553 1)) := by
      unfold m_X9_freeze
      simp only [q_lt]
      rw [c3]
      simp only [q_ob]
      rw [if_pos (by decide), e2]
      simp only [q_ob, kc553, kn553]
      unfold st2
      rw [h1]
    obtain ⟨v', hv, hJ'⟩ := OK_f hJ.2 (Nat.le_refl _) (p2_0 (b_freeze H) e (fl8 h8)) e hS (IV_c hJ.2.1 (fun k hk => va_up_ne _ _ (by omega)))
    exact Or.inl ⟨c0, v', _, by unfold m_L_freeze m_L_freeze_n; exact L_n hv, SV_1 hS, va_up_self _ _ _, hJ'⟩
  · have c3 := r_busy1 (w := st2 w 0 8 0) (σ := w 1) c0 (by omega) k2
    rw [w1_s] at c3
    have e : m_X9_freeze w = some (0, e8 w 1) := by
      unfold m_X9_freeze
      simp only [q_lt]
      rw [c3]
      rfl
    obtain ⟨v', hv, hJ'⟩ := NO_f hJ.2 (p2_1 (b_freeze H) e (e8_8 _ _)) e (EQ_f _ _)
    exact Or.inr ⟨⟨k, k1, k2, c0⟩, v', _, by unfold m_L_freeze m_L_freeze_n; exact L_t1 (XN_freeze hv) hv, EQ_f _ _, hJ'⟩
theorem D_load {B : Nat} {v w : xSt} {p : Int32} (hJ : J B v w) : (xwi p 0 255 = 0 ∧ NO B w (m_L_load v p) (-102)) ∨ ∃ a m, a < 256 ∧ p = nI a ∧ w 1 567 = nI m ∧ m ≤ 12 ∧ ((m = 12 ∧ NO B w (m_L_load v p) (-103)) ∨ (m < 12 ∧ OK B w (m_L_load v p) (nI (m + 1)) (va_up (va_up (w 1) (568 + m) (nI a)) 567 (nI (m + 1))))) := by
  have H := hJ.1
  obtain ⟨m, m1, m2, m4, m5⟩ := RLd_f H.1.1.2.2.2.1
  rcases xwi_r p 0 255 (by omega) (by omega) with hx | ⟨hx, a, a0, a1, rfl⟩
  · replace hx : xwi p 0 255 = 0 := hx
    left
    have e : m_X9_load w p = some (0, e8 w 1) := by
      unfold m_X9_load
      simp only [q_lt]
      rw [if_pos hx]
      rfl
    obtain ⟨v', hv, hJ'⟩ := NO_f hJ.2 (p3_1 (b_load H) e (e8_8 _ _)) e (EQ_f _ _)
    exact ⟨hx, v', _, by unfold m_L_load m_L_load_n; exact L_t1 (XN_load hv) hv, EQ_f _ _, hJ'⟩
  · have hx' : ¬ xwi (nI a) 0 255 = 0 := by rw [show xwi (nI a) 0 255 = 1 from hx]; decide
    right
    refine ⟨a, m, by omega, rfl, m4, m1, ?_⟩
    by_cases hm : m = 12
    · left
      have e : m_X9_load w (nI a) = some (0, e8 w 2) := by
        unfold m_X9_load
        simp only [q_lt]
        rw [if_neg hx', kn567, kc567, w1_1, m4, hm, if_pos (by decide)]
        rfl
      obtain ⟨v', hv, hJ'⟩ := NO_f hJ.2 (p3_2 (b_load H) e (e8_8 _ _)) e (EQ_f _ _)
      exact ⟨hm, v', _, by unfold m_L_load m_L_load_n; exact L_t2 xs_1 (XN_load hv) hv, EQ_f _ _, hJ'⟩
    · right
      obtain ⟨w1, e2, hS, h1, h8, hj⟩ := sv_8 H
      have h567 : w1 1 567 = nI m := by rw [h1]; exact m4
      have e : m_X9_load w (nI a) = some (nI (m + 1), va_up w1 1 (va_up (va_up (w 1) (568 + m) (nI a)) 567 (nI (m + 1)))) := by
        unfold m_X9_load
        simp only [q_lt]
        rw [if_neg hx', kn567, kc567, w1_1, m4, if_neg (show ¬ nI m = (12 : Int32) from fun e => hm ((nI_eq (by omega) (by omega)).mp e)), e2]
        simp only [q_ob, h567, kc567]
        have e568 : (568 : Int32) + nI m = nI (568 + m) := nI_add 568 m
        rw [e568, q_cl (by omega), q_ck (by rw [show (0 : Int32) = nI 0 from rfl, q_lts (by omega) (by omega)]; omega)]
        rw [show st2 w1 1 (568 + m) (nI a) = va_up w1 1 (va_up (w1 1) (568 + m) (nI a)) from rfl, va_up_self, va_up_ne _ _ (by omega), h567, show nI m + 1 = nI (m + 1) from nI_1 m, q_st, va_up_self, va_up_self, h1]
      obtain ⟨v', hv, hJ'⟩ := OK_f hJ.2 (Nat.le_refl _) (p3_0 (b_load H) e (fl8 h8)) e hS (IV_c hJ.2.1 (fun k hk => by rw [va_up_ne _ _ (by omega), va_up_ne _ _ (by omega)]))
      exact ⟨by omega, v', _, by unfold m_L_load m_L_load_n; exact L_n hv, SV_1 hS, va_up_self _ _ _, hJ'⟩
theorem D_set {B : Nat} {v w : xSt} {p s : Int32} (hJ : J B v w) : (xwi p 0 4 = 0 ∧ NO B w (m_L_set v p s) (-101)) ∨ ∃ a M, a < 5 ∧ p = nI a ∧ M = (if a = 0 then 9 else if a = 4 then 9 else if a = 3 then 20 else 99) ∧ ((xwi s 1 (nI M) = 0 ∧ NO B w (m_L_set v p s) (-102)) ∨ ∃ b, 1 ≤ b ∧ b ≤ M ∧ s = nI b ∧ OK B w (m_L_set v p s) (w 1 (556 + a)) (va_up (w 1) (556 + a) (nI b))) := by
  have H := hJ.1
  rcases xwi_r p 0 4 (by omega) (by omega) with hx | ⟨hx, a, a0, a1, rfl⟩
  · replace hx : xwi p 0 4 = 0 := hx
    left
    have e : m_X9_set w p s = some (0, e8 w 1) := by
      unfold m_X9_set
      simp only [q_lt]
      rw [if_pos hx]
      rfl
    obtain ⟨v', hv, hJ'⟩ := NO_f hJ.2 (p3_1 (b_set H) e (e8_8 _ _)) e (EQ_f _ _)
    exact ⟨hx, v', _, by unfold m_L_set m_L_set_n; exact L_t1 (XN_set hv) hv, EQ_f _ _, hJ'⟩
  · have hx' : ¬ xwi (nI a) 0 4 = 0 := by rw [show xwi (nI a) 0 4 = 1 from hx]; decide
    right
    obtain ⟨M, hM⟩ : ∃ M, M = (if a = 0 then 9 else if a = 4 then 9 else if a = 3 then 20 else 99) := ⟨_, rfl⟩
    have hM2 : 1 ≤ M ∧ M ≤ 99 := by
      rw [hM]
      split
      · omega
      · split
        · omega
        · split <;> omega
    have hmo : m_X9_mostOf (nI a) = some (nI M) := by
      rw [hM]
      have : ∀ a, a < 5 → m_X9_mostOf (nI a) = some (nI (if a = 0 then 9 else if a = 4 then 9 else if a = 3 then 20 else 99)) := by decide +kernel
      exact this a (by omega)
    refine ⟨a, M, by omega, rfl, hM, ?_⟩
    rcases xwi_r s 1 M (by omega) hM2.1 with hy | ⟨hy, b, b0, b1, rfl⟩
    · replace hy : xwi s 1 (nI M) = 0 := hy
      left
      have e : m_X9_set w (nI a) s = some (0, e8 w 2) := by
        unfold m_X9_set
        simp only [q_lt]
        rw [if_neg hx', hmo]
        simp only [q_ob]
        rw [if_pos hy]
        rfl
      obtain ⟨v', hv, hJ'⟩ := NO_f hJ.2 (p3_2 (b_set H) e (e8_8 _ _)) e (EQ_f _ _)
      exact ⟨hy, v', _, by unfold m_L_set m_L_set_n; exact L_t2 xs_4 (XN_set hv) hv, EQ_f _ _, hJ'⟩
    · right
      have hy' : ¬ xwi (nI b) 1 (nI M) = 0 := by rw [show xwi (nI b) 1 (nI M) = 1 from hy]; decide
      obtain ⟨w1, e2, hS, h1, h8, hj⟩ := sv_8 H
      have e : m_X9_set w (nI a) (nI b) = some (w 1 (556 + a), va_up w1 1 (va_up (w 1) (556 + a) (nI b))) := by
        unfold m_X9_set
        simp only [q_lt]
        rw [if_neg hx', hmo]
        simp only [q_ob]
        rw [if_neg hy', e2]
        simp only [q_ob]
        have e556 : (556 : Int32) + nI a = nI (556 + a) := nI_add 556 a
        rw [e556, q_cl (by omega), q_ck (by rw [show (0 : Int32) = nI 0 from rfl, q_lts (by omega) (by omega)]; omega), q_ck (by rw [show (0 : Int32) = nI 0 from rfl, q_lts (by omega) (by omega)]; omega)]
        unfold st2
        rw [h1]
      obtain ⟨v', hv, hJ'⟩ := OK_f hJ.2 (Nat.le_refl _) (p3_0 (b_set H) e (fl8 h8)) e hS (IV_c hJ.2.1 (fun k hk => va_up_ne _ _ (by omega)))
      exact ⟨b, b0, b1, rfl, v', _, by unfold m_L_set m_L_set_n; exact L_n hv, SV_1 hS, va_up_self _ _ _, hJ'⟩
/-- why a work can not be begun -/
def HN (v : xSt) (k p : Int32) (j : Nat) : Prop := m_X6_hindrance (sh 7 v) k p = some (nI j)
theorem D_erase {B : Nat} {v w : xSt} {p : Int32} (hJ : J B v w) (hB : B < 16000000) : (xwi p 0 7 = 0 ∧ NO B w (m_L_erase v p) (-101)) ∨ ∃ a j, a < 8 ∧ p = nI a ∧ j ≤ 5 ∧ HN v 2 p j ∧ ((¬ j = 0 ∧ NO B w (m_L_erase v p) (-103)) ∨ (j = 0 ∧ OK B w (m_L_erase v p) (4 + w 1 557 + w 1 (544 + a) / 4) (bE (va_up (w 1) 552 0) a (-1) (4 + w 1 557 + w 1 (544 + a) / 4)))) := by
  have H := hJ.1
  rcases xwi_r p 0 7 (by omega) (by omega) with hx | ⟨hx, a, a0, a1, rfl⟩
  · replace hx : xwi p 0 7 = 0 := hx
    left
    have e : m_X9_erase w p = some (0, e8 w 1) := by
      unfold m_X9_erase
      simp only [q_lt]
      rw [if_pos hx]
      rfl
    obtain ⟨v', hv, hJ'⟩ := NO_f hJ.2 (p3_1 (b_erase H hB) e (e8_8 _ _)) e (EQ_f _ _)
    exact ⟨hx, v', _, by unfold m_L_erase m_L_erase_n; exact L_t1 (XN_erase hv) hv, EQ_f _ _, hJ'⟩
  · have hx' : ¬ xwi (nI a) 0 7 = 0 := by rw [show xwi (nI a) 0 7 = 1 from hx]; decide
    right
    obtain ⟨j, hj, c1, c2, c3⟩ := s_hind (k := 2) (p := nI a) H.1.1
    have c2' := c2 (st2 w 0 8 0)
    rw [w1_s] at c2'
    refine ⟨a, j, by omega, rfl, hj, c1, ?_⟩
    by_cases hj0 : j = 0
    · right
      subst hj0
      obtain ⟨w1, e2, hS, h1, h8, hj⟩ := sv_8 H
      have hb := r_beginsErase (w := va_up w1 1 (va_up (w1 1) 552 0)) (σ := va_up (w1 1) 552 0) (s := a) (u := -1) (by omega)
      rw [bx_uu, bx_uu, va_up_ne (k := 552) (j := 557) _ _ (by omega), va_up_ne (k := 552) (j := 544 + a) _ _ (by omega), h1] at hb
      have e : m_X9_erase w (nI a) = some (4 + w 1 557 + w 1 (544 + a) / 4, va_up w1 1 (bE (va_up (w 1) 552 0) a (-1) (4 + w 1 557 + w 1 (544 + a) / 4))) := by
        unfold m_X9_erase
        simp only [q_lt]
        rw [if_neg hx', c2']
        simp only [q_ob]
        rw [if_pos (by decide), e2]
        simp only [q_ob, kc552, kn552]
        rw [show st2 w1 1 552 0 = va_up w1 1 (va_up (w1 1) 552 0) from rfl, h1, hb]
        rfl
      obtain ⟨v', hv, hJ'⟩ := OK_f hJ.2 (Nat.le_refl _) (p3_0 (b_erase H hB) e (fl8 h8)) e hS (IV_c hJ.2.1 (fun k hk => by rw [bE_o (by omega), va_up_ne _ _ (by omega)]))
      exact ⟨rfl, v', _, by unfold m_L_erase m_L_erase_n; exact L_n hv, SV_1 hS, va_up_self _ _ _, hJ'⟩
    · left
      have e : m_X9_erase w (nI a) = some (0, e8 w 2) := by
        unfold m_X9_erase
        simp only [q_lt]
        rw [if_neg hx', c2']
        simp only [q_ob]
        rw [if_neg (nI_nle (by omega) (by omega))]
        rfl
      obtain ⟨v', hv, hJ'⟩ := NO_f hJ.2 (p3_2 (b_erase H hB) e (e8_8 _ _)) e (EQ_f _ _)
      exact ⟨hj0, v', _, by unfold m_L_erase m_L_erase_n; exact L_t2 xs_2 (XN_erase hv) hv, EQ_f _ _, hJ'⟩
theorem D_lock {B : Nat} {v w : xSt} {p s : Int32} (hJ : J B v w) : ((xwi p 0 4 = 0 ∨ xwi s 0 1 = 0) ∧ NO B w (m_L_lock v p s) (-102)) ∨ ∃ a d j, a ≤ 4 ∧ p = nI a ∧ d ≤ 1 ∧ s = nI d ∧ j ≤ 5 ∧ HN v 3 p j ∧ ((¬ j = 0 ∧ NO B w (m_L_lock v p s) (-103)) ∨ (j = 0 ∧ OK B w (m_L_lock v p s) (w 1 559) (bL (va_up (w 1) 552 0) (nI a) (nI d)))) := by
  have H := hJ.1
  rcases xwi_r p 0 4 (by omega) (by omega) with hx | ⟨hx, a, a0, a1, rfl⟩
  · replace hx : xwi p 0 4 = 0 := hx
    left
    have e : m_X9_lock w p s = some (0, e8 w 1) := by
      unfold m_X9_lock
      simp only [q_lt]
      rw [if_pos hx]
      rfl
    obtain ⟨v', hv, hJ'⟩ := NO_f hJ.2 (p3_1 (b_lock H) e (e8_8 _ _)) e (EQ_f _ _)
    exact ⟨Or.inl hx, v', _, by unfold m_L_lock m_L_lock_n; exact L_t1 (XN_lock hv) hv, EQ_f _ _, hJ'⟩
  · have hx' : ¬ xwi (nI a) 0 4 = 0 := by rw [show xwi (nI a) 0 4 = 1 from hx]; decide
    rcases xwi_r s 0 1 (by omega) (by omega) with hy | ⟨hy, d, d0, d1, rfl⟩
    · replace hy : xwi s 0 1 = 0 := hy
      left
      have e : m_X9_lock w (nI a) s = some (0, e8 w 1) := by
        unfold m_X9_lock
        simp only [q_lt]
        rw [if_neg hx', if_pos hy]
        rfl
      obtain ⟨v', hv, hJ'⟩ := NO_f hJ.2 (p3_1 (b_lock H) e (e8_8 _ _)) e (EQ_f _ _)
      exact ⟨Or.inr hy, v', _, by unfold m_L_lock m_L_lock_n; exact L_t1 (XN_lock hv) hv, EQ_f _ _, hJ'⟩
    · have hy' : ¬ xwi (nI d) 0 1 = 0 := by rw [show xwi (nI d) 0 1 = 1 from hy]; decide
      right
      obtain ⟨j, hj, c1, c2, c3⟩ := s_hind (k := 3) (p := nI a) H.1.1
      have c2' := c2 (st2 w 0 8 0)
      rw [w1_s] at c2'
      refine ⟨a, d, j, by omega, rfl, by omega, rfl, hj, c1, ?_⟩
      by_cases hj0 : j = 0
      · right
        subst hj0
        obtain ⟨w1, e2, hS, h1, h8, hj⟩ := sv_8 H
        have hb := r_beginsLock (w := va_up w1 1 (va_up (w1 1) 552 0)) (σ := va_up (w1 1) 552 0) (l := nI a) (d := nI d)
        rw [bx_uu, bx_uu, h1] at hb
        have e : m_X9_lock w (nI a) (nI d) = some (w 1 559, va_up w1 1 (bL (va_up (w 1) 552 0) (nI a) (nI d))) := by
          unfold m_X9_lock
          simp only [q_lt]
          rw [if_neg hx', if_neg hy', c2']
          simp only [q_ob]
          rw [if_pos (by decide), e2]
          simp only [q_ob, kc552, kn552]
          rw [show st2 w1 1 552 0 = va_up w1 1 (va_up (w1 1) 552 0) from rfl, h1, hb]
          unfold bL
          simp only [q_ob]
          rw [va_up_ne (k := 552) (j := 559) _ _ (by omega)]
        obtain ⟨v', hv, hJ'⟩ := OK_f hJ.2 (Nat.le_refl _) (p3_0 (b_lock H) e (fl8 h8)) e hS (IV_c hJ.2.1 (fun k hk => by rw [bL_o (by omega), va_up_ne _ _ (by omega)]))
        exact ⟨rfl, v', _, by unfold m_L_lock m_L_lock_n; exact L_n hv, SV_1 hS, va_up_self _ _ _, hJ'⟩
      · left
        have e : m_X9_lock w (nI a) (nI d) = some (0, e8 w 2) := by
          unfold m_X9_lock
          simp only [q_lt]
          rw [if_neg hx', if_neg hy', c2']
          simp only [q_ob]
          rw [if_neg (nI_nle (by omega) (by omega))]
          rfl
        obtain ⟨v', hv, hJ'⟩ := NO_f hJ.2 (p3_2 (b_lock H) e (e8_8 _ _)) e (EQ_f _ _)
        exact ⟨hj0, v', _, by unfold m_L_lock m_L_lock_n; exact L_t2 xs_1 (XN_lock hv) hv, EQ_f _ _, hJ'⟩
def wS (σ : Nat → Int32) (a m e : Nat) : Nat → Int32 := va_up (fl (bW (va_up σ 552 0) a 568 m e (-1)) 568 12 (fun _ => nI 0)) 567 (nI 0)
theorem D_write {B : Nat} {v w : xSt} {p : Int32} (hJ : J B v w) : (xwi p 0 255 = 0 ∧ NO B w (m_L_write v p) (-101)) ∨ ∃ a j, a < 256 ∧ p = nI a ∧ j ≤ 5 ∧ HN v 1 p j ∧ ((¬ j = 0 ∧ NO B w (m_L_write v p) (-103)) ∨ (j = 0 ∧ ∃ m e, 0 < m ∧ m ≤ 12 ∧ w 1 567 = nI m ∧ 1 ≤ e ∧ e ≤ 99 ∧ w 1 556 = nI e ∧ OK B w (m_L_write v p) (nI (mn m 8 * e)) (wS (w 1) a m e))) := by
  have H := hJ.1
  rcases xwi_r p 0 255 (by omega) (by omega) with hx | ⟨hx, a, a0, a1, rfl⟩
  · replace hx : xwi p 0 255 = 0 := hx
    left
    have e : m_X9_write w p = some (0, e8 w 1) := by
      unfold m_X9_write
      simp only [q_lt]
      rw [if_pos hx]
      rfl
    obtain ⟨v', hv, hJ'⟩ := NO_f hJ.2 (p3_1 (b_write H) e (e8_8 _ _)) e (EQ_f _ _)
    exact ⟨hx, v', _, by unfold m_L_write m_L_write_n; exact L_t1 (XN_write hv) hv, EQ_f _ _, hJ'⟩
  · have hx' : ¬ xwi (nI a) 0 255 = 0 := by rw [show xwi (nI a) 0 255 = 1 from hx]; decide
    right
    obtain ⟨j, hj, c1, c2, c3⟩ := s_hind (k := 1) (p := nI a) H.1.1
    have c2' := c2 (st2 w 0 8 0)
    rw [w1_s] at c2'
    refine ⟨a, j, by omega, rfl, hj, c1, ?_⟩
    by_cases hj0 : j = 0
    · right
      subst hj0
      obtain ⟨w1, e2, hS, h1, h8, hj⟩ := sv_8 H
      obtain ⟨m, m1, m2, m3, m4⟩ := RLd_f H.1.1.2.2.2.1
      have hm0 : 0 < m := by
        have := (c3 rfl).2 rfl
        rcases Nat.eq_zero_or_pos m with h | h
        · subst h
          exact absurd m3 this
        · exact h
      obtain ⟨y1, e, y2, y3, y4⟩ := H.1.1.2.2.2.2.2.2.2 0 (by omega)
      obtain ⟨σA, hσ⟩ : ∃ σA, σA = va_up (w 1) 552 0 := ⟨_, rfl⟩
      have sk : ∀ k, k ≠ 552 → σA k = w 1 k := fun k hk => by rw [hσ, va_up_ne _ _ hk]
      have hb := r_beginsWrite (w := w1) (σ := σA) (c := a) (at_ := 568) (many := m) (e := e) (u := -1) (Or.inl rfl) m1 hm0 (by rw [sk _ (by omega)]; exact y4) (by omega)
      have e : m_X9_write w (nI a) = some (nI (mn m 8 * e), va_up w1 1 (wS (w 1) a m e)) := by
        unfold m_X9_write
        simp only [q_lt]
        rw [if_neg hx', c2']
        simp only [q_ob]
        rw [if_pos (by decide), e2]
        simp only [q_ob, kc552, kn552, kc567, kn567]
        rw [show st2 w1 1 552 0 = va_up w1 1 σA by rw [hσ, ← h1]; rfl, va_up_self, sk 567 (by omega), m3, show (568 : Int32) = nI 568 from rfl, hb]
        simp only [q_ob, r_unloads]
        unfold wS
        rw [← hσ]
        rfl
      obtain ⟨v', hv, hJ'⟩ := OK_f hJ.2 (Nat.le_refl _) (p3_0 (b_write H) e (fl8 h8)) e hS (IV_c hJ.2.1 (fun k hk => by unfold wS; rw [va_up_ne _ _ (by omega), fl_o (by omega), bW_o (by omega), va_up_ne _ _ (by omega)]))
      exact ⟨rfl, m, _, hm0, m1, m3, y2, y3, y4, v', _, by unfold m_L_write m_L_write_n; exact L_n hv, SV_1 hS, va_up_self _ _ _, hJ'⟩
    · left
      have e : m_X9_write w (nI a) = some (0, e8 w 2) := by
        unfold m_X9_write
        simp only [q_lt]
        rw [if_neg hx', c2']
        simp only [q_ob]
        rw [if_neg (nI_nle (by omega) (by omega))]
        rfl
      obtain ⟨v', hv, hJ'⟩ := NO_f hJ.2 (p3_2 (b_write H) e (e8_8 _ _)) e (EQ_f _ _)
      exact ⟨hj0, v', _, by unfold m_L_write m_L_write_n; exact L_t2 xs_2 (XN_write hv) hv, EQ_f _ _, hJ'⟩
theorem D_suspend {B : Nat} {v w : xSt} (hJ : J B v w) : (((w 1 581 = 1 ∨ w 1 581 = 2) ∧ w 1 599 = 0) ∧ OK B w (m_L_suspend v) (w 1 584 - w 1 583) (sA (w 1) (nI 0))) ∨ (¬ ((w 1 581 = 1 ∨ w 1 581 = 2) ∧ w 1 599 = 0) ∧ NO B w (m_L_suspend v) (-103)) := by
  have H := hJ.1
  have u0 : m_X9_under (st2 w 0 8 0) 0 = some (w 1 581) := by
    have := r_under (w := st2 w 0 8 0) (σ := w 1) (j := 0) (by omega)
    rw [w1_s] at this
    exact this
  by_cases hk : w 1 581 = 1 ∨ w 1 581 = 2
  · have hcl : ∀ (x y : Option (Int32 × xSt)), (if w 1 581 = 1 then x else if w 1 581 = 2 then x else y) = x := by
      intro x y
      rcases hk with hk | hk
      · rw [if_pos hk]
      · rw [if_neg (by rw [hk]; decide), if_pos hk]
    rcases s_asd H.1.1 with ⟨c1, c2, c3⟩ | ⟨c1, ⟨k, k1, k2, k3⟩, c3⟩
    · left
      have c3' := c3 (st2 w 0 8 0)
      rw [w1_s] at c3'
      obtain ⟨w1, e2, hS, h1, h8, hj⟩ := sv_8 H
      have hA := r_setsAside (w := w1) (σ := w 1) (u := nI 0)
      rw [show va_up w1 1 (w 1) = w1 by rw [← h1]; exact va_up_id] at hA
      have a3 := r_apart (w := w1) (σ := sA (w 1) (nI 0)) (j := 3) (by omega)
      have a2 := r_apart (w := w1) (σ := sA (w 1) (nI 0)) (j := 2) (by omega)
      have s3 : sA (w 1) (nI 0) (599 + 3) = w 1 584 := by
        unfold sA
        rw [va_up_ne _ _ (by omega), fl_o (by omega), va_up_ne _ _ (by omega), fl_i (by omega) (by omega)]
      have s2 : sA (w 1) (nI 0) (599 + 2) = w 1 583 := by
        unfold sA
        rw [va_up_ne _ _ (by omega), fl_o (by omega), va_up_ne _ _ (by omega), fl_i (by omega) (by omega)]
      have e : m_X9_suspend w = some (w 1 584 - w 1 583, va_up w1 1 (sA (w 1) (nI 0))) := by
        unfold m_X9_suspend
        simp only [q_lt]
        rw [u0]
        simp only [q_ob, u0]
        rw [hcl, c3']
        simp only [q_ob]
        rw [if_pos (by decide), e2]
        simp only [q_ob]
        rw [show (0 : Int32) = nI 0 from rfl, hA]
        simp only [q_ob]
        rw [show (3 : Int32) = nI 3 from rfl, show (2 : Int32) = nI 2 from rfl, a3, a2]
        simp only [q_ob]
        rw [s3, s2]
      obtain ⟨v', hv, hJ'⟩ := OK_f hJ.2 (Nat.le_refl _) (p2_0 (b_suspend H) e (fl8 h8)) e hS (IV_c hJ.2.1 (fun k hk => sA_o (by omega) (by omega)))
      exact ⟨⟨hk, c2⟩, v', _, by unfold m_L_suspend m_L_suspend_n; exact L_n hv, SV_1 hS, va_up_self _ _ _, hJ'⟩
    · right
      have c3' := c3 (st2 w 0 8 0)
      rw [w1_s] at c3'
      have e : m_X9_suspend w = some (0, e8 w 1) := by
        unfold m_X9_suspend
        simp only [q_lt]
        rw [u0]
        simp only [q_ob, u0]
        rw [hcl, c3']
        simp only [q_ob]
        rw [if_neg (by decide)]
        rfl
      obtain ⟨v', hv, hJ'⟩ := NO_f hJ.2 (p2_1 (b_suspend H) e (e8_8 _ _)) e (EQ_f _ _)
      exact ⟨fun h => absurd h.2 (by rw [k3]; exact nI_ne0 (by omega) (by omega)), v', _, by unfold m_L_suspend m_L_suspend_n; exact L_t1 (XN_suspend hv) hv, EQ_f _ _, hJ'⟩
  · right
    have hcl : ∀ (x y : Option (Int32 × xSt)), (if w 1 581 = 1 then x else if w 1 581 = 2 then x else y) = y := by
      intro x y
      rw [if_neg (fun e => hk (Or.inl e)), if_neg (fun e => hk (Or.inr e))]
    have e : m_X9_suspend w = some (0, e8 w 1) := by
      unfold m_X9_suspend
      simp only [q_lt]
      rw [u0]
      simp only [q_ob, u0]
      rw [hcl]
      rfl
    obtain ⟨v', hv, hJ'⟩ := NO_f hJ.2 (p2_1 (b_suspend H) e (e8_8 _ _)) e (EQ_f _ _)
    exact ⟨fun h => hk h.1, v', _, by unfold m_L_suspend m_L_suspend_n; exact L_t1 (XN_suspend hv) hv, EQ_f _ _, hJ'⟩
theorem D_resume {B : Nat} {v w : xSt} (hJ : J B v w) : ((¬ w 1 599 = 0 ∧ w 1 581 = 0) ∧ OK B w (m_L_resume v) (w 1 602 - w 1 601) (tB (w 1))) ∨ (¬ (¬ w 1 599 = 0 ∧ w 1 581 = 0) ∧ NO B w (m_L_resume v) (-103)) := by
  have H := hJ.1
  rcases s_asd H.1.1 with ⟨c1, c2, c3⟩ | ⟨c1, ⟨k, k1, k2, k3⟩, c3⟩
  · right
    have c3' := c3 (st2 w 0 8 0)
    rw [w1_s] at c3'
    have e : m_X9_resume w = some (0, e8 w 1) := by
      unfold m_X9_resume
      simp only [q_lt]
      rw [c3']
      rfl
    obtain ⟨v', hv, hJ'⟩ := NO_f hJ.2 (p2_1 (b_resume H) e (e8_8 _ _)) e (EQ_f _ _)
    exact ⟨fun h => h.1 c2, v', _, by unfold m_L_resume m_L_resume_n; exact L_t1 (XN_resume hv) hv, EQ_f _ _, hJ'⟩
  · have c3' := c3 (st2 w 0 8 0)
    rw [w1_s] at c3'
    rcases (s_und H.1.1).2 with c0 | ⟨j, j1, j2, c0⟩
    · left
      have d2' := r_busy0 (w := st2 w 0 8 0) (σ := w 1) c0
      rw [w1_s] at d2'
      obtain ⟨w1, e2, hS, h1, h8, hj⟩ := sv_8 H
      have hA := r_takesBack (w := w1) (σ := w 1)
      rw [show va_up w1 1 (w 1) = w1 by rw [← h1]; exact va_up_id] at hA
      have a3 := r_under (w := w1) (σ := tB (w 1)) (j := 3) (by omega)
      have a2 := r_under (w := w1) (σ := tB (w 1)) (j := 2) (by omega)
      have s3 : tB (w 1) (581 + 3) = w 1 602 := by
        unfold tB
        rw [fl_o (by omega), va_up_ne _ _ (by omega), fl_i (by omega) (by omega)]
      have s2 : tB (w 1) (581 + 2) = w 1 601 := by
        unfold tB
        rw [fl_o (by omega), va_up_ne _ _ (by omega), fl_i (by omega) (by omega)]
      have e : m_X9_resume w = some (w 1 602 - w 1 601, va_up w1 1 (tB (w 1))) := by
        unfold m_X9_resume
        simp only [q_lt]
        rw [c3']
        simp only [q_ob]
        rw [if_neg (by decide), d2']
        simp only [q_ob]
        rw [if_pos (by decide), e2]
        simp only [q_ob]
        rw [hA]
        simp only [q_ob]
        rw [show (3 : Int32) = nI 3 from rfl, show (2 : Int32) = nI 2 from rfl, a3, a2]
        simp only [q_ob]
        rw [s3, s2]
      obtain ⟨v', hv, hJ'⟩ := OK_f hJ.2 (Nat.le_refl _) (p2_0 (b_resume H) e (fl8 h8)) e hS (IV_c hJ.2.1 (fun k hk => tB_o (by omega)))
      exact ⟨⟨by rw [k3]; exact nI_ne0 (by omega) (by omega), c0⟩, v', _, by unfold m_L_resume m_L_resume_n; exact L_n hv, SV_1 hS, va_up_self _ _ _, hJ'⟩
    · right
      have d2' := r_busy1 (w := st2 w 0 8 0) (σ := w 1) c0 (by omega) j2
      rw [w1_s] at d2'
      have e : m_X9_resume w = some (0, e8 w 1) := by
        unfold m_X9_resume
        simp only [q_lt]
        rw [c3']
        simp only [q_ob]
        rw [if_neg (by decide), d2']
        rfl
      obtain ⟨v', hv, hJ'⟩ := NO_f hJ.2 (p2_1 (b_resume H) e (e8_8 _ _)) e (EQ_f _ _)
      exact ⟨fun h => absurd h.2 (by rw [c0]; exact nI_ne0 (by omega) (by omega)), v', _, by unfold m_L_resume m_L_resume_n; exact L_t1 (XN_resume hv) hv, EQ_f _ _, hJ'⟩
