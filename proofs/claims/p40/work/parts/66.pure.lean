/-! THE METHODS, both sides: load to set -/
theorem xwi_r (p : Int32) (a b : Nat) (hb : b < 2147483648) (hab : a ≤ b) : xwi p (nI a) (nI b) = 0 ∨ (xwi p (nI a) (nI b) = 1 ∧ ∃ j, a ≤ j ∧ j ≤ b ∧ p = nI j) := by
  unfold xwi
  by_cases h1 : p < nI a
  · exact Or.inl (if_pos h1)
  · rw [if_neg h1]
    by_cases h2 : nI b < p
    · exact Or.inl (if_pos h2)
    · rw [if_neg h2]
      right
      have hp : ¬ p < 0 := by
        intro hp
        refine h1 ?_
        rw [Int32.lt_iff_toInt_lt] at hp ⊢
        rw [nI_toInt (by omega)]
        rw [show (0 : Int32).toInt = 0 by decide] at hp
        omega
      obtain ⟨j, hj, rfl⟩ := nI_of hp
      rw [nI_ltI hj (by omega)] at h1
      rw [nI_ltI hb hj] at h2
      exact ⟨rfl, j, by omega, by omega, rfl⟩
theorem e_add {c : xSt} {m : Nat} {p : Int32} (h : c 0 1 = nI m) (hm : m < 12) : m_X4_add c p = some (st2 (st2 c 1 m p) 0 1 (nI (m + 1))) := by
  unfold m_X4_add
  rw [h, if_neg (nI_pos (by omega)), if_neg (show ¬ (12 : Int32) ≤ nI m from nI_ge (b := 12) hm (by omega)), q_cl (by omega), q_ck (by rw [show (0 : Int32) = nI 0 from rfl, q_lts (by omega) (by omega)]; omega)]
  simp only [q_lt]
  rw [q_sn (by omega), h, nI_1]
theorem b_load {B : Nat} {v w : xSt} {p : Int32} (H : RBC B v w) : MN B (m_X8_load_n v p) (m_X9_load w p) ∨ MT B (m_X8_load_t v p) xIAE 1 (m_X9_load w p) ∨ MT B (m_X8_load_t v p) xISE 2 (m_X9_load w p) := by
  obtain ⟨m, ⟨m1, m2, m3⟩, m4⟩ := H.1.1.2.2.2.1
  rcases xwi_r p 0 255 (by omega) (by omega) with hx | ⟨hx, a, a0, a1, rfl⟩
  · replace hx : xwi p 0 255 = 0 := hx
    refine Or.inr (Or.inl (MT_f H ?_ ?_))
    · unfold m_X8_load_t
      rw [if_pos hx]
    · unfold m_X9_load
      simp only [q_lt]
      rw [if_pos hx]
  · have hx' : ¬ xwi (nI a) 0 255 = 0 := by rw [show xwi (nI a) 0 255 = 1 from hx]; decide
    by_cases hm : m = 12
    · refine Or.inr (Or.inr (MT_f H ?_ ?_))
      · unfold m_X8_load_t
        rw [if_neg hx', show v 13 1 = nI m from m1, hm, if_neg (by decide)]
      · unfold m_X9_load
        simp only [q_lt]
        rw [if_neg hx', kn567, kc567, w1_1, m4, hm, if_pos (by decide)]
    · left
      obtain ⟨v1, w1, e1, e2, HR, f1, f2, f3, f4⟩ := s_save (RBC_1 (x := 0) H)
      have h13 : v1 13 1 = nI m := by rw [f1 13 (by omega) (by omega)]; exact m1
      have h567 : w1 1 567 = nI m := by rw [f3 1 (by omega) (by omega), w1_1]; exact m4
      have ha := e_add (c := sh 13 v1) (p := nI a) h13 (by omega)
      obtain ⟨r, hr⟩ : ∃ r, r = st2 (st2 (sh 13 v1) 1 m (nI a)) 0 1 (nI (m + 1)) := ⟨_, rfl⟩
      rw [← hr] at ha
      have r0 : r 0 1 = nI (m + 1) := by rw [hr, q_ss, va_up_self]
      have r1 : r 1 = va_up (v1 14) m (nI a) := by rw [hr, q_sn (by omega), q_ss]; rfl
      refine ⟨nI (m + 1), pu 13 2 v1 r, va_up w1 1 (va_up (va_up (w1 1) (568 + m) (nI a)) 567 (nI (m + 1))), ?_, ?_, ?_, MN_fin (v := v) (w := w) HR (Nat.le_refl _) (fun j h1 h2 => pu_o (by omega)) (fun k hk => by rw [pu_o (by omega)]) ?_⟩
      · unfold m_X8_load_n
        rw [if_neg hx', show v 13 1 = nI m from m1, if_pos (show nI m < (12 : Int32) from nI_lt (b := 12) (by omega) (by omega)), e1]
        simp only [q_ob]
        rw [ha]
        simp only [q_ob, q_lt]
        rw [pu_i (by omega) (by omega), r0]
      · unfold m_X9_load
        simp only [q_lt]
        rw [if_neg hx', kn567, kc567, w1_1, m4, if_neg (show ¬ nI m = (12 : Int32) from fun e => hm ((nI_eq (by omega) (by omega)).mp e)), e2]
        simp only [q_ob, h567, kc567]
        have e568 : (568 : Int32) + nI m = nI (568 + m) := nI_add 568 m
        rw [e568, q_cl (by omega), q_ck (by rw [show (0 : Int32) = nI 0 from rfl, q_lts (by omega) (by omega)]; omega)]
        rw [show st2 w1 1 (568 + m) (nI a) = va_up w1 1 (va_up (w1 1) (568 + m) (nI a)) from rfl, va_up_self, va_up_ne _ _ (by omega), h567, show nI m + 1 = nI (m + 1) from nI_1 m, q_st, va_up_self, va_up_self]
      · rw [va_up_ne _ _ (by omega), f4 8 (by omega), w1_8]
      · refine RR_ld HR.1 (fun k hk => by rw [va_up_ne _ _ (by omega), va_up_ne _ _ (by omega)]) (fun j h1 h2 h3 => by rw [sh_e, pu_o (by omega)]; rfl) ⟨m + 1, ⟨?_, by omega, fun i hi => ?_⟩, va_up_self _ _ _⟩
        · show pu 13 2 v1 r 13 1 = _
          rw [pu_i (by omega) (by omega), r0]
        · show pu 13 2 v1 r 14 i = _ ∧ _
          rw [pu_i (by omega) (by omega), r1, va_up_ne _ _ (show 568 + i ≠ 567 by omega)]
          by_cases c : i = m
          · subst c
            rw [va_up_self, va_up_self]
            exact ⟨rfl, a, by omega, rfl⟩
          · rw [va_up_ne _ _ c, va_up_ne _ _ (by omega), f3 1 (by omega) (by omega), w1_1, f1 14 (by omega) (by omega)]
            exact m3 i (by omega)
/-- what is left of a work -/
theorem RWk_l {o : Nat → Int32} {z : Int32} {r σ : Nat → Int32} {b : Nat} (H : RWk o z r σ b) : o 4 - o 5 = σ (b + 3) - σ (b + 2) := by
  rcases H.2 with h | ⟨k, d, t, p, h⟩
  · obtain ⟨a1, a2, a3, a4, a5, a6, a7, a8, a9⟩ := h
    rw [a5, a6, a7, a8]
  · obtain ⟨a1, a2, a3, a4, a5, a6, a7, a8, a9, a10, a11⟩ := h
    rw [a7, a8, a9, a10]
theorem b_erase {B : Nat} {v w : xSt} {p : Int32} (H : RBC B v w) (hB : B < 16000000) : MN B (m_X8_erase_n v p) (m_X9_erase w p) ∨ MT B (m_X8_erase_t v p) xIOB 1 (m_X9_erase w p) ∨ MT B (m_X8_erase_t v p) xISE 2 (m_X9_erase w p) := by
  rcases xwi_r p 0 7 (by omega) (by omega) with hx | ⟨hx, a, a0, a1, rfl⟩
  · replace hx : xwi p 0 7 = 0 := hx
    refine Or.inr (Or.inl (MT_f H ?_ ?_))
    · unfold m_X8_erase_t
      rw [if_pos hx]
    · unfold m_X9_erase
      simp only [q_lt]
      rw [if_pos hx]
  · have hx' : ¬ xwi (nI a) 0 7 = 0 := by rw [show xwi (nI a) 0 7 = 1 from hx]; decide
    obtain ⟨j, hj, c1, c2, c3⟩ := s_hind (k := 2) (p := nI a) H.1.1
    have c2' := c2 (st2 w 0 8 0)
    rw [w1_s] at c2'
    by_cases hj0 : j = 0
    · left
      subst hj0
      obtain ⟨v1, w1, e1, e2, HR, f1, f2, f3, f4⟩ := s_save (RBC_1 (x := 0) H)
      obtain ⟨t, t1, t2, t3, t4⟩ := e_eraseTicks HR.1.1 hB (show a < 8 by omega)
      obtain ⟨r, hr, r0, r1⟩ := e_X7_start (sh 15 v1) 2 (nI a) (nI t) (-1)
      obtain ⟨v2, ev2⟩ : ∃ v2, v2 = st2 (pu 15 3 v1 r) 7 7 0 := ⟨_, rfl⟩
      have k2 : ∀ j, j ≠ 7 → j ≠ 15 → v2 j = v1 j := by
        intro j j1 j2
        rw [ev2, q_sn j1]
        by_cases jj : 15 ≤ j ∧ j < 15 + 3
        · rw [pu_i jj.1 jj.2, r1 _ (by omega), sh_e]
          exact congrArg v1 (by omega)
        · rw [pu_o (by omega)]
      have k15 : v2 15 = r 0 := by rw [ev2, q_sn (by omega), pu_i (by omega) (by omega)]
      have k7 : v2 7 = va_up (v1 7) 7 0 := by rw [ev2, q_ss, pu_o (by omega)]
      have HA : RR B (va_up (sh 7 v1) 0 (va_up (v1 7) 7 0)) (va_up (w1 1) 552 0) := RR_arm HR.1 (Or.inl rfl) (va_up_self _ _ _) (fun j h1 h2 => va_up_ne _ _ (by omega))
      have HS : RR B (sh 7 v2) (bE (va_up (w1 1) 552 0) a (-1) (nI t)) := by
        refine ⟨s_startE (v := va_up (sh 7 v1) 0 (va_up (v1 7) 7 0)) HA.1 (by omega) t1 t2 (Or.inl rfl) ?_ (fun j h1 h2 => ?_), ?_⟩
        · show v2 15 = _
          rw [k15, r0]
          rfl
        · by_cases c : j = 0
          · subst c
            rw [va_up_self]
            exact k7
          · rw [va_up_ne _ _ c, sh_e, k2 _ (by omega) (by omega)]
            rfl
        · rw [bE_o (by omega), va_up_ne _ _ (by omega)]
          show v2 7 8 = _
          rw [k7, va_up_ne _ _ (by omega)]
          exact HR.1.2
      have hb := r_beginsErase (w := va_up w1 1 (va_up (w1 1) 552 0)) (σ := va_up (w1 1) 552 0) (s := a) (u := -1) (by omega)
      rw [bx_uu, bx_uu, va_up_ne (k := 552) (j := 557) _ _ (by omega), va_up_ne (k := 552) (j := 544 + a) _ _ (by omega), t4] at hb
      refine ⟨nI t, v2, va_up w1 1 (bE (va_up (w1 1) 552 0) a (-1) (nI t)), ?_, ?_, ?_, MN_fin (v := v) (w := w) HR (Nat.le_refl _) (fun j h1 h2 => k2 j (by omega) (by omega)) (fun k hk => by rw [k2 0 (by omega) (by omega)]) HS⟩
      · unfold m_X8_erase_n
        rw [if_neg hx', c1]
        simp only [q_ob]
        rw [if_pos (by decide), e1]
        simp only [q_ob]
        rw [t3]
        simp only [q_ob]
        rw [hr]
        simp only [q_ob, q_lt]
        rw [← ev2]
        have el : m_X7_left (sh 15 v2) = some (nI t) := by
          unfold m_X7_left
          rw [show (sh 15 v2) 0 = r 0 from k15, r0]
          exact congrArg some (Int32.sub_zero _)
        rw [el]
        rfl
      · unfold m_X9_erase
        simp only [q_lt]
        rw [if_neg hx', c2']
        simp only [q_ob]
        rw [if_pos (by decide), e2]
        simp only [q_ob, kc552, kn552]
        rw [show st2 w1 1 552 0 = va_up w1 1 (va_up (w1 1) 552 0) from rfl, hb]
        rfl
      · rw [va_up_ne _ _ (by omega), f4 8 (by omega), w1_8]
    · refine Or.inr (Or.inr (MT_f H ?_ ?_))
      · unfold m_X8_erase_t
        rw [if_neg hx', c1]
        simp only [q_ob]
        rw [if_neg (nI_ne0 (by omega) (by omega))]
      · unfold m_X9_erase
        simp only [q_lt]
        rw [if_neg hx', c2']
        simp only [q_ob]
        rw [if_neg (nI_nle (by omega) (by omega))]
theorem b_lock {B : Nat} {v w : xSt} {p s : Int32} (H : RBC B v w) : MN B (m_X8_lock_n v p s) (m_X9_lock w p s) ∨ MT B (m_X8_lock_t v p s) xIAE 1 (m_X9_lock w p s) ∨ MT B (m_X8_lock_t v p s) xISE 2 (m_X9_lock w p s) := by
  rcases xwi_r p 0 4 (by omega) (by omega) with hx | ⟨hx, a, a0, a1, rfl⟩
  · replace hx : xwi p 0 4 = 0 := hx
    refine Or.inr (Or.inl (MT_f H ?_ ?_))
    · unfold m_X8_lock_t
      rw [if_pos hx]
    · unfold m_X9_lock
      simp only [q_lt]
      rw [if_pos hx]
  · have hx' : ¬ xwi (nI a) 0 4 = 0 := by rw [show xwi (nI a) 0 4 = 1 from hx]; decide
    rcases xwi_r s 0 1 (by omega) (by omega) with hy | ⟨hy, d, d0, d1, rfl⟩
    · replace hy : xwi s 0 1 = 0 := hy
      refine Or.inr (Or.inl (MT_f H ?_ ?_))
      · unfold m_X8_lock_t
        rw [if_neg hx', if_pos hy]
      · unfold m_X9_lock
        simp only [q_lt]
        rw [if_neg hx', if_pos hy]
    · have hy' : ¬ xwi (nI d) 0 1 = 0 := by rw [show xwi (nI d) 0 1 = 1 from hy]; decide
      obtain ⟨j, hj, c1, c2, c3⟩ := s_hind (k := 3) (p := nI a) H.1.1
      have c2' := c2 (st2 w 0 8 0)
      rw [w1_s] at c2'
      by_cases hj0 : j = 0
      · left
        subst hj0
        obtain ⟨v1, w1, e1, e2, HR, f1, f2, f3, f4⟩ := s_save (RBC_1 (x := 0) H)
        obtain ⟨y1, t, y2, y3, y4⟩ := HR.1.1.2.2.2.2.2.2.2 3 (by omega)
        have es : m_X6_settingOf (sh 7 v1) 3 = some (nI t) := by
          rw [show (3 : Int32) = nI 3 from rfl, e_setting HR.1.1.2.2.2.2.2.2.2 (by omega), y4]
        obtain ⟨r, hr, r0, r1⟩ := e_X7_start (sh 15 v1) 3 (nI a) (nI t) (-1)
        obtain ⟨v2, ev2⟩ : ∃ v2, v2 = st2 (st2 (pu 15 3 v1 r) 15 2 (nI d)) 7 7 0 := ⟨_, rfl⟩
        have k2 : ∀ j, j ≠ 7 → j ≠ 15 → v2 j = v1 j := by
          intro j j1 j2
          rw [ev2, q_sn j1, q_sn j2]
          by_cases jj : 15 ≤ j ∧ j < 15 + 3
          · rw [pu_i jj.1 jj.2, r1 _ (by omega), sh_e]
            exact congrArg v1 (by omega)
          · rw [pu_o (by omega)]
        have k15 : v2 15 = va_up (r 0) 2 (nI d) := by rw [ev2, q_sn (by omega), q_ss, pu_i (by omega) (by omega)]
        have k7 : v2 7 = va_up (v1 7) 7 0 := by rw [ev2, q_ss, q_sn (by omega), pu_o (by omega)]
        have HA : RR B (va_up (sh 7 v1) 0 (va_up (v1 7) 7 0)) (va_up (w1 1) 552 0) := RR_arm HR.1 (Or.inl rfl) (va_up_self _ _ _) (fun j h1 h2 => va_up_ne _ _ (by omega))
        have h559 : (va_up (w1 1) 552 0) 559 = nI t := by rw [va_up_ne _ _ (by omega)]; exact y4
        have HS : RR B (sh 7 v2) (bL (va_up (w1 1) 552 0) (nI a) (nI d)) := by
          refine ⟨s_startL (v := va_up (sh 7 v1) 0 (va_up (v1 7) 7 0)) HA.1 (by omega) h559 (by omega) (by omega) ?_ (fun j h1 h2 => ?_), ?_⟩
          · show v2 15 = _
            rw [k15, r0]
            rfl
          · by_cases c : j = 0
            · subst c
              rw [va_up_self]
              exact k7
            · rw [va_up_ne _ _ c, sh_e, k2 _ (by omega) (by omega)]
              rfl
          · rw [bL_o (by omega), va_up_ne _ _ (by omega)]
            show v2 7 8 = _
            rw [k7, va_up_ne _ _ (by omega)]
            exact HR.1.2
        have hb := r_beginsLock (w := va_up w1 1 (va_up (w1 1) 552 0)) (σ := va_up (w1 1) 552 0) (l := nI a) (d := nI d)
        rw [bx_uu, bx_uu] at hb
        refine ⟨nI t, v2, va_up w1 1 (bL (va_up (w1 1) 552 0) (nI a) (nI d)), ?_, ?_, ?_, MN_fin (v := v) (w := w) HR (Nat.le_refl _) (fun j h1 h2 => k2 j (by omega) (by omega)) (fun k hk => by rw [k2 0 (by omega) (by omega)]) HS⟩
        · unfold m_X8_lock_n
          rw [if_neg hx', if_neg hy', c1]
          simp only [q_ob]
          rw [if_pos (by decide), e1]
          simp only [q_ob]
          rw [es]
          simp only [q_ob]
          rw [hr]
          simp only [q_ob, q_lt]
          rw [← ev2]
          have el : m_X7_left (sh 15 v2) = some (nI t) := by
            unfold m_X7_left
            rw [show (sh 15 v2) 0 = va_up (r 0) 2 (nI d) from k15, r0]
            exact congrArg some (Int32.sub_zero _)
          rw [el]
          rfl
        · unfold m_X9_lock
          simp only [q_lt]
          rw [if_neg hx', if_neg hy', c2']
          simp only [q_ob]
          rw [if_pos (by decide), e2]
          simp only [q_ob, kc552, kn552]
          rw [show st2 w1 1 552 0 = va_up w1 1 (va_up (w1 1) 552 0) from rfl, hb]
          unfold bL
          simp only [q_ob, h559]
        · rw [va_up_ne _ _ (by omega), f4 8 (by omega), w1_8]
      · refine Or.inr (Or.inr (MT_f H ?_ ?_))
        · unfold m_X8_lock_t
          rw [if_neg hx', if_neg hy', c1]
          simp only [q_ob]
          rw [if_neg (nI_ne0 (by omega) (by omega))]
        · unfold m_X9_lock
          simp only [q_lt]
          rw [if_neg hx', if_neg hy', c2']
          simp only [q_ob]
          rw [if_neg (nI_nle (by omega) (by omega))]
