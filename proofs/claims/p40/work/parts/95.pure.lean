/-! OBEY: both sides -/
theorem b_obey {B : Nat} {v w : xSt} (H : RBC B v w) (hB : B + 7000 < 16000000) : MN (B + 6000) (m_X8_obey_n v) (m_X9_obey w) ∨ MT B (m_X8_obey_t v) xIAE 1 (m_X9_obey w) := by
  obtain ⟨L, T, hT, hV⟩ := RTx_T H.2.2.2.2
  have hL := hT.1
  have hT1 : TX T L (st2 w 0 8 0) := ⟨hT.1, by rw [q_ss, va_up_ne _ _ (by omega)]; exact hT.2.1, fun i hi => by rw [q_sn (by omega)]; exact hT.2.2 i hi⟩
  obtain ⟨r, w', c', e1, e2, e2b, e3⟩ := s_fe hT1 hV
  have H1 := RBC_F (RBC_p3 (c := c') (RBC_1 (x := 0) H)) e2
  have w8 : w' 0 8 = 0 := by rw [e2.2 8 (by omega), q_ss, va_up_self]
  have hV1 := TV_c (c := c') hV
  rcases e3 with ⟨h1, h2, h3, h4⟩ | ⟨h1, q, h2, h3, h4, h5⟩
  · left
    rw [h1] at e1 e2b
    have ctl : tl3 (sh 3 v) c' := fun j hj => by rw [rn_tl _ _ _ _ h4 j hj, q_sn (by omega)]
    have hs3 : sh 3 (pu 3 3 v c') = c' := sh_p3 ctl
    obtain ⟨v1, w1, x1, x2, HR, f1, f2, f3, f4⟩ := s_save H1
    have L0 : 0 < L := by
      by_cases x : 0 < L
      · exact x
      · exfalso
        have e : L = 0 := by omega
        rw [e] at h4
        cases h4
        rw [e_c0 (by rw [q_ss, va_up_self]; rfl)] at h3
        cases h3
    obtain ⟨s0, hs0⟩ : ∃ s0, s0 = st2 (sh 3 v1) 0 0 0 := ⟨_, rfl⟩
    obtain ⟨V0, hV0⟩ : ∃ V0, V0 = pu 3 3 v1 s0 := ⟨_, rfl⟩
    obtain ⟨W0, hW0⟩ : ∃ W0, W0 = st2 w1 0 9 0 := ⟨_, rfl⟩
    have TV0 : TV T L V0 := by
      rw [hV0]
      exact TV_c ⟨hL, by rw [f2 7 (by omega)]; exact hV1.2.1, fun i hi => by rw [f1 2 (by omega) (by omega)]; exact hV1.2.2 i hi⟩
    have frW : FRM w1 W0 := by rw [hW0]; exact FRM_0 (by omega)
    have TW0 : TX T L W0 := by
      have a := TX_c hT1 e2
      refine TX_c ⟨hL, by rw [f4 7 (by omega)]; exact a.2.1, fun i hi => by rw [f3 5 (by omega) (by omega)]; exact a.2.2 i hi⟩ frW
    have F0 : FS W0 0 1 (W0 0 11) (W0 0 12) (W0 0 13) (W0 0 14) := ⟨by rw [hW0, q_ss, va_up_self]; rfl, by rw [hW0, q_ss, va_up_ne _ _ (by omega), f4 10 (by omega), e2b]; rfl, rfl, rfl, rfl, rfl⟩
    have sV0 : (sh 3 V0) 0 0 = nI 0 := by
      rw [sh_e, hV0, pu_i (by omega) (by omega), hs0]
      show st2 _ 0 0 0 0 0 = _
      rw [q_ss, va_up_self]
      rfl
    have val : VAL T L 0 := VAL_of TW0 F0 (by omega) (c0 := st2 (sh 3 v) 0 0 0) (by rw [q_ss, va_up_self]; rfl) (by rw [Nat.sub_zero]; exact h4) h3
    have H0 : RBC B V0 W0 := by rw [hV0]; exact RBC_F (RBC_p3 HR) frW
    obtain ⟨z, V', W', z1, z2, z3, z4⟩ := J_obey L 0 B 0 V0 W0 _ _ _ _ L0 (by omega) TV0 TW0 F0 sV0 val H0 (by omega)
    refine ⟨z, V', W', ?_, ?_, ?_, RBC_b z4 (by omega)⟩
    · unfold m_X8_obey_n
      rw [h2, q_ob, q_lt]
      dsimp only
      rw [if_neg (show ¬ nI L < pu 3 3 v c' 0 7 by rw [hV1.2.1]; exact nI_nlt (by omega) (by omega)), hs3, h3, q_ob, if_neg (by decide), x1, q_ob, show m_X5_start (sh 3 v1) = some s0 by rw [hs0]; rfl, q_ob, q_lt, ← hV0]
      exact z1 xF (xFg (by omega))
    · unfold m_X9_obey
      rw [q_lt, e1, q_ob, q_lt]
      dsimp only
      rw [if_neg (by decide), x2, q_ob, q_lt, ← hW0]
      exact z2 xF (xFg (by omega))
    · rw [z3, frW.2 8 (by omega), f4 8 (by omega), w8]
  · right
    rw [h1] at e1
    have ctl : tl3 (sh 3 v) c' ∨ True := Or.inr trivial
    refine ⟨pu 3 3 v c', 0, st2 w' 0 8 1, ?_, ?_, by rw [q_ss, va_up_self], RBC_1 H1⟩
    · unfold m_X8_obey_t
      rw [h3, q_ob, q_lt]
      dsimp only
      by_cases x : q = L
      · have ic : m_X5_isComplete (sh 3 (pu 3 3 v c')) = some 0 := by
          have a := h5 x
          unfold m_X5_isComplete at a ⊢
          rw [sh_e, pu_i (by omega) (by omega)]
          exact a
        rw [if_neg (show ¬ nI q < pu 3 3 v c' 0 7 by rw [hV1.2.1]; exact nI_nlt (by omega) (by omega)), ic, q_ob, if_pos rfl]
      · rw [if_pos (show nI q < pu 3 3 v c' 0 7 by rw [hV1.2.1]; exact nI_lt (by omega) (by omega))]
    · unfold m_X9_obey
      rw [q_lt, e1, q_ob, q_lt]
      rfl
