/-! BEGINS: write, erase, lock -/
def AC (B : Nat) (w : xSt) (m : Option (Int32 × xSt)) : Prop := ∃ v' w', m = some (1, v') ∧ (EQ w w' ∨ SV w w') ∧ J B v' w'
theorem wS_5 {σ : Nat → Int32} {a m e : Nat} : wS σ a m e 581 = nI 1 ∧ wS σ a m e 582 = nI a ∧ wS σ a m e 583 = nI 0 ∧ wS σ a m e 584 = nI (mn m 8 * e) ∧ wS σ a m e 586 = -1 ∧ wS σ a m e 552 = 0 ∧ wS σ a m e 567 = nI 0 := by
  have := (mn8 m).1
  unfold wS bW
  refine ⟨?_, ?_, ?_, ?_, ?_, ?_, ?_⟩
  all_goals simp (disch := omega) only [va_up_ne, va_up_self, fl_o, fl_i]
theorem bE_5 {σ : Nat → Int32} {s : Nat} {u t : Int32} : bE σ s u t 581 = nI 2 ∧ bE σ s u t 582 = nI s ∧ bE σ s u t 583 = nI 0 ∧ bE σ s u t 584 = t ∧ bE σ s u t 586 = u := by
  unfold bE
  refine ⟨?_, ?_, ?_, ?_, ?_⟩
  all_goals simp (disch := omega) only [va_up_ne, va_up_self, fl_o, fl_i]
theorem bL_5 {σ : Nat → Int32} {l d : Int32} : bL σ l d 581 = nI 3 ∧ bL σ l d 582 = l ∧ bL σ l d 583 = nI 0 ∧ bL σ l d 584 = σ 559 ∧ bL σ l d 586 = -1 := by
  unfold bL
  refine ⟨?_, ?_, ?_, ?_, ?_⟩
  all_goals simp (disch := omega) only [va_up_ne, va_up_self, fl_o, fl_i]
theorem wF_1 {σ : Nat → Int32} {b : Nat} {x : Int32} {k : Nat} (h : σ b = nI (k + 1)) (hk : k < 10) (g : σ (b + 1) = x) : wF σ b 1 = x := by
  unfold wF
  rw [if_neg (by omega), if_pos rfl, if_neg (by rw [h]; exact nI_ne0 (by omega) (by omega)), g]
theorem wF_3 {σ : Nat → Int32} {b : Nat} {x : Int32} {k : Nat} (h : σ b = nI (k + 1)) (hk : k < 10) (g : σ (b + 5) = x) : wF σ b 3 = x := by
  unfold wF
  rw [if_neg (by omega), if_neg (by omega), if_neg (by omega), if_pos rfl, if_neg (by rw [h]; exact nI_ne0 (by omega) (by omega)), g]
theorem s0 (x : Int32) : x - nI 0 = x := Int32.sub_zero x
theorem xw4 : ∀ c, c < 5 → ¬ xwi (nI c) 0 4 = 0 := by decide
theorem xw7 : ∀ c, c < 8 → ¬ xwi (nI c) 0 7 = 0 := by decide
theorem a_01 : (0 : Int32) + 1 = 1 := by decide
theorem a_11 : (1 : Int32) + 1 = 2 := by decide
theorem a_21 : (2 : Int32) + 1 = 3 := by decide
theorem m_8 {w : xSt} {m : Nat} (hm : w 1 567 = nI m) (hm1 : m ≤ 12) (f : Int32 → Option (Int32 × xSt)) : (if w 1 567 ≤ (8 : Int32) then ob (some (w 1 567)) (fun r73 => f r73) else f (8 : Int32)) = f (nI (mn m 8)) := by
  rw [q_ob, hm]
  unfold mn
  by_cases h : m < 8
  · rw [if_pos h, if_pos (show nI m ≤ (8 : Int32) from nI_le (b := 8) (by omega) (by omega))]
  · rw [if_neg h]
    by_cases h2 : m = 8
    · subst h2
      rw [if_pos (show nI 8 ≤ (8 : Int32) by decide)]
    · rw [if_neg (show ¬ nI m ≤ (8 : Int32) from nI_ge (a := 8) (b := m) (by omega) (by omega))]
      rfl
set_option maxHeartbeats 1000000 in
theorem t_beg0 {B : Nat} {v w : xSt} (hJ : J B v w) (hB : B < 16000000) (p : Int32) : AC B w (m_L_begins v (0 : Int32) p) := by
  have H := hJ.1
  obtain ⟨c, c1, c2⟩ := lo (n := 257) p (by omega) (by omega)
  obtain ⟨d, d1, d2⟩ := lo (n := 3) (p >>> ((9 : Int32) &&& 31)) (by omega) (by omega)
  obtain ⟨m, m1, m2, m4, m5⟩ := RLd_f H.1.1.2.2.2.1
  replace m4 : w 1 567 = nI m := m4
  by_cases hc : c = 256
  · obtain ⟨v', w', h1, h2, h3⟩ : NO B w (m_L_write v (nI c)) (-101) := by
      rcases D_write hJ (p := nI c) with ⟨-, h⟩ | ⟨a, j, a1, a2, -⟩
      · exact h
      · have := (nI_eq (by omega) (by omega)).mp a2
        omega
    refine ⟨v', w', ?_, Or.inl h2, h3⟩
    unfold m_L_begins
    rw [a_01]
    refine l_n (fun j2 e2 => ?_)
    rw [if_pos rfl, show m_L_low p (257 : Int32) = some (nI c) from c2, q_ob, e2]
    dsimp only
    clear e2
    rw [show m_L_low (p >>> ((9 : Int32) &&& 31)) (3 : Int32) = some (nI d) from d2, q_ob]
    refine l_n (fun j6 e6 => ?_)
    rw [if_pos rfl]
    rw [if_pos (show nI c = (256 : Int32) by rw [hc]; rfl), e6]
    dsimp only
    clear e6
    refine l_n (fun j8 e8 => ?_)
    rw [if_neg (by decide), e8]
    dsimp only
    clear e8
    rw [c_11 H, q_ob]
    refine l_n (fun j12 e12 => ?_)
    rw [m_8 m4 m1, e12]
    dsimp only
    clear e12
    refine l_n (fun j15 e15 => ?_)
    rw [if_neg (by decide), e15]
    dsimp only
    clear e15
    refine l_n (fun j18 e18 => ?_)
    rw [if_pos rfl, h1, q_ob]
    dsimp only
    rw [q_lt, e18]
    dsimp only
    clear e18
    rw [if_neg (by decide)]
    refine l_n (fun j46 e46 => ?_)
    rw [if_neg (by decide), e46]
    dsimp only
    rw [if_pos rfl]
  · obtain ⟨j, y1, y2, y3, -⟩ := why_n H (k := 1) (p := nI c) (by decide) ⟨xwi (nI c) 0 255, by unfold m_X8_isPlace; rw [if_pos rfl], by rw [xw255 c (by omega)]; decide⟩
    have key : (¬ j = 0 ∧ NO B w (m_L_write v (nI c)) (-103)) ∨ (j = 0 ∧ ∃ t, t = nI (mn m 8) * w 1 556 ∧ ∃ v' w', m_L_write v (nI c) = some (t, v') ∧ SV w w' ∧ (w' 1 581 = nI 1 ∧ w' 1 582 = nI c ∧ w' 1 583 = nI 0 ∧ w' 1 584 = t ∧ w' 1 586 = -1 ∧ w' 1 552 = 0 ∧ w' 1 567 = nI 0) ∧ J B v' w') := by
      rcases D_write hJ (p := nI c) with ⟨h, -⟩ | ⟨a, j', a1, a2, a3, a4, a5⟩
      · rw [xw255 c (by omega)] at h
        exact absurd h (by decide)
      obtain rfl : c = a := (nI_eq (by omega) (by omega)).mp a2
      obtain rfl : j = j' := (nI_eq (by omega) (by omega)).mp (Option.some.inj ((show _ = some (nI j) from y3).symm.trans a4))
      rcases a5 with a5 | ⟨a5, m', e, b1, b2, b3, b4, b5, b6, v', w', g1, g2, g3, g4⟩
      · exact Or.inl a5
      · obtain rfl : m = m' := (nI_eq (by omega) (by omega)).mp (m4.symm.trans b3)
        refine Or.inr ⟨a5, _, rfl, v', w', by rw [g1, b6, pk_mul], g2, ?_, g4⟩
        rw [g3, b6, pk_mul]
        exact wS_5
    rcases key with ⟨k0, v', w', h1, h2, h3⟩ | ⟨rfl, t, ht, v', w', h1, h2, ⟨w0, w1, w2, w3, w4, w5, w6⟩, h3⟩
    · refine ⟨v', w', ?_, Or.inl h2, h3⟩
      unfold m_L_begins
      rw [a_01]
      refine l_n (fun j2 e2 => ?_)
      rw [if_pos rfl, show m_L_low p (257 : Int32) = some (nI c) from c2, q_ob, e2]
      dsimp only
      clear e2
      rw [show m_L_low (p >>> ((9 : Int32) &&& 31)) (3 : Int32) = some (nI d) from d2, q_ob]
      refine l_n (fun j6 e6 => ?_)
      rw [if_pos rfl]
      rw [if_neg (show ¬ nI c = (256 : Int32) from fun e => hc ((nI_eq (by omega) (by omega)).mp (show nI c = nI 256 from e))), e6]
      dsimp only
      clear e6
      refine l_n (fun j8 e8 => ?_)
      rw [if_pos rfl, y2, q_ob, e8]
      dsimp only
      clear e8
      rw [c_11 H, q_ob]
      refine l_n (fun j12 e12 => ?_)
      rw [m_8 m4 m1, e12]
      dsimp only
      clear e12
      refine l_n (fun j15 e15 => ?_)
      rw [if_pos rfl, if_pos rfl, show m_X8_setting_n v (0 : Int32) = some (w 1 556, v) from s_F H (j := 0) (by omega), q_ob]
      dsimp only
      rw [q_lt, e15]
      dsimp only
      clear e15
      refine l_n (fun j18 e18 => ?_)
      rw [if_pos rfl, h1, q_ob]
      dsimp only
      rw [q_lt, e18]
      dsimp only
      clear e18
      rw [if_pos rfl]
      rw [if_neg (nI_nle (by omega) (by omega)), if_pos rfl]
    · have G := h3.1
      refine ⟨v', w', ?_, Or.inr h2, h3⟩
      unfold m_L_begins
      rw [a_01]
      refine l_n (fun j2 e2 => ?_)
      rw [if_pos rfl, show m_L_low p (257 : Int32) = some (nI c) from c2, q_ob, e2]
      dsimp only
      clear e2
      rw [show m_L_low (p >>> ((9 : Int32) &&& 31)) (3 : Int32) = some (nI d) from d2, q_ob]
      refine l_n (fun j6 e6 => ?_)
      rw [if_pos rfl]
      rw [if_neg (show ¬ nI c = (256 : Int32) from fun e => hc ((nI_eq (by omega) (by omega)).mp (show nI c = nI 256 from e))), e6]
      dsimp only
      clear e6
      refine l_n (fun j8 e8 => ?_)
      rw [if_pos rfl, y2, q_ob, e8]
      dsimp only
      clear e8
      rw [c_11 H, q_ob]
      refine l_n (fun j12 e12 => ?_)
      rw [m_8 m4 m1, e12]
      dsimp only
      clear e12
      refine l_n (fun j15 e15 => ?_)
      rw [if_pos rfl, if_pos rfl, show m_X8_setting_n v (0 : Int32) = some (w 1 556, v) from s_F H (j := 0) (by omega), q_ob]
      dsimp only
      rw [q_lt, e15]
      dsimp only
      clear e15
      refine l_n (fun j18 e18 => ?_)
      rw [if_pos rfl, h1, q_ob]
      dsimp only
      rw [q_lt, e18]
      dsimp only
      clear e18
      rw [if_pos rfl]
      rw [if_pos (show nI 0 ≤ 0 by decide)]
      refine l_n (fun j21 e21 => ?_)
      clear e21
      rw [if_pos ht, k_00 G, q_ob, if_pos (show w' 1 581 = (1 : Int32) from w0), k_01 G, q_ob, if_pos (wF_1 (k := 0) w0 (by omega) w1), k_02 G, q_ob, if_pos (show w' 1 584 - w' 1 583 = nI (mn m 8) * w 1 556 by rw [w3, w2, s0]; exact ht), k_03 G, q_ob, if_pos (wF_3 (k := 0) w0 (by omega) w4), c_1 G, q_ob, if_pos w5]
      refine l_n (fun j38 e38 => ?_)
      rw [if_neg (by decide), c_11 G, q_ob, if_pos (show w' 1 567 = 0 from w6), e38]
set_option maxHeartbeats 1000000 in
theorem t_beg1 {B : Nat} {v w : xSt} (hJ : J B v w) (hB : B < 16000000) (p : Int32) : AC B w (m_L_begins v (1 : Int32) p) := by
  have H := hJ.1
  obtain ⟨c, c1, c2⟩ := lo (n := 9) p (by omega) (by omega)
  obtain ⟨d, d1, d2⟩ := lo (n := 3) (p >>> ((9 : Int32) &&& 31)) (by omega) (by omega)
  obtain ⟨m, m1, m2, m4, m5⟩ := RLd_f H.1.1.2.2.2.1
  replace m4 : w 1 567 = nI m := m4
  by_cases hc : c = 8
  · obtain ⟨v', w', h1, h2, h3⟩ : NO B w (m_L_erase v (nI c)) (-101) := by
      rcases D_erase hJ hB (p := nI c) with ⟨-, h⟩ | ⟨a, j, a1, a2, -⟩
      · exact h
      · have := (nI_eq (by omega) (by omega)).mp a2
        omega
    refine ⟨v', w', ?_, Or.inl h2, h3⟩
    unfold m_L_begins
    rw [a_11]
    refine l_n (fun j2 e2 => ?_)
    rw [if_neg (by decide), if_pos rfl, show m_L_low p (9 : Int32) = some (nI c) from c2, q_ob, e2]
    dsimp only
    clear e2
    rw [show m_L_low (p >>> ((9 : Int32) &&& 31)) (3 : Int32) = some (nI d) from d2, q_ob]
    refine l_n (fun j6 e6 => ?_)
    rw [if_neg (by decide), if_pos rfl]
    rw [if_pos (show nI c = (8 : Int32) by rw [hc]; rfl), e6]
    dsimp only
    clear e6
    refine l_n (fun j8 e8 => ?_)
    rw [if_neg (by decide), e8]
    dsimp only
    clear e8
    rw [c_11 H, q_ob]
    refine l_n (fun j12 e12 => ?_)
    rw [m_8 m4 m1, e12]
    dsimp only
    clear e12
    refine l_n (fun j15 e15 => ?_)
    rw [if_neg (by decide), e15]
    dsimp only
    clear e15
    refine l_n (fun j18 e18 => ?_)
    rw [if_neg (by decide), if_pos rfl, h1, q_ob]
    dsimp only
    rw [q_lt, e18]
    dsimp only
    clear e18
    rw [if_neg (by decide)]
    refine l_n (fun j46 e46 => ?_)
    rw [if_neg (by decide), e46]
    dsimp only
    rw [if_pos rfl]
  · obtain ⟨j, y1, y2, y3, -⟩ := why_n H (k := 2) (p := nI c) (by decide) ⟨xwi (nI c) 0 7, by unfold m_X8_isPlace; rw [if_neg (by decide), if_pos rfl], xw7 c (by omega)⟩
    have key : (¬ j = 0 ∧ NO B w (m_L_erase v (nI c)) (-103)) ∨ (j = 0 ∧ ∃ t, t = 4 + w 1 557 + w 1 (544 + c) / 4 ∧ ∃ v' w', m_L_erase v (nI c) = some (t, v') ∧ SV w w' ∧ (w' 1 581 = nI 2 ∧ w' 1 582 = nI c ∧ w' 1 583 = nI 0 ∧ w' 1 584 = t ∧ w' 1 586 = -1 ∧ w' 1 552 = 0) ∧ J B v' w') := by
      rcases D_erase hJ hB (p := nI c) with ⟨h, -⟩ | ⟨a, j', a1, a2, a3, a4, a5⟩
      · exact absurd h (xw7 c (by omega))
      obtain rfl : c = a := (nI_eq (by omega) (by omega)).mp a2
      obtain rfl : j = j' := (nI_eq (by omega) (by omega)).mp (Option.some.inj ((show _ = some (nI j) from y3).symm.trans a4))
      rcases a5 with a5 | ⟨a5, v', w', g1, g2, g3, g4⟩
      · exact Or.inl a5
      · refine Or.inr ⟨a5, _, rfl, v', w', g1, g2, ?_, g4⟩
        rw [g3]
        obtain ⟨q1, q2, q3, q4, q5⟩ := bE_5 (σ := va_up (w 1) 552 0) (s := c) (u := -1) (t := 4 + w 1 557 + w 1 (544 + c) / 4)
        exact ⟨q1, q2, q3, q4, q5, by rw [bE_o (by omega), va_up_self]⟩
    rcases key with ⟨k0, v', w', h1, h2, h3⟩ | ⟨rfl, t, ht, v', w', h1, h2, ⟨w0, w1, w2, w3, w4, w5⟩, h3⟩
    · refine ⟨v', w', ?_, Or.inl h2, h3⟩
      unfold m_L_begins
      rw [a_11]
      refine l_n (fun j2 e2 => ?_)
      rw [if_neg (by decide), if_pos rfl, show m_L_low p (9 : Int32) = some (nI c) from c2, q_ob, e2]
      dsimp only
      clear e2
      rw [show m_L_low (p >>> ((9 : Int32) &&& 31)) (3 : Int32) = some (nI d) from d2, q_ob]
      refine l_n (fun j6 e6 => ?_)
      rw [if_neg (by decide), if_pos rfl]
      rw [if_neg (show ¬ nI c = (8 : Int32) from fun e => hc ((nI_eq (by omega) (by omega)).mp (show nI c = nI 8 from e))), e6]
      dsimp only
      clear e6
      refine l_n (fun j8 e8 => ?_)
      rw [if_pos rfl, y2, q_ob, e8]
      dsimp only
      clear e8
      rw [c_11 H, q_ob]
      refine l_n (fun j12 e12 => ?_)
      rw [m_8 m4 m1, e12]
      dsimp only
      clear e12
      refine l_n (fun j15 e15 => ?_)
      rw [if_pos rfl, if_neg (by decide), if_pos rfl, d_5 H hB (show c < 8 by omega), q_ob, e15]
      dsimp only
      clear e15
      refine l_n (fun j18 e18 => ?_)
      rw [if_neg (by decide), if_pos rfl, h1, q_ob]
      dsimp only
      rw [q_lt, e18]
      dsimp only
      clear e18
      rw [if_pos rfl]
      rw [if_neg (nI_nle (by omega) (by omega)), if_pos rfl]
    · have G := h3.1
      refine ⟨v', w', ?_, Or.inr h2, h3⟩
      unfold m_L_begins
      rw [a_11]
      refine l_n (fun j2 e2 => ?_)
      rw [if_neg (by decide), if_pos rfl, show m_L_low p (9 : Int32) = some (nI c) from c2, q_ob, e2]
      dsimp only
      clear e2
      rw [show m_L_low (p >>> ((9 : Int32) &&& 31)) (3 : Int32) = some (nI d) from d2, q_ob]
      refine l_n (fun j6 e6 => ?_)
      rw [if_neg (by decide), if_pos rfl]
      rw [if_neg (show ¬ nI c = (8 : Int32) from fun e => hc ((nI_eq (by omega) (by omega)).mp (show nI c = nI 8 from e))), e6]
      dsimp only
      clear e6
      refine l_n (fun j8 e8 => ?_)
      rw [if_pos rfl, y2, q_ob, e8]
      dsimp only
      clear e8
      rw [c_11 H, q_ob]
      refine l_n (fun j12 e12 => ?_)
      rw [m_8 m4 m1, e12]
      dsimp only
      clear e12
      refine l_n (fun j15 e15 => ?_)
      rw [if_pos rfl, if_neg (by decide), if_pos rfl, d_5 H hB (show c < 8 by omega), q_ob, e15]
      dsimp only
      clear e15
      refine l_n (fun j18 e18 => ?_)
      rw [if_neg (by decide), if_pos rfl, h1, q_ob]
      dsimp only
      rw [q_lt, e18]
      dsimp only
      clear e18
      rw [if_pos rfl]
      rw [if_pos (show nI 0 ≤ 0 by decide)]
      refine l_n (fun j21 e21 => ?_)
      clear e21
      rw [if_pos ht, k_00 G, q_ob, if_pos (show w' 1 581 = (2 : Int32) from w0), k_01 G, q_ob, if_pos (wF_1 (k := 1) w0 (by omega) w1), k_02 G, q_ob, if_pos (show w' 1 584 - w' 1 583 = 4 + w 1 557 + w 1 (544 + c) / 4 by rw [w3, w2, s0]; exact ht), k_03 G, q_ob, if_pos (wF_3 (k := 1) w0 (by omega) w4), c_1 G, q_ob, if_pos w5]
      refine l_n (fun j38 e38 => ?_)
      rw [if_pos (by decide), e38]
set_option maxHeartbeats 1000000 in
theorem t_beg2 {B : Nat} {v w : xSt} (hJ : J B v w) (hB : B < 16000000) (p : Int32) : AC B w (m_L_begins v (2 : Int32) p) := by
  have H := hJ.1
  obtain ⟨c, c1, c2⟩ := lo (n := 6) p (by omega) (by omega)
  obtain ⟨d, d1, d2⟩ := lo (n := 3) (p >>> ((9 : Int32) &&& 31)) (by omega) (by omega)
  obtain ⟨m, m1, m2, m4, m5⟩ := RLd_f H.1.1.2.2.2.1
  replace m4 : w 1 567 = nI m := m4
  by_cases hc : c = 5 ∨ d = 2
  · obtain ⟨v', w', h1, h2, h3⟩ : NO B w (m_L_lock v (nI c) (nI d)) (-102) := by
      rcases D_lock hJ (p := nI c) (s := nI d) with ⟨-, h⟩ | ⟨a, b, j, a1, a2, b1, b2, -⟩
      · exact h
      · have := (nI_eq (by omega) (by omega)).mp a2
        have := (nI_eq (by omega) (by omega)).mp b2
        omega
    refine ⟨v', w', ?_, Or.inl h2, h3⟩
    unfold m_L_begins
    rw [a_21]
    refine l_n (fun j2 e2 => ?_)
    rw [if_neg (by decide), if_neg (by decide), show m_L_low p (6 : Int32) = some (nI c) from c2, q_ob, e2]
    dsimp only
    clear e2
    rw [show m_L_low (p >>> ((9 : Int32) &&& 31)) (3 : Int32) = some (nI d) from d2, q_ob]
    refine l_n (fun j6 e6 => ?_)
    rw [if_neg (by decide), if_neg (by decide)]
    refine l_n (fun j79 e79 => ?_)
    have h79 : (if nI c = (5 : Int32) then j79 () else (if nI d = (2 : Int32) then j79 () else j6 (0 : Int32))) = j6 1 := by
      rw [e79]
      by_cases q : c = 5
      · rw [if_pos (show nI c = (5 : Int32) by rw [q]; rfl)]
      · rw [if_neg (show ¬ nI c = (5 : Int32) from fun e => q ((nI_eq (by omega) (by omega)).mp (show nI c = nI 5 from e))), if_pos (show nI d = (2 : Int32) by rw [hc.resolve_left q]; rfl)]
    rw [h79]
    clear h79 e79
    rw [e6]
    dsimp only
    clear e6
    refine l_n (fun j8 e8 => ?_)
    rw [if_neg (by decide), e8]
    dsimp only
    clear e8
    rw [c_11 H, q_ob]
    refine l_n (fun j12 e12 => ?_)
    rw [m_8 m4 m1, e12]
    dsimp only
    clear e12
    refine l_n (fun j15 e15 => ?_)
    rw [if_neg (by decide), e15]
    dsimp only
    clear e15
    refine l_n (fun j18 e18 => ?_)
    rw [if_neg (by decide), if_neg (by decide), h1, q_ob]
    dsimp only
    rw [q_lt, e18]
    dsimp only
    clear e18
    rw [if_neg (by decide)]
    refine l_n (fun j46 e46 => ?_)
    rw [if_pos rfl, e46]
    dsimp only
    rw [if_pos rfl]
  · obtain ⟨j, y1, y2, y3, -⟩ := why_n H (k := 3) (p := nI c) (by decide) ⟨xwi (nI c) 0 4, by unfold m_X8_isPlace; rw [if_neg (by decide), if_neg (by decide)], xw4 c (by omega)⟩
    have key : (¬ j = 0 ∧ NO B w (m_L_lock v (nI c) (nI d)) (-103)) ∨ (j = 0 ∧ ∃ t, t = w 1 559 ∧ ∃ v' w', m_L_lock v (nI c) (nI d) = some (t, v') ∧ SV w w' ∧ (w' 1 581 = nI 3 ∧ w' 1 582 = nI c ∧ w' 1 583 = nI 0 ∧ w' 1 584 = t ∧ w' 1 586 = -1 ∧ w' 1 552 = 0) ∧ J B v' w') := by
      rcases D_lock hJ (p := nI c) (s := nI d) with ⟨h, -⟩ | ⟨a, b, j', a1, a2, b1, b2, a3, a4, a5⟩
      · rcases h with h | h
        · exact absurd h (xw4 c (by omega))
        · have x1 : ∀ d, d < 2 → ¬ xwi (nI d) 0 1 = 0 := by decide
          exact absurd h (x1 d (by omega))
      obtain rfl : c = a := (nI_eq (by omega) (by omega)).mp a2
      obtain rfl : d = b := (nI_eq (by omega) (by omega)).mp b2
      obtain rfl : j = j' := (nI_eq (by omega) (by omega)).mp (Option.some.inj ((show _ = some (nI j) from y3).symm.trans a4))
      rcases a5 with a5 | ⟨a5, v', w', g1, g2, g3, g4⟩
      · exact Or.inl a5
      · refine Or.inr ⟨a5, _, rfl, v', w', g1, g2, ?_, g4⟩
        rw [g3]
        obtain ⟨q1, q2, q3, q4, q5⟩ := bL_5 (σ := va_up (w 1) 552 0) (l := nI c) (d := nI d)
        exact ⟨q1, q2, q3, by rw [q4, va_up_ne _ _ (by omega)], q5, by rw [bL_o (by omega), va_up_self]⟩
    rcases key with ⟨k0, v', w', h1, h2, h3⟩ | ⟨rfl, t, ht, v', w', h1, h2, ⟨w0, w1, w2, w3, w4, w5⟩, h3⟩
    · refine ⟨v', w', ?_, Or.inl h2, h3⟩
      unfold m_L_begins
      rw [a_21]
      refine l_n (fun j2 e2 => ?_)
      rw [if_neg (by decide), if_neg (by decide), show m_L_low p (6 : Int32) = some (nI c) from c2, q_ob, e2]
      dsimp only
      clear e2
      rw [show m_L_low (p >>> ((9 : Int32) &&& 31)) (3 : Int32) = some (nI d) from d2, q_ob]
      refine l_n (fun j6 e6 => ?_)
      rw [if_neg (by decide), if_neg (by decide)]
      refine l_n (fun j79 e79 => ?_)
      rw [if_neg (show ¬ nI c = (5 : Int32) from fun e => hc (Or.inl ((nI_eq (by omega) (by omega)).mp (show nI c = nI 5 from e)))), if_neg (show ¬ nI d = (2 : Int32) from fun e => hc (Or.inr ((nI_eq (by omega) (by omega)).mp (show nI d = nI 2 from e))))]
      clear e79
      rw [e6]
      dsimp only
      clear e6
      refine l_n (fun j8 e8 => ?_)
      rw [if_pos rfl, y2, q_ob, e8]
      dsimp only
      clear e8
      rw [c_11 H, q_ob]
      refine l_n (fun j12 e12 => ?_)
      rw [m_8 m4 m1, e12]
      dsimp only
      clear e12
      refine l_n (fun j15 e15 => ?_)
      rw [if_pos rfl, if_neg (by decide), if_neg (by decide), show m_X8_setting_n v (3 : Int32) = some (w 1 559, v) from s_F H (j := 3) (by omega), q_ob]
      dsimp only
      rw [q_lt, e15]
      dsimp only
      clear e15
      refine l_n (fun j18 e18 => ?_)
      rw [if_neg (by decide), if_neg (by decide), h1, q_ob]
      dsimp only
      rw [q_lt, e18]
      dsimp only
      clear e18
      rw [if_pos rfl]
      rw [if_neg (nI_nle (by omega) (by omega)), if_pos rfl]
    · have G := h3.1
      refine ⟨v', w', ?_, Or.inr h2, h3⟩
      unfold m_L_begins
      rw [a_21]
      refine l_n (fun j2 e2 => ?_)
      rw [if_neg (by decide), if_neg (by decide), show m_L_low p (6 : Int32) = some (nI c) from c2, q_ob, e2]
      dsimp only
      clear e2
      rw [show m_L_low (p >>> ((9 : Int32) &&& 31)) (3 : Int32) = some (nI d) from d2, q_ob]
      refine l_n (fun j6 e6 => ?_)
      rw [if_neg (by decide), if_neg (by decide)]
      refine l_n (fun j79 e79 => ?_)
      rw [if_neg (show ¬ nI c = (5 : Int32) from fun e => hc (Or.inl ((nI_eq (by omega) (by omega)).mp (show nI c = nI 5 from e)))), if_neg (show ¬ nI d = (2 : Int32) from fun e => hc (Or.inr ((nI_eq (by omega) (by omega)).mp (show nI d = nI 2 from e))))]
      clear e79
      rw [e6]
      dsimp only
      clear e6
      refine l_n (fun j8 e8 => ?_)
      rw [if_pos rfl, y2, q_ob, e8]
      dsimp only
      clear e8
      rw [c_11 H, q_ob]
      refine l_n (fun j12 e12 => ?_)
      rw [m_8 m4 m1, e12]
      dsimp only
      clear e12
      refine l_n (fun j15 e15 => ?_)
      rw [if_pos rfl, if_neg (by decide), if_neg (by decide), show m_X8_setting_n v (3 : Int32) = some (w 1 559, v) from s_F H (j := 3) (by omega), q_ob]
      dsimp only
      rw [q_lt, e15]
      dsimp only
      clear e15
      refine l_n (fun j18 e18 => ?_)
      rw [if_neg (by decide), if_neg (by decide), h1, q_ob]
      dsimp only
      rw [q_lt, e18]
      dsimp only
      clear e18
      rw [if_pos rfl]
      rw [if_pos (show nI 0 ≤ 0 by decide)]
      refine l_n (fun j21 e21 => ?_)
      clear e21
      rw [if_pos ht, k_00 G, q_ob, if_pos (show w' 1 581 = (3 : Int32) from w0), k_01 G, q_ob, if_pos (wF_1 (k := 2) w0 (by omega) w1), k_02 G, q_ob, if_pos (show w' 1 584 - w' 1 583 = w 1 559 by rw [w3, w2, s0]; exact ht), k_03 G, q_ob, if_pos (wF_3 (k := 2) w0 (by omega) w4), c_1 G, q_ob, if_pos w5]
      refine l_n (fun j38 e38 => ?_)
      rw [if_pos (by decide), e38]
