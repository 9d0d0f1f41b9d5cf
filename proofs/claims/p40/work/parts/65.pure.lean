/-! THE METHODS, both sides: arm to set -/
theorem RBC_b {B B' : Nat} {v w : xSt} (H : RBC B v w) (hB : B ≤ B') : RBC B' v w := RBC_now H hB (fun _ _ _ => rfl) (fun _ _ => rfl) (fun _ _ _ => rfl) (fun _ _ => rfl) (RR_b H.1 hB)
theorem RBC_c {B : Nat} {v v' w w' : xSt} (H : RBC B v w) (gv : ∀ j, j < 430 → v' j = v j) (gw : ∀ j, j < 6 → w' j = w j) : RBC B v' w' := RBC_now H (Nat.le_refl _) (fun j h _ => gv j h) (fun k _ => by rw [gv 0 (by omega)]) (fun j _ h => gw j h) (fun k _ => by rw [gw 0 (by omega)]) (by rw [gw 1 (by omega)]; exact RR_v H.1 (fun j hj => gv (7 + j) (by omega)))
def MN (B : Nat) (a b : Option (Int32 × xSt)) : Prop := ∃ z v' w', a = some (z, v') ∧ b = some (z, w') ∧ w' 0 8 = 0 ∧ RBC B v' w'
def MO (B : Nat) (v : xSt) (a : Option Int32) (b : Option (Int32 × xSt)) : Prop := ∃ z w', a = some z ∧ b = some (z, w') ∧ w' 0 8 = 0 ∧ RBC B v w'
def MT (B : Nat) (a : Option (String × xSt)) (E : String) (k : Int32) (b : Option (Int32 × xSt)) : Prop := ∃ v' z w', a = some (E, v') ∧ b = some (z, w') ∧ w' 0 8 = k ∧ RBC B v' w'
/-- the reference's beginning: thrown = 0 -/
theorem w1_s (w : xSt) : va_up (st2 w 0 8 0) 1 (w 1) = st2 w 0 8 0 := by
  have : (st2 w 0 8 0) 1 = w 1 := q_sn (by omega)
  rw [← this]
  exact va_up_id
theorem RBC_1 {B : Nat} {v w : xSt} {x : Int32} (H : RBC B v w) : RBC B v (st2 w 0 8 x) := RBC_w H (fun j hj => q_sn (by omega)) (fun k hk => by rw [q_ss, va_up_ne _ _ (by omega)])
theorem w1_8 (w : xSt) (x : Int32) : (st2 w 0 8 x) 0 8 = x := by rw [q_ss, va_up_self]
theorem w1_1 (w : xSt) (x : Int32) : (st2 w 0 8 x) 1 = w 1 := q_sn (by omega)
theorem MT_f {B : Nat} {v w : xSt} {a : Option (String × xSt)} {b : Option (Int32 × xSt)} {E : String} {k : Int32} (H : RBC B v w) (ha : a = some (E, v)) (hb : b = ob (m_X9_fails (st2 w 0 8 0) k) (fun r => lt r.2 (fun v => some (r.1, v)))) : MT B a E k b := by
  refine ⟨v, 0, st2 (st2 w 0 8 0) 0 8 k, ha, ?_, w1_8 _ _, RBC_1 (RBC_1 H)⟩
  rw [hb]
  rfl
theorem s_busy {B : Nat} {v : xSt} {σ : Nat → Int32} (H : R0 B v σ) : (m_X6_isBusy v = some 0 ∧ σ 581 = 0 ∧ ∀ w, m_X9_isBusy (va_up w 1 σ) = some 0) ∨ (m_X6_isBusy v = some 1 ∧ ∀ w, m_X9_isBusy (va_up w 1 σ) = some 1) := by
  rcases H.2.2.2.2.1.2 with hu | ⟨k, d, t, p, b1, b2, b3, b4, b5⟩
  · left
    refine ⟨?_, hu.1, fun w => r_busy0 hu.1⟩
    unfold m_X6_isBusy
    rw [if_pos hu.2.1]
  · right
    refine ⟨?_, fun w => r_busy1 b3 (by omega) b2⟩
    unfold m_X6_isBusy
    rw [if_neg (by rw [b4]; exact nI_ne0 (by omega) (by omega))]
/-- small changes of a state -/
theorem RR_arm {B : Nat} {v v' : xSt} {σ : Nat → Int32} {x : Int32} (H : RR B v σ) (hx : x = 0 ∨ x = 1) (g0 : v' 0 = va_up (v 0) 7 x) (gv : ∀ j, 1 ≤ j → j < 47 → v' j = v j) : RR B v' (va_up σ 552 x) := by
  obtain ⟨⟨h1, h2, h3, h4, h5, h6, h7, h8⟩, h9⟩ := H
  have g : ∀ k, k ≠ 552 → va_up σ 552 x k = σ k := fun k hk => va_up_ne _ _ hk
  refine ⟨⟨?_, ?_, ?_, ?_, ?_, ?_, ?_, ?_⟩, ?_⟩
  · obtain ⟨a1, a2, a3, a4, a5, a6⟩ := h1
    rw [g0]
    refine ⟨by rw [va_up_self, va_up_self], by rw [va_up_self]; exact hx, ?_, ?_, ?_, ?_⟩
    · rw [va_up_ne _ _ (by omega), g 562 (by omega)]; exact a3
    · rw [va_up_ne _ _ (by omega), g 563 (by omega)]; exact a4
    · rw [va_up_ne _ _ (by omega), g 564 (by omega)]; exact a5
    · rw [va_up_ne _ _ (by omega), g 565 (by omega)]; exact a6
  · rw [gv 1 (by omega) (by omega), gv 2 (by omega) (by omega), gv 3 (by omega) (by omega), gv 4 (by omega) (by omega)]
    exact RCell_c h2 (fun k hk => g k (by omega))
  · rw [gv 5 (by omega) (by omega)]
    exact RLk_c h3 (fun k hk hk2 => g k (by omega)) (fun _ _ => rfl)
  · rw [gv 6 (by omega) (by omega), gv 7 (by omega) (by omega)]
    exact RLd_c h4 (fun k hk hk2 => g k (by omega)) (fun _ _ => rfl)
  · rw [gv 8 (by omega) (by omega), gv 9 (by omega) (by omega), gv 10 (by omega) (by omega)]
    exact RWk_c h5 (fun k hk => g _ (by omega)) (fun _ _ => rfl) (fun _ _ => rfl)
  · rw [gv 11 (by omega) (by omega), gv 12 (by omega) (by omega), gv 13 (by omega) (by omega)]
    exact RWk_c h6 (fun k hk => g _ (by omega)) (fun _ _ => rfl) (fun _ _ => rfl)
  · exact RLn_c h7 (Nat.le_refl _) (fun k hk => g k (by omega)) (fun j hj hj2 => gv j (by omega) (by omega))
  · rw [gv 46 (by omega) (by omega)]
    exact RSt_c h8 (fun k hk hk2 => g k (by omega)) (fun _ _ => rfl)
  · rw [g0, va_up_ne _ _ (by omega), g 561 (by omega)]
    exact h9
theorem RR_lck {B : Nat} {v v' : xSt} {σ τ : Nat → Int32} (H : RR B v σ) (g : ∀ k, (k < 553 ∨ 556 ≤ k) → τ k = σ k) (gv : ∀ j, j < 47 → j ≠ 5 → v' j = v j) (hl : RLk (v' 5) τ) : RR B v' τ := by
  obtain ⟨⟨h1, h2, h3, h4, h5, h6, h7, h8⟩, h9⟩ := H
  refine ⟨⟨?_, ?_, hl, ?_, ?_, ?_, ?_, ?_⟩, ?_⟩
  · rw [gv 0 (by omega) (by omega)]
    exact RSc_c h1 (fun k hk => g k (by omega)) (fun _ _ => rfl)
  · rw [gv 1 (by omega) (by omega), gv 2 (by omega) (by omega), gv 3 (by omega) (by omega), gv 4 (by omega) (by omega)]
    exact RCell_c h2 (fun k hk => g k (by omega))
  · rw [gv 6 (by omega) (by omega), gv 7 (by omega) (by omega)]
    exact RLd_c h4 (fun k hk hk2 => g k (by omega)) (fun _ _ => rfl)
  · rw [gv 8 (by omega) (by omega), gv 9 (by omega) (by omega), gv 10 (by omega) (by omega)]
    exact RWk_c h5 (fun k hk => g _ (by omega)) (fun _ _ => rfl) (fun _ _ => rfl)
  · rw [gv 11 (by omega) (by omega), gv 12 (by omega) (by omega), gv 13 (by omega) (by omega)]
    exact RWk_c h6 (fun k hk => g _ (by omega)) (fun _ _ => rfl) (fun _ _ => rfl)
  · exact RLn_c h7 (Nat.le_refl _) (fun k hk => g k (by omega)) (fun j hj hj2 => gv j (by omega) (by omega))
  · rw [gv 46 (by omega) (by omega)]
    exact RSt_c h8 (fun k hk hk2 => g k (by omega)) (fun _ _ => rfl)
  · rw [gv 0 (by omega) (by omega), g 561 (by omega)]
    exact h9
theorem RR_ld {B : Nat} {v v' : xSt} {σ τ : Nat → Int32} (H : RR B v σ) (g : ∀ k, (k < 567 ∨ 580 ≤ k) → τ k = σ k) (gv : ∀ j, j < 47 → j ≠ 6 → j ≠ 7 → v' j = v j) (hl : RLd (v' 6 1) (v' 7) τ) : RR B v' τ := by
  obtain ⟨⟨h1, h2, h3, h4, h5, h6, h7, h8⟩, h9⟩ := H
  refine ⟨⟨?_, ?_, ?_, hl, ?_, ?_, ?_, ?_⟩, ?_⟩
  · rw [gv 0 (by omega) (by omega) (by omega)]
    exact RSc_c h1 (fun k hk => g k (by omega)) (fun _ _ => rfl)
  · rw [gv 1 (by omega) (by omega) (by omega), gv 2 (by omega) (by omega) (by omega), gv 3 (by omega) (by omega) (by omega), gv 4 (by omega) (by omega) (by omega)]
    exact RCell_c h2 (fun k hk => g k (by omega))
  · rw [gv 5 (by omega) (by omega) (by omega)]
    exact RLk_c h3 (fun k hk hk2 => g k (by omega)) (fun _ _ => rfl)
  · rw [gv 8 (by omega) (by omega) (by omega), gv 9 (by omega) (by omega) (by omega), gv 10 (by omega) (by omega) (by omega)]
    exact RWk_c h5 (fun k hk => g _ (by omega)) (fun _ _ => rfl) (fun _ _ => rfl)
  · rw [gv 11 (by omega) (by omega) (by omega), gv 12 (by omega) (by omega) (by omega), gv 13 (by omega) (by omega) (by omega)]
    exact RWk_c h6 (fun k hk => g _ (by omega)) (fun _ _ => rfl) (fun _ _ => rfl)
  · exact RLn_c h7 (Nat.le_refl _) (fun k hk => g k (by omega)) (fun j hj hj2 => gv j (by omega) (by omega) (by omega))
  · rw [gv 46 (by omega) (by omega) (by omega)]
    exact RSt_c h8 (fun k hk hk2 => g k (by omega)) (fun _ _ => rfl)
  · rw [gv 0 (by omega) (by omega) (by omega), g 561 (by omega)]
    exact h9
theorem RR_st {B : Nat} {v v' : xSt} {σ τ : Nat → Int32} (H : RR B v σ) (g : ∀ k, (k < 556 ∨ 561 ≤ k) → τ k = σ k) (gv : ∀ j, j < 46 → v' j = v j) (hl : RSt (v' 46) τ) : RR B v' τ := by
  obtain ⟨⟨h1, h2, h3, h4, h5, h6, h7, h8⟩, h9⟩ := H
  refine ⟨⟨?_, ?_, ?_, ?_, ?_, ?_, ?_, hl⟩, ?_⟩
  · rw [gv 0 (by omega)]
    exact RSc_c h1 (fun k hk => g k (by omega)) (fun _ _ => rfl)
  · rw [gv 1 (by omega), gv 2 (by omega), gv 3 (by omega), gv 4 (by omega)]
    exact RCell_c h2 (fun k hk => g k (by omega))
  · rw [gv 5 (by omega)]
    exact RLk_c h3 (fun k hk hk2 => g k (by omega)) (fun _ _ => rfl)
  · rw [gv 6 (by omega), gv 7 (by omega)]
    exact RLd_c h4 (fun k hk hk2 => g k (by omega)) (fun _ _ => rfl)
  · rw [gv 8 (by omega), gv 9 (by omega), gv 10 (by omega)]
    exact RWk_c h5 (fun k hk => g _ (by omega)) (fun _ _ => rfl) (fun _ _ => rfl)
  · rw [gv 11 (by omega), gv 12 (by omega), gv 13 (by omega)]
    exact RWk_c h6 (fun k hk => g _ (by omega)) (fun _ _ => rfl) (fun _ _ => rfl)
  · exact RLn_c h7 (Nat.le_refl _) (fun k hk => g k (by omega)) (fun j hj hj2 => gv j (by omega))
  · rw [gv 0 (by omega), g 561 (by omega)]
    exact h9
/-- behind a save, the state under way has changed -/
theorem MN_fin {B B' : Nat} {v w v1 w1 v2 : xSt} {τ : Nat → Int32} (H : RBC B v1 w1) (hB : B ≤ B') (gv : ∀ j, j < 430 → j = 1 ∨ j = 2 ∨ 54 ≤ j → v2 j = v1 j) (g0 : ∀ k, k = 3 ∨ k = 5 ∨ k = 7 → v2 0 k = v1 0 k) (hr : RR B' (sh 7 v2) τ) : RBC B' v2 (va_up w1 1 τ) := RBC_now H hB gv g0 (fun j h1 h2 => va_up_ne _ _ (by omega)) (fun k hk => by rw [va_up_ne _ _ (by omega)]) (by rw [va_up_self]; exact hr)
theorem b_arm {B : Nat} {v w : xSt} (H : RBC B v w) : MN B (m_X8_arm_n v) (m_X9_arm w) ∨ MT B (m_X8_arm_t v) xISE 1 (m_X9_arm w) := by
  rcases s_busy H.1.1 with ⟨c1, -, c2⟩ | ⟨c1, c2⟩
  · left
    have c3 := c2 (st2 w 0 8 0)
    rw [w1_s] at c3
    obtain ⟨v1, w1, e1, e2, HR, f1, f2, f3, f4⟩ := s_save (RBC_1 (x := 0) H)
    have hs := HR.1.1.1
    have hz : ∀ x : Int32, (x = 0 ∨ x = 1) → (if x = 0 then (0 : Int32) else 1) = x := by
      rintro x (rfl | rfl) <;> rfl
    refine ⟨w1 1 552, st2 v1 7 7 1, va_up w1 1 (va_up (w1 1) 552 1), ?_, ?_, ?_, MN_fin (v := v) (w := w) HR (Nat.le_refl _) (fun j h1 h2 => q_sn (by omega)) (fun k hk => by rw [q_sn (by omega)]) ?_⟩
    · unfold m_X8_arm_n
      rw [c1]
      simp only [q_ob]
      rw [if_pos (by decide), e1]
      simp only [q_ob, q_lt]
      have e7 : v1 7 7 = w1 1 552 := hs.1
      rw [← hz (w1 1 552) hs.2.1, e7]
      by_cases c : w1 1 552 = 0
      · rw [if_pos c, if_pos c]
      · rw [if_neg c, if_neg c]
    · unfold m_X9_arm
      simp only [q_lt]
      rw [c3]
      simp only [q_ob]
      rw [if_pos (by decide), e2]
      simp only [q_ob, kc552, kn552]
      unfold st2
      rfl
    · rw [va_up_ne _ _ (by omega), f4 8 (by omega), w1_8]
    · exact RR_arm HR.1 (Or.inr rfl) (by show (st2 v1 7 7 1) 7 = _; rw [q_ss]; rfl) (fun j h1 h2 => by show (st2 v1 7 7 1) (7 + j) = _; rw [q_sn (by omega)]; rfl)
  · right
    have c3 := c2 (st2 w 0 8 0)
    rw [w1_s] at c3
    refine MT_f H ?_ ?_
    · unfold m_X8_arm_t
      rw [c1]
      rfl
    · unfold m_X9_arm
      simp only [q_lt]
      rw [c3]
      rfl
theorem b_freeze {B : Nat} {v w : xSt} (H : RBC B v w) : MN B (m_X8_freeze_n v) (m_X9_freeze w) ∨ MT B (m_X8_freeze_t v) xISE 1 (m_X9_freeze w) := by
  rcases s_busy H.1.1 with ⟨c1, -, c2⟩ | ⟨c1, c2⟩
  · left
    have c3 := c2 (st2 w 0 8 0)
    rw [w1_s] at c3
    obtain ⟨v1, w1, e1, e2, HR, f1, f2, f3, f4⟩ := s_save (RBC_1 (x := 0) H)
    have hs := HR.1.1.2.2.1
    have hz : ∀ x : Int32, (x = 0 ∨ x = 1) → (if x = 0 then (0 : Int32) else 1) = x := by
      rintro x (rfl | rfl) <;> rfl
    refine ⟨w1 1 553, st2 v1 12 2 1, va_up w1 1 (va_up (w1 1) 553 1), ?_, ?_, ?_, MN_fin (v := v) (w := w) HR (Nat.le_refl _) (fun j h1 h2 => q_sn (by omega)) (fun k hk => by rw [q_sn (by omega)]) ?_⟩
    · unfold m_X8_freeze_n
      rw [c1]
      simp only [q_ob]
      rw [if_pos (by decide), e1]
      simp only [q_ob, q_lt]
      have e7 : v1 12 2 = w1 1 553 := hs.2.2.1
      rw [← hz (w1 1 553) hs.2.2.2, e7]
      by_cases c : w1 1 553 = 0
      · rw [if_pos c, if_pos c]
      · rw [if_neg c, if_neg c]
    · unfold m_X9_freeze
      simp only [q_lt]
      rw [c3]
      simp only [q_ob]
      rw [if_pos (by decide), e2]
      simp only [q_ob, kc553, kn553]
      unfold st2
      rfl
    · rw [va_up_ne _ _ (by omega), f4 8 (by omega), w1_8]
    · refine RR_lck HR.1 (fun k hk => va_up_ne _ _ (by omega)) (fun j h1 h2 => by show (st2 v1 12 2 1) (7 + j) = _; rw [q_sn (by omega)]; rfl) ?_
      obtain ⟨y1, y2, y3, y4⟩ := hs
      show RLk ((st2 v1 12 2 1) 12) _
      rw [q_ss]
      exact ⟨y1, y2, by rw [va_up_self, va_up_self], by rw [va_up_self]; exact Or.inr rfl⟩
  · right
    have c3 := c2 (st2 w 0 8 0)
    rw [w1_s] at c3
    refine MT_f H ?_ ?_
    · unfold m_X8_freeze_t
      rw [c1]
      rfl
    · unfold m_X9_freeze
      simp only [q_lt]
      rw [c3]
      rfl
theorem RLd_0 {z : Int32} {r τ : Nat → Int32} (h1 : z = 0) (h2 : τ 567 = nI 0) : RLd z r τ := ⟨0, ⟨h1, by omega, fun i hi => absurd hi (by omega)⟩, h2⟩
