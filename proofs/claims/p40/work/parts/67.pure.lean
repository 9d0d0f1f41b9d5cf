/-! THE METHODS, both sides: write, suspend, resume -/
theorem RLd_f {z : Int32} {r σ : Nat → Int32} (H : RLd z r σ) : ∃ m, m ≤ 12 ∧ z = nI m ∧ σ 567 = nI m ∧ RRw m z r σ 568 := by
  obtain ⟨m, h, h2⟩ := H
  exact ⟨m, h.2.1, h.1, h2, h⟩
theorem b_write {B : Nat} {v w : xSt} {p : Int32} (H : RBC B v w) : MN B (m_X8_write_n v p) (m_X9_write w p) ∨ MT B (m_X8_write_t v p) xIOB 1 (m_X9_write w p) ∨ MT B (m_X8_write_t v p) xISE 2 (m_X9_write w p) := by
  rcases xwi_r p 0 255 (by omega) (by omega) with hx | ⟨hx, a, a0, a1, rfl⟩
  · replace hx : xwi p 0 255 = 0 := hx
    refine Or.inr (Or.inl (MT_f H ?_ ?_))
    · unfold m_X8_write_t
      rw [if_pos hx]
    · unfold m_X9_write
      simp only [q_lt]
      rw [if_pos hx]
  · have hx' : ¬ xwi (nI a) 0 255 = 0 := by rw [show xwi (nI a) 0 255 = 1 from hx]; decide
    obtain ⟨j, hj, c1, c2, c3⟩ := s_hind (k := 1) (p := nI a) H.1.1
    have c2' := c2 (st2 w 0 8 0)
    rw [w1_s] at c2'
    by_cases hj0 : j = 0
    · left
      subst hj0
      obtain ⟨v1, w1, e1, e2, HR, f1, f2, f3, f4⟩ := s_save (RBC_1 (x := 0) H)
      obtain ⟨m, m1, m2, m3, m4⟩ := RLd_f HR.1.1.2.2.2.1
      have hm0 : 0 < m := by
        have := (c3 rfl).2 rfl
        rcases Nat.eq_zero_or_pos m with h | h
        · subst h
          rw [f3 1 (by omega) (by omega), w1_1] at m3
          exact absurd m3 this
        · exact h
      obtain ⟨y1, e, y2, y3, y4⟩ := HR.1.1.2.2.2.2.2.2.2 0 (by omega)
      have es : m_X6_settingOf (sh 7 v1) 0 = some (nI e) := by
        rw [show (0 : Int32) = nI 0 from rfl, e_setting HR.1.1.2.2.2.2.2.2.2 (by omega), y4]
      obtain ⟨r, hr, r0, r1, r2, r3⟩ := s_startWrite (c := ct 3 (sh 15 v1) (sh 13 v1)) (m := m) (e := e) (p := nI a) (u := -1) m2 m1
      obtain ⟨v2, ev2⟩ : ∃ v2, v2 = st2 (st2 (pu 13 2 (pu 15 3 v1 r) (sh 3 r)) 13 1 0) 7 7 0 := ⟨_, rfl⟩
      have kp : ∀ j, (j < 15 ∨ 18 ≤ j) → pu 13 2 (pu 15 3 v1 r) (sh 3 r) j = v1 j := by
        intro j hj
        by_cases jj : 13 ≤ j ∧ j < 13 + 2
        · rw [pu_i jj.1 jj.2, sh_e, r3 _ (by omega), ct_h (by omega), sh_e]
          exact congrArg v1 (by omega)
        · rw [pu_o (by omega), pu_o (by omega)]
      have k2 : ∀ j, j ≠ 7 → j ≠ 13 → (j < 15 ∨ 18 ≤ j) → v2 j = v1 j := by
        intro j j1 j2 j3
        rw [ev2, q_sn j1, q_sn j2, kp j j3]
      have k15 : v2 15 = r 0 := by rw [ev2, q_sn (by omega), q_sn (by omega), pu_o (by omega), pu_i (by omega) (by omega)]
      have k16 : v2 16 = r 1 := by rw [ev2, q_sn (by omega), q_sn (by omega), pu_o (by omega), pu_i (by omega) (by omega)]
      have k17 : v2 17 = r 2 := by rw [ev2, q_sn (by omega), q_sn (by omega), pu_o (by omega), pu_i (by omega) (by omega)]
      have k7 : v2 7 = va_up (v1 7) 7 0 := by rw [ev2, q_ss, q_sn (by omega), kp 7 (by omega)]
      have k13 : v2 13 = va_up (v1 13) 1 0 := by rw [ev2, q_sn (by omega), q_ss, kp 13 (by omega)]
      obtain ⟨σA, hσ⟩ : ∃ σA, σA = va_up (w1 1) 552 0 := ⟨_, rfl⟩
      have HA : RR B (va_up (sh 7 v1) 0 (va_up (v1 7) 7 0)) σA := by
        rw [hσ]
        exact RR_arm HR.1 (Or.inl rfl) (va_up_self _ _ _) (fun j h1 h2 => va_up_ne _ _ (by omega))
      have sk : ∀ k, k ≠ 552 → σA k = w1 1 k := fun k hk => by rw [hσ, va_up_ne _ _ hk]
      have HS : RR B (va_up (sh 7 v2) 6 (v1 13)) (bW σA a 568 m e (-1)) := by
        refine ⟨s_startW (v := va_up (sh 7 v1) 0 (va_up (v1 7) 7 0)) (z := v1 13 1) (rr := v1 14) HA.1 (by omega) hm0 y2 y3 (RRw_c m4 (fun k hk => sk _ (by omega)) (fun _ _ => rfl)) (Or.inl rfl) ?_ ?_ (fun i hi => ?_) (fun j h1 h2 h3 h4 => ?_), ?_⟩
        · rw [va_up_ne _ _ (by omega)]
          show v2 15 = _
          rw [k15, r0]
          rfl
        · rw [va_up_ne _ _ (by omega)]
          show v2 16 1 = _
          rw [k16, r1]
        · rw [va_up_ne _ _ (by omega)]
          show v2 17 i = _
          rw [k17, r2 i hi]
          rfl
        · by_cases c : j = 6
          · subst c
            rw [va_up_self, va_up_ne _ _ (by omega)]
            rfl
          · rw [va_up_ne _ _ c]
            by_cases c0 : j = 0
            · subst c0
              rw [va_up_self]
              exact k7
            · rw [va_up_ne _ _ c0, sh_e, k2 _ (by omega) (by omega) (by omega)]
              rfl
        · rw [bW_o (by omega), sk _ (by omega), va_up_ne _ _ (by omega)]
          show v2 7 8 = _
          rw [k7, va_up_ne _ _ (by omega)]
          exact HR.1.2
      have HU : RR B (sh 7 v2) (va_up (fl (bW σA a 568 m e (-1)) 568 12 (fun _ => nI 0)) 567 (nI 0)) := by
        refine RR_ld HS (fun k hk => by rw [va_up_ne _ _ (by omega), fl_o (by omega)]) (fun j h1 h2 h3 => (va_up_ne _ _ h2).symm) (RLd_0 ?_ (va_up_self _ _ _))
        show v2 13 1 = 0
        rw [k13, va_up_self]
      have hb := r_beginsWrite (w := w1) (σ := σA) (c := a) (at_ := 568) (many := m) (e := e) (u := -1) (Or.inl rfl) m1 hm0 (by rw [sk _ (by omega)]; exact y4) (by omega)
      refine ⟨nI (mn m 8 * e), v2, va_up w1 1 (va_up (fl (bW σA a 568 m e (-1)) 568 12 (fun _ => nI 0)) 567 (nI 0)), ?_, ?_, ?_, MN_fin (v := v) (w := w) HR (Nat.le_refl _) (fun j h1 h2 => k2 j (by omega) (by omega) (by omega)) (fun k hk => by rw [k2 0 (by omega) (by omega) (by omega)]) HU⟩
      · unfold m_X8_write_n
        rw [if_neg hx', c1]
        simp only [q_ob]
        rw [if_pos (by decide), e1]
        simp only [q_ob]
        rw [es]
        simp only [q_ob]
        rw [hr]
        simp only [q_ob, q_lt]
        rw [← ev2]
        have el : m_X7_left (sh 15 v2) = some (nI (mn m 8 * e)) := by
          unfold m_X7_left
          rw [show (sh 15 v2) 0 = r 0 from k15, r0]
          exact congrArg some (Int32.sub_zero _)
        rw [el]
        rfl
      · unfold m_X9_write
        simp only [q_lt]
        rw [if_neg hx', c2']
        simp only [q_ob]
        rw [if_pos (by decide), e2]
        simp only [q_ob, kc552, kn552, kc567, kn567]
        rw [show st2 w1 1 552 0 = va_up w1 1 σA by rw [hσ]; rfl, va_up_self, sk 567 (by omega), m3, show (568 : Int32) = nI 568 from rfl, hb]
        simp only [q_ob, r_unloads]
        rfl
      · rw [va_up_ne _ _ (by omega), f4 8 (by omega), w1_8]
    · refine Or.inr (Or.inr (MT_f H ?_ ?_))
      · unfold m_X8_write_t
        rw [if_neg hx', c1]
        simp only [q_ob]
        rw [if_neg (nI_ne0 (by omega) (by omega))]
      · unfold m_X9_write
        simp only [q_lt]
        rw [if_neg hx', c2']
        simp only [q_ob]
        rw [if_neg (nI_nle (by omega) (by omega))]
/-- what is aside -/
theorem s_asd {B : Nat} {v : xSt} {σ : Nat → Int32} (H : R0 B v σ) : (v 11 0 = 0 ∧ σ 599 = 0 ∧ ∀ w, m_X9_isAside (va_up w 1 σ) = some 0) ∨ (¬ v 11 0 = 0 ∧ (∃ k, 1 ≤ k ∧ k ≤ 3 ∧ σ 599 = nI k) ∧ ∀ w, m_X9_isAside (va_up w 1 σ) = some 1) := by
  rcases H.2.2.2.2.2.1.2 with hu | ⟨k, d, t, p, b1, b2, b3, b4, b5⟩
  · exact Or.inl ⟨hu.2.1, hu.1, fun w => r_aside0 hu.1⟩
  · exact Or.inr ⟨by rw [b4]; exact nI_ne0 (by omega) (by omega), ⟨k, b1, b2, b3⟩, fun w => r_aside1 b3 (by omega) b2⟩
theorem s_und {B : Nat} {v : xSt} {σ : Nat → Int32} (H : R0 B v σ) : v 8 0 = σ 581 ∧ (σ 581 = 0 ∨ ∃ k, 1 ≤ k ∧ k ≤ 3 ∧ σ 581 = nI k) := by
  rcases H.2.2.2.2.1.2 with hu | ⟨k, d, t, p, b1, b2, b3, b4, b5⟩
  · exact ⟨hu.2.1.trans hu.1.symm, Or.inl hu.1⟩
  · exact ⟨b4.trans b3.symm, Or.inr ⟨k, b1, b2, b3⟩⟩
theorem b_suspend {B : Nat} {v w : xSt} (H : RBC B v w) : MN B (m_X8_suspend_n v) (m_X9_suspend w) ∨ MT B (m_X8_suspend_t v) xISE 1 (m_X9_suspend w) := by
  obtain ⟨g1, g2⟩ := s_und H.1.1
  have g1' : v 15 0 = w 1 581 := g1
  have u0 : m_X9_under (st2 w 0 8 0) 0 = some (w 1 581) := by
    have := r_under (w := st2 w 0 8 0) (σ := w 1) (j := 0) (by omega)
    rw [w1_s] at this
    exact this
  by_cases hk : w 1 581 = 1 ∨ w 1 581 = 2
  · have hcl : ∀ (x y : Option (Int32 × xSt)), (if w 1 581 = 1 then x else if w 1 581 = 2 then x else y) = x := by
      intro x y
      rcases hk with hk | hk
      · rw [if_pos hk]
      · rw [if_neg (by rw [hk]; decide), if_pos hk]
    have hct : ∀ (x y : Option (String × xSt)), (if w 1 581 = 1 then x else if w 1 581 = 2 then x else y) = x := by
      intro x y
      rcases hk with hk | hk
      · rw [if_pos hk]
      · rw [if_neg (by rw [hk]; decide), if_pos hk]
    rcases s_asd H.1.1 with ⟨c1, c2, c3⟩ | ⟨c1, c2, c3⟩
    · left
      have c3' := c3 (st2 w 0 8 0)
      rw [w1_s] at c3'
      obtain ⟨v1, w1, e1, e2, HR, f1, f2, f3, f4⟩ := s_save (RBC_1 (x := 0) H)
      have hk1 : ∃ k, 1 ≤ k ∧ k ≤ 3 ∧ w1 1 581 = nI k := by
        rw [f3 1 (by omega) (by omega), w1_1]
        rcases hk with hk | hk
        · exact ⟨1, by omega, by omega, hk⟩
        · exact ⟨2, by omega, by omega, hk⟩
      obtain ⟨k, k1, k2, k3⟩ := hk1
      obtain ⟨c, hc, HC, c0⟩ := s_setAside (u := 0) HR.1.1 k3 k1 k2 (by omega)
      have hA := r_setsAside (w := w1) (σ := w1 1) (u := nI 0)
      rw [va_up_id] at hA
      have a3 := r_apart (w := w1) (σ := sA (w1 1) (nI 0)) (j := 3) (by omega)
      have a2 := r_apart (w := w1) (σ := sA (w1 1) (nI 0)) (j := 2) (by omega)
      have el := RWk_l HC.2.2.2.2.2.1
      have hch : ∀ j, j < 47 → (sh 7 (pu 7 47 v1 c)) j = c j := fun j hj => by rw [sh_e, pu_i (by omega) (by omega)]; exact congrArg c (by omega)
      refine ⟨c 11 4 - c 11 5, pu 7 47 v1 c, va_up w1 1 (sA (w1 1) (nI 0)), ?_, ?_, ?_, MN_fin (v := v) (w := w) HR (Nat.le_refl _) (fun j h1 h2 => pu_o (by omega)) (fun k hk => by rw [pu_o (by omega)]) (RR_v (v := c) ⟨HC, ?_⟩ hch)⟩
      · unfold m_X8_suspend_n
        simp only [q_lt]
        rw [g1', hcl, if_neg (by decide), if_pos (show v 18 0 = 0 from c1), e1]
        simp only [q_ob]
        rw [show (0 : Int32) = nI 0 from rfl, hc]
        simp only [q_ob]
        have e18 : pu 7 47 v1 c 18 = c 11 := by rw [pu_i (by omega) (by omega)]
        unfold m_X7_left
        rw [show (sh 18 (pu 7 47 v1 c)) 0 = c 11 from e18]
        rfl
      · unfold m_X9_suspend
        simp only [q_lt]
        rw [u0]
        simp only [q_ob, u0]
        rw [hcl, c3']
        simp only [q_ob]
        rw [if_pos (by decide), e2]
        simp only [q_ob]
        rw [show (0 : Int32) = nI 0 from rfl, hA]
        simp only [q_ob]
        rw [show (3 : Int32) = nI 3 from rfl, show (2 : Int32) = nI 2 from rfl, a3, a2]
        simp only [q_ob]
        rw [el]
      · rw [va_up_ne _ _ (by omega), f4 8 (by omega), w1_8]
      · rw [c0 8 (by omega), sA_o (by omega) (by omega)]
        exact HR.1.2
    · right
      have c3' := c3 (st2 w 0 8 0)
      rw [w1_s] at c3'
      refine MT_f H ?_ ?_
      · unfold m_X8_suspend_t
        simp only [q_lt]
        rw [g1', hct, if_neg (by decide), if_neg (show ¬ v 18 0 = 0 from c1)]
      · unfold m_X9_suspend
        simp only [q_lt]
        rw [u0]
        simp only [q_ob, u0]
        rw [hcl, c3']
        simp only [q_ob]
        rw [if_neg (by decide)]
  · right
    have hcl : ∀ (x y : Option (Int32 × xSt)), (if w 1 581 = 1 then x else if w 1 581 = 2 then x else y) = y := by
      intro x y
      rw [if_neg (fun e => hk (Or.inl e)), if_neg (fun e => hk (Or.inr e))]
    have hct : ∀ (x y : Option (String × xSt)), (if w 1 581 = 1 then x else if w 1 581 = 2 then x else y) = y := by
      intro x y
      rw [if_neg (fun e => hk (Or.inl e)), if_neg (fun e => hk (Or.inr e))]
    refine MT_f H ?_ ?_
    · unfold m_X8_suspend_t
      simp only [q_lt]
      rw [g1', hct, if_pos (by decide)]
    · unfold m_X9_suspend
      simp only [q_lt]
      rw [u0]
      simp only [q_ob, u0]
      rw [hcl]
theorem b_resume {B : Nat} {v w : xSt} (H : RBC B v w) : MN B (m_X8_resume_n v) (m_X9_resume w) ∨ MT B (m_X8_resume_t v) xISE 1 (m_X9_resume w) := by
  rcases s_asd H.1.1 with ⟨c1, c2, c3⟩ | ⟨c1, ⟨k, k1, k2, k3⟩, c3⟩
  · right
    have c3' := c3 (st2 w 0 8 0)
    rw [w1_s] at c3'
    refine MT_f H ?_ ?_
    · unfold m_X8_resume_t
      rw [if_pos (show v 18 0 = 0 from c1)]
    · unfold m_X9_resume
      simp only [q_lt]
      rw [c3']
      rfl
  · have c3' := c3 (st2 w 0 8 0)
    rw [w1_s] at c3'
    rcases s_busy H.1.1 with ⟨d1, -, d2⟩ | ⟨d1, d2⟩
    · left
      have d2' := d2 (st2 w 0 8 0)
      rw [w1_s] at d2'
      obtain ⟨v1, w1, e1, e2, HR, f1, f2, f3, f4⟩ := s_save (RBC_1 (x := 0) H)
      have k3' : w1 1 599 = nI k := by rw [f3 1 (by omega) (by omega), w1_1]; exact k3
      obtain ⟨c, hc, HC, c0⟩ := s_letGoOn HR.1.1 k3' k1 k2
      have hA := r_takesBack (w := w1) (σ := w1 1)
      rw [va_up_id] at hA
      have a3 := r_under (w := w1) (σ := tB (w1 1)) (j := 3) (by omega)
      have a2 := r_under (w := w1) (σ := tB (w1 1)) (j := 2) (by omega)
      have el := RWk_l HC.2.2.2.2.1
      have hch : ∀ j, j < 47 → (sh 7 (pu 7 47 v1 c)) j = c j := fun j hj => by rw [sh_e, pu_i (by omega) (by omega)]; exact congrArg c (by omega)
      refine ⟨c 8 4 - c 8 5, pu 7 47 v1 c, va_up w1 1 (tB (w1 1)), ?_, ?_, ?_, MN_fin (v := v) (w := w) HR (Nat.le_refl _) (fun j h1 h2 => pu_o (by omega)) (fun k hk => by rw [pu_o (by omega)]) (RR_v (v := c) ⟨HC, ?_⟩ hch)⟩
      · unfold m_X8_resume_n
        simp only [q_lt]
        rw [if_neg (show ¬ v 18 0 = 0 from c1), d1]
        simp only [q_ob]
        rw [if_pos (by decide), e1]
        simp only [q_ob]
        rw [hc]
        simp only [q_ob]
        have e18 : pu 7 47 v1 c 15 = c 8 := by rw [pu_i (by omega) (by omega)]
        unfold m_X7_left
        rw [show (sh 15 (pu 7 47 v1 c)) 0 = c 8 from e18]
        rfl
      · unfold m_X9_resume
        simp only [q_lt]
        rw [c3']
        simp only [q_ob]
        rw [if_neg (by decide), d2']
        simp only [q_ob]
        rw [if_pos (by decide), e2]
        simp only [q_ob]
        rw [hA]
        simp only [q_ob]
        rw [show (3 : Int32) = nI 3 from rfl, show (2 : Int32) = nI 2 from rfl, a3, a2]
        simp only [q_ob]
        rw [el]
      · rw [va_up_ne _ _ (by omega), f4 8 (by omega), w1_8]
      · rw [c0, tB_o (by omega)]
        exact HR.1.2
    · right
      have d2' := d2 (st2 w 0 8 0)
      rw [w1_s] at d2'
      refine MT_f H ?_ ?_
      · unfold m_X8_resume_t
        rw [if_neg (show ¬ v 18 0 = 0 from c1), d1]
        rfl
      · unfold m_X9_resume
        simp only [q_lt]
        rw [c3']
        simp only [q_ob]
        rw [if_neg (by decide), d2']
        rfl
