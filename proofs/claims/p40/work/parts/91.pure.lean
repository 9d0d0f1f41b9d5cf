/-! POST -/
theorem isFull_e {c : xSt} {n : Nat} (h : c 0 1 = nI n) (hn : n ≤ 10) : m_X1_isFull c = some (if n < 10 then 0 else 1) := by
  unfold m_X1_isFull
  rw [h]
  by_cases g : n < 10
  · rw [if_pos (show nI n < (10 : Int32) from nI_lt (b := 10) g (by omega)), if_pos g]
  · rw [if_neg (show ¬ nI n < (10 : Int32) from (nI_nlt (by omega) (by omega) : ¬ nI n < nI 10)), if_neg g]
theorem b_post {B : Nat} {v w : xSt} {p1 p2 p3 : Int32} (H : RBC B v w) (hB : B + 1 < 16000000) : MN (B + 1) (m_X8_post_n v p1 p2 p3) (m_X9_post w p1 p2 p3) ∨ MT B (m_X8_post_t v p1 p2 p3) xIAE 1 (m_X9_post w p1 p2 p3) ∨ MT B (m_X8_post_t v p1 p2 p3) xIOB 2 (m_X9_post w p1 p2 p3) ∨ MT B (m_X8_post_t v p1 p2 p3) xISE 3 (m_X9_post w p1 p2 p3) := by
  have x1 : xwi p1 (0 : Int32) (1 : Int32) = 0 ∨ (xwi p1 (0 : Int32) (1 : Int32) = 1 ∧ ∃ j, 0 ≤ j ∧ j ≤ 1 ∧ p1 = nI j) := xwi_r p1 0 1 (by omega) (by omega)
  have x3 : xwi p3 (0 : Int32) (9 : Int32) = 0 ∨ (xwi p3 (0 : Int32) (9 : Int32) = 1 ∧ ∃ j, 0 ≤ j ∧ j ≤ 9 ∧ p3 = nI j) := xwi_r p3 0 9 (by omega) (by omega)
  have y0 : xwi p2 (0 : Int32) (255 : Int32) = 0 ∨ (xwi p2 (0 : Int32) (255 : Int32) = 1 ∧ ∃ j, 0 ≤ j ∧ j ≤ 255 ∧ p2 = nI j) := xwi_r p2 0 255 (by omega) (by omega)
  have y1 : xwi p2 (0 : Int32) (7 : Int32) = 0 ∨ (xwi p2 (0 : Int32) (7 : Int32) = 1 ∧ ∃ j, 0 ≤ j ∧ j ≤ 7 ∧ p2 = nI j) := xwi_r p2 0 7 (by omega) (by omega)
  rcases x1 with x1 | ⟨x1, k, -, hk, rfl⟩
  · right; left
    refine MT_f H ?_ ?_
    · unfold m_X8_post_t
      rw [if_pos x1]
    · unfold m_X9_post
      simp only [q_lt]
      rw [if_pos x1]
  have n1 : ¬ xwi (nI k) (0 : Int32) (1 : Int32) = 0 := by rw [x1]; decide
  rcases x3 with x3 | ⟨x3, u, -, hu, rfl⟩
  · right; left
    refine MT_f H ?_ ?_
    · unfold m_X8_post_t
      rw [if_neg n1, if_pos x3]
    · unfold m_X9_post
      simp only [q_lt]
      rw [if_neg n1, if_pos x3]
  have n3 : ¬ xwi (nI u) (0 : Int32) (9 : Int32) = 0 := by rw [x3]; decide
  obtain ⟨n, q, π, a1, a2, a3, a4, a5, a6, a7, a8, a9⟩ := id H.1.1.2.2.2.2.2.2.1
  obtain ⟨m, ⟨m1, m2, m3⟩, m4⟩ := id H.1.1.2.2.2.1
  have full := isFull_e (c := sh 21 v) (n := n) a4 a1
  have s580 : (st2 w 0 8 0) 1 580 = nI n := by rw [q_sn (by omega)]; exact a3
  have s567 : (st2 w 0 8 0) 1 567 = nI m := by rw [q_sn (by omega)]; exact m4
  have v131 : v 13 1 = nI m := m1
  have n10 : ¬ n < 10 → nI n = (10 : Int32) := fun g => by rw [show n = 10 by omega]; rfl
  have n10' : n < 10 → ¬ nI n = (10 : Int32) := fun g e => by
    have := (nI_eq (a := n) (b := 10) (by omega) (by omega)).mp e
    omega
  have kk : k = 0 ∨ k = 1 := by omega
  rcases kk with rfl | rfl
  · have k0 : nI 0 = (0 : Int32) := rfl
    rcases y0 with y0 | ⟨y0, p, -, hp, rfl⟩
    · right; right; left
      refine MT_f H ?_ ?_
      · unfold m_X8_post_t
        simp only [q_lt]
        rw [if_neg n1, if_neg n3, if_pos k0, if_pos y0]
      · unfold m_X9_post
        simp only [q_lt]
        rw [if_neg n1, if_neg n3, if_pos k0, if_pos y0]
    have ny : ¬ xwi (nI p) (0 : Int32) (255 : Int32) = 0 := by rw [y0]; decide
    by_cases hf : n < 10
    · by_cases hm : m = 0
      · right; right; right
        refine MT_f H ?_ ?_
        · unfold m_X8_post_t
          simp only [q_lt]
          rw [if_neg n1, if_neg n3, if_pos k0, if_neg ny, full, q_ob, if_pos hf, if_pos rfl, if_pos k0, v131, if_pos (by rw [hm]; rfl)]
        · unfold m_X9_post
          simp only [q_lt, kc580, kn580, kc567, kn567]
          rw [if_neg n1, if_neg n3, if_pos k0, if_neg ny, s580, if_neg (n10' hf), if_pos k0, s567, if_pos (by rw [hm]; rfl)]
      · left
        have nm0 : ¬ nI m = (0 : Int32) := nI_ne0 (by omega) (by omega)
        obtain ⟨v1, w1, e1, e2, HR, f1, f2, f3, f4⟩ := s_save (RBC_1 (x := 0) H)
        have g580 : w1 1 580 = nI n := by rw [f3 1 (by omega) (by omega)]; exact s580
        have g567 : w1 1 567 = nI m := by rw [f3 1 (by omega) (by omega)]; exact s567
        have h131 : v1 13 1 = nI m := by rw [f1 13 (by omega) (by omega)]; exact v131
        obtain ⟨m', ⟨m1', m2', m3'⟩, m4'⟩ := id HR.1.1.2.2.2.1
        obtain rfl : m' = m := (nI_eq (by omega) (by omega)).mp (m4'.symm.trans g567)
        obtain ⟨q', b, c2, τ0, r0, r1, r2, r3, r4, r5, r6, r7, r8, r9⟩ := s_joinW (u := u) (p := p) (m := m') (c := ct 32 (sh 21 v1) (sh 13 v1)) HR.1 hB g580 hf (by omega) hu (fun j hj => by rw [ct_l hj, sh_e, sh_e]; exact congrArg v1 (by omega)) (by omega) m2' (by rw [ct_h (by omega), sh_e]; exact h131)
        have rp := r3 w1
        rw [va_up_id] at rp
        have cR : ∀ t, t < m' → τ0 (568 + t) = v1 14 t ∧ ∃ a, a < 256 ∧ τ0 (568 + t) = nI a := fun t ht => by
          obtain ⟨z1, z2⟩ := m3' t ht
          rw [r6 _ (by omega) (by omega) (by omega)]
          exact ⟨z1.symm, z2⟩
        obtain ⟨τ1, hτ1⟩ : ∃ τ1, τ1 = fl (va_up τ0 (b + 5) (τ0 567)) (b + 6) 12 (fun t => τ0 (568 + t)) := ⟨_, rfl⟩
        obtain ⟨V, hV⟩ : ∃ V, V = pu 13 2 (pu 21 32 v1 c2) (sh 32 c2) := ⟨_, rfl⟩
        have V13 : V 13 = v1 13 := by rw [hV, pu_i (by omega) (by omega), show (13 : Nat) - 13 = 0 by omega, sh_e, r7, ct_h (by omega), sh_e]
        have V14 : V 14 = v1 14 := by rw [hV, pu_i (by omega) (by omega), show (14 : Nat) - 13 = 1 by omega, sh_e, r8, ct_h (by omega), sh_e]
        have Vo : ∀ j, j < 21 ∨ 53 ≤ j → V j = v1 j := fun j hj => by
          by_cases j13 : j = 13
          · rw [j13, V13]
          · by_cases j14 : j = 14
            · rw [j14, V14]
            · rw [hV, pu_o (by omega), pu_o (by omega)]
        have HV : RR (B + 1) (sh 7 V) τ1 := by
          refine r9 τ1 (sh 7 V) (fun j hj => ?_) ?_ (fun t ht => ?_) (fun j hj => ?_) (fun j hj => ?_)
          · rw [hτ1, fl_o (by omega), va_up_ne _ _ (by omega)]
          · rw [hτ1, fl_o (by omega), va_up_self, r6 _ (by omega) (by omega) (by omega)]
            exact g567
          · obtain ⟨z1, z2⟩ := cR t ht
            rw [hτ1, fl_i (by omega) (by omega), show b + 6 + t - (b + 6) = t by omega, ct_h (by omega), sh_e]
            exact ⟨z1.symm, z2⟩
          · rw [hV, sh_e, pu_o (by omega), pu_i (by omega) (by omega)]
            exact congrArg c2 (by omega)
          · rw [sh_e, sh_e]
            exact Vo _ (by omega)
        obtain ⟨τ, hτ⟩ : ∃ τ, τ = va_up (fl τ1 568 12 (fun _ => nI 0)) 567 (nI 0) := ⟨_, rfl⟩
        have HV2 : RR (B + 1) (sh 7 (st2 V 13 1 0)) τ := by
          refine RR_ld HV (fun k hk => by rw [hτ, va_up_ne _ _ (by omega), fl_o (by omega)]) (fun j h1 h2 h3 => by show (st2 V 13 1 0) (7 + j) = _; rw [q_sn (by omega)]; rfl) (RLd_0 ?_ (by rw [hτ]; exact va_up_self _ _ _))
          show (st2 V 13 1 0) 13 1 = 0
          rw [q_ss, va_up_self]
        refine ⟨nI q', st2 V 13 1 0, va_up w1 1 τ, ?_, ?_, ?_, MN_fin (v := v) (w := w) HR (Nat.le_succ _) (fun j h1 h2 => by rw [q_sn (by omega)]; exact Vo j (by omega)) (fun k hk => by rw [q_sn (by omega), Vo 0 (by omega)]) HV2⟩
        · unfold m_X8_post_n
          simp only [q_lt]
          rw [if_neg n1, if_neg n3, if_pos k0, if_neg ny, full, q_ob, if_pos hf, if_pos rfl, if_pos k0, v131, if_neg nm0, e1, q_ob, if_neg (by decide)]
          rw [show m_X1_joinWrite (ct 32 (sh 21 v1) (sh 13 v1)) (nI p) (nI u) (v1 7 8) = some (nI q', c2) from r2, q_ob, ← hV]
        · unfold m_X9_post
          simp only [q_lt, kc580, kn580, kc567, kn567]
          rw [if_neg n1, if_neg n3, if_pos k0, if_neg ny, s580, if_neg (n10' hf), if_pos k0, s567, if_neg nm0, e2, q_ob, rp, q_ob, if_pos k0]
          have t567 : τ0 567 = nI m' := by rw [r6 _ (by omega) (by omega) (by omega)]; exact g567
          simp (disch := omega) only [li, q_ob, nI_add, q_cl, q_lts, q_le, q_ck, q_st, va_up_self, Nat.reduceAdd]
          refine lpf_r (fun t => (nI t, va_up w1 1 (fl (va_up τ0 (b + 5) (τ0 567)) (b + 6) t (fun t => τ0 (568 + t))))) 12 (xFg (by omega)) (by simp only [fl_0]) (fun t rec ht => ?_) (fun rec => ?_)
          · simp (disch := omega) only [li, q_lt, q_ob, q_u2, nI_add, q_cl, q_lts, q_le, q_ck, q_st, va_up_self, Nat.reduceAdd, fl_o, va_up_ne]
            rw [if_neg (by omega), fl_s (by omega) rfl]
          · have hul := r_unloads (w := w1) (σ := τ1)
            rw [← hτ] at hul
            have t566 : τ 566 - nI 1 = nI q' := by
              rw [hτ, va_up_ne _ _ (by omega), fl_o (by omega), hτ1, fl_o (by omega), va_up_ne _ _ (by omega), r4, q_sub (by omega)]
              rfl
            simp only [q_u2]
            rw [if_pos (by decide), ← hτ1, hul, q_ob, va_up_self, t566]
        · rw [va_up_ne _ _ (by omega), f4 8 (by omega), w1_8]
    · right; right; right
      refine MT_f H ?_ ?_
      · unfold m_X8_post_t
        simp only [q_lt]
        rw [if_neg n1, if_neg n3, if_pos k0, if_neg ny, full, q_ob, if_neg hf, if_neg (by decide)]
      · unfold m_X9_post
        simp only [q_lt, kc580, kn580, kc567, kn567]
        rw [if_neg n1, if_neg n3, if_pos k0, if_neg ny, s580, if_pos (n10 hf)]
  · have k0 : ¬ nI 1 = (0 : Int32) := by decide
    rcases y1 with y1 | ⟨y1, p, -, hp, rfl⟩
    · right; right; left
      refine MT_f H ?_ ?_
      · unfold m_X8_post_t
        simp only [q_lt]
        rw [if_neg n1, if_neg n3, if_neg k0, if_pos y1]
      · unfold m_X9_post
        simp only [q_lt]
        rw [if_neg n1, if_neg n3, if_neg k0, if_pos y1]
    have ny : ¬ xwi (nI p) (0 : Int32) (7 : Int32) = 0 := by rw [y1]; decide
    by_cases hf : n < 10
    · left
      obtain ⟨v1, w1, e1, e2, HR, f1, f2, f3, f4⟩ := s_save (RBC_1 (x := 0) H)
      have g580 : w1 1 580 = nI n := by rw [f3 1 (by omega) (by omega)]; exact s580
      obtain ⟨q', b, c2, τ, r2, r3, r4, r5, r9⟩ := s_joinE (u := u) (p := p) (c := sh 21 v1) HR.1 hB g580 hf (by omega) hu (fun j hj => by rw [sh_e, sh_e]; exact congrArg v1 (by omega))
      have rp := r3 w1
      rw [va_up_id] at rp
      have HV : RR (B + 1) (sh 7 (pu 21 32 v1 c2)) τ := by
        refine r9 _ (fun j hj => ?_) (fun j hj => ?_)
        · rw [sh_e, pu_i (by omega) (by omega)]
          exact congrArg c2 (by omega)
        · rw [sh_e, sh_e, pu_o (by omega)]
      refine ⟨nI q', pu 21 32 v1 c2, va_up w1 1 τ, ?_, ?_, ?_, MN_fin (v := v) (w := w) HR (Nat.le_succ _) (fun j h1 h2 => pu_o (by omega)) (fun k hk => by rw [pu_o (by omega)]) HV⟩
      · unfold m_X8_post_n
        simp only [q_lt]
        rw [if_neg n1, if_neg n3, if_neg k0, if_neg ny, full, q_ob, if_pos hf, if_pos rfl, if_neg k0, e1, q_ob, if_pos (by decide)]
        rw [show m_X1_join (sh 21 v1) (2 : Int32) (nI p) (nI u) (v1 7 8) = some (nI q', c2) from r2, q_ob]
      · unfold m_X9_post
        simp only [q_lt, kc580, kn580, kc567, kn567, kc566, kn566]
        rw [if_neg n1, if_neg n3, if_neg k0, if_neg ny, s580, if_neg (n10' hf), if_neg k0, e2, q_ob, rp, q_ob, if_neg k0]
        show some (va_up w1 1 τ 1 566 - 1, va_up w1 1 τ) = _
        rw [va_up_self, r4, show (1 : Int32) = nI 1 from rfl, q_sub (by omega)]
        rfl
      · rw [va_up_ne _ _ (by omega), f4 8 (by omega), w1_8]
    · right; right; right
      refine MT_f H ?_ ?_
      · unfold m_X8_post_t
        simp only [q_lt]
        rw [if_neg n1, if_neg n3, if_neg k0, if_neg ny, full, q_ob, if_neg hf, if_neg (by decide)]
      · unfold m_X9_post
        simp only [q_lt, kc580, kn580, kc567, kn567]
        rw [if_neg n1, if_neg n3, if_neg k0, if_neg ny, s580, if_pos (n10 hf)]
