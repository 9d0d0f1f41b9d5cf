/-! THE CLASS AND THE TIE: an erase goes on; a tick -/
theorem s_go2 {B d t : Nat} {v : xSt} {σ : Nat → Int32} (H : R0 B v σ) (hB : B < 16000000) (hk : σ 581 = nI 2) (hk8 : v 8 0 = nI 2) (hd : v 8 5 = nI d) (hd2 : σ 583 = nI d) (ht : v 8 4 = nI t) (ht2 : σ 584 = nI t) (hdt : d < t) (ht1 : t < 20000000) : ∃ τ, (∀ w, m_X9_goesOn (va_up w 1 σ) = some (va_up w 1 τ)) ∧ τ 561 = σ 561 ∧ wp (x_go v) (fun r => r.1 = 1 ∧ R0 (B + 1) r.2 τ ∧ ∀ j, j < 9 → r.2 0 j = v 0 j) := by
  obtain ⟨h1, h2, h3, h4, h5, h6, h7, h8⟩ := id H
  have hloc : ∃ p, p < 8 ∧ v 8 1 = nI p ∧ σ 582 = nI p ∧ 5 ≤ t := by
    rcases h5.2 with h | ⟨k, d', t', p, a1, a2, a3, a4, a5, a6, a7, a8, a9, a10, a11, a12, a13, a14, a15, a16, a17⟩
    · rw [hk] at h; exact absurd h.1 (by decide)
    · obtain rfl : k = 2 := (nI_eq (by omega) (by omega)).mp (a3.symm.trans hk)
      obtain rfl : t' = t := (nI_eq (by omega) (by omega)).mp (a9.symm.trans ht)
      exact ⟨p, (a16 rfl).1, a11, a12, (a16 rfl).2⟩
  obtain ⟨p, p8, l2, l3, t5⟩ := hloc
  have w583 : (va_up σ 583 (nI (d + 1))) 583 = nI (d + 1) := va_up_self _ _ _
  have w584 : (va_up σ 583 (nI (d + 1))) 584 = nI t := by rw [va_up_ne _ _ (by omega), ht2]
  have w582 : (va_up σ 583 (nI (d + 1))) 582 = nI p := by rw [va_up_ne _ _ (by omega), l3]
  obtain ⟨v11, e11⟩ : ∃ v11, v11 = st2 v 8 5 ((v 8 5) + (1 : Int32)) := ⟨_, rfl⟩
  have g8 : v11 8 = va_up (v 8) 5 (nI (d + 1)) := by
    rw [e11, q_ss, hd, nI_1]
  have gv : ∀ j, j ≠ 8 → v11 j = v j := fun j hj => by rw [e11]; exact q_sn hj
  have HX := R0x_of (v' := v11) (τ := va_up σ 583 (nI (d + 1))) H (fun j j1 j2 j3 j4 => gv j j2) (fun k hk => va_up_ne _ _ (by omega))
  have e0 : v11 8 0 = nI 2 := by rw [g8, va_up_ne _ _ (by omega), hk8]
  have e1 : v11 8 1 = nI p := by rw [g8, va_up_ne _ _ (by omega), l2]
  have e5 : v11 8 5 = nI (d + 1) := by rw [g8, va_up_self]
  have e4 : v11 8 4 = nI t := by rw [g8, va_up_ne _ _ (by omega), ht]
  by_cases h4d : d + 1 ≤ 4
  · -- a page falls
    have epg : (nI p * 4 + nI (d + 1)) - 1 = nI (4 * p + d) := by
      rw [show (4 : Int32) = nI 4 from rfl, pk_mul, nI_add, show (1 : Int32) = nI 1 from rfl, q_sub (by omega)]
      congr 1
      omega
    have hcell : ∀ c, c < 256 → ∃ k, k < 256 ∧ (va_up σ 583 (nI (d + 1))) c = nI k := by
      intro c hc
      rw [va_up_ne _ _ (by omega)]
      exact (h2.1 c hc).2
    have ea : 32 * p + 8 * (d + 1 - 1) = (4 * p + d) * 8 := by omega
    have rl : ∀ w : xSt, m_X9_erasesOn (va_up w 1 (va_up σ 583 (nI (d + 1)))) = some (va_up w 1 (eF (va_up σ 583 (nI (d + 1))) ((4 * p + d) * 8) 8)) := by
      intro w
      have := r_erasesOn0 (w := w) w582 p8 w583 w584 (by omega) h4d (by omega) ht1 hcell
      rw [ea] at this
      exact this
    obtain ⟨ρ, hρ⟩ : ∃ ρ, ρ = eF (va_up σ 583 (nI (d + 1))) ((4 * p + d) * 8) 8 := ⟨_, rfl⟩
    have rk : ∀ k, k ≠ 563 → (k < (4 * p + d) * 8 ∨ (4 * p + d) * 8 + 8 ≤ k) → ρ k = va_up σ 583 (nI (d + 1)) k := by
      intro k k1 k2
      rw [hρ]
      unfold eF
      rw [va_up_ne _ _ k1, fl_o k2]
    refine ⟨ρ, fun w => ?_, by rw [rk _ (by omega) (by omega), va_up_ne _ _ (by omega)], ?_⟩
    · have := r_goesOn (w := w) (τ := ρ) hk (by omega) hd2 (by omega) ht1 (by rw [if_neg (by decide), if_pos (by decide), rl w, hρ]) (by rw [rk _ (by omega) (by omega), w583]) (by rw [rk _ (by omega) (by omega), w584])
      rw [if_neg (by omega)] at this
      exact this
    · have hfw := e_fallW (c := sh 1 v11) (g := 4 * p + d) (by omega) (fun i hi => by
        obtain ⟨x1, k, x2, x3⟩ := HX.2.1.1 i hi
        exact ⟨k, x2, by rw [← x3, ← x1]; rfl⟩)
      unfold x_go
      refine wp_n (fun v11' e' => ?_)
      obtain rfl : v11' = v11 := e'.trans e11.symm
      refine wp_n (fun j13 ej => ?_)
      rw [e0]
      refine wp_f (by decide) (wp_t (by decide) ?_)
      rw [e5]
      refine wp_f (show ¬ (4 : Int32) < nI (d + 1) from nI_nlt (a := 4) (b := d + 1) h4d (by omega)) ?_
      rw [e1, epg]
      refine wp_e hfw (wp_n (fun v24 e24 => wp_n (fun v25 e25 => ?_)))
      dsimp only at e24 e25
      have k24 : ∀ j, j ≠ 2 → v24 j = v11' j := by
        intro j hj
        rw [e24]
        by_cases jj : 1 ≤ j ∧ j < 1 + 4
        · rw [pu_i jj.1 jj.2, va_up_ne _ _ (by omega), sh_e]
          congr 1
          omega
        · rw [pu_o (by omega)]
      have k242 : v24 2 = fl (v11' 2) ((4 * p + d) * 8) 8 (fun _ => nI 0) := by
        rw [e24, pu_i (by omega) (by omega), va_up_self]
        rfl
      have k25 : ∀ j, j ≠ 0 → j ≠ 2 → v25 j = v11' j := by
        intro j j0 j2
        rw [e25, q_sn j0, k24 j j2]
      have k252 : v25 2 = fl (v11' 2) ((4 * p + d) * 8) 8 (fun _ => nI 0) := by rw [e25, q_sn (by omega), k242]
      have k250 : v25 0 = va_up (v11' 0) 10 (v11' 0 10 + fW (v11' 2) ((4 * p + d) * 8) 8) := by
        rw [e25, q_ss, k24 0 (by omega)]
        rfl
      have HR : R0x B v25 ρ := by
        obtain ⟨x1, x2, x3, x4, x6, x7, x8⟩ := HX
        unfold R0x
        rw [k25 1 (by omega) (by omega), k25 3 (by omega) (by omega), k25 4 (by omega) (by omega), k25 5 (by omega) (by omega), k25 6 (by omega) (by omega), k25 7 (by omega) (by omega), k25 11 (by omega) (by omega), k25 12 (by omega) (by omega), k25 13 (by omega) (by omega), k25 46 (by omega) (by omega), k252, k250]
        refine ⟨?_, RCell_f x2 (by omega) (fun j j1 j2 => rk j (by omega) j2) (fun j j1 j2 => ?_), RLk_c x3 (fun k hk hk2 => rk k (by omega) (by omega)) (fun _ _ => rfl), RLd_c x4 (fun k hk hk2 => rk k (by omega) (by omega)) (fun _ _ => rfl), RWk_c x6 (fun k hk => rk _ (by omega) (by omega)) (fun _ _ => rfl) (fun _ _ => rfl), RLn_c x7 (Nat.le_refl _) (fun k hk => rk k (by omega) (by omega)) (fun j hj hj2 => k25 j (by omega) (by omega)), RSt_c x8 (fun k hk hk2 => rk k (by omega) (by omega)) (fun _ _ => rfl)⟩
        · obtain ⟨c1, c2, c3, c4, c5, c6⟩ := x1
          unfold RSc
          rw [rk 552 (by omega) (by omega), rk 562 (by omega) (by omega), rk 564 (by omega) (by omega), rk 565 (by omega) (by omega)]
          refine ⟨c1, c2, c3, ?_, c5, c6⟩
          rw [va_up_self, hρ]
          unfold eF
          rw [va_up_self, fB_w, c4, fW_c (fun j j1 j2 => (x2.1 j (by omega)).1)]
        · rw [hρ]
          unfold eF
          rw [va_up_ne _ _ (by omega), fl_i j1 j2]
      rw [ej]
      refine ⟨(1, v25), x_end0 (d := d + 1) (t := t) (by rw [k25 8 (by omega) (by omega), e5]) (by rw [k25 8 (by omega) (by omega), e4]) (by omega) ht1, rfl, R0_b (R0x_to HR (fun _ _ _ _ _ => rfl) (fun _ _ => rfl) ?_) (by omega), fun j hj => by dsimp only; rw [k250, va_up_ne _ _ (by omega), gv 0 (by omega)]⟩
      dsimp only
      rw [k25 8 (by omega) (by omega), k25 9 (by omega) (by omega), k25 10 (by omega) (by omega), g8, gv 9 (by omega), gv 10 (by omega)]
      exact RWk_d (o := v 8) (r := v 10) h5 hk (by omega) (by omega) hd (by omega) ht ht1 (by omega) (fun k hk hk2 => by rw [rk _ (by omega) (by omega), va_up_ne _ _ (by omega)]) (by rw [rk _ (by omega) (by omega), w583]) (fun k hk hk2 => va_up_ne _ _ hk2) (va_up_self _ _ _) (fun _ _ => rfl)
  · -- behind the falling
    obtain ⟨s1, b, s2, s3, s4⟩ := h8 2 (by omega)
    obtain ⟨z, z1, z2, z3, HC⟩ := RCell_e (b := b) HX.2.1 p8
    have rl : ∀ w : xSt, m_X9_erasesOn (va_up w 1 (va_up σ 583 (nI (d + 1)))) = some (va_up w 1 (if d + 1 = t then eE (va_up σ 583 (nI (d + 1))) p z b else va_up σ 583 (nI (d + 1)))) := by
      intro w
      exact r_erasesOn1 (w := w) w582 p8 w583 w584 (by omega) (by omega) ht1 z3 (by omega) (by rw [va_up_ne _ _ (by omega)]; exact s4) (by omega)
    have hx : x_go v = x_end v11 := by
      unfold x_go x_end
      simp only [q_lt]
      rw [← e11, e0, e5, if_neg (by decide), if_pos (by decide), if_pos (show (4 : Int32) < nI (d + 1) from nI_lt (a := 4) (by omega) (by omega))]
    by_cases hl : d + 1 = t
    · refine ⟨fl (eE (va_up σ 583 (nI (d + 1))) p z b) 581 18 (fun _ => nI 0), fun w => ?_, ?_, ?_⟩
      · have := r_goesOn (w := w) (τ := eE (va_up σ 583 (nI (d + 1))) p z b) hk (by omega) hd2 (by omega) ht1 (by rw [if_neg (by decide), if_pos (by decide), rl w, if_pos hl]) (by rw [eE_o p8 (by omega), w583]) (by rw [eE_o p8 (by omega), w584])
        rw [if_pos hl] at this
        exact this
      · rw [fl_o (by omega), eE_o p8 (by omega), va_up_ne _ _ (by omega)]
      · rw [hx, x_end1 (d := d + 1) (t := t) e5 e4 hl ht1]
        unfold m_X6_endWork
        refine wp_o ?_
        refine wp_n (fun j2 ej => ?_)
        rw [e0]
        refine wp_f (by decide) (wp_t (by decide) ?_)
        refine wp_e (e_setting (j := 2) HX.2.2.2.2.2.2 (by omega)) ?_
        rw [va_up_ne _ _ (by omega), show σ (556 + 2) = nI b from s4, e1]
        refine wp_om (e_endErase (c := sh 1 v11) p8 z2 (by omega) (by omega)) (fun r13 hr => wp_n (fun v14 e14 => ?_))
        obtain ⟨y0, y1, y2, y3⟩ := hr
        have k14 : ∀ j, (j < 1 ∨ 5 ≤ j) → v14 j = v11 j := by
          intro j hj
          rw [e14, pu_o (by omega)]
        have k141 : v14 1 = r13 0 := by rw [e14, pu_i (by omega) (by omega)]
        have k142 : v14 2 = r13 1 := by rw [e14, pu_i (by omega) (by omega)]
        have k143 : v14 3 = r13 2 := by rw [e14, pu_i (by omega) (by omega)]
        have k144 : v14 4 = r13 3 := by rw [e14, pu_i (by omega) (by omega)]
        have HR : R0x (B + 1) v14 (eE (va_up σ 583 (nI (d + 1))) p z b) := by
          obtain ⟨x1, x2, x3, x4, x6, x7, x8⟩ := HX
          unfold R0x
          rw [k14 0 (by omega), k14 5 (by omega), k14 6 (by omega), k14 7 (by omega), k14 11 (by omega), k14 12 (by omega), k14 13 (by omega), k14 46 (by omega), k141, k142, k143, k144, y0, y1, y2, y3, va_up_self]
          refine ⟨RSc_c x1 (fun k hk => eE_o p8 (by omega)) (fun _ _ => rfl), HC, RLk_c x3 (fun k hk hk2 => eE_o p8 (by omega)) (fun _ _ => rfl), RLd_c x4 (fun k hk hk2 => eE_o p8 (by omega)) (fun _ _ => rfl), RWk_c x6 (fun k hk => eE_o p8 (by omega)) (fun _ _ => rfl) (fun _ _ => rfl), RLn_c x7 (by omega) (fun k hk => eE_o p8 (by omega)) (fun j hj hj2 => k14 j (by omega)), RSt_c x8 (fun k hk hk2 => eE_o p8 (by omega)) (fun _ _ => rfl)⟩
        rw [ej]
        refine wp_m (s_endWk HR) (fun v' hv => wp_s ⟨rfl, hv.1, fun j hj => ?_⟩)
        dsimp only
        rw [hv.2, k14 0 (by omega), gv 0 (by omega)]
    · refine ⟨va_up σ 583 (nI (d + 1)), fun w => ?_, va_up_ne _ _ (by omega), ?_⟩
      · have := r_goesOn (w := w) (τ := va_up σ 583 (nI (d + 1))) hk (by omega) hd2 (by omega) ht1 (by rw [if_neg (by decide), if_pos (by decide), rl w, if_neg hl]) w583 w584
        rw [if_neg hl] at this
        exact this
      · rw [hx, x_end0 (d := d + 1) (t := t) e5 e4 (by omega) ht1]
        refine wp_s ⟨rfl, R0_b (R0x_to HX (fun _ _ _ _ _ => rfl) (fun _ _ => rfl) ?_) (by omega), fun j hj => by dsimp only; rw [gv 0 (by omega)]⟩
        dsimp only
        rw [g8, gv 9 (by omega), gv 10 (by omega)]
        exact RWk_d (o := v 8) (r := v 10) h5 hk (by omega) (by omega) hd (by omega) ht ht1 (by omega) (fun k hk hk2 => va_up_ne _ _ (by omega)) w583 (fun k hk hk2 => va_up_ne _ _ hk2) (va_up_self _ _ _) (fun _ _ => rfl)
/-- a tick -/
theorem s_tick {B : Nat} {v : xSt} {σ : Nat → Int32} (H : RR B v σ) (hB : B < 16000000) : ∃ b τ v', m_X6_tick v = some (b, v') ∧ (∀ w, m_X9_ticks (va_up w 1 σ) = some (b, va_up w 1 τ)) ∧ RR (B + 1) v' τ ∧ (b = 0 ∨ b = 1) ∧ τ 561 = σ 561 + nI 1 ∧ (b = 0 → τ = va_up σ 561 (σ 561 + nI 1) ∧ idle σ σ) := by
  obtain ⟨H, h8⟩ := H
  obtain ⟨ρ, t1, t2, tb, r, hr, v4, hv4, HR, hv0⟩ := s_acts H hB
  obtain ⟨v6, e6⟩ : ∃ v6, v6 = st2 v4 0 8 ((v4 0 8) + (1 : Int32)) := ⟨_, rfl⟩
  have tk : m_X6_tick v = ob (m_X6_isBusy v6) (fun r8 => (if r8 = 0 then some ((0 : Int32), v6) else x_go v6)) := by
    unfold m_X6_tick
    rw [hr]
    simp only [q_ob, q_lt]
    by_cases c : r.1 = -1
    · rw [if_pos c] at hv4 ⊢
      cases hv4
      rw [← e6]
      rfl
    · rw [if_neg c] at hv4 ⊢
      rw [hv4]
      simp only [q_ob]
      rw [← e6]
      rfl
  have k6 : ∀ j, j ≠ 0 → v6 j = v4 j := fun j hj => by rw [e6]; exact q_sn hj
  have k60 : v6 0 = va_up (v4 0) 8 (σ 561 + nI 1) := by
    rw [e6, q_ss, hv0 8 (by omega), h8]
    rfl
  have H6 : R0 B v6 ρ := by
    obtain ⟨x1, x2, x3, x4, x5, x6, x7, x8⟩ := HR
    unfold R0
    rw [k6 1 (by omega), k6 2 (by omega), k6 3 (by omega), k6 4 (by omega), k6 5 (by omega), k6 6 (by omega), k6 7 (by omega), k6 8 (by omega), k6 9 (by omega), k6 10 (by omega), k6 11 (by omega), k6 12 (by omega), k6 13 (by omega), k6 46 (by omega), k60]
    exact ⟨RSc_c x1 (fun _ _ => rfl) (fun k hk => va_up_ne _ _ (by omega)), x2, x3, x4, x5, x6, RLn_c x7 (Nat.le_refl _) (fun _ _ => rfl) (fun j hj hj2 => k6 j (by omega)), x8⟩
  have fin : ∀ τ, τ 561 = σ 561 → ∀ w : xSt, ∀ b : Int32, lt (va_up w 1 τ) (fun (v6 : xSt) => ck (¬ ((561 : Int32) < 0 ∨ 797 ≤ (561 : Int32).toNatClampNeg)) (ck (¬ ((561 : Int32) < 0 ∨ 797 ≤ (561 : Int32).toNatClampNeg)) (lt (st2 v6 1 (561 : Int32).toNatClampNeg ((v6 1 (561 : Int32).toNatClampNeg) + (1 : Int32))) (fun v10 => some (b, v10))))) = some (b, va_up w 1 (va_up τ 561 (σ 561 + nI 1))) := by
    intro τ hτ w b
    simp only [q_lt, kc561, kn561, q_st, va_up_self, hτ]
    rfl
  rcases H6.2.2.2.2.1.2 with hu | ⟨k, d, t, p, b1, b2, b3, b4, b5, b6, b7, b8, b9, b10, b11⟩
  · obtain ⟨y1, y2, -⟩ := hu
    refine ⟨0, va_up ρ 561 (σ 561 + nI 1), v6, ?_, fun w => ?_, ⟨R0_b (R0_s H6 (fun k hk hk2 => va_up_ne _ _ hk2)) (by omega), ?_⟩, Or.inl rfl, va_up_self _ _ _, fun _ => ?_⟩
    rotate_left; rotate_left; rotate_left
    · rcases tb with tb | ⟨rfl, tb1, tb2⟩
      · exact absurd y1 tb
      · exact ⟨rfl, rfl, tb1, tb2⟩
    · rw [tk]
      have : m_X6_isBusy v6 = some 0 := by unfold m_X6_isBusy; rw [if_pos y2]
      rw [this]
      simp only [q_ob]
      rw [if_pos (by decide)]
    · unfold m_X9_ticks
      rw [t1 w]
      simp only [q_ob]
      rw [r_busy0 y1]
      simp only [q_ob]
      exact fin ρ t2 w 0
    · rw [k60, va_up_self, va_up_self]
  · have go : ∃ τ, (∀ w, m_X9_goesOn (va_up w 1 ρ) = some (va_up w 1 τ)) ∧ τ 561 = ρ 561 ∧ wp (x_go v6) (fun r => r.1 = 1 ∧ R0 (B + 1) r.2 τ ∧ ∀ j, j < 9 → r.2 0 j = v6 0 j) := by
      rcases (show k = 1 ∨ k = 2 ∨ k = 3 by omega) with rfl | rfl | rfl
      · exact s_go1 H6 b3 b4 b7 b8 b9 b10 b5 b6
      · exact s_go2 H6 hB b3 b4 b7 b8 b9 b10 b5 b6
      · exact s_go3 H6 b3 b4 b7 b8 b9 b10 b5 b6
    obtain ⟨τ, g1, g2, ⟨b, v'⟩, hv', g3, g4, g5⟩ := go
    dsimp only at g3 g4 g5
    subst g3
    refine ⟨1, va_up τ 561 (σ 561 + nI 1), v', ?_, fun w => ?_, ⟨R0_s g4 (fun k hk hk2 => va_up_ne _ _ hk2), ?_⟩, Or.inr rfl, va_up_self _ _ _, fun h => absurd h (by decide)⟩
    · rw [tk]
      have : m_X6_isBusy v6 = some 1 := by unfold m_X6_isBusy; rw [if_neg (by rw [b4]; exact nI_ne0 (by omega) (by omega))]
      rw [this]
      simp only [q_ob]
      rw [if_neg (by decide), hv']
    · unfold m_X9_ticks
      rw [t1 w]
      simp only [q_ob]
      rw [r_busy1 b3 (by omega) b2]
      simp only [q_ob, g1 w]
      exact fin τ (by rw [g2, t2]) w 1
    · rw [g5 8 (by omega), k60, va_up_self, va_up_self]
