/-! THE METHODS, both sides: cut, withdraw, pass, set -/
theorem b_cut {B : Nat} {v w : xSt} (H : RBC B v w) : MN B (m_X8_cut v) (m_X9_cut w) := by
  obtain ⟨v1, w1, e1, e2, HR, f1, f2, f3, f4⟩ := s_save (RBC_1 (x := 0) H)
  obtain ⟨j0, τ0, j02, ⟨r2, hr2, a1, a2, a3⟩, b1, b2⟩ := s_lose8 HR.1.1
  obtain ⟨j1, τ1, j12, ⟨r5, hr5, c1, c2, c3⟩, d1, d2⟩ := s_lose11 a2
  obtain ⟨v10, hv10⟩ : ∃ v10, v10 = st2 (st2 (st2 (st2 r5.2 0 11 ((r5.2 0 11) + (r2.1 + r5.1))) 0 7 0) 5 2 0) 6 1 0 := ⟨_, rfl⟩
  have k10 : ∀ j, j ≠ 0 → j ≠ 5 → j ≠ 6 → v10 j = r5.2 j := by
    intro j h1 h2 h3
    rw [hv10, q_sn h3, q_sn h2, q_sn h1, q_sn h1]
  have k0 : v10 0 = va_up (va_up (r5.2 0) 11 ((r5.2 0 11) + (nI j0 + nI j1))) 7 0 := by
    rw [hv10, q_sn (by omega), q_sn (by omega), q_ss, q_ss, a1, c1]
  have k5 : v10 5 = va_up (r5.2 5) 2 0 := by rw [hv10, q_sn (by omega), q_ss, q_sn (by omega), q_sn (by omega)]
  have k6 : v10 6 = va_up (r5.2 6) 1 0 := by rw [hv10, q_ss, q_sn (by omega), q_sn (by omega), q_sn (by omega)]
  have hlp : m_X6_losePower (sh 7 v1) = some (nI j0 + nI j1, v10) := by
    unfold m_X6_losePower
    rw [hr2]
    simp only [q_ob, q_lt]
    rw [hr5]
    simp only [q_ob, q_lt]
    rw [← hv10, a1, c1]
  obtain ⟨ρ, hρ⟩ : ∃ ρ, ρ = va_up (fl (va_up (va_up (va_up τ1 564 (τ1 564 + (nI j0 + nI j1))) 552 0) 553 0) 568 12 (fun _ => nI 0)) 567 (nI 0) := ⟨_, rfl⟩
  have rk : ∀ k, k ≠ 564 → k ≠ 552 → k ≠ 553 → (k < 567 ∨ 580 ≤ k) → ρ k = τ1 k := by
    intro k h1 h2 h3 h4
    rw [hρ, va_up_ne _ _ (by omega), fl_o (by omega), va_up_ne _ _ h3, va_up_ne _ _ h2, va_up_ne _ _ h1]
  have ht : w1 1 561 = τ1 561 := by rw [d2 _ (by omega) (by omega), b2 _ (by omega) (by omega)]
  have HN : RR B v10 ρ := by
    obtain ⟨x1, x2, x3, x4, x5, x6, x7, x8⟩ := c2
    refine ⟨⟨?_, ?_, ?_, ?_, ?_, ?_, ?_, ?_⟩, ?_⟩
    · obtain ⟨y1, y2, y3, y4, y5, y6⟩ := x1
      rw [k0]
      unfold RSc
      rw [rk 562 (by omega) (by omega) (by omega) (by omega), rk 563 (by omega) (by omega) (by omega) (by omega), rk 565 (by omega) (by omega) (by omega) (by omega)]
      have z552 : ρ 552 = 0 := by rw [hρ, va_up_ne _ _ (by omega), fl_o (by omega), va_up_ne _ _ (by omega), va_up_self]
      have z564 : ρ 564 = τ1 564 + (nI j0 + nI j1) := by rw [hρ, va_up_ne _ _ (by omega), fl_o (by omega), va_up_ne _ _ (by omega), va_up_ne _ _ (by omega), va_up_self]
      rw [z552, z564]
      refine ⟨va_up_self _ _ _, Or.inl rfl, ?_, ?_, ?_, ?_⟩
      · rw [va_up_ne _ _ (by omega), va_up_ne _ _ (by omega)]; exact y3
      · rw [va_up_ne _ _ (by omega), va_up_ne _ _ (by omega)]; exact y4
      · rw [va_up_ne _ _ (by omega), va_up_self, y5]
      · rw [va_up_ne _ _ (by omega), va_up_ne _ _ (by omega)]; exact y6
    · rw [k10 1 (by omega) (by omega) (by omega), k10 2 (by omega) (by omega) (by omega), k10 3 (by omega) (by omega) (by omega), k10 4 (by omega) (by omega) (by omega)]
      exact RCell_c x2 (fun k hk => rk k (by omega) (by omega) (by omega) (by omega))
    · rw [k5]
      obtain ⟨⟨l, l1, l2, l3⟩, l4, l5, l6⟩ := x3
      have z553 : ρ 553 = 0 := by rw [hρ, va_up_ne _ _ (by omega), fl_o (by omega), va_up_self]
      refine ⟨⟨l, l1, ?_, ?_⟩, ?_, ?_, Or.inl z553⟩
      · rw [va_up_ne _ _ (by omega)]; exact l2
      · rw [rk 554 (by omega) (by omega) (by omega) (by omega)]; exact l3
      · rw [va_up_ne _ _ (by omega), rk 555 (by omega) (by omega) (by omega) (by omega)]; exact l4
      · rw [va_up_self, z553]
    · rw [k6]
      exact RLd_0 (va_up_self _ _ _) (by rw [hρ, va_up_self])
    · rw [k10 8 (by omega) (by omega) (by omega), k10 9 (by omega) (by omega) (by omega), k10 10 (by omega) (by omega) (by omega)]
      exact RWk_c x5 (fun k hk => rk _ (by omega) (by omega) (by omega) (by omega)) (fun _ _ => rfl) (fun _ _ => rfl)
    · rw [k10 11 (by omega) (by omega) (by omega), k10 12 (by omega) (by omega) (by omega), k10 13 (by omega) (by omega) (by omega)]
      exact RWk_c x6 (fun k hk => rk _ (by omega) (by omega) (by omega) (by omega)) (fun _ _ => rfl) (fun _ _ => rfl)
    · exact RLn_c x7 (Nat.le_refl _) (fun k hk => rk k (by omega) (by omega) (by omega) (by omega)) (fun j hj hj2 => k10 j (by omega) (by omega) (by omega))
    · rw [k10 46 (by omega) (by omega) (by omega)]
      exact RSt_c x8 (fun k hk hk2 => rk k (by omega) (by omega) (by omega) (by omega)) (fun _ _ => rfl)
    · rw [k0, va_up_ne _ _ (by omega), va_up_ne _ _ (by omega), rk 561 (by omega) (by omega) (by omega) (by omega), c3, a3, ← ht]
      exact HR.1.2
  have hch : ∀ j, j < 47 → (sh 7 (pu 7 47 v1 v10)) j = v10 j := fun j hj => by rw [sh_e, pu_i (by omega) (by omega)]; exact congrArg v10 (by omega)
  refine ⟨nI j0 + nI j1, pu 7 47 v1 v10, va_up w1 1 ρ, ?_, ?_, ?_, MN_fin (v := v) (w := w) HR (Nat.le_refl _) (fun j h1 h2 => pu_o (by omega)) (fun k hk => by rw [pu_o (by omega)]) (RR_v HN hch)⟩
  · unfold m_X8_cut
    rw [e1]
    simp only [q_ob]
    rw [hlp]
    rfl
  · have b1' := b1 w1
    rw [va_up_id] at b1'
    unfold m_X9_cut
    simp only [q_lt]
    rw [e2]
    simp only [q_ob]
    rw [show (0 : Int32) = nI 0 from rfl, b1']
    simp only [q_ob]
    rw [show (1 : Int32) = nI 1 from rfl, d1 w1]
    simp only [q_ob, kc564, kn564, kc552, kn552, kc553, kn553, q_st, va_up_self, r_unloads]
    rw [hρ]
    rfl
  · rw [va_up_ne _ _ (by omega), f4 8 (by omega), w1_8]
/-- the reference's rank of a number: the last that has it -/
theorem r_rankOf {w : xSt} {σ : Nat → Int32} {n : Nat} {p : Int32} (hn : σ 580 = nI n) (hn1 : n ≤ 10) (hu : ∀ r r', r < n → r' < n → σ (617 + 18 * r) = σ (617 + 18 * r') → r = r') : wp (m_X9_rankOf (va_up w 1 σ) p) (FD 0 n (fun r => σ (617 + 18 * r) = p)) := by
  unfold m_X9_rankOf
  refine wp_lp (fun k s => s.2 = nI k ∧ ((s.1 = -1 ∧ ∀ r, r < k → ¬ σ (617 + 18 * r) = p) ∨ ∃ r, r < k ∧ s.1 = nI r ∧ σ (617 + 18 * r) = p)) n (xFg (by omega)) ⟨rfl, Or.inl ⟨rfl, fun r hr => absurd hr (by omega)⟩⟩ (fun k s rec hk hI => Or.inl ?_) (fun s rec hI => ?_)
  · obtain ⟨z, i⟩ := s
    obtain ⟨h1, h2⟩ := hI
    dsimp only at h1 h2
    subst h1
    have o := r_ofOrder (w := w) (σ := σ) (r := k) (j := 0) (by omega)
    simp only [q_u2, kc580, kn580, va_up_self, hn, q_lt]
    rw [if_neg (nI_ge hk (by omega)), show (0 : Int32) = nI 0 from rfl, o]
    simp only [q_ob, Nat.add_zero]
    by_cases c : σ (617 + 18 * k) = p
    · rw [if_pos c, nI_1]
      exact ⟨_, ⟨rfl, Or.inr ⟨k, by omega, rfl, c⟩⟩, rfl⟩
    · rw [if_neg c, nI_1]
      refine ⟨_, ⟨rfl, ?_⟩, rfl⟩
      rcases h2 with ⟨h2, h3⟩ | ⟨r, h2, h3, h4⟩
      · refine Or.inl ⟨h2, fun r hr => ?_⟩
        by_cases e : r = k
        · rw [e]; exact c
        · exact h3 r (by omega)
      · exact Or.inr ⟨r, by omega, h3, h4⟩
  · obtain ⟨z, i⟩ := s
    obtain ⟨h1, h2⟩ := hI
    dsimp only at h1 h2
    subst h1
    simp only [q_u2, kc580, kn580, va_up_self, hn]
    refine wp_t (nI_le (Nat.le_refl _) (by omega)) (wp_s ?_)
    rcases h2 with ⟨h2, h3⟩ | ⟨r, h2, h3, h4⟩
    · exact Or.inl ⟨h2, fun r _ hr => h3 r hr⟩
    · exact Or.inr ⟨r, Nat.zero_le _, h2, h3, h4, fun t _ ht e => absurd (hu t r (by omega) h2 (e.trans h4.symm)) (by omega)⟩
theorem s_rankOf {B n : Nat} {v c : xSt} {σ : Nat → Int32} {p : Int32} (H : RLn B v σ) (hn : σ 580 = nI n) (hn1 : n ≤ 10) (hc : ∀ j, j < 32 → c j = v (14 + j)) : wp (m_X1_rankOf c p) (FD 0 n (fun r => σ (617 + 18 * r) = p)) := by
  obtain ⟨n', q, π, a1, a2, a3, a4, a5, a6, a7, a8, a9⟩ := id H
  obtain rfl : n' = n := (nI_eq (by omega) (by omega)).mp (a3.symm.trans hn)
  have c0 : c 0 1 = nI n' := by rw [hc 0 (by omega)]; exact a4
  have cp : PM 10 π (c 1) := by rw [hc 1 (by omega)]; exact a7
  have key : ∀ r, r < n' → c (2 + 3 * π r) 0 = σ (617 + 18 * r) := by
    intro r hr
    have hπ := (a7.1 r (by omega)).1
    obtain ⟨⟨num, g1, g2, g3⟩, -⟩ := a8 r hr
    rw [hc _ (by omega), show 14 + (2 + 3 * π r) = 16 + 3 * π r by omega, g2, g3]
  unfold m_X1_rankOf
  refine lp_fi (p := fun r => σ (617 + 18 * r) = p) (xFg (by omega)) rfl (fun r rec hr hp => ?_) (fun r rec hr hp => ?_) (fun rec => ?_)
  · have hπ := (a7.1 r (by omega)).1
    simp only [q_u1, c0, q_lt]
    rw [if_neg (nI_ge hr (by omega)), e_orderAt c0 hn1 cp hr]
    simp only [q_ob, q_oms]
    rw [q_ck hπ, if_pos (by rw [key r hr]; exact hp)]
  · have hπ := (a7.1 r (by omega)).1
    simp only [q_u1, c0, q_lt]
    rw [if_neg (nI_ge hr (by omega)), e_orderAt c0 hn1 cp hr]
    simp only [q_ob, q_oms]
    rw [q_ck hπ, if_neg (by rw [key r hr]; exact hp), show nI r + 1 = nI (r + 1) from nI_1 r]
  · simp only [q_u1, c0]
    rw [if_pos (nI_le (Nat.le_refl _) (by omega))]
theorem b_withdraw {B : Nat} {v w : xSt} {p : Int32} (H : RBC B v w) : MN B (m_X8_withdraw_n v p) (m_X9_withdraw w p) ∨ MT B (m_X8_withdraw_t v p) xIOB 1 (m_X9_withdraw w p) := by
  obtain ⟨n, q, π, a1, a2, a3, a4, a5, a6, a7, a8, a9⟩ := id H.1.1.2.2.2.2.2.2.1
  obtain ⟨z, hz, hf⟩ := s_rankOf (c := sh 21 v) (p := p) H.1.1.2.2.2.2.2.2.1 a3 a1 (fun j hj => by rw [sh_e, sh_e]; exact congrArg v (by omega))
  obtain ⟨z', hz', hf'⟩ := r_rankOf (w := st2 w 0 8 0) (p := p) a3 a1 a9
  rw [w1_s] at hz'
  obtain rfl := FD_u hf hf'
  rcases FD_z hf a1 with h1 | ⟨r, hr, h1, h2⟩
  · right
    refine MT_f H ?_ ?_
    · unfold m_X8_withdraw_t
      rw [hz]
      simp only [q_ob]
      rw [if_pos h1]
    · unfold m_X9_withdraw
      simp only [q_lt]
      rw [hz']
      simp only [q_ob]
      rw [if_pos h1]
  · left
    obtain ⟨v1, w1, e1, e2, HR, f1, f2, f3, f4⟩ := s_save (RBC_1 (x := 0) H)
    have a3' : w1 1 580 = nI n := by rw [f3 1 (by omega) (by omega), w1_1]; exact a3
    obtain ⟨c, hc, HC⟩ := s_leave (c := sh 21 v1) HR.1.1.2.2.2.2.2.2.1 a3' a1 hr (fun j hj => by rw [sh_e, sh_e]; exact congrArg v1 (by omega))
    have hrm := r_removes (w := w1) (σ := w1 1) (r := r) (n := n) (by omega) a3' (by omega) a1
    rw [va_up_id] at hrm
    have HN : RR B (sh 7 (pu 21 32 v1 c)) (rM (w1 1) r n) := by
      refine ⟨R0_line HR.1.1 (Nat.le_refl _) (fun j hj => by rw [sh_e, pu_o (by omega)]; rfl) (fun k hk k1 k2 => rM_o hk k2) (HC _ (fun j hj => by rw [sh_e, pu_i (by omega) (by omega)]; exact congrArg c (by omega))), ?_⟩
      rw [rM_o (by omega) (by omega)]
      show (pu 21 32 v1 c) 7 8 = _
      rw [pu_o (by omega)]
      exact HR.1.2
    have hsz : (pu 21 32 v1 c) 21 1 = nI (n - 1) := by
      obtain ⟨n', q', π', g1, g2, g3, g4, -⟩ := HN.1.2.2.2.2.2.2.1
      rw [rM_580] at g3
      exact g4.trans g3.symm
    refine ⟨nI (n - 1), pu 21 32 v1 c, va_up w1 1 (rM (w1 1) r n), ?_, ?_, ?_, MN_fin (v := v) (w := w) HR (Nat.le_refl _) (fun j h1 h2 => pu_o (by omega)) (fun k hk => by rw [pu_o (by omega)]) HN⟩
    · unfold m_X8_withdraw_n
      rw [hz]
      simp only [q_ob]
      rw [if_neg h2, e1]
      simp only [q_ob]
      rw [h1, hc]
      simp only [q_ob, q_lt]
      rw [hsz]
    · unfold m_X9_withdraw
      simp only [q_lt]
      rw [hz']
      simp only [q_ob]
      rw [if_neg h2, e2]
      simp only [q_ob]
      rw [h1, hrm]
      simp only [q_ob, kc580, kn580, va_up_self]
      rfl
    · rw [va_up_ne _ _ (by omega), f4 8 (by omega), w1_8]
/-- ticks one after another -/
theorem s_passes (p : Nat) (hp : p < 100000) : ∀ n k a B v σ, k + n = p → B + n < 16000000 → RR B (sh 7 v) σ → ∃ c v' τ,
    (∀ F, n < F → lp (fun (rec8 : Int32 × Int32 × xSt → Option (Int32 × xSt)) => un3 (fun (a5 : Int32) (a6 : Int32) (v7 : xSt) => (if nI p ≤ a6 then some (a5, v7) else ob (m_X6_tick (sh 7 v7)) (fun r11 => lt (pu 7 47 v7 r11.2) (fun v13 => lt (fun (a14 : Int32) => rec8 (a14, (a6 + 1), v13)) (fun j15 => (if r11.1 = 0 then j15 a5 else j15 (a5 + 1)))))))) F (a, nI k, v) = some (c, v')) ∧
    (∀ w F, n < F → lp (fun (rec4 : Int32 × Int32 × xSt → Option (Int32 × xSt)) => un3 (fun (a1 : Int32) (a2 : Int32) (v3 : xSt) => (if nI p ≤ a2 then some (a1, v3) else ob (m_X9_ticks v3) (fun r7 => lt (r7.2) (fun v9 => lt (fun (t10 : Int32) (t11 : Int32) => rec4 ((t10 + t11), (a2 + 1), v9)) (fun j12 => (if r7.1 = 0 then j12 a1 (0 : Int32) else j12 a1 (1 : Int32)))))))) F (a, nI k, va_up w 1 σ) = some (c, va_up w 1 τ)) ∧
    RR (B + n) (sh 7 v') τ ∧ ∀ j, j < 7 ∨ 54 ≤ j → v' j = v j := by
  intro n
  induction n with
  | zero =>
    intro k a B v σ hk hB H
    obtain rfl : k = p := by omega
    refine ⟨a, v, σ, fun F hF => ?_, fun w F hF => ?_, H, fun _ _ => rfl⟩
    · obtain ⟨F, rfl⟩ : ∃ t, F = t + 1 := ⟨F - 1, by omega⟩
      rw [lp]
      simp only [q_u3]
      rw [if_pos (nI_le (Nat.le_refl _) (by omega))]
    · obtain ⟨F, rfl⟩ : ∃ t, F = t + 1 := ⟨F - 1, by omega⟩
      rw [lp]
      simp only [q_u3]
      rw [if_pos (nI_le (Nat.le_refl _) (by omega))]
  | succ n ih =>
    intro k a B v σ hk hB H
    obtain ⟨b, τ, c, h1, h2, h3, h4, -⟩ := s_tick H (by omega)
    have hch : ∀ j, j < 47 → (sh 7 (pu 7 47 v c)) j = c j := fun j hj => by rw [sh_e, pu_i (by omega) (by omega)]; exact congrArg c (by omega)
    obtain ⟨z, v', ρ, g1, g2, g3, g4⟩ := ih (k + 1) (a + b) (B + 1) (pu 7 47 v c) τ (by omega) (by omega) (RR_v h3 hch)
    have hb1 : (if b = 0 then a else a + 1) = a + b := by
      rcases h4 with h4 | h4
      · rw [if_pos h4, h4]; exact (Int32.add_zero a).symm
      · rw [if_neg (by rw [h4]; decide), h4]
    refine ⟨z, v', ρ, fun F hF => ?_, fun w F hF => ?_, RR_b g3 (by omega), fun j hj => by rw [g4 j hj, pu_o (by omega)]⟩
    · obtain ⟨F, rfl⟩ : ∃ t, F = t + 1 := ⟨F - 1, by omega⟩
      rw [lp]
      simp only [q_u3]
      rw [if_neg (nI_ge (by omega) (by omega)), h1]
      simp only [q_ob, q_lt]
      have := g1 F (by omega)
      rw [← this, ← hb1, nI_1]
      by_cases c0 : b = 0
      · rw [if_pos c0, if_pos c0]
        rfl
      · rw [if_neg c0, if_neg c0]
        rfl
    · obtain ⟨F, rfl⟩ : ∃ t, F = t + 1 := ⟨F - 1, by omega⟩
      rw [lp]
      simp only [q_u3]
      rw [if_neg (nI_ge (by omega) (by omega)), h2 w]
      simp only [q_ob, q_lt]
      have := g2 w F (by omega)
      rw [← this, nI_1]
      rcases h4 with h4 | h4
      · rw [if_pos h4, h4]
        rfl
      · rw [if_neg (by rw [h4]; decide), h4]
        rfl
theorem r_passes {w : xSt} {σ τ : Nat → Int32} {p : Nat} {c : Int32} (h : ∀ w F, p < F → lp (fun (rec4 : Int32 × Int32 × xSt → Option (Int32 × xSt)) => un3 (fun (a1 : Int32) (a2 : Int32) (v3 : xSt) => (if nI p ≤ a2 then some (a1, v3) else ob (m_X9_ticks v3) (fun r7 => lt (r7.2) (fun v9 => lt (fun (t10 : Int32) (t11 : Int32) => rec4 ((t10 + t11), (a2 + 1), v9)) (fun j12 => (if r7.1 = 0 then j12 a1 (0 : Int32) else j12 a1 (1 : Int32)))))))) F (0, nI 0, va_up w 1 σ) = some (c, va_up w 1 τ)) (hp : p < 100000) : m_X9_passes (va_up w 1 σ) (nI p) = some (c, va_up w 1 τ) := by
  unfold m_X9_passes
  exact h w xF (xFg (by omega))
theorem b_pass {B : Nat} {v w : xSt} {p : Int32} (H : RBC B v w) (hB : B + 200 < 16000000) : MN (B + 200) (m_X8_pass_n v p) (m_X9_pass w p) ∨ MT B (m_X8_pass_t v p) xIAE 1 (m_X9_pass w p) := by
  rcases xwi_r p 1 200 (by omega) (by omega) with hx | ⟨hx, a, a0, a1, rfl⟩
  · replace hx : xwi p 1 200 = 0 := hx
    refine Or.inr (MT_f H ?_ ?_)
    · unfold m_X8_pass_t
      rw [if_pos hx]
    · unfold m_X9_pass
      simp only [q_lt]
      rw [if_pos hx]
  · have hx' : ¬ xwi (nI a) 1 200 = 0 := by rw [show xwi (nI a) 1 200 = 1 from hx]; decide
    left
    obtain ⟨v1, w1, e1, e2, HR, f1, f2, f3, f4⟩ := s_save (RBC_1 (x := 0) H)
    obtain ⟨c, v2, τ, g1, g2, g3, g4⟩ := s_passes a (by omega) a 0 0 B v1 (w1 1) (by omega) (by omega) HR.1
    have hp := r_passes (w := w1) g2 (by omega)
    rw [va_up_id] at hp
    refine ⟨c, v2, va_up w1 1 τ, ?_, ?_, ?_, MN_fin (v := v) (w := w) HR (by omega) (fun j h1 h2 => g4 j (by omega)) (fun k hk => by rw [g4 0 (by omega)]) (RR_b g3 (by omega))⟩
    · unfold m_X8_pass_n
      rw [if_neg hx', e1]
      exact g1 xF (xFg (by omega))
    · unfold m_X9_pass
      simp only [q_lt]
      rw [if_neg hx', e2]
      simp only [q_ob]
      rw [hp]
      rfl
    · rw [va_up_ne _ _ (by omega), f4 8 (by omega), w1_8]
theorem xsv_t : ∀ j, j < 5 → xat 5 (xsv 1) (nI j) = 1 ∧ xat 5 (xsv 2) (nI j) = (if j = 0 then 9 else if j = 4 then 9 else if j = 3 then 20 else 99) := by decide +kernel
theorem b_set {B : Nat} {v w : xSt} {p s : Int32} (H : RBC B v w) : MN B (m_X8_set_n v p s) (m_X9_set w p s) ∨ MT B (m_X8_set_t v p s) xIOB 1 (m_X9_set w p s) ∨ MT B (m_X8_set_t v p s) xIAE 2 (m_X9_set w p s) := by
  rcases xwi_r p 0 4 (by omega) (by omega) with hx | ⟨hx, a, a0, a1, rfl⟩
  · replace hx : xwi p 0 4 = 0 := hx
    refine Or.inr (Or.inl (MT_f H ?_ ?_))
    · unfold m_X8_set_t
      rw [if_pos hx]
    · unfold m_X9_set
      simp only [q_lt]
      rw [if_pos hx]
  · have hx' : ¬ xwi (nI a) 0 4 = 0 := by rw [show xwi (nI a) 0 4 = 1 from hx]; decide
    obtain ⟨t1, t2⟩ := xsv_t a (by omega)
    obtain ⟨M, hM, hM2, hM3⟩ : ∃ M, M ≤ 99 ∧ 1 ≤ M ∧ xat 5 (xsv 2) (nI a) = nI M := by
      rw [t2]
      split
      · exact ⟨9, by omega, by omega, rfl⟩
      · split
        · exact ⟨9, by omega, by omega, rfl⟩
        · split
          · exact ⟨20, by omega, by omega, rfl⟩
          · exact ⟨99, by omega, by omega, rfl⟩
    have hmo : m_X9_mostOf (nI a) = some (nI M) := by
      rw [← hM3, t2]
      have : ∀ a, a < 5 → m_X9_mostOf (nI a) = some (if a = 0 then 9 else if a = 4 then 9 else if a = 3 then 20 else 99) := by decide +kernel
      exact this a (by omega)
    rcases xwi_r s 1 M (by omega) hM2 with hy | ⟨hy, b, b0, b1, rfl⟩
    · replace hy : xwi s 1 (nI M) = 0 := hy
      refine Or.inr (Or.inr (MT_f H ?_ ?_))
      · unfold m_X8_set_t
        rw [if_neg hx', t1, hM3, if_pos hy]
      · unfold m_X9_set
        simp only [q_lt]
        rw [if_neg hx', hmo]
        simp only [q_ob]
        rw [if_pos hy]
    · left
      have hy' : ¬ xwi (nI b) 1 (nI M) = 0 := by rw [show xwi (nI b) 1 (nI M) = 1 from hy]; decide
      obtain ⟨v1, w1, e1, e2, HR, f1, f2, f3, f4⟩ := s_save (RBC_1 (x := 0) H)
      have es := e_setting (j := a) HR.1.1.2.2.2.2.2.2.2 (by omega)
      refine ⟨w1 1 (556 + a), va_up v1 53 (va_up (v1 53) a (nI b)), va_up w1 1 (va_up (w1 1) (556 + a) (nI b)), ?_, ?_, ?_, MN_fin (v := v) (w := w) HR (Nat.le_refl _) (fun j h1 h2 => va_up_ne _ _ (by omega)) (fun k hk => by rw [va_up_ne _ _ (by omega)]) ?_⟩
      · unfold m_X8_set_n
        rw [if_neg hx', t1, hM3, if_neg hy', e1]
        simp only [q_ob]
        rw [es]
        simp only [q_ob, q_lt]
        rw [xpt_n (by omega) (by omega)]
      · unfold m_X9_set
        simp only [q_lt]
        rw [if_neg hx', hmo]
        simp only [q_ob]
        rw [if_neg hy', e2]
        simp only [q_ob]
        have e556 : (556 : Int32) + nI a = nI (556 + a) := nI_add 556 a
        rw [e556, q_cl (by omega), q_ck (by rw [show (0 : Int32) = nI 0 from rfl, q_lts (by omega) (by omega)]; omega), q_ck (by rw [show (0 : Int32) = nI 0 from rfl, q_lts (by omega) (by omega)]; omega)]
        rfl
      · rw [va_up_ne _ _ (by omega), f4 8 (by omega), w1_8]
      · refine RR_st HR.1 (fun k hk => va_up_ne _ _ (by omega)) (fun j hj => by rw [sh_e, va_up_ne _ _ (by omega)]; rfl) (fun j hj => ?_)
        show (va_up v1 53 (va_up (v1 53) a (nI b))) 53 j = _ ∧ _
        rw [va_up_self]
        by_cases c : j = a
        · subst c
          rw [va_up_self, va_up_self]
          exact ⟨rfl, b, b0, by omega, rfl⟩
        · rw [va_up_ne _ _ c, va_up_ne _ _ (by omega)]
          exact HR.1.1.2.2.2.2.2.2.2 j hj
theorem b_setting {B : Nat} {v w : xSt} {p : Int32} (H : RBC B v w) : MN B (m_X8_setting_n v p) (m_X9_setting w p) ∨ MT B (m_X8_setting_t v p) xIOB 1 (m_X9_setting w p) := by
  rcases xwi_r p 0 4 (by omega) (by omega) with hx | ⟨hx, a, a0, a1, rfl⟩
  · replace hx : xwi p 0 4 = 0 := hx
    refine Or.inr (MT_f H ?_ ?_)
    · unfold m_X8_setting_t
      rw [if_pos hx]
    · unfold m_X9_setting
      simp only [q_lt]
      rw [if_pos hx]
  · have hx' : ¬ xwi (nI a) 0 4 = 0 := by rw [show xwi (nI a) 0 4 = 1 from hx]; decide
    left
    have es := e_setting (j := a) H.1.1.2.2.2.2.2.2.2 (by omega)
    refine ⟨w 1 (556 + a), v, st2 w 0 8 0, ?_, ?_, w1_8 _ _, RBC_1 H⟩
    · unfold m_X8_setting_n
      rw [if_neg hx', es]
      rfl
    · unfold m_X9_setting
      simp only [q_lt]
      rw [if_neg hx']
      have e556 : (556 : Int32) + nI a = nI (556 + a) := nI_add 556 a
      rw [e556, q_cl (by omega), q_ck (by rw [show (0 : Int32) = nI 0 from rfl, q_lts (by omega) (by omega)]; omega), w1_1]
