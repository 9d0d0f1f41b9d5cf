/-! THE CLASS AND THE TIE: a state becomes another -/
theorem pu2_i {a b n j : Nat} {v r : xSt} (hab : a + n ≤ b) (h1 : a ≤ j) (h2 : j < a + n) : pu b n (pu a n v r) (sh n r) j = r (j - a) := by
  rw [pu_o (by omega), pu_i h1 h2]
theorem pu2_o {a b n j : Nat} {v r : xSt} (h : ∀ j, n ≤ j → r j = ct n (sh a v) (sh b v) j) (hab : a + n ≤ b) (h1 : j < a ∨ a + n ≤ j) : pu b n (pu a n v r) (sh n r) j = v j := by
  by_cases c : b ≤ j ∧ j < b + n
  · rw [pu_i c.1 c.2, sh_e, h _ (by omega), ct_h (by omega), sh_e]
    congr 1
    omega
  · rw [pu_o (by omega), pu_o (by omega)]
theorem s_X0_become (c : xSt) : wp (m_X0_become c) (fun r => r 0 3 = c 4 3 ∧ (∀ i, i < 256 → r 1 i = c 5 i) ∧ (∀ i, i < 256 → r 2 i = c 6 i) ∧ (∀ i, i < 8 → r 3 i = c 7 i) ∧ ∀ j, 4 ≤ j → r j = c j) := by
  unfold m_X0_become
  refine wp_c (by decide) (wp_n (fun v2 e2 => wp_c (by decide) (wp_n (fun v4 e4 => wp_c (by decide) (wp_n (fun v6 e6 => wp_n (fun v7 e7 => wp_s ?_)))))))
  have f2 : ∀ j, j ≠ 1 → v2 j = c j := fun j hj => by rw [e2, va_up_ne _ _ hj]
  have f4 : ∀ j, j ≠ 2 → v4 j = v2 j := fun j hj => by rw [e4, va_up_ne _ _ hj]
  have f6 : ∀ j, j ≠ 3 → v6 j = v4 j := fun j hj => by rw [e6, va_up_ne _ _ hj]
  have f7 : ∀ j, j ≠ 0 → v7 j = v6 j := fun j hj => by rw [e7, q_sn hj]
  refine ⟨?_, fun i hi => ?_, fun i hi => ?_, fun i hi => ?_, fun j hj => ?_⟩
  · rw [e7, q_ss, va_up_self, f6 4 (by omega), f4 4 (by omega), f2 4 (by omega)]
  · rw [f7 1 (by omega), f6 1 (by omega), f4 1 (by omega), e2, va_up_self]
    show va_cpy (c 5) (c 1) 0 0 256 i = _
    rw [pk_cpy_in (by omega) (by omega)]
    exact congrArg (c 5) (by omega)
  · rw [f7 2 (by omega), f6 2 (by omega), e4, va_up_self, f2 6 (by omega)]
    show va_cpy (c 6) (v2 2) 0 0 256 i = _
    rw [pk_cpy_in (by omega) (by omega)]
    exact congrArg (c 6) (by omega)
  · rw [f7 3 (by omega), e6, va_up_self, f4 7 (by omega), f2 7 (by omega)]
    show va_cpy (c 7) (v4 3) 0 0 8 i = _
    rw [pk_cpy_in (by omega) (by omega)]
    exact congrArg (c 7) (by omega)
  · rw [f7 j (by omega), f6 j (by omega), f4 j (by omega), f2 j (by omega)]
theorem s_X2_become {c : xSt} (h : c 1 2 = 0 ∨ c 1 2 = 1) : wp (m_X2_become c) (fun r => (∀ j, j < 3 → r 0 j = c 1 j) ∧ ∀ j, 1 ≤ j → r j = c j) := by
  unfold m_X2_become
  refine wp_n (fun v1 e1 => wp_n (fun v2 e2 => ?_))
  have f1 : ∀ j, j ≠ 0 → v1 j = c j := fun j hj => by rw [e1, q_sn hj]
  have f2 : ∀ j, j ≠ 0 → v2 j = c j := fun j hj => by rw [e2, q_sn hj, f1 j hj]
  rw [f2 1 (by omega)]
  refine wp_c h (wp_n (fun v4 e4 => wp_s ⟨fun j hj => ?_, fun j hj => by rw [e4, q_sn (by omega), f2 j (by omega)]⟩))
  rw [e4, q_ss, e2, q_ss, e1, q_ss, q_sn (by omega)]
  rcases (show j = 0 ∨ j = 1 ∨ j = 2 by omega) with rfl | rfl | rfl
  all_goals rfl
theorem s_X3_become (c : xSt) : wp (m_X3_become c) (fun r => (∀ j, j < 5 → r 0 j = c 3 j) ∧ r 1 1 = c 4 1 ∧ (∀ i, i < 12 → r 2 i = c 5 i) ∧ ∀ j, 3 ≤ j → r j = c j) := by
  unfold m_X3_become
  have H0 : c 0 = c 0 ∧ ∀ j, 1 ≤ j → c j = c j := ⟨rfl, fun _ _ => rfl⟩
  refine wp_n (fun v1 e1 => ?_)
  have H1 := st_h H0 0 (c 3 0)
  rw [← e1] at H1
  refine wp_n (fun v2 e2 => ?_)
  rw [H1.2 3 (by omega)] at e2
  have H2 := st_h H1 1 (c 3 1)
  rw [← e2] at H2
  refine wp_n (fun v3 e3 => ?_)
  rw [H2.2 3 (by omega)] at e3
  have H3 := st_h H2 2 (c 3 2)
  rw [← e3] at H3
  refine wp_n (fun v4 e4 => ?_)
  rw [H3.2 3 (by omega)] at e4
  have H4 := st_h H3 3 (c 3 3)
  rw [← e4] at H4
  refine wp_n (fun v5 e5 => ?_)
  rw [H4.2 3 (by omega)] at e5
  have H5 := st_h H4 4 (c 3 4)
  rw [← e5] at H5
  obtain ⟨r, hr, r0, r1, r2⟩ := s_X4_become (ct 2 (sh 1 v5) (sh 4 v5))
  refine wp_e hr (wp_n (fun v8 e8 => wp_s ?_))
  have pi := fun j => pu2_i (a := 1) (b := 4) (n := 2) (j := j) (v := v5) (r := r) (by omega)
  have po := fun j => pu2_o (a := 1) (b := 4) (n := 2) (j := j) (v := v5) (r := r) r2 (by omega)
  rw [← e8] at pi po
  refine ⟨fun j hj => ?_, ?_, fun i hi => ?_, fun j hj => ?_⟩
  · rw [po 0 (by omega), H5.1]
    rcases (show j = 0 ∨ j = 1 ∨ j = 2 ∨ j = 3 ∨ j = 4 by omega) with rfl | rfl | rfl | rfl | rfl
    all_goals rfl
  · rw [pi 1 (by omega) (by omega), r0, va_up_self]
    exact congrFun (H5.2 4 (by omega)) 1
  · rw [pi 2 (by omega) (by omega), r1 i hi]
    exact congrFun (H5.2 5 (by omega)) i
  · rw [po j (by omega), H5.2 j (by omega)]
theorem s_X1_become {c : xSt} {n : Nat} {π ρ : Nat → Nat} (hp : PM 10 π (c 1)) (hn : c 32 1 = nI n) (hn1 : n ≤ 10) (hq : PM 10 ρ (c 33)) : wp (m_X1_become c) (fun r => r 0 1 = nI n ∧ r 0 2 = c 32 2 ∧ r 1 = c 1 ∧ (∀ a, a < n → (∀ j, j < 5 → r (2 + 3 * π a) j = c (34 + 3 * ρ a) j) ∧ r (3 + 3 * π a) 1 = c (35 + 3 * ρ a) 1 ∧ ∀ i, i < 12 → r (4 + 3 * π a) i = c (36 + 3 * ρ a) i) ∧ ∀ j, 32 ≤ j → r j = c j) := by
  unfold m_X1_become
  refine wp_n (fun v1 e1 => wp_n (fun v2 e2 => ?_))
  have f2 : ∀ j, j ≠ 0 → v2 j = c j := fun j hj => by rw [e2, q_sn hj, e1, q_sn hj]
  have f20 : v2 0 = va_up (va_up (c 0) 1 (nI n)) 2 (c 32 2) := by
    rw [e2, q_ss, e1, q_ss, q_sn (by omega), hn]
  refine wp_lp (fun k s => s.1 = nI k ∧ s.2 0 1 = nI n ∧ s.2 0 2 = c 32 2 ∧ s.2 1 = c 1 ∧ (∀ a, a < k → (∀ j, j < 5 → s.2 (2 + 3 * π a) j = c (34 + 3 * ρ a) j) ∧ s.2 (3 + 3 * π a) 1 = c (35 + 3 * ρ a) 1 ∧ ∀ i, i < 12 → s.2 (4 + 3 * π a) i = c (36 + 3 * ρ a) i) ∧ ∀ j, 32 ≤ j → s.2 j = c j) n (xFg (by omega)) ⟨rfl, ?_, ?_, f2 1 (by omega), fun a ha => absurd ha (by omega), fun j hj => f2 j (by omega)⟩ (fun k s rec hk hI => Or.inl ?_) (fun s rec hI => ?_)
  · show v2 0 1 = _
    rw [f20, va_up_ne _ _ (by omega), va_up_self]
  · show v2 0 2 = _
    rw [f20, va_up_self]
  · obtain ⟨i, v4⟩ := s
    obtain ⟨rfl, g1, g2, g3, g4, g5⟩ := hI
    dsimp only at g1 g2 g3 g4 g5
    have p1 : PM 10 π (v4 1) := by rw [g3]; exact hp
    have o1 := e_orderAt (c := v4) g1 hn1 p1 hk
    have o2 := e_orderAt (c := sh 32 v4) (r := k) (n := n) (π := ρ) (by show v4 32 1 = _; rw [g5 32 (by omega), hn]) hn1 (by show PM 10 ρ (v4 33); rw [g5 33 (by omega)]; exact hq) hk
    have hπ := (hp.1 k (by omega)).1
    have hρ := (hq.1 k (by omega)).1
    have e34 : 32 + (2 + 3 * ρ k) = 34 + 3 * ρ k := by omega
    obtain ⟨r, hr, r0, r1, r2, r3⟩ := s_X3_become (ct 3 (sh (2 + 3 * π k) v4) (sh (34 + 3 * ρ k) v4))
    have pi := fun j => pu2_i (a := 2 + 3 * π k) (b := 34 + 3 * ρ k) (n := 3) (j := j) (v := v4) (r := r) (by omega)
    have po := fun j => pu2_o (a := 2 + 3 * π k) (b := 34 + 3 * ρ k) (n := 3) (j := j) (v := v4) (r := r) r3 (by omega)
    obtain ⟨v8, e8⟩ : ∃ v8, v8 = pu (34 + 3 * ρ k) 3 (pu (2 + 3 * π k) 3 v4 r) (sh 3 r) := ⟨_, rfl⟩
    rw [← e8] at pi po
    refine ⟨(nI (k + 1), v8), ⟨rfl, ?_, ?_, ?_, ?_, fun j hj => ?_⟩, ?_⟩
    · show v8 0 1 = _
      rw [po 0 (by omega), g1]
    · show v8 0 2 = _
      rw [po 0 (by omega), g2]
    · show v8 1 = _
      rw [po 1 (by omega), g3]
    · intro a ha
      dsimp only
      by_cases ak : a = k
      · subst ak
        rw [pi _ (by omega) (by omega), pi _ (by omega) (by omega), pi _ (by omega) (by omega), show 2 + 3 * π a - (2 + 3 * π a) = 0 by omega, show 3 + 3 * π a - (2 + 3 * π a) = 1 by omega, show 4 + 3 * π a - (2 + 3 * π a) = 2 by omega]
        refine ⟨fun j hj => ?_, ?_, fun i hi => ?_⟩
        · rw [r0 j hj, ct_h (by omega), sh_e, g5 _ (by omega)]
          rfl
        · rw [r1, ct_h (by omega), sh_e, g5 _ (by omega), show 34 + 3 * ρ a + (4 - 3) = 35 + 3 * ρ a by omega]
        · rw [r2 i hi, ct_h (by omega), sh_e, g5 _ (by omega), show 34 + 3 * ρ a + (5 - 3) = 36 + 3 * ρ a by omega]
      · have hne : π a ≠ π k := fun e => ak (hp.2 a k (by omega) (by omega) e)
        have ha10 := (hp.1 a (by omega)).1
        rw [po _ (by omega), po _ (by omega), po _ (by omega)]
        exact g4 a (by omega)
    · show v8 j = _
      rw [po j (by omega), g5 j hj]
    · simp only [q_u2, g1]
      rw [if_neg (nI_ge hk (by omega)), o1]
      simp only [q_ob, q_oms, o2, q_lt]
      rw [q_ck hπ, q_ck hρ]
      simp only [e34, hr, q_ob]
      rw [← e8, nI_1]
  · obtain ⟨i, v4⟩ := s
    obtain ⟨rfl, g1, g2, g3, g4, g5⟩ := hI
    dsimp only at g1 g2 g3 g4 g5
    simp only [q_u2, g1]
    exact wp_t (nI_le (Nat.le_refl _) (by omega)) (wp_s ⟨g1, g2, g3, g4, g5⟩)
def SH (c : xSt) : Prop := ∃ π, PM 10 π (c 15)
theorem RR_sh {B : Nat} {v : xSt} {σ : Nat → Int32} (H : RR B v σ) : SH v := by
  obtain ⟨n, q, π, a1, a2, a3, a4, a5, a6, a7, a8⟩ := H.1.2.2.2.2.2.2.1
  exact ⟨π, a7⟩
theorem SH_c {c c' : xSt} (H : SH c) (h : c' 15 = c 15) : SH c' := by
  obtain ⟨π, hp⟩ := H
  exact ⟨π, by rw [h]; exact hp⟩
theorem s_become {B : Nat} {c : xSt} {σ : Nat → Int32} (Hs : SH c) (H : RR B (sh 47 c) σ) : wp (m_X6_become c) (fun r => RR B r σ ∧ ∀ j, 47 ≤ j → r j = c j) := by
  obtain ⟨⟨h1, h2, h3, h4, h5, h6, h7, h8⟩, h9⟩ := H
  obtain ⟨π, hp⟩ := Hs
  obtain ⟨n, q, ρ, a1, a2, a3, a4, a5, a6, a7, a8, a10⟩ := id h7
  have hb : ∀ x : Int32, (∃ u, u < 2 ∧ x = nI u) → x = 0 ∨ x = 1 := by
    rintro x ⟨u, hu, rfl⟩
    rcases (show u = 0 ∨ u = 1 by omega) with rfl | rfl
    · exact Or.inl rfl
    · exact Or.inr rfl
  unfold m_X6_become
  -- cells
  obtain ⟨r, hr, x0, x1, x2, x3, x4⟩ := s_X0_become (ct 4 (sh 1 c) (sh 48 c))
  refine wp_e hr (wp_n (fun c1 e1 => ?_))
  have pi1 := fun j => pu2_i (a := 1) (b := 48) (n := 4) (j := j) (v := c) (r := r) (by omega)
  have po1 := fun j => pu2_o (a := 1) (b := 48) (n := 4) (j := j) (v := c) (r := r) x4 (by omega)
  rw [← e1] at pi1 po1
  -- locks
  obtain ⟨s, hs, y0, y1⟩ := s_X2_become (c := ct 1 (sh 5 c1) (sh 52 c1)) (by
    show c1 52 2 = 0 ∨ c1 52 2 = 1
    rw [po1 52 (by omega)]
    have := h3.2.2.2
    rw [← h3.2.2.1] at this
    exact this)
  refine wp_e hs (wp_n (fun c2 e2 => ?_))
  have pi2 := fun j => pu2_i (a := 5) (b := 52) (n := 1) (j := j) (v := c1) (r := s) (by omega)
  have po2 := fun j => pu2_o (a := 5) (b := 52) (n := 1) (j := j) (v := c1) (r := s) y1 (by omega)
  rw [← e2] at pi2 po2
  -- the loaded row
  obtain ⟨t, ht, z0, z1, z2⟩ := s_X4_become (ct 2 (sh 6 c2) (sh 53 c2))
  refine wp_e ht (wp_n (fun c3 e3 => ?_))
  have pi3 := fun j => pu2_i (a := 6) (b := 53) (n := 2) (j := j) (v := c2) (r := t) (by omega)
  have po3 := fun j => pu2_o (a := 6) (b := 53) (n := 2) (j := j) (v := c2) (r := t) z2 (by omega)
  rw [← e3] at pi3 po3
  -- the works
  obtain ⟨u8, b1, b2, b3⟩ := RWk_7 h5
  obtain ⟨m, hm, m0, m1, m2, m3⟩ := s_X7_become (c := ct 3 (sh 8 c3) (sh 55 c3)) (u := u8) (by
    show c3 55 7 = _
    rw [po3 55 (by omega), po2 55 (by omega), po1 55 (by omega)]
    exact b2) b1
  refine wp_e hm (wp_n (fun c4 e4 => ?_))
  have pi4 := fun j => pu2_i (a := 8) (b := 55) (n := 3) (j := j) (v := c3) (r := m) (by omega)
  have po4 := fun j => pu2_o (a := 8) (b := 55) (n := 3) (j := j) (v := c3) (r := m) m3 (by omega)
  rw [← e4] at pi4 po4
  obtain ⟨u11, d1, d2, d3⟩ := RWk_7 h6
  obtain ⟨g, hg, g0, g1, g2, g3⟩ := s_X7_become (c := ct 3 (sh 11 c4) (sh 58 c4)) (u := u11) (by
    show c4 58 7 = _
    rw [po4 58 (by omega), po3 58 (by omega), po2 58 (by omega), po1 58 (by omega)]
    exact d2) d1
  refine wp_e hg (wp_n (fun c5 e5 => ?_))
  have pi5 := fun j => pu2_i (a := 11) (b := 58) (n := 3) (j := j) (v := c4) (r := g) (by omega)
  have po5 := fun j => pu2_o (a := 11) (b := 58) (n := 3) (j := j) (v := c4) (r := g) g3 (by omega)
  rw [← e5] at pi5 po5
  have lo : ∀ j, 14 ≤ j → c5 j = c j := by
    intro j hj
    rw [po5 j (by omega), po4 j (by omega), po3 j (by omega), po2 j (by omega), po1 j (by omega)]
  -- the line
  obtain ⟨l, hl, l0, l1, l2, l3, l4⟩ := s_X1_become (c := ct 32 (sh 14 c5) (sh 61 c5)) (n := n) (π := π) (ρ := ρ) (by
    show PM 10 π (c5 15)
    rw [lo 15 (by omega)]
    exact hp) (by
    show c5 61 1 = _
    rw [lo 61 (by omega)]
    exact a4) a1 (by
    show PM 10 ρ (c5 62)
    rw [lo 62 (by omega)]
    exact a7)
  refine wp_e hl (wp_n (fun c6 e6 => ?_))
  have pi6 := fun j => pu2_i (a := 14) (b := 61) (n := 32) (j := j) (v := c5) (r := l) (by omega)
  have po6 := fun j => pu2_o (a := 14) (b := 61) (n := 32) (j := j) (v := c5) (r := l) l4 (by omega)
  rw [← e6] at pi6 po6
  -- settings and numbers
  refine wp_c (by decide) (wp_n (fun c7 e7 => ?_))
  have f7 : ∀ j, j ≠ 46 → c7 j = c6 j := fun j hj => by rw [e7, va_up_ne _ _ hj]
  have hi : ∀ j, 47 ≤ j → c7 j = c j := by
    intro j hj
    rw [f7 j (by omega), po6 j (by omega), lo j (by omega)]
  have c746 : ∀ j, j < 5 → c7 46 j = c 93 j := by
    intro j hj
    rw [e7, va_up_self]
    show va_cpy (c6 93) (c6 46) 0 0 5 j = _
    rw [pk_cpy_in (by omega) (by omega), po6 93 (by omega), lo 93 (by omega)]
    exact congrArg (c 93) (by omega)
  have harm : c7 47 7 = 0 ∨ c7 47 7 = 1 := by
    rw [hi 47 (by omega)]
    have := h1.2.1
    rw [← h1.1] at this
    exact this
  refine wp_c harm (wp_n (fun w1 k1 => wp_n (fun w2 k2 => wp_n (fun w3 k3 => wp_n (fun w4 k4 => wp_n (fun w5 k5 => wp_n (fun w6 k6 => wp_s ?_)))))))
  have H1 := st_h (v := c7) (c := c7) (f := c7 0) ⟨rfl, fun _ _ => rfl⟩ 7 (c7 47 7)
  rw [← k1] at H1
  rw [H1.2 47 (by omega)] at k2
  have H2 := st_h H1 8 (c7 47 8)
  rw [← k2] at H2
  rw [H2.2 47 (by omega)] at k3
  have H3 := st_h H2 9 (c7 47 9)
  rw [← k3] at H3
  rw [H3.2 47 (by omega)] at k4
  have H4 := st_h H3 10 (c7 47 10)
  rw [← k4] at H4
  rw [H4.2 47 (by omega)] at k5
  have H5 := st_h H4 11 (c7 47 11)
  rw [← k5] at H5
  rw [H5.2 47 (by omega)] at k6
  have H6 := st_h H5 12 (c7 47 12)
  rw [← k6] at H6
  have w60 : ∀ j, 7 ≤ j → j < 13 → w6 0 j = c 47 j := by
    intro j j1 j2
    rw [H6.1, hi 47 (by omega)]
    rcases (show j = 7 ∨ j = 8 ∨ j = 9 ∨ j = 10 ∨ j = 11 ∨ j = 12 by omega) with rfl | rfl | rfl | rfl | rfl | rfl
    all_goals rfl
  have wj : ∀ j, 1 ≤ j → j ≠ 46 → w6 j = c6 j := fun j j1 j2 => by rw [H6.2 j j1, f7 j j2]
  refine ⟨⟨⟨?_, ?_, ?_, ?_, ?_, ?_, ?_, ?_⟩, ?_⟩, fun j hj => by rw [H6.2 j (by omega), hi j hj]⟩
  · exact RSc_c h1 (fun _ _ => rfl) (fun k hk => w60 k (by omega) (by omega))
  · have e13 : w6 1 3 = c 48 3 := by
      rw [wj 1 (by omega) (by omega), po6 1 (by omega), po5 1 (by omega), po4 1 (by omega), po3 1 (by omega), po2 1 (by omega), pi1 1 (by omega) (by omega)]
      exact x0
    rw [e13]
    refine RCell_v (h := c 49) (t := c 50) (e := c 51) h2 (fun i hi => ?_) (fun i hi => ?_) (fun i hi => ?_)
    · rw [wj 2 (by omega) (by omega), po6 2 (by omega), po5 2 (by omega), po4 2 (by omega), po3 2 (by omega), po2 2 (by omega), pi1 2 (by omega) (by omega)]
      exact x1 i hi
    · rw [wj 3 (by omega) (by omega), po6 3 (by omega), po5 3 (by omega), po4 3 (by omega), po3 3 (by omega), po2 3 (by omega), pi1 3 (by omega) (by omega)]
      exact x2 i hi
    · rw [wj 4 (by omega) (by omega), po6 4 (by omega), po5 4 (by omega), po4 4 (by omega), po3 4 (by omega), po2 4 (by omega), pi1 4 (by omega) (by omega)]
      exact x3 i hi
  · refine RLk_c h3 (fun _ _ _ => rfl) (fun k hk => ?_)
    rw [wj 5 (by omega) (by omega), po6 5 (by omega), po5 5 (by omega), po4 5 (by omega), po3 5 (by omega), pi2 5 (by omega) (by omega), y0 k hk]
    show c1 52 k = c 52 k
    rw [po1 52 (by omega)]
  · have e61 : w6 6 1 = c 53 1 := by
      rw [wj 6 (by omega) (by omega), po6 6 (by omega), po5 6 (by omega), po4 6 (by omega), pi3 6 (by omega) (by omega), z0, va_up_self]
      show c2 53 1 = _
      rw [po2 53 (by omega), po1 53 (by omega)]
    rw [e61]
    refine RLd_c h4 (fun _ _ _ => rfl) (fun k hk => ?_)
    rw [wj 7 (by omega) (by omega), po6 7 (by omega), po5 7 (by omega), po4 7 (by omega), pi3 7 (by omega) (by omega), z1 k hk]
    show c2 54 k = c 54 k
    rw [po2 54 (by omega), po1 54 (by omega)]
  · have e91 : w6 9 1 = c 56 1 := by
      rw [wj 9 (by omega) (by omega), po6 9 (by omega), po5 9 (by omega), pi4 9 (by omega) (by omega), m1]
      show c3 56 1 = _
      rw [po3 56 (by omega), po2 56 (by omega), po1 56 (by omega)]
    rw [e91]
    refine RWk_c h5 (fun _ _ => rfl) (fun k hk => ?_) (fun k hk => ?_)
    · rw [wj 8 (by omega) (by omega), po6 8 (by omega), po5 8 (by omega), pi4 8 (by omega) (by omega), m0 k hk]
      show c3 55 k = c 55 k
      rw [po3 55 (by omega), po2 55 (by omega), po1 55 (by omega)]
    · rw [wj 10 (by omega) (by omega), po6 10 (by omega), po5 10 (by omega), pi4 10 (by omega) (by omega), m2 k hk]
      show c3 57 k = c 57 k
      rw [po3 57 (by omega), po2 57 (by omega), po1 57 (by omega)]
  · have e121 : w6 12 1 = c 59 1 := by
      rw [wj 12 (by omega) (by omega), po6 12 (by omega), pi5 12 (by omega) (by omega), g1]
      show c4 59 1 = _
      rw [po4 59 (by omega), po3 59 (by omega), po2 59 (by omega), po1 59 (by omega)]
    rw [e121]
    refine RWk_c h6 (fun _ _ => rfl) (fun k hk => ?_) (fun k hk => ?_)
    · rw [wj 11 (by omega) (by omega), po6 11 (by omega), pi5 11 (by omega) (by omega), g0 k hk]
      show c4 58 k = c 58 k
      rw [po4 58 (by omega), po3 58 (by omega), po2 58 (by omega), po1 58 (by omega)]
    · rw [wj 13 (by omega) (by omega), po6 13 (by omega), pi5 13 (by omega) (by omega), g2 k hk]
      show c4 60 k = c 60 k
      rw [po4 60 (by omega), po3 60 (by omega), po2 60 (by omega), po1 60 (by omega)]
  · have lj : ∀ j, j < 32 → w6 (14 + j) = l j := by
      intro j hj
      rw [wj _ (by omega) (by omega), pi6 _ (by omega) (by omega)]
      exact congrArg l (by omega)
    refine ⟨n, q, π, a1, a2, a3, ?_, a5, ?_, ?_, fun r hr => ?_, a10⟩
    · rw [lj 0 (by omega), l0]
    · rw [lj 0 (by omega), l1]
      show c5 61 2 = _
      rw [lo 61 (by omega)]
      exact a6
    · rw [lj 1 (by omega), l2]
      show PM 10 π (c5 15)
      rw [lo 15 (by omega)]
      exact hp
    · obtain ⟨n1, n2, n3⟩ := l3 r hr
      have hπ := (hp.1 r (by omega)).1
      have hρ := (a7.1 r (by omega)).1
      rw [show 16 + 3 * π r = 14 + (2 + 3 * π r) by omega, show 17 + 3 * π r = 14 + (3 + 3 * π r) by omega, show 18 + 3 * π r = 14 + (4 + 3 * π r) by omega, lj _ (by omega), lj _ (by omega), lj _ (by omega), n2]
      have s1 : ct 32 (sh 14 c5) (sh 61 c5) (35 + 3 * ρ r) = sh 47 c (17 + 3 * ρ r) := by
        rw [ct_h (by omega), sh_e, lo _ (by omega), sh_e]
        exact congrArg c (by omega)
      rw [s1]
      refine ROd_c (a8 r hr) (fun _ _ => rfl) (fun k hk => ?_) (fun k hk => ?_) (Nat.le_refl _)
      · rw [n1 k hk, ct_h (by omega), sh_e, lo _ (by omega), sh_e]
        exact congrFun (congrArg c (by omega)) k
      · rw [n3 k hk, ct_h (by omega), sh_e, lo _ (by omega), sh_e]
        exact congrFun (congrArg c (by omega)) k
  · refine RSt_c h8 (fun _ _ _ => rfl) (fun k hk => ?_)
    rw [H6.2 46 (by omega)]
    exact c746 k hk
  · rw [w60 8 (by omega) (by omega)]
    exact h9
