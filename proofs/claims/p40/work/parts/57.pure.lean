/-! THE CLASS AND THE TIE: the line, orders that begin, works set aside -/
theorem R0_line {B B' : Nat} {v v' : xSt} {σ τ : Nat → Int32} (H : R0 B v σ) (hB : B ≤ B') (gv : ∀ j, j < 14 ∨ j = 46 → v' j = v j) (g : ∀ k, k < 617 → k ≠ 566 → k ≠ 580 → τ k = σ k) (hl : RLn B' v' τ) : R0 B' v' τ := by
  obtain ⟨h1, h2, h3, h4, h5, h6, h7, h8⟩ := H
  unfold R0
  rw [gv 0 (by omega), gv 1 (by omega), gv 2 (by omega), gv 3 (by omega), gv 4 (by omega), gv 5 (by omega), gv 6 (by omega), gv 7 (by omega), gv 8 (by omega), gv 9 (by omega), gv 10 (by omega), gv 11 (by omega), gv 12 (by omega), gv 13 (by omega), gv 46 (by omega)]
  exact ⟨RSc_c h1 (fun k hk => g k (by omega) (by omega) (by omega)) (fun _ _ => rfl), RCell_b (RCell_c h2 (fun k hk => g k (by omega) (by omega) (by omega))) hB, RLk_c h3 (fun k hk hk2 => g k (by omega) (by omega) (by omega)) (fun _ _ => rfl), RLd_c h4 (fun k hk hk2 => g k (by omega) (by omega) (by omega)) (fun _ _ => rfl), RWk_c h5 (fun k hk => g _ (by omega) (by omega) (by omega)) (fun _ _ => rfl) (fun _ _ => rfl), RWk_c h6 (fun k hk => g _ (by omega) (by omega) (by omega)) (fun _ _ => rfl) (fun _ _ => rfl), hl, RSt_c h8 (fun k hk hk2 => g k (by omega) (by omega) (by omega)) (fun _ _ => rfl)⟩
theorem e_orderAt {c : xSt} {n r : Nat} {π : Nat → Nat} (hn : c 0 1 = nI n) (h1 : n ≤ 10) (hp : PM 10 π (c 1)) (hr : r < n) : m_X1_orderAt c (nI r) = some (some (π r)) := by
  obtain ⟨p1, p2⟩ := hp.1 r (by omega)
  unfold m_X1_orderAt
  simp (disch := omega) only [li, q_lt, q_ob, q_u1, q_u2, q_u3, q_u4, nI_add, pk_mul, q_cl, q_lts, q_le, q_eq, q_sub, q_div, q_ck, q_st, va_up_self, Nat.reduceAdd, Nat.reduceMul, hn, p2]
  rw [if_neg (by omega), if_neg (by omega), if_neg (by omega)]
theorem e_orderN {c : xSt} {n r : Nat} (hn : c 0 1 = nI n) (h1 : n ≤ 10) (hr : n ≤ r) (hr2 : r < 2147483648) : m_X1_orderAt c (nI r) = some none := by
  unfold m_X1_orderAt
  simp (disch := omega) only [li, q_lt, q_ob, q_u1, q_u2, q_u3, q_u4, nI_add, pk_mul, q_cl, q_lts, q_le, q_eq, q_sub, q_div, q_ck, q_st, va_up_self, Nat.reduceAdd, Nat.reduceMul, hn]
  rw [if_neg (by omega), if_pos (by omega)]
theorem e_orderM {c : xSt} : m_X1_orderAt c (-1) = some none := by
  unfold m_X1_orderAt
  simp only [q_lt]
  rw [if_pos (by decide)]
def gL (r n a : Nat) : Nat := if a < r then a else if a + 1 < n then a + 1 else if a + 1 = n then r else a
def gLb (r n : Nat) : Bool := (List.range 10).all (fun a => (List.range 10).all (fun b => gL r n a != gL r n b || a == b))
theorem gLb_t : ∀ r, r < 10 → ∀ n, n < 11 → r < n → gLb r n = true := by decide +kernel
theorem gL_i (r : Nat) (hr : r < 10) (n : Nat) (hn : n < 11) (a : Nat) (ha : a < 10) (b : Nat) (hb : b < 10) (hrn : r < n) (h : gL r n a = gL r n b) : a = b := by
  have h1 := gLb_t r hr n hn hrn
  unfold gLb at h1
  rw [List.all_eq_true] at h1
  have h2 := h1 a (List.mem_range.mpr ha)
  rw [List.all_eq_true] at h2
  have h3 := h2 b (List.mem_range.mpr hb)
  simp [h] at h3
  exact h3
theorem s_leave {B n r : Nat} {v c : xSt} {σ : Nat → Int32} (H : RLn B v σ) (hn : σ 580 = nI n) (hn1 : n ≤ 10) (hr : r < n) (hc : ∀ j, j < 32 → c j = v (14 + j)) : wp (m_X1_leave c (nI r)) (fun c' => ∀ v', (∀ j, j < 32 → v' (14 + j) = c' j) → RLn B v' (rM σ r n)) := by
  obtain ⟨n', q, π, h1, h2, h3, h4, h5, h6, h7, h8, h9⟩ := H
  obtain rfl : n' = n := (nI_eq (by omega) (by omega)).mp (h3.symm.trans hn)
  have c0 : c 0 1 = nI n' := by rw [hc 0 (by omega)]; exact h4
  have c2 : c 0 2 = nI q := by rw [hc 0 (by omega)]; exact h6
  have cp : PM 10 π (c 1) := by rw [hc 1 (by omega)]; exact h7
  have cq : ∀ a, a < 10 → c 1 a = nI (π a) := fun a ha => (cp.1 a ha).2
  have cl : ∀ a, a < 10 → π a < 10 := fun a ha => (cp.1 a ha).1
  unfold m_X1_leave
  rw [e_orderAt c0 hn1 cp hr]
  simp only [q_ob, q_oms]
  rw [q_ck (cl r (by omega))]
  refine ⟨st2 (st2 (va_up c 1 (fl (c 1) r (n' - 1 - r) (fun t => c 1 (r + 1 + t)))) 0 1 (nI (n' - 1))) 1 (n' - 1) (nI (π r)), ?_, ?_⟩
  · refine lpf_r (fun k => (nI (r + 1 + k), va_up c 1 (fl (c 1) r k (fun t => c 1 (r + 1 + t))))) (n' - 1 - r) (xFg (by omega)) (by simp only [fl_0, va_up_id, li, nI_add, Nat.add_zero]) (fun k rec hk => ?_) (fun rec => ?_)
    · have hb : π (r + 1 + k) < 10 := cl _ (by omega)
      simp (disch := omega) only [li, q_lt, q_ob, q_u1, q_u2, q_u3, q_u4, nI_add, pk_mul, q_cl, q_lts, q_le, q_eq, q_sub, q_div, q_ck, q_st, va_up_self, Nat.reduceAdd, Nat.reduceMul, va_up_ne, c0, fl_o, cq]
      rw [if_neg (by omega), if_neg (by omega), fl_s (f := fun t => c 1 (r + 1 + t)) (k := k) (x := nI (π (r + 1 + k))) (by omega) (cq _ (by omega)).symm]
      rfl
    · simp (disch := omega) only [li, q_lt, q_ob, q_u1, q_u2, q_u3, q_u4, nI_add, pk_mul, q_cl, q_lts, q_le, q_eq, q_sub, q_div, q_ck, q_st, va_up_self, Nat.reduceAdd, Nat.reduceMul, va_up_ne, c0, q_ss]
      rw [if_pos (by omega), if_neg (by omega), if_neg (by omega)]
  · intro v' hv
    have e0 : v' 14 = va_up (c 0) 1 (nI (n' - 1)) := by
      rw [hv 0 (by omega), q_sn (by omega), q_ss, va_up_ne _ _ (by omega)]
    have e1 : v' 15 = va_up (fl (c 1) r (n' - 1 - r) (fun t => c 1 (r + 1 + t))) (n' - 1) (nI (π r)) := by
      rw [hv 1 (by omega), q_ss, q_sn (by omega), va_up_self]
    have e2 : ∀ j, 16 ≤ j → j < 46 → v' j = v j := by
      intro j hj hj2
      have := hv (j - 14) (by omega)
      rw [show 14 + (j - 14) = j by omega] at this
      rw [this, q_sn (by omega), q_sn (by omega), va_up_ne _ _ (by omega), hc _ (by omega), show 14 + (j - 14) = j by omega]
    refine ⟨n' - 1, q, fun a => π (gL r n' a), by omega, h2, rM_580, ?_, ?_, ?_, ⟨fun a ha => ⟨cl _ ?_, ?_⟩, fun a b ha hb hab => ?_⟩, fun a ha => ?_, fun a b ha hb hab => ?_⟩
    · rw [e0, va_up_self]
    · rw [rM_o (by omega) (by omega)]; exact h5
    · rw [e0, va_up_ne _ _ (by omega)]; exact c2
    · unfold gL; split; omega; split; omega; split <;> omega
    · rw [e1]
      unfold gL
      dsimp only
      by_cases d1 : a < r
      · rw [va_up_ne _ _ (by omega), fl_o (by omega), if_pos d1, cq a ha]
      · rw [if_neg d1]
        by_cases d2 : a + 1 < n'
        · rw [va_up_ne _ _ (by omega), fl_i (by omega) (by omega), if_pos d2, cq _ (by omega)]
          congr 2
          omega
        · rw [if_neg d2]
          by_cases d3 : a + 1 = n'
          · rw [if_pos d3, show n' - 1 = a by omega, va_up_self]
          · rw [if_neg d3, va_up_ne _ _ (by omega), fl_o (by omega), cq a ha]
    · have hg : gL r n' a = gL r n' b := cp.2 _ _ (by unfold gL; split; omega; split; omega; split <;> omega) (by unfold gL; split; omega; split; omega; split <;> omega) hab
      exact gL_i r (by omega) n' (by omega) a ha b hb hr hg
    · dsimp only
      have hp := cl (gL r n' a) (by unfold gL; split; omega; split; omega; split <;> omega)
      rw [e2 _ (by omega) (by omega), e2 _ (by omega) (by omega), e2 _ (by omega) (by omega)]
      by_cases d1 : a < r
      · have eg : gL r n' a = a := by unfold gL; rw [if_pos d1]
        rw [eg]
        exact ROd_c (h8 a (by omega)) (fun k hk => rM_lo d1 hk) (fun _ _ => rfl) (fun _ _ => rfl) (Nat.le_refl _)
      · have eg : gL r n' a = a + 1 := by unfold gL; rw [if_neg d1, if_pos (by omega)]
        rw [eg]
        exact ROd_c (h8 (a + 1) (by omega)) (fun k hk => rM_hi (by omega) (by omega) hk) (fun _ _ => rfl) (fun _ _ => rfl) (Nat.le_refl _)
    · have key : ∀ a, a < n' - 1 → rM σ r n' (617 + 18 * a) = σ (617 + 18 * gL r n' a) := by
        intro a ha
        by_cases d1 : a < r
        · have := rM_lo (σ := σ) (n := n') (k := 0) d1 (by omega)
          simp only [Nat.add_zero] at this
          rw [this]
          unfold gL
          rw [if_pos d1]
        · have := rM_hi (σ := σ) (n := n') (k := 0) (show r ≤ a by omega) (by omega) (by omega)
          simp only [Nat.add_zero] at this
          rw [this]
          unfold gL
          rw [if_neg d1, if_pos (by omega)]
      rw [key a ha, key b hb] at hab
      have hg := h9 _ _ (by unfold gL; split; omega; split; omega; split <;> omega) (by unfold gL; split; omega; split; omega; split <;> omega) hab
      exact gL_i r (by omega) n' (by omega) a (by omega) b (by omega) hr hg
theorem RCell_z {B s : Nat} {u : Int32} {h t e σ : Nat → Int32} (H : RCell B u h t e σ) (hs : s < 8) : ∃ z, z ≤ B ∧ e s = nI z ∧ σ (544 + s) = nI z := by
  obtain ⟨h1, h2, h3, z, h4, h5⟩ := H
  refine ⟨z s, ?_, h4 s hs⟩
  rcases (show s = 0 ∨ s = 1 ∨ s = 2 ∨ s = 3 ∨ s = 4 ∨ s = 5 ∨ s = 6 ∨ s = 7 by omega) with rfl | rfl | rfl | rfl | rfl | rfl | rfl | rfl <;> omega
theorem e_setting {v : xSt} {σ : Nat → Int32} {j : Nat} (H : RSt (v 46) σ) (hj : j < 5) : m_X6_settingOf v (nI j) = some (σ (556 + j)) := by
  unfold m_X6_settingOf
  rw [xat_n hj (by omega), (H j hj).1]
theorem e_eraseTicks {B p : Nat} {v : xSt} {σ : Nat → Int32} (H : R0 B v σ) (hB : B < 16000000) (hp : p < 8) : ∃ t, 5 ≤ t ∧ t < 20000000 ∧ m_X6_eraseTicks v (nI p) = some (nI t) ∧ 4 + σ 557 + σ (544 + p) / 4 = nI t := by
  obtain ⟨h1, h2, h3, h4, h5, h6, h7, h8⟩ := H
  obtain ⟨z, hz, z1, z2⟩ := RCell_z h2 hp
  obtain ⟨g1, g, g2, g3, g4⟩ := h8 1 (by omega)
  have e : (4 : Int32) + nI g + nI z / 4 = nI (4 + g + z / 4) := by
    simp (disch := omega) only [li, q_lt, q_ob, q_u1, q_u2, q_u3, q_u4, nI_add, pk_mul, q_cl, q_lts, q_le, q_eq, q_sub, q_div, q_ck, q_st, va_up_self, Nat.reduceAdd, Nat.reduceMul]
  refine ⟨4 + g + z / 4, by omega, by omega, ?_, ?_⟩
  · unfold m_X6_eraseTicks
    rw [show (1 : Int32) = nI 1 from rfl, e_setting h8 (by omega)]
    simp only [q_ob]
    rw [xat_n hp (by omega), z1, g4, e]
  · rw [z2, show σ 557 = nI g from g4, e]
/-- an order begins -/
theorem s_beginOrder {B n r : Nat} {v : xSt} {σ : Nat → Int32} (H : R0 B v σ) (hB : B < 16000000) (hn : σ 580 = nI n) (hn1 : n ≤ 10) (hr : r < n) : ∃ τ, (∀ w, m_X9_beginsOrder (va_up w 1 σ) (nI r) = some (va_up w 1 τ)) ∧ τ 561 = σ 561 ∧ ¬ τ 581 = 0 ∧ wp (m_X6_beginOrder v (nI r)) (fun v' => R0 B v' τ ∧ v' 0 = v 0) := by
  obtain ⟨h1, h2, h3, h4, h5, h6, h7, h8⟩ := id H
  obtain ⟨n', q, π, a1, a2, a3, a4, a5, a6, a7, a8, a9⟩ := id h7
  obtain rfl : n' = n := (nI_eq (by omega) (by omega)).mp (a3.symm.trans hn)
  have hπ := (a7.1 r (by omega)).1
  obtain ⟨⟨num, c1, c2, c3⟩, ⟨k, p, m, d1, d2, d3, d4, d5, d6, d7, d8, d9, d10⟩, ⟨u, f1, f2, f3⟩, f4⟩ := a8 r hr
  have eo : m_X1_orderAt (sh 14 v) (nI r) = some (some (π r)) := e_orderAt (c := sh 14 v) a4 a1 a7 hr
  have e16 : 14 + (2 + 3 * π r) = 16 + 3 * π r := by omega
  have e17 : 16 + 3 * π r + 1 = 17 + 3 * π r := by omega
  have fin : ∀ (v2 : xSt) (σ2 : Nat → Int32), R0 B v2 σ2 → σ2 580 = nI n' → wp (ob (m_X1_leave (sh 14 v2) (nI r)) (fun r9 => lt (pu 14 32 v2 r9) (fun v10 => some v10))) (fun v' => R0 B v' (rM σ2 r n') ∧ v' 0 = v2 0) := by
    intro v2 σ2 H2 hn2
    refine wp_om (s_leave H2.2.2.2.2.2.2.1 hn2 hn1 hr (fun j hj => rfl)) (fun c' hc' => wp_n (fun v10 e10 => wp_s ⟨?_, ?_⟩))
    · refine R0_line H2 (Nat.le_refl _) (fun j hj => ?_) (fun k hk h1 h2 => rM_o hk h2) (hc' v10 (fun j hj => ?_))
      · rw [e10, pu_o (by omega)]
      · rw [e10, pu_i (by omega) (by omega)]
        congr 1
        omega
    · rw [e10, pu_o (by omega)]
  rcases (show k = 0 ∨ k = 1 by omega) with rfl | rfl
  · obtain ⟨g1, e, g2, g3, g4⟩ := h8 0 (by omega)
    obtain ⟨z1, z2, z3⟩ := id d8
    refine ⟨_, fun w => r_beginsOrder0 hr hn hn1 d3 d5 (d6 rfl) d9 (d10 rfl) z2 g4, ?_, ?_, ?_⟩
    · rw [rM_o (by omega) (by omega), bW_o (by omega)]
    · rw [rM_o (by omega) (by omega)]
      unfold bW
      simp (disch := omega) only [fl_o, va_up_ne, va_up_self]
      decide
    · unfold m_X6_beginOrder
      refine wp_e eo ?_
      simp only [q_oms]
      refine wp_c hπ (wp_n (fun j7 ej => ?_))
      simp only [e16, e17]
      refine wp_t (by rw [d2]; rfl) ?_
      refine wp_e (e_setting (j := 0) h8 (by omega)) ?_
      rw [show σ (556 + 0) = nI e from g4]
      refine wp_om (s_startWrite (m := m) (e := e) (c := ct 3 (sh 8 v) (sh (17 + 3 * π r) v)) z1 z2) (fun r20 hr20 => wp_n (fun v21 e21 => ?_))
      obtain ⟨x0, x1, x2, x3⟩ := hr20
      have g8 : v21 8 = r20 0 := by rw [e21, pu_o (by omega), pu_i (by omega) (by omega)]
      have g9 : v21 9 = r20 1 := by rw [e21, pu_o (by omega), pu_i (by omega) (by omega)]
      have g10 : v21 10 = r20 2 := by rw [e21, pu_o (by omega), pu_i (by omega) (by omega)]
      have gv : ∀ j, j < 47 → j ≠ 8 → j ≠ 9 → j ≠ 10 → v21 j = v j := by
        intro j j1 j2 j3 j4
        rw [e21]
        by_cases jj : 17 + 3 * π r ≤ j ∧ j < 17 + 3 * π r + 2
        · rw [pu_i jj.1 jj.2, sh_e, x3 _ (by omega), ct_h (by omega), sh_e]
          congr 1
          omega
        · rw [pu_o (by omega), pu_o (by omega)]
      have HW : R0 B v21 (bW σ p (617 + 18 * r + 6) m e (σ (617 + 18 * r + 3))) := by
        refine s_startW (z := v (17 + 3 * π r) 1) (rr := v (18 + 3 * π r)) H (d6 rfl) (d10 rfl) g2 g3 d8 (Or.inr ⟨u, f1, f3⟩) ?_ ?_ ?_ gv
        · rw [g8, x0, d4, f2, f3]
          rfl
        · rw [g9, x1]
        · intro i hi
          rw [g10, x2 i hi]
          show v (17 + 3 * π r + 1) i = _
          rw [show 17 + 3 * π r + 1 = 18 + 3 * π r by omega]
      rw [ej]
      refine wp_m (fin v21 _ HW (by rw [bW_o (by omega)]; exact hn)) (fun v' hv => ⟨hv.1, ?_⟩)
      rw [hv.2, gv 0 (by omega) (by omega) (by omega) (by omega)]
  · obtain ⟨t, t1, t2, t3, t4⟩ := e_eraseTicks H hB (d7 rfl)
    refine ⟨_, fun w => r_beginsOrder1 hr hn hn1 d3 d5 (d7 rfl), ?_, ?_, ?_⟩
    · rw [rM_o (by omega) (by omega), bE_o (by omega)]
    · rw [rM_o (by omega) (by omega)]
      unfold bE
      simp (disch := omega) only [fl_o, va_up_ne, va_up_self]
      decide
    · unfold m_X6_beginOrder
      refine wp_e eo ?_
      simp only [q_oms]
      refine wp_c hπ (wp_n (fun j7 ej => ?_))
      simp only [e16, e17]
      refine wp_f (by rw [d2]; decide) ?_
      rw [d4, f2, f3]
      refine wp_e t3 ?_
      obtain ⟨r15, hr15, x0, x1⟩ := e_X7_start (sh 8 v) 2 (nI p) (nI t) (nI u)
      refine wp_e hr15 (wp_n (fun v16 e16 => ?_))
      have g8 : v16 8 = r15 0 := by rw [e16, pu_i (by omega) (by omega)]
      have gv : ∀ j, j < 47 → j ≠ 8 → v16 j = v j := by
        intro j j1 j2
        rw [e16]
        by_cases jj : 8 ≤ j ∧ j < 8 + 3
        · rw [pu_i jj.1 jj.2, x1 _ (by omega), sh_e]
          congr 1
          omega
        · rw [pu_o (by omega)]
      have HW : R0 B v16 (bE σ p (nI u) (nI t)) := by
        refine s_startE H (d7 rfl) t1 t2 (Or.inr ⟨u, f1, rfl⟩) ?_ gv
        rw [g8, x0]
        rfl
      rw [ej, t4]
      refine wp_m (fin v16 _ HW (by rw [bE_o (by omega)]; exact hn)) (fun v' hv => ⟨hv.1, ?_⟩)
      rw [hv.2, gv 0 (by omega) (by omega)]
theorem RWk_u {o o' : Nat → Int32} {z : Int32} {r r' σ τ : Nat → Int32} {b b' u k : Nat} (H : RWk o z r σ b) (hk : σ b = nI k) (hk1 : 1 ≤ k) (hk3 : k ≤ 3) (hu : u < 2) (g : ∀ k, k < 18 → k ≠ 6 → τ (b' + k) = σ (b + k)) (g6 : τ (b' + 6) = nI u) (go : ∀ k, k < 7 → o' k = o k) (go7 : o' 7 = nI u) (gr : ∀ k, k < 12 → r' k = r k) : RWk o' z r' τ b' := by
  have g0 := g 0 (by omega) (by omega)
  simp only [Nat.add_zero] at g0
  unfold RWk
  rw [g0, g 1 (by omega) (by omega), g 2 (by omega) (by omega), g 3 (by omega) (by omega), g 4 (by omega) (by omega), g 5 (by omega) (by omega), g 7 (by omega) (by omega), go 0 (by omega), go 1 (by omega), go 2 (by omega), go 3 (by omega), go 4 (by omega), go 5 (by omega), go 6 (by omega)]
  obtain ⟨h1, h2⟩ := H
  refine ⟨⟨u, hu, go7, g6⟩, ?_⟩
  rcases h2 with h2 | ⟨k2, d, t, p, h2⟩
  · have e := h2.1
    rw [hk] at e
    exact absurd e (nI_ne0 (by omega) (by omega))
  · obtain ⟨a1, a2, a3, a4, a5, a6, a7, a8, a9, a10, a11, a12, a13, a14, a15, a16⟩ := h2
    refine Or.inr ⟨k2, d, t, p, a1, a2, a3, a4, a5, a6, a7, a8, a9, a10, a11, a12, a13, a14, fun hk => ?_, a16⟩
    obtain ⟨b1, n, e, b2, b3, b4, b5, b6, b7, b8, b9⟩ := a15 hk
    refine ⟨b1, n, e, b2, b3, b4, b5, b6, b7, b8, fun i hi => ?_⟩
    rw [xvf_c gr, show b' + 9 + i = b' + (9 + i) by omega, g (9 + i) (by omega) (by omega), show b + (9 + i) = b + 9 + i by omega]
    exact b9 i hi
theorem RWk_0 {o : Nat → Int32} {z : Int32} {r τ : Nat → Int32} {b : Nat} (g : ∀ k, k < 18 → τ (b + k) = nI 0) (h0 : o 0 = 0) (h1 : o 1 = -1) (h4 : o 4 = 0) (h5 : o 5 = 0) (h6 : o 6 = -1) (h7 : o 7 = 0) : RWk o z r τ b := by
  have g0 := g 0 (by omega)
  simp only [Nat.add_zero] at g0
  exact ⟨⟨0, by omega, h7, g 6 (by omega)⟩, Or.inl ⟨g0, h0, h1, h6, h4, h5, g 2 (by omega), g 3 (by omega), h7⟩⟩
theorem RWk_7 {o : Nat → Int32} {z : Int32} {r τ : Nat → Int32} {b : Nat} (H : RWk o z r τ b) : ∃ u, u < 2 ∧ o 7 = nI u ∧ τ (b + 6) = nI u := H.1
/-- the work under way is set aside -/
theorem s_setAside {B u k : Nat} {v : xSt} {σ : Nat → Int32} (H : R0 B v σ) (hk : σ 581 = nI k) (hk1 : 1 ≤ k) (hk3 : k ≤ 3) (hu : u < 2) : wp (m_X6_setAside v (nI u)) (fun v' => R0 B v' (sA σ (nI u)) ∧ ∀ j, j < 9 → v' 0 j = v 0 j) := by
  obtain ⟨h1, h2, h3, h4, h5, h6, h7, h8⟩ := H
  obtain ⟨y, y1, y2, y3⟩ := RWk_7 h5
  unfold m_X6_setAside
  refine wp_om (s_X7_become (c := ct 3 (sh 11 v) (sh 8 v)) (u := y) y2 y1) (fun r2 hr2 => wp_n (fun v3 e3 => ?_))
  obtain ⟨x0, x1, x2, x3⟩ := hr2
  have hub : nI u = 0 ∨ nI u = 1 := by
    rcases (show u = 0 ∨ u = 1 by omega) with rfl | rfl
    · exact Or.inl rfl
    · exact Or.inr rfl
  refine wp_c hub (wp_n (fun v5 e5 => ?_))
  obtain ⟨r7, hr7, y0, y4⟩ := s_X7_end (sh 8 v5)
  refine wp_e hr7 (wp_n (fun v8 e8 => wp_n (fun v9 e9 => wp_s ?_)))
  have g3 : ∀ j, j < 11 ∨ 14 ≤ j → v3 j = v j := by
    intro j hj
    rw [e3]
    by_cases jj : 8 ≤ j ∧ j < 8 + 3
    · rw [pu_i jj.1 jj.2, sh_e, x3 _ (by omega), ct_h (by omega), sh_e]
      congr 1
      omega
    · rw [pu_o (by omega), pu_o (by omega)]
  have g11 : v3 11 = r2 0 := by rw [e3, pu_o (by omega), pu_i (by omega) (by omega)]
  have g12 : v3 12 = r2 1 := by rw [e3, pu_o (by omega), pu_i (by omega) (by omega)]
  have g13 : v3 13 = r2 2 := by rw [e3, pu_o (by omega), pu_i (by omega) (by omega)]
  have k5 : ∀ j, j ≠ 11 → v5 j = v3 j := by
    intro j hj
    rw [e5, q_sn hj]
  have k11 : v5 11 = va_up (r2 0) 7 (nI u) := by rw [e5, q_ss, g11]
  have k8 : ∀ j, j ≠ 8 → v8 j = v5 j := by
    intro j hj
    rw [e8]
    by_cases jj : 8 ≤ j ∧ j < 8 + 3
    · rw [pu_i jj.1 jj.2, y4 _ (by omega), sh_e]
      congr 1
      omega
    · rw [pu_o (by omega)]
  have k88 : v8 8 = r7 0 := by rw [e8, pu_i (by omega) (by omega)]
  have k9 : ∀ j, j ≠ 0 → v9 j = v8 j := by
    intro j hj
    rw [e9, q_sn hj]
  have k0 : v9 0 = va_up (v 0) 12 (v 0 12 + 1) := by
    rw [e9, q_ss, k8 0 (by omega), k5 0 (by omega), g3 0 (by omega)]
  have al : ∀ j, j ≠ 0 → j ≠ 8 → j ≠ 11 → j ≠ 12 → j ≠ 13 → v9 j = v j := by
    intro j j0 j1 j2 j3 j4
    rw [k9 j j0, k8 j j1, k5 j j2, g3 j (by omega)]
  refine ⟨⟨?_, ?_, ?_, ?_, ?_, ?_, ?_, ?_⟩, fun j hj => by rw [k0, va_up_ne _ _ (by omega)]⟩
  · obtain ⟨a1, a2, a3, a4, a5, a6⟩ := h1
    rw [k0]
    unfold RSc
    rw [sA_o (by omega) (by omega), sA_o (by omega) (by omega), sA_o (by omega) (by omega), sA_o (by omega) (by omega)]
    refine ⟨a1, a2, a3, a4, a5, ?_⟩
    rw [va_up_self, a6]
    unfold sA
    rw [va_up_self]
    rfl
  · rw [al 1 (by omega) (by omega) (by omega) (by omega) (by omega), al 2 (by omega) (by omega) (by omega) (by omega) (by omega), al 3 (by omega) (by omega) (by omega) (by omega) (by omega), al 4 (by omega) (by omega) (by omega) (by omega) (by omega)]
    exact RCell_c h2 (fun k hk => sA_o (by omega) (by omega))
  · rw [al 5 (by omega) (by omega) (by omega) (by omega) (by omega)]
    exact RLk_c h3 (fun k hk hk2 => sA_o (by omega) (by omega)) (fun _ _ => rfl)
  · rw [al 6 (by omega) (by omega) (by omega) (by omega) (by omega), al 7 (by omega) (by omega) (by omega) (by omega) (by omega)]
    exact RLd_c h4 (fun k hk hk2 => sA_o (by omega) (by omega)) (fun _ _ => rfl)
  · rw [k9 8 (by omega), k88, y0]
    refine RWk_0 (fun k hk => ?_) rfl rfl rfl rfl rfl rfl
    unfold sA
    rw [va_up_ne _ _ (by omega), fl_i (by omega) (by omega)]
  · rw [k9 11 (by omega), k8 11 (by omega), k11, k9 12 (by omega), k8 12 (by omega), k5 12 (by omega), g12, x1, k9 13 (by omega), k8 13 (by omega), k5 13 (by omega), g13]
    refine RWk_u (o := v 8) (r := v 10) h5 hk hk1 hk3 hu (fun k hk hk6 => ?_) ?_ (fun k hk => ?_) ?_ (fun k hk => ?_)
    · unfold sA
      rw [va_up_ne _ _ (by omega), fl_o (by omega), va_up_ne _ _ (by omega), fl_i (by omega) (by omega)]
      exact congrArg σ (by omega)
    · unfold sA
      rw [va_up_ne _ _ (by omega), fl_o (by omega), va_up_self]
    · rw [va_up_ne _ _ (by omega), x0 k (by omega)]
      rfl
    · rw [va_up_self]
    · rw [x2 k hk]
      rfl
  · exact RLn_c h7 (Nat.le_refl _) (fun k hk => sA_o (by omega) (by omega)) (fun j hj hj2 => al j (by omega) (by omega) (by omega) (by omega) (by omega))
  · rw [al 46 (by omega) (by omega) (by omega) (by omega) (by omega)]
    exact RSt_c h8 (fun k hk hk2 => sA_o (by omega) (by omega)) (fun _ _ => rfl)
/-- the work set aside goes on -/
theorem s_letGoOn {B k : Nat} {v : xSt} {σ : Nat → Int32} (H : R0 B v σ) (hk : σ 599 = nI k) (hk1 : 1 ≤ k) (hk3 : k ≤ 3) : wp (m_X6_letGoOn v) (fun v' => R0 B v' (tB σ) ∧ v' 0 = v 0) := by
  obtain ⟨h1, h2, h3, h4, h5, h6, h7, h8⟩ := H
  obtain ⟨y, y1, y2, y3⟩ := RWk_7 h6
  unfold m_X6_letGoOn
  refine wp_om (s_X7_become (c := ct 3 (sh 8 v) (sh 11 v)) (u := y) y2 y1) (fun r2 hr2 => wp_n (fun v3 e3 => wp_n (fun v4 e4 => ?_)))
  obtain ⟨x0, x1, x2, x3⟩ := hr2
  obtain ⟨r6, hr6, y0, y4⟩ := s_X7_end (sh 11 v4)
  refine wp_e hr6 (wp_n (fun v7 e7 => wp_s ?_))
  have g3 : ∀ j, j < 8 ∨ 11 ≤ j → v3 j = v j := by
    intro j hj
    rw [e3]
    by_cases jj : 11 ≤ j ∧ j < 11 + 3
    · rw [pu_i jj.1 jj.2, sh_e, x3 _ (by omega), ct_h (by omega), sh_e]
      congr 1
      omega
    · rw [pu_o (by omega), pu_o (by omega)]
  have g8 : v3 8 = r2 0 := by rw [e3, pu_o (by omega), pu_i (by omega) (by omega)]
  have g9 : v3 9 = r2 1 := by rw [e3, pu_o (by omega), pu_i (by omega) (by omega)]
  have g10 : v3 10 = r2 2 := by rw [e3, pu_o (by omega), pu_i (by omega) (by omega)]
  have k4 : ∀ j, j ≠ 8 → v4 j = v3 j := by
    intro j hj
    rw [e4, q_sn hj]
  have k8 : v4 8 = va_up (r2 0) 7 0 := by rw [e4, q_ss, g8]
  have k7 : ∀ j, j ≠ 11 → v7 j = v4 j := by
    intro j hj
    rw [e7]
    by_cases jj : 11 ≤ j ∧ j < 11 + 3
    · rw [pu_i jj.1 jj.2, y4 _ (by omega), sh_e]
      congr 1
      omega
    · rw [pu_o (by omega)]
  have k77 : v7 11 = r6 0 := by rw [e7, pu_i (by omega) (by omega)]
  have al : ∀ j, j ≠ 8 → j ≠ 9 → j ≠ 10 → j ≠ 11 → v7 j = v j := by
    intro j j1 j2 j3 j4
    rw [k7 j j4, k4 j j1, g3 j (by omega)]
  refine ⟨⟨?_, ?_, ?_, ?_, ?_, ?_, ?_, ?_⟩, al 0 (by omega) (by omega) (by omega) (by omega)⟩
  · rw [al 0 (by omega) (by omega) (by omega) (by omega)]
    exact RSc_c h1 (fun k hk => tB_o (by omega)) (fun _ _ => rfl)
  · rw [al 1 (by omega) (by omega) (by omega) (by omega), al 2 (by omega) (by omega) (by omega) (by omega), al 3 (by omega) (by omega) (by omega) (by omega), al 4 (by omega) (by omega) (by omega) (by omega)]
    exact RCell_c h2 (fun k hk => tB_o (by omega))
  · rw [al 5 (by omega) (by omega) (by omega) (by omega)]
    exact RLk_c h3 (fun k hk hk2 => tB_o (by omega)) (fun _ _ => rfl)
  · rw [al 6 (by omega) (by omega) (by omega) (by omega), al 7 (by omega) (by omega) (by omega) (by omega)]
    exact RLd_c h4 (fun k hk hk2 => tB_o (by omega)) (fun _ _ => rfl)
  · rw [k7 8 (by omega), k8, k7 9 (by omega), k4 9 (by omega), g9, x1, k7 10 (by omega), k4 10 (by omega), g10]
    refine RWk_u (o := v 11) (r := v 13) (u := 0) h6 hk hk1 hk3 (by omega) (fun k hk hk6 => ?_) ?_ (fun k hk => ?_) ?_ (fun k hk => ?_)
    · unfold tB
      rw [fl_o (by omega), va_up_ne _ _ (by omega), fl_i (by omega) (by omega)]
      exact congrArg σ (by omega)
    · unfold tB
      rw [fl_o (by omega), va_up_self]
    · rw [va_up_ne _ _ (by omega), x0 k (by omega)]
      rfl
    · rw [va_up_self]
      rfl
    · rw [x2 k hk]
      rfl
  · rw [k77, y0]
    refine RWk_0 (fun k hk => ?_) rfl rfl rfl rfl rfl rfl
    unfold tB
    rw [fl_i (by omega) (by omega)]
  · exact RLn_c h7 (Nat.le_refl _) (fun k hk => tB_o (by omega)) (fun j hj hj2 => al j (by omega) (by omega) (by omega) (by omega))
  · rw [al 46 (by omega) (by omega) (by omega) (by omega)]
    exact RSt_c h8 (fun k hk hk2 => tB_o (by omega)) (fun _ _ => rfl)
