/-! PASS, KEEP, GO BACK, UNDO -/
theorem i_passes (p : Nat) (hp : p < 100000) : ∀ n k a B v σ, k + n = p → B + n < 16000000 → RR B v σ → IV B σ → ∃ c τ, c ≤ n ∧
    (∀ w F, n < F → lp (fun (rec4 : Int32 × Int32 × xSt → Option (Int32 × xSt)) => un3 (fun (a1 : Int32) (a2 : Int32) (v3 : xSt) => (if nI p ≤ a2 then some (a1, v3) else ob (m_X9_ticks v3) (fun r7 => lt (r7.2) (fun v9 => lt (fun (t10 : Int32) (t11 : Int32) => rec4 ((t10 + t11), (a2 + 1), v9)) (fun j12 => (if r7.1 = 0 then j12 a1 (0 : Int32) else j12 a1 (1 : Int32)))))))) F (nI a, nI k, va_up w 1 σ) = some (nI (a + c), va_up w 1 τ)) ∧
    IV (B + n) τ ∧ τ 561 = σ 561 + nI n ∧ ∀ f, σ 563 = nI f → ∃ z, z ≤ 64 * n ∧ τ 563 = nI (f + z) := by
  intro n
  induction n with
  | zero =>
    intro k a B v σ hk hB H hI
    obtain rfl : k = p := by omega
    refine ⟨0, σ, by omega, fun w F hF => ?_, hI, (Int32.add_zero _).symm, fun f hf => ⟨0, by omega, hf⟩⟩
    obtain ⟨F, rfl⟩ : ∃ t, F = t + 1 := ⟨F - 1, by omega⟩
    rw [lp]
    simp only [q_u3]
    rw [if_pos (nI_le (Nat.le_refl _) (by omega))]
    rfl
  | succ n ih =>
    intro k a B v σ hk hB H hI
    obtain ⟨b, τ, c, h1, h2, h3, h4, h5, h6, h7⟩ := i_tick H (by omega) hI
    obtain ⟨b', hb', eb⟩ : ∃ b', b' ≤ 1 ∧ b = nI b' := by
      rcases h4 with h4 | h4
      · exact ⟨0, by omega, h4⟩
      · exact ⟨1, by omega, h4⟩
    obtain ⟨z, ρ, g1, g2, g3, g4, g5⟩ := ih (k + 1) (a + b') (B + 1) c τ (by omega) (by omega) h3 h6
    refine ⟨b' + z, ρ, by omega, fun w F hF => ?_, by rw [show B + (n + 1) = B + 1 + n by omega]; exact g3, by rw [g4, h5, Int32.add_assoc, nI_add, Nat.add_comm 1 n], fun f hf => ?_⟩
    · obtain ⟨F, rfl⟩ : ∃ t, F = t + 1 := ⟨F - 1, by omega⟩
      rw [lp]
      simp only [q_u3]
      rw [if_neg (nI_ge (by omega) (by omega)), h2 w]
      simp only [q_ob, q_lt]
      have := g2 w F (by omega)
      rw [show a + (b' + z) = a + b' + z by omega, ← this, nI_1]
      rcases (show b' = 0 ∨ b' = 1 by omega) with rfl | rfl
      · rw [if_pos (show b = 0 from eb)]
        exact congrArg (lp _ F) (congrArg (fun x => (x, nI (k + 1), va_up w 1 τ)) (Int32.add_zero (nI a)))
      · rw [if_neg (by rw [eb]; decide)]
        exact congrArg (lp _ F) (congrArg (fun x => (x, nI (k + 1), va_up w 1 τ)) (nI_1 a))
    · obtain ⟨z1, z2, z3⟩ := h7 f hf
      obtain ⟨y1, y2, y3⟩ := g5 _ z3
      exact ⟨z1 + y1, by omega, by rw [y3]; exact congrArg nI (by omega)⟩
theorem D_pass {B : Nat} {v w : xSt} {p : Int32} (hJ : J B v w) (hB : B + 200 < 16000000) : (xwi p 1 200 = 0 ∧ NO B w (m_L_pass v p) (-102)) ∨ ∃ a c τ, 1 ≤ a ∧ a ≤ 200 ∧ p = nI a ∧ c ≤ a ∧ OK (B + 200) w (m_L_pass v p) (nI c) τ ∧ τ 561 = w 1 561 + nI a ∧ ∀ f, w 1 563 = nI f → ∃ z, z ≤ 64 * a ∧ τ 563 = nI (f + z) := by
  have H := hJ.1
  rcases xwi_r p 1 200 (by omega) (by omega) with hx | ⟨hx, a, a0, a1, rfl⟩
  · replace hx : xwi p 1 200 = 0 := hx
    left
    have e : m_X9_pass w p = some (0, e8 w 1) := by
      unfold m_X9_pass
      simp only [q_lt]
      rw [if_pos hx]
      rfl
    obtain ⟨v', hv, hJ'⟩ := NO_f hJ.2 (p2_1 (b_pass H hB) e (e8_8 _ _)) e (EQ_f _ _)
    exact ⟨hx, v', _, by unfold m_L_pass m_L_pass_n; exact L_t1 (XN_pass hv) hv, EQ_f _ _, hJ'⟩
  · have hx' : ¬ xwi (nI a) 1 200 = 0 := by rw [show xwi (nI a) 1 200 = 1 from hx]; decide
    right
    obtain ⟨w1, e2, hS, h1, h8, hj⟩ := sv_8 H
    obtain ⟨c, τ, g1, g2, g3, g4, g5⟩ := i_passes a (by omega) a 0 0 B (sh 7 v) (w 1) (by omega) (by omega) H.1 hJ.2.1
    have hp := g2 w1 xF (xFg (by omega))
    rw [show va_up w1 1 (w 1) = w1 by rw [← h1]; exact va_up_id, Nat.zero_add] at hp
    have e : m_X9_pass w (nI a) = some (nI c, va_up w1 1 τ) := by
      unfold m_X9_pass
      simp only [q_lt]
      rw [if_neg hx', e2]
      simp only [q_ob]
      rw [show m_X9_passes w1 (nI a) = some (nI c, va_up w1 1 τ) from hp]
      rfl
    obtain ⟨v', hv, hJ'⟩ := OK_f hJ.2 (Nat.le_add_right _ _) (p2_0 (b_pass H hB) e (fl8 h8)) e hS (IV_b g3 (by omega))
    exact ⟨a, c, τ, a0, a1, rfl, g1, ⟨v', _, by unfold m_L_pass m_L_pass_n; exact L_n hv, SV_1 hS, va_up_self _ _ _, hJ'⟩, g4, g5⟩
/-! keep -/
theorem D_keep {B : Nat} {v w : xSt} (hJ : J B v w) : ∃ v' w', m_X8_keep v = some (w 1 561, v') ∧ w' 1 = w 1 ∧ w' 3 = w 3 ∧ w' 0 3 = w 0 3 ∧ w' 0 5 = 1 ∧ kpt w' = w 1 ∧ J B v' w' := by
  obtain ⟨z, v', w', h1, h2, h3, h4⟩ := b_keep hJ.1
  obtain ⟨u, e1, e2, e3⟩ := r_cp (N := 797) (M := 797) (p := 0) (q := 0) (u := st2 w 0 8 0) (a := 1) (b := 4) (by omega) (by omega) (by omega) (by omega) (by omega)
  have hu4 : ∀ k, k < 797 → u 4 k = w 1 k := by
    intro k hk
    rw [e3, fl_i (by omega) (by omega), w1_1]
    exact congrArg _ (by omega)
  have e : m_X9_keep w = some (w 1 561, st2 u 0 5 1) := by
    unfold m_X9_keep
    simp only [q_lt]
    have e1' : ob (m_X9_copies 797 797 (ct 1 (sh 1 (st2 w 0 8 0)) (sh 4 (st2 w 0 8 0))) (0 : Int32) (0 : Int32)) (fun r => some (pu 4 1 (pu 1 1 (st2 w 0 8 0) r) (sh 1 r))) = some u := e1
    cases hc : m_X9_copies 797 797 (ct 1 (sh 1 (st2 w 0 8 0)) (sh 4 (st2 w 0 8 0))) (0 : Int32) (0 : Int32) with
    | none => rw [hc] at e1'; cases e1'
    | some x =>
      rw [hc] at e1'
      simp only [q_ob] at e1' ⊢
      rw [Option.some.inj e1', kn561, kc561, q_sn (by omega), e2 1 (by omega), w1_1]
  rw [h2] at e
  cases e
  have w1' : (st2 u 0 5 1) 1 = w 1 := by rw [q_sn (by omega), e2 1 (by omega), w1_1]
  have w3' : (st2 u 0 5 1) 3 = w 3 := by rw [q_sn (by omega), e2 3 (by omega), q_sn (by omega)]
  have w03' : (st2 u 0 5 1) 0 3 = w 0 3 := by rw [q_ss, va_up_ne _ _ (by omega), e2 0 (by omega), q_ss, va_up_ne _ _ (by omega)]
  have w05' : (st2 u 0 5 1) 0 5 = 1 := by rw [q_ss, va_up_self]
  have hk : kpt (st2 u 0 5 1) = w 1 := by
    rw [← cut_1 hJ.2.1.2.2.2.2]
    unfold kpt
    funext j
    by_cases c : j < 797
    · rw [if_pos c, if_pos c, q_sn (by omega), hu4 j c]
    · rw [if_neg c, if_neg c]
  refine ⟨v', _, h1, w1', w3', w03', w05', hk, h4, by rw [w1']; exact hJ.2.1, fun n hn hn1 i hi => ?_, fun _ => by rw [hk]; exact hJ.2.1⟩
  have : svd (st2 u 0 5 1) i = svd w i := by unfold svd; rw [w3']
  rw [this]
  exact hJ.2.2.1 n (w03'.symm.trans hn) hn1 i hi
theorem SV_e {w w1 u : xSt} (h : SV w w1) (g : ∀ j, j ≠ 1 → u j = w1 j) : SV w u := by
  obtain ⟨n, n', h1, h2, h3, h4, h5, h6, h7, h8⟩ := h
  exact ⟨n, n', h1, h2, h3, by rw [g 0 (by omega)]; exact h4, by rw [g 0 (by omega)]; exact h5, by rw [g 4 (by omega)]; exact h6, fun k hk => by rw [g 3 (by omega)]; exact h7 k hk, fun k hk => by rw [g 3 (by omega)]; exact h8 k hk⟩
theorem D_goBack {B : Nat} {v w : xSt} (hJ : J B v w) : (w 0 5 = 0 ∧ NO B w (m_L_goBack v) (-103)) ∨ (w 0 5 = 1 ∧ OK B w (m_L_goBack v) (kpt w 561) (kpt w)) := by
  have H := hJ.1
  obtain ⟨h, g1, g2, g3, g4, g5⟩ := id H.2.2.1
  have w05 : (st2 w 0 8 0) 0 5 = nI h := by rw [q_ss, va_up_ne _ _ (by omega)]; exact g3
  rcases (show h = 0 ∨ h = 1 by omega) with rfl | rfl
  · left
    have e : m_X9_goBack w = some (0, e8 w 1) := by
      unfold m_X9_goBack
      simp only [q_lt]
      rw [if_pos (show (st2 w 0 8 0) 0 5 = 0 from w05)]
      rfl
    obtain ⟨v', hv, hJ'⟩ := NO_f hJ.2 (p2_1 (b_goBack H) e (e8_8 _ _)) e (EQ_f _ _)
    exact ⟨g3, v', _, by unfold m_L_goBack m_L_goBack_n; exact L_t1 (XN_goBack hv) hv, EQ_f _ _, hJ'⟩
  · right
    obtain ⟨w1, e2, hS, h1, h8, hj⟩ := sv_8 H
    obtain ⟨u, c1, c2, c3⟩ := r_cp (N := 797) (M := 797) (p := 0) (q := 0) (u := w1) (a := 4) (b := 1) (by omega) (by omega) (by omega) (by omega) (by omega)
    have hu1 : u 1 = kpt w := by
      funext j
      unfold kpt
      rw [c3]
      by_cases c : j < 797
      · rw [fl_i (by omega) (by omega), if_pos c, hj 4 (by omega) (by omega)]
        exact congrArg _ (by omega)
      · rw [fl_o (by omega), if_neg c, h1]
        exact hJ.2.1.2.2.2.2 j (by omega)
    have e : m_X9_goBack w = some (kpt w 561, u) := by
      unfold m_X9_goBack
      simp only [q_lt]
      rw [if_neg (show ¬ (st2 w 0 8 0) 0 5 = 0 by rw [w05]; decide), e2]
      simp only [q_ob]
      have c1' : ob (m_X9_copies 797 797 (ct 1 (sh 4 w1) (sh 1 w1)) (0 : Int32) (0 : Int32)) (fun r => some (pu 1 1 (pu 4 1 w1 r) (sh 1 r))) = some u := c1
      cases hc : m_X9_copies 797 797 (ct 1 (sh 4 w1) (sh 1 w1)) (0 : Int32) (0 : Int32) with
      | none => rw [hc] at c1'; cases c1'
      | some x =>
        rw [hc] at c1'
        simp only [q_ob] at c1' ⊢
        rw [Option.some.inj c1', kn561, kc561, hu1]
    obtain ⟨z, v', w', q1, q2, q3, q4⟩ := p2_0 (b_goBack H) e (by rw [c2 0 (by omega)]; exact h8)
    rw [q2] at e
    cases e
    have hS' := SV_e hS c2
    exact ⟨g3, v', _, by unfold m_L_goBack m_L_goBack_n; exact L_n q1, hS', hu1, q4, JJ_p hJ.2 (Nat.le_refl _) hS' (by rw [hu1]; exact hJ.2.2.2 g3)⟩
/-- the latest saved state is restored -/
def UN (w w' : xSt) (m : Nat) : Prop := w' 1 = svd w m ∧ w' 3 = w 3 ∧ w' 4 = w 4 ∧ w' 0 3 = nI m ∧ w' 0 5 = w 0 5
theorem D_undo {B : Nat} {v w : xSt} (hJ : J B v w) : (w 0 3 = nI 0 ∧ NO B w (m_L_undo v) (-103)) ∨ ∃ m v' w', m < 6 ∧ w 0 3 = nI (m + 1) ∧ m_L_undo v = some (nI m, v') ∧ UN w w' m ∧ J B v' w' := by
  have H := hJ.1
  obtain ⟨n, n1, n2, n3, -⟩ := id H.2.2.2.1
  have w03 : (st2 w 0 8 0) 0 3 = nI n := by rw [q_ss, va_up_ne _ _ (by omega)]; exact n3
  by_cases hn : n = 0
  · left
    subst hn
    have e : m_X9_undo w = some (0, e8 w 1) := by
      unfold m_X9_undo
      simp only [q_lt]
      rw [if_pos (show (st2 w 0 8 0) 0 3 = 0 from w03)]
      rfl
    obtain ⟨v', hv, hJ'⟩ := NO_f hJ.2 (p2_1 (b_undo H) e (e8_8 _ _)) e (EQ_f _ _)
    exact ⟨n3, v', _, by unfold m_L_undo m_L_undo_n; exact L_t1 (XN_undo hv) hv, EQ_f _ _, hJ'⟩
  · right
    obtain ⟨m, rfl⟩ : ∃ m, n = m + 1 := ⟨n - 1, by omega⟩
    obtain ⟨w3, hw3⟩ : ∃ w3, w3 = st2 (st2 w 0 8 0) 0 3 (((st2 w 0 8 0) 0 3) - (1 : Int32)) := ⟨_, rfl⟩
    have l3 : ∀ j, j ≠ 0 → w3 j = w j := fun j hj => by rw [hw3, q_sn hj, q_sn hj]
    have l03 : w3 0 3 = nI m := by rw [hw3, q_ss, va_up_self, w03]; exact nI_pred m
    have l0 : ∀ k, k ≠ 3 → k ≠ 8 → w3 0 k = w 0 k := fun k k3 k8 => by rw [hw3, q_ss, va_up_ne _ _ k3, q_ss, va_up_ne _ _ k8]
    obtain ⟨u, c1, c2, c3⟩ := r_cp (N := 4782) (M := 797) (p := 797 * m) (q := 0) (u := w3) (a := 3) (b := 1) (by omega) (by omega) (by omega) (by omega) (by omega)
    have hu1 : u 1 = svd w m := by
      funext j
      unfold svd
      rw [c3]
      by_cases c : j < 797
      · rw [fl_i (by omega) (by omega), if_pos c, l3 3 (by omega)]
        exact congrArg _ (by omega)
      · rw [fl_o (by omega), if_neg c, l3 1 (by omega)]
        exact hJ.2.1.2.2.2.2 j (by omega)
    have e : m_X9_undo w = some (nI m, u) := by
      unfold m_X9_undo
      simp only [q_lt]
      rw [if_neg (show ¬ (st2 w 0 8 0) 0 3 = 0 by rw [w03]; exact nI_ne0 (by omega) (by omega)), ← hw3, l03, show (797 : Int32) * nI m = nI (797 * m) from pk_mul 797 m]
      have c1' : ob (m_X9_copies 4782 797 (ct 1 (sh 3 w3) (sh 1 w3)) (nI (797 * m)) (0 : Int32)) (fun r => some (pu 1 1 (pu 3 1 w3 r) (sh 1 r))) = some u := c1
      cases hc : m_X9_copies 4782 797 (ct 1 (sh 3 w3) (sh 1 w3)) (nI (797 * m)) (0 : Int32) with
      | none => rw [hc] at c1'; cases c1'
      | some x =>
        rw [hc] at c1'
        simp only [q_ob] at c1' ⊢
        rw [Option.some.inj c1', c2 0 (by omega), l03]
    have h8 : u 0 8 = 0 := by rw [c2 0 (by omega), hw3, q_ss, va_up_ne _ _ (by omega), w1_8]
    obtain ⟨z, v', w', q1, q2, q3, q4⟩ := p2_0 (b_undo H) e h8
    rw [q2] at e
    cases e
    have k3 : u 3 = w 3 := by rw [c2 3 (by omega), l3 3 (by omega)]
    have k4 : u 4 = w 4 := by rw [c2 4 (by omega), l3 4 (by omega)]
    have k03 : u 0 3 = nI m := by rw [c2 0 (by omega)]; exact l03
    have k05 : u 0 5 = w 0 5 := by rw [c2 0 (by omega)]; exact l0 5 (by omega) (by omega)
    refine ⟨m, v', _, by omega, n3, by unfold m_L_undo m_L_undo_n; exact L_n q1, ⟨hu1, k3, k4, k03, k05⟩, q4, by rw [hu1]; exact hJ.2.2.1 (m + 1) n3 n1 m (by omega), fun n' hn' hn1' i hi => ?_, fun h5 => ?_⟩
    · obtain rfl : n' = m := (nI_eq (by omega) (by omega)).mp (hn'.symm.trans k03)
      have : svd u i = svd w i := by unfold svd; rw [k3]
      rw [this]
      exact hJ.2.2.1 (n' + 1) n3 n1 i (by omega)
    · have : kpt u = kpt w := by unfold kpt; rw [k4]
      rw [this]
      exact hJ.2.2.2 (k05.symm.trans h5)
/-! read -/
theorem L_r1 {f : Int32 → Option (Int32 × xSt)} {E : String} {c : Int32} {v' : xSt} {y : String × xSt → Option (Int32 × xSt)} : oe (ob (none : Option Int32) f) (ob (some (E, v')) (fun z => (if z.1 = E then some (c, z.2) else y z))) = some (c, v') := if_pos rfl
theorem L_r2 {f : Int32 → Option (Int32 × xSt)} {E1 E : String} {c1 c : Int32} {v' : xSt} {y : String × xSt → Option (Int32 × xSt)} (hn : ¬ E = E1) : oe (ob (none : Option Int32) f) (ob (some (E, v')) (fun z => (if z.1 = E1 then some (c1, z.2) else (if z.1 = E then some (c, z.2) else y z)))) = some (c, v') := (if_neg hn).trans (if_pos rfl)
theorem D_read {B : Nat} {v w : xSt} {p : Int32} (hJ : J B v w) : (xwi p 0 255 = 0 ∧ m_L_read v p = some (-101, v)) ∨ ∃ c, c < 256 ∧ p = nI c ∧ ((m_L_read v p = some (-103, v) ∧ (¬ w 1 581 = 0 ∨ ¬ w 1 599 = 0)) ∨ (w 1 581 = 0 ∧ m_L_read v p = some (w 1 c, v))) := by
  have H := hJ.1
  have g1 : v 15 0 = w 1 581 := (s_und H.1.1).1
  have g2 : ¬ v 18 0 = 0 → ¬ w 1 599 = 0 := by
    intro h
    rcases s_asd H.1.1 with ⟨c1, c2, c3⟩ | ⟨c1, ⟨k, k1, k2, k3⟩, c3⟩
    · exact absurd c1 h
    · rw [k3]
      exact nI_ne0 (by omega) (by omega)
  rcases xwi_r p 0 255 (by omega) (by omega) with hx | ⟨hx, c, a0, a1, rfl⟩
  · replace hx : xwi p 0 255 = 0 := hx
    left
    refine ⟨hx, ?_⟩
    unfold m_L_read m_L_read_n m_X8_read_n m_X8_read_t
    rw [if_pos hx, if_pos hx]
    exact L_r1
  · right
    have hx' : ¬ xwi (nI c) 0 255 = 0 := by rw [show xwi (nI c) 0 255 = 1 from hx]; decide
    refine ⟨c, by omega, rfl, ?_⟩
    unfold m_L_read m_L_read_n m_X8_read_n m_X8_read_t
    rw [if_neg hx', if_neg hx']
    by_cases b0 : w 1 581 = 0
    · have hb : m_X6_isBusy (sh 7 v) = some 0 := by
        unfold m_X6_isBusy
        rw [if_pos (show (sh 7 v) 8 0 = 0 from g1.trans b0)]
      rw [hb, q_ob, q_ob, if_pos (show (0 : Int32) = 0 from rfl), if_pos (show (0 : Int32) = 0 from rfl)]
      have hcon : ∃ x, m_X7_concerns (sh 18 v) (nI c) = some x ∧ (x = 0 ∨ (¬ x = 0 ∧ ¬ v 18 0 = 0)) := by
        unfold m_X7_concerns
        simp only [q_lt]
        by_cases k1 : (sh 18 v) 0 0 = 1
        · rw [if_pos k1]
          have : ¬ v 18 0 = 0 := by rw [show v 18 0 = 1 from k1]; decide
          split
          · exact ⟨1, rfl, Or.inr ⟨by decide, this⟩⟩
          · exact ⟨0, rfl, Or.inl rfl⟩
        · rw [if_neg k1]
          by_cases k2 : (sh 18 v) 0 0 = 2
          · rw [if_pos k2]
            have : ¬ v 18 0 = 0 := by rw [show v 18 0 = 2 from k2]; decide
            split
            · exact ⟨1, rfl, Or.inr ⟨by decide, this⟩⟩
            · exact ⟨0, rfl, Or.inl rfl⟩
          · rw [if_neg k2]
            exact ⟨0, rfl, Or.inl rfl⟩
      obtain ⟨x, hx1, hx2⟩ := hcon
      rw [hx1, q_ob, q_ob]
      rcases hx2 with hx2 | ⟨hx2, hx3⟩
      · right
        refine ⟨b0, ?_⟩
        rw [if_pos hx2, xat_n (by omega) (by omega), q_ob, (H.1.1.2.1.1 c (by omega)).1.symm]
        rfl
      · left
        refine ⟨?_, Or.inr (g2 hx3)⟩
        rw [if_neg hx2, if_neg hx2]
        exact L_r2 xs_2
    · left
      refine ⟨?_, Or.inl b0⟩
      have hb : m_X6_isBusy (sh 7 v) = some 1 := by
        unfold m_X6_isBusy
        rw [if_neg (show ¬ (sh 7 v) 8 0 = 0 from fun e => b0 (g1.symm.trans e))]
      rw [hb, q_ob, q_ob, if_neg (by decide), if_neg (by decide)]
      exact L_r2 xs_2
