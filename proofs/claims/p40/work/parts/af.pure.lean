/-! OBEY with the invariants: a part -/
theorem i_posts {B n : Nat} {v : xSt} {σ : Nat → Int32} (H : R0 B v σ) (hI : IV B σ) (hB : B < 16000000) (hn : σ 580 = nI n) (hn1 : n < 10) (k p : Nat) {u : Nat} (hu : u ≤ 9) : ∃ i τ, i ≤ n ∧ (∀ w, m_X9_posts (va_up w 1 σ) (nI k) (nI p) (nI u) = some (nI (617 + 18 * i), va_up w 1 τ)) ∧ IV (B + 1) τ := by
  obtain ⟨n0, q, a1, a2, a3, a5, hF⟩ := LF_of H
  obtain rfl : n0 = n := (nI_eq (by omega) (by omega)).mp (a3.symm.trans hn)
  obtain ⟨i, hi, h1, h2'⟩ := ins_ex n0 (fun r => ¬ nI u ≤ σ (617 + 18 * r + 3))
  have h2 : i = 0 ∨ nI u ≤ σ (617 + 18 * (i - 1) + 3) := h2'.imp id Classical.not_not.mp
  exact ⟨i, jnB σ n0 i q k p u, hi, fun w => r_posts a3 hn1 hi a5 (by omega) h1 h2, IV_jnB hI a3 hn1 hi a5 a2 hB hu hF h1 h2⟩
theorem i_joined {B n k p u b : Nat} {v : xSt} {σ τ0 : Nat → Int32} (H : R0 B v σ) (hI : IV B σ) (hB : B < 16000000) (hn : σ 580 = nI n) (hn1 : n < 10) (hu : u ≤ 9) (h : ∀ w, m_X9_posts (va_up w 1 σ) (nI k) (nI p) (nI u) = some (nI b, va_up w 1 τ0)) : IV (B + 1) τ0 ∧ (b < 1000 → ∃ i, i < 10 ∧ b = 617 + 18 * i) := by
  obtain ⟨i, τ, h1, h2, h3⟩ := i_posts H hI hB hn hn1 k p hu
  have e := Option.some.inj ((h (fun _ _ => 0)).symm.trans (h2 (fun _ _ => 0)))
  have e1 : nI b = nI (617 + 18 * i) := congrArg Prod.fst e
  have e2 : va_up (fun _ _ => 0) 1 τ0 1 = va_up (fun _ _ => 0) 1 τ 1 := congrArg (fun x => x.2 1) e
  rw [va_up_self, va_up_self] at e2
  rw [e2]
  exact ⟨h3, fun hb => ⟨i, by omega, (nI_eq (by omega) (by omega)).mp e1⟩⟩
theorem i_tticks (p : Nat) (hp : p < 100000) : ∀ n k a B v σ, k + n = p → B + n < 16000000 → RR B (sh 7 v) σ → IV B σ → v 3 2 = nI p → ∃ c v' τ,
    (∀ F, n < F → lp (fun (rec15 : Int32 × xSt → Option (Int32 × xSt)) => un2 (fun (a13 : Int32) (v14 : xSt) => (if (v14 3 2) ≤ a13 then some ((1 : Int32), v14) else ob (m_X6_tick (sh 7 v14)) (fun r18 => lt (pu 7 47 v14 r18.2) (fun v20 => rec15 ((a13 + 1), v20)))))) F (nI k, v) = some (1, v')) ∧
    (∀ w F, n < F → lp (fun (rec4 : Int32 × Int32 × xSt → Option (Int32 × xSt)) => un3 (fun (a1 : Int32) (a2 : Int32) (v3 : xSt) => (if nI p ≤ a2 then some (a1, v3) else ob (m_X9_ticks v3) (fun r7 => lt (r7.2) (fun v9 => lt (fun (t10 : Int32) (t11 : Int32) => rec4 ((t10 + t11), (a2 + 1), v9)) (fun j12 => (if r7.1 = 0 then j12 a1 (0 : Int32) else j12 a1 (1 : Int32)))))))) F (a, nI k, va_up w 1 σ) = some (c, va_up w 1 τ)) ∧
    RR (B + n) (sh 7 v') τ ∧ (∀ j, j < 7 ∨ 54 ≤ j → v' j = v j) ∧ IV (B + n) τ := by
  intro n
  induction n with
  | zero =>
    intro k a B v σ hk hB H hI hv
    obtain rfl : k = p := by omega
    refine ⟨a, v, σ, fun F hF => ?_, fun w F hF => ?_, H, fun _ _ => rfl, hI⟩
    · obtain ⟨F, rfl⟩ : ∃ t, F = t + 1 := ⟨F - 1, by omega⟩
      rw [lp, q_u2, hv, if_pos (nI_le (Nat.le_refl _) (by omega))]
    · obtain ⟨F, rfl⟩ : ∃ t, F = t + 1 := ⟨F - 1, by omega⟩
      rw [lp, q_u3, if_pos (nI_le (Nat.le_refl _) (by omega))]
  | succ n ih =>
    intro k a B v σ hk hB H hI hv
    obtain ⟨b, τ, c, h1, h2, h3, h4, -, h6, -⟩ := i_tick H (by omega) hI
    have hch : ∀ j, j < 47 → (sh 7 (pu 7 47 v c)) j = c j := fun j hj => by rw [sh_e, pu_i (by omega) (by omega)]; exact congrArg c (by omega)
    obtain ⟨z, v', ρ, g1, g2, g3, g4, g5⟩ := ih (k + 1) (a + b) (B + 1) (pu 7 47 v c) τ (by omega) (by omega) (RR_v h3 hch) h6 (by rw [pu_o (by omega)]; exact hv)
    refine ⟨z, v', ρ, fun F hF => ?_, fun w F hF => ?_, RR_b g3 (by omega), fun j hj => by rw [g4 j hj, pu_o (by omega)], by rw [show B + (n + 1) = B + 1 + n by omega]; exact g5⟩
    · obtain ⟨F, rfl⟩ : ∃ t, F = t + 1 := ⟨F - 1, by omega⟩
      rw [lp, q_u2, hv, if_neg (nI_ge (by omega) (by omega)), h1, q_ob, q_lt]
      have := g1 F (by omega)
      rw [← this, nI_1]
    · obtain ⟨F, rfl⟩ : ∃ t, F = t + 1 := ⟨F - 1, by omega⟩
      rw [lp]
      simp only [q_u3]
      rw [if_neg (nI_ge (by omega) (by omega)), h2 w]
      simp only [q_ob, q_lt]
      have := g2 w F (by omega)
      rw [← this, nI_1]
      rcases h4 with h4 | h4
      · rw [if_pos h4, h4]
        rfl
      · rw [if_neg (by rw [h4]; decide), h4]
        rfl
theorem i_doPart {B l t u : Nat} {v w : xSt} {M : Int32} (H : RBC B v w) (hI : IV B (w 1)) (hB : B + 200 < 16000000) (hl3 : l = 119 ∨ l = 101 ∨ l = 116) (ht : t ≤ mostN l) (hu : u ≤ 9) (v1 : v 3 1 = nI l) (v2 : v 3 2 = nI t) (v3 : v 3 3 = nI u) (w1 : w 0 11 = nI l) (w2 : w 0 12 = nI t) (w3 : w 0 13 = nI u) (w4 : w 0 14 = M) (hv : l = 119 → ∃ m, 1 ≤ m ∧ m ≤ 8 ∧ M = nI m ∧ v 4 1 = nI m ∧ ∀ i, i < m → v 5 i = w 6 i ∧ ∃ a, a < 256 ∧ v 5 i = nI a) : ∃ r v' τ, m_X8_doPart v = some (r, v') ∧ m_X9_doesPart w = some (r, va_up w 1 τ) ∧ (r = 0 ∨ r = 1) ∧ RBC (B + 100) v' (va_up w 1 τ) ∧ (∀ j, j < 7 → v' j = v j) ∧ IV (B + 100) τ := by
  have hw : va_up w 1 (w 1) = w := va_up_id
  have fin : ∀ v' τ, (∀ j, j < 7 ∨ 54 ≤ j → v' j = v j) → RR (B + 100) (sh 7 v') τ → RBC (B + 100) v' (va_up w 1 τ) := fun v' τ a b => MN_fin (v := v) (w := w) H (by omega) (fun j h1 h2 => a j (by omega)) (fun k hk => by rw [a 0 (by omega)]) b
  by_cases h116 : l = 116
  · have hm : mostN l ≤ 99 := by rw [h116]; decide
    obtain ⟨c, v', τ, g1, g2, g3, g4, g5⟩ := i_tticks t (by omega) t 0 0 B v (w 1) (by omega) (by omega) H.1 hI v2
    have rp := r_passes (w := w) g2 (by omega)
    rw [hw] at rp
    refine ⟨1, v', τ, ?_, ?_, Or.inr rfl, fin v' τ g4 (RR_b g3 (by omega)), fun j hj => g4 j (by omega), IV_b g5 (by omega)⟩
    · unfold m_X8_doPart
      rw [v1, if_pos (by rw [h116]; decide)]
      exact g1 xF (xFg (by omega))
    · unfold m_X9_doesPart
      rw [w1, if_pos (by rw [h116]; decide), w2, rp, q_ob, q_lt]
  · have n116 : ¬ nI l = (116 : Int32) := by
      rcases hl3 with e | e | e
      · rw [e]; decide
      · rw [e]; decide
      · exact absurd e h116
    obtain ⟨n, q, π, a1, a2, a3, a4, a5, a6, a7, a8, a9⟩ := id H.1.1.2.2.2.2.2.2.1
    have full := isFull_e (c := sh 21 v) (n := n) a4 a1
    have n10 : ¬ n < 10 → nI n = (10 : Int32) := fun g => by rw [show n = 10 by omega]; rfl
    have n10' : n < 10 → ¬ nI n = (10 : Int32) := fun g e => by
      have := (nI_eq (a := n) (b := 10) (by omega) (by omega)).mp e
      omega
    by_cases hf : n < 10
    · by_cases h119 : l = 119
      · obtain ⟨m, m1, m2, m3, m4, m5⟩ := hv h119
        have ht2 : t < 256 := by rw [h119] at ht; exact Nat.lt_of_le_of_lt ht (by decide)
        obtain ⟨q', b, c2, τ0, r0, r1, r2, r3, r4, r5, r6, r7, r8, r9⟩ := s_joinW (u := u) (p := t) (m := m) (c := ct 32 (sh 21 v) (sh 4 v)) H.1 (by omega) a3 hf ht2 hu (fun j hj => by rw [ct_l hj, sh_e, sh_e]; exact congrArg v (by omega)) m1 (by omega) (by rw [ct_h (by omega), sh_e]; exact m4)
        have rp := r3 w
        rw [hw] at rp
        obtain ⟨V, hV⟩ : ∃ V, V = pu 4 2 (pu 21 32 v c2) (sh 32 c2) := ⟨_, rfl⟩
        have Vo : ∀ j, j < 21 ∨ 53 ≤ j → V j = v j := fun j hj => by
          by_cases j4 : j = 4
          · rw [j4, hV, pu_i (by omega) (by omega), show (4 : Nat) - 4 = 0 by omega, sh_e, r7, ct_h (by omega), sh_e]
          · by_cases j5 : j = 5
            · rw [j5, hV, pu_i (by omega) (by omega), show (5 : Nat) - 4 = 1 by omega, sh_e, r8, ct_h (by omega), sh_e]
            · rw [hV, pu_o (by omega), pu_o (by omega)]
        obtain ⟨τ, hτ⟩ : ∃ τ, τ = fl (va_up τ0 (b + 5) (nI m)) (b + 6) m (fun t => w 6 t) := ⟨_, rfl⟩
        have HV : RR (B + 1) (sh 7 V) τ := by
          refine r9 τ (sh 7 V) (fun j hj => ?_) ?_ (fun i hi => ?_) (fun j hj => ?_) (fun j hj => ?_)
          · rw [hτ, fl_o (by omega), va_up_ne _ _ (by omega)]
          · rw [hτ, fl_o (by omega), va_up_self]
          · obtain ⟨z1, a, z2, z3⟩ := m5 i hi
            rw [hτ, fl_i (by omega) (by omega), show b + 6 + i - (b + 6) = i by omega, ct_h (by omega), sh_e]
            exact ⟨z1, a, z2, by rw [← z1]; exact z3⟩
          · rw [hV, sh_e, pu_o (by omega), pu_i (by omega) (by omega)]
            exact congrArg c2 (by omega)
          · rw [sh_e, sh_e]
            exact Vo _ (by omega)
        obtain ⟨hI0, hI1⟩ := i_joined H.1.1 hI (by omega) a3 hf hu r3
        obtain ⟨i, i1, hbi⟩ := hI1 (by omega)
        have hVI : IV (B + 100) τ := by
          refine IV_b (IV_k hI0 (fun k hk => ?_) (fun r hr => ⟨?_, ?_⟩)) (by omega)
          · rw [hτ, fl_o (by omega), va_up_ne _ _ (by omega)]
          · rw [hτ, fl_o (by omega), va_up_ne _ _ (by omega)]
          · rw [hτ, fl_o (by omega), va_up_ne _ _ (by omega)]
        refine ⟨1, V, τ, ?_, ?_, Or.inr rfl, fin V τ (fun j hj => Vo j (by omega)) (RR_b HV (by omega)), fun j hj => Vo j (by omega), hVI⟩
        · unfold m_X8_doPart
          rw [v1, if_neg n116, full, q_ob, if_pos hf, if_pos rfl, if_neg (by rw [h119]; decide), v2, v3]
          rw [show m_X1_joinWrite (ct 32 (sh 21 v) (sh 4 v)) (nI t) (nI u) (v 7 8) = some (nI q', c2) from r2, q_ob, q_lt, ← hV]
        · unfold m_X9_doesPart
          rw [w1, if_neg n116]
          simp only [kc580, kn580]
          rw [a3, if_neg (n10' hf), q_lj, w2, w3, if_pos (by rw [h119]; decide)]
          rw [show (0 : Int32) = nI 0 from rfl, rp, q_ob, q_lt]
          have last : τ = fl (if m = 0 then τ0 else va_up τ0 (b + 5) (nI m)) (b + 6) m (fun t => w 6 t) := by rw [if_neg (by omega), hτ]
          refine lpf_r (fun k => (nI k, va_up w 1 (fl (if k = 0 then τ0 else va_up τ0 (b + 5) (nI k)) (b + 6) k (fun t => w 6 t)))) m (xFg (by omega)) (by simp only [fl_0]; rfl) (fun k rec hk => ?_) (fun rec => ?_)
          · have step : va_up (va_up (fl (if k = 0 then τ0 else va_up τ0 (b + 5) (nI k)) (b + 6) k (fun t => w 6 t)) (b + 6 + k) (w 6 k)) (b + 5) (nI (k + 1)) = fl (if k + 1 = 0 then τ0 else va_up τ0 (b + 5) (nI (k + 1))) (b + 6) (k + 1) (fun t => w 6 t) := by
              rw [fl_s (by omega) rfl, if_neg (show ¬ k + 1 = 0 by omega)]
              funext j
              rw [up_eq]
              by_cases e : j = b + 5
              · rw [if_pos e, fl_o (by omega), e, va_up_self]
              · rw [if_neg e]
                by_cases e2 : b + 6 ≤ j ∧ j < b + 6 + (k + 1)
                · rw [fl_i e2.1 e2.2, fl_i e2.1 e2.2]
                · rw [fl_o (by omega), fl_o (by omega), va_up_ne _ _ e]
                  by_cases k0 : k = 0
                  · rw [if_pos k0]
                  · rw [if_neg k0, va_up_ne _ _ e]
            rw [q_u2, va_up_ne _ _ (by omega), w4, m3, w1, if_neg (nI_ge hk (by omega)), if_pos (by rw [h119]; decide)]
            simp (disch := omega) only [li, q_lt, q_ob, nI_add, q_cl, q_lts, q_le, q_ck, q_st, va_up_self, va_up_ne, Nat.reduceAdd, step]
          · rw [q_u2, va_up_ne _ _ (by omega), w4, m3, if_pos (nI_le (by omega) (by omega)), ← last]
      · have h101 : l = 101 := by
          rcases hl3 with e | e | e
          · exact absurd e h119
          · exact e
          · exact absurd e h116
        have ht2 : t < 8 := by rw [h101] at ht; exact Nat.lt_of_le_of_lt ht (by decide)
        obtain ⟨q', b, c2, τ, r2, r3, r4, r5, r9⟩ := s_joinE (u := u) (p := t) (c := sh 21 v) H.1 (by omega) a3 hf ht2 hu (fun j hj => by rw [sh_e, sh_e]; exact congrArg v (by omega))
        have rp := r3 w
        rw [hw] at rp
        have HV : RR (B + 1) (sh 7 (pu 21 32 v c2)) τ := by
          refine r9 _ (fun j hj => ?_) (fun j hj => ?_)
          · rw [sh_e, pu_i (by omega) (by omega)]
            exact congrArg c2 (by omega)
          · rw [sh_e, sh_e, pu_o (by omega)]
        refine ⟨1, pu 21 32 v c2, τ, ?_, ?_, Or.inr rfl, fin _ τ (fun j hj => pu_o (by omega)) (RR_b HV (by omega)), fun j hj => pu_o (by omega), IV_b (i_joined H.1.1 hI (by omega) a3 hf hu r3).1 (by omega)⟩
        · unfold m_X8_doPart
          rw [v1, if_neg n116, full, q_ob, if_pos hf, if_pos rfl, if_pos (by rw [h101]; decide), v2, v3]
          rw [show m_X1_join (sh 21 v) (2 : Int32) (nI t) (nI u) (v 7 8) = some (nI q', c2) from r2, q_ob, q_lt]
        · unfold m_X9_doesPart
          rw [w1, if_neg n116]
          simp only [kc580, kn580]
          rw [a3, if_neg (n10' hf), q_lj, w2, w3, if_neg (by rw [h101]; decide)]
          rw [show (1 : Int32) = nI 1 from rfl, rp, q_ob, q_lt]
          obtain ⟨F, hF, _⟩ := xFs
          rw [hF, lp, q_u2]
          show (if (va_up w 1 τ) 0 14 ≤ 0 then some (nI 1, va_up w 1 τ) else if (va_up w 1 τ) 0 11 = 119 then _ else some (nI 1, va_up w 1 τ)) = _
          rw [va_up_ne _ _ (by omega), w4, w1]
          by_cases g : M ≤ 0
          · rw [if_pos g]
          · rw [if_neg g, if_neg (by rw [h101]; decide)]
    · refine ⟨0, v, w 1, ?_, ?_, Or.inl rfl, fin v (w 1) (fun _ _ => rfl) (RR_b H.1 (by omega)), fun _ _ => rfl, IV_b hI (by omega)⟩
      · unfold m_X8_doPart
        rw [v1, if_neg n116, full, q_ob, if_neg hf, if_neg (by decide)]
      · unfold m_X9_doesPart
        rw [w1, if_neg n116]
        simp only [kc580, kn580]
        rw [a3, if_pos (n10 hf), hw]
