/-! TYPES -/
set_option maxHeartbeats 2000000 in
theorem t_types {v0 : xSt} {p : Int32} {n L0 : Nat} (hL0 : v0 0 7 = nI L0) (hL1 : L0 ≤ 60) (hn : m_L_low p (5 : Int32) = some (nI n)) (hn1 : n < 5) : ∃ v' L C, m_L_types v0 p = some (1, v') ∧ TT v0 v' L C ∧ L ≤ 60 ∧ (C + 1 ≤ n ∨ L = 0 ∨ (0 < L ∧ v' 2 (L - 1) = nI 59)) := by
  have key : wp (m_L_types v0 p) (fun r => r.1 = 1 ∧ ∃ L C, TT v0 r.2 L C ∧ L ≤ 60 ∧ (C + 1 ≤ n ∨ L = 0 ∨ (0 < L ∧ r.2 2 (L - 1) = nI 59))) := by
    unfold m_L_types m_X8_clearBuffer
    rw [hn, q_ob, q_lt, q_ob]
    dsimp only
    rw [q_lt, hL0]
    refine wp_n (fun j7 e7 => ?_)
    rw [if_neg (show ¬ nI L0 < 0 from nI_nlt (b := 0) (by omega) (by omega)), e7]
    dsimp only
    clear e7
    obtain ⟨v1, hv1⟩ : ∃ v1, v1 = st2 v0 0 7 0 := ⟨_, rfl⟩
    rw [← hv1]
    have T1 : TT v0 v1 0 0 := ⟨fun j a b => by rw [hv1, q_sn a], fun k hk => by rw [hv1, q_ss, va_up_ne _ _ hk], by rw [hv1, q_ss, va_up_self]; rfl, fun _ => 0, fun i hi => absurd hi (by omega), rfl⟩
    refine wp_lp (fun k (s : Int32 × Int32 × xSt) => ∃ v L C, s = (1, nI k, v) ∧ TT v0 v L C ∧ L ≤ 12 * k ∧ ((k = 0 ∧ C = 0) ∨ C + 1 = k)) n (xFg (by omega)) ⟨v1, 0, 0, rfl, T1, by omega, Or.inl ⟨rfl, rfl⟩⟩ (fun k s rec hk hI => Or.inl ?_) (fun s rec hI => ?_)
    · obtain ⟨v, L, C, rfl, hT, hL, hC⟩ := hI
      show RQ rec (fun s => ∃ v L C, s = (1, nI (k + 1), v) ∧ TT v0 v L C ∧ L ≤ 12 * (k + 1) ∧ ((k + 1 = 0 ∧ C = 0) ∨ C + 1 = k + 1)) _
      simp only [q_u3]
      rw [if_neg (nI_ge hk (by omega))]
      refine RQ_n (fun x25 _ => ?_)
      obtain ⟨a, a1, a2⟩ := lo (n := 7) x25 (by omega) (by omega)
      refine RQ_o a2 ?_
      refine RQ_n (fun j29 e29 => ?_)
      suffices hN : ∀ N, N < 260 → RQ rec (fun s => ∃ v L C, s = (1, nI (k + 1), v) ∧ TT v0 v L C ∧ L ≤ 12 * (k + 1) ∧ ((k + 1 = 0 ∧ C = 0) ∨ C + 1 = k + 1)) (j29 (nI N)) by
        clear e29
        refine RQ_i (fun _ => RQ_i (fun _ => ?_) (fun _ => ?_)) (fun _ => ?_)
        · obtain ⟨b, b1, b2⟩ := lo (n := 9) (p >>> ((25 : Int32) &&& 31)) (by omega) (by omega)
          refine RQ_o b2 ?_
          refine RQ_n (fun j135 e135 => ?_)
          refine RQ_i (fun _ => ?_) (fun _ => ?_)
          · rw [e135]
            dsimp only
            obtain ⟨c, c1, c2⟩ := lo (n := 110) (x25 >>> ((2 : Int32) &&& 31)) (by omega) (by omega)
            refine RQ_o c2 ?_
            rw [show (1 : Int32) + nI c = nI (1 + c) from nI_add 1 c]
            exact hN _ (by omega)
          · rw [e135]
            dsimp only
            obtain ⟨c, c1, c2⟩ := lo (n := 30) (x25 >>> ((2 : Int32) &&& 31)) (by omega) (by omega)
            refine RQ_o c2 ?_
            rw [show (1 : Int32) + nI c = nI (1 + c) from nI_add 1 c]
            exact hN _ (by omega)
        · obtain ⟨b, b1, b2⟩ := lo (n := 9) (p >>> ((24 : Int32) &&& 31)) (by omega) (by omega)
          refine RQ_o b2 ?_
          refine RQ_n (fun j135 e135 => ?_)
          refine RQ_i (fun _ => ?_) (fun _ => ?_)
          · rw [e135]
            dsimp only
            obtain ⟨c, c1, c2⟩ := lo (n := 9) (x25 >>> ((1 : Int32) &&& 31)) (by omega) (by omega)
            refine RQ_o c2 ?_
            exact hN _ (by omega)
          · rw [e135]
            dsimp only
            obtain ⟨c, c1, c2⟩ := lo (n := 8) (x25 >>> ((1 : Int32) &&& 31)) (by omega) (by omega)
            refine RQ_o c2 ?_
            exact hN _ (by omega)
        · obtain ⟨b, b1, b2⟩ := lo (n := 9) (p >>> ((23 : Int32) &&& 31)) (by omega) (by omega)
          refine RQ_o b2 ?_
          refine RQ_n (fun j135 e135 => ?_)
          refine RQ_i (fun _ => ?_) (fun _ => ?_)
          · rw [e135]
            dsimp only
            obtain ⟨c, c1, c2⟩ := lo (n := 260) (x25 >>> ((1 : Int32) &&& 31)) (by omega) (by omega)
            refine RQ_o c2 ?_
            exact hN _ (by omega)
          · rw [e135]
            dsimp only
            obtain ⟨c, c1, c2⟩ := lo (n := 256) (x25 >>> ((1 : Int32) &&& 31)) (by omega) (by omega)
            refine RQ_o c2 ?_
            exact hN _ (by omega)
      intro N hN
      rw [e29]
      dsimp only
      clear e29
      refine RQ_n (fun j32 e32 => ?_)
      refine RQ_n (fun j93 e93 => ?_)
      clear e93
      rw [if_neg (show ¬ (1 : Int32) = 0 by decide)]
      refine RQ_n (fun j96 e96 => ?_)
      obtain ⟨Q, hQ⟩ : ∃ Q : Int32 × Int32 × xSt → Prop, Q = (fun s => ∃ v L C, s = (1, nI (k + 1), v) ∧ TT v0 v L C ∧ L ≤ 12 * (k + 1) ∧ ((k + 1 = 0 ∧ C = 0) ∨ C + 1 = k + 1)) := ⟨_, rfl⟩
      rw [← hQ]
      have h32 : ∀ v L, TT v0 v L k → L ≤ 12 * k + 5 → RQ rec Q (j32 1 v) := by
        intro v L hT hL
        rw [e32]
        dsimp only
        refine RQ_n (fun j35 e35 => ?_)
        have h35 : ∀ v L, TT v0 v L k → L ≤ 12 * k + 10 → RQ rec Q (j35 1 v) := by
          intro v L hT hL
          rw [e35]
          dsimp only
          refine RQ_n (fun j38 e38 => ?_)
          have h38 : ∀ v L, TT v0 v L k → L ≤ 12 * k + 12 → RQ rec Q (j38 1 v) := by
            intro v L hT hL
            rw [e38]
            refine ⟨(1, nI k + 1, v), ?_, rfl⟩
            rw [hQ]
            exact ⟨v, L, k, by rw [nI_1], hT, by omega, Or.inr rfl⟩
          clear e38
          refine RQ_i (fun _ => h38 v L hT (by omega)) (fun _ => ?_)
          obtain ⟨b, b1, b2⟩ := lo (n := 2) (x25 >>> ((6 : Int32) &&& 31)) (by omega) (by omega)
          refine RQ_o b2 ?_
          refine RQ_i (fun _ => ?_) (fun _ => h38 v L hT (by omega))
          refine RQ_n (fun j45 e45 => ?_)
          refine RQ_n (fun j47 e47 => ?_)
          clear e47
          rw [if_neg (show ¬ (1 : Int32) = 0 by decide)]
          refine RQ_a (c := 33) rfl hT (by omega) (by omega) (by omega) (fun r => rfl) (fun v' hT' _ => ?_)
          obtain ⟨d, d1, d2⟩ := lo (n := 10) (x25 >>> ((7 : Int32) &&& 31)) (by omega) (by omega)
          refine RQ_o d2 ?_
          refine RQ_a (c := 48 + d) (nI_add 48 d) hT' (by omega) (by omega) (by omega) (fun r => rfl) (fun v'' hT'' _ => ?_)
          rw [e45]
          dsimp only
          rw [if_neg (show ¬ 33 = 59 by omega), if_neg (show ¬ 48 + d = 59 by omega), Nat.add_zero, Nat.add_zero] at hT''
          exact h38 v'' _ hT'' (by omega)
        clear e35
        refine RQ_i (fun _ => h35 v L hT (by omega)) (fun _ => ?_)
        obtain ⟨b, b1, b2⟩ := lo (n := 2) (x25 >>> ((4 : Int32) &&& 31)) (by omega) (by omega)
        refine RQ_o b2 ?_
        refine RQ_n (fun j64 e64 => ?_)
        refine RQ_n (fun j86 e86 => ?_)
        clear e86
        rw [if_neg (show ¬ (1 : Int32) = 0 by decide)]
        refine RQ_a (c := 58) rfl hT (by omega) (by omega) (by omega) (fun r => rfl) (fun v' hT' _ => ?_)
        rw [if_neg (show ¬ 58 = 59 by omega), Nat.add_zero] at hT'
        rw [e64]
        dsimp only
        clear e64
        refine RQ_lp (fun m (s : Int32 × Int32 × xSt) => ∃ v L, s = (1, nI m, v) ∧ TT v0 v L k ∧ L ≤ 12 * k + 6 + m) (2 + 2 * b) (fun m s r2 hm hI => ?_) (fun s r2 hI => ?_) (2 + 2 * b) 0 xF _ (by omega) (xFg (by omega)) ⟨v', L + 1, rfl, hT', by omega⟩
        · obtain ⟨v, L, rfl, hT, hL⟩ := hI
          simp only [q_u3]
          rw [show (2 : Int32) + (2 : Int32) * nI b = nI (2 + 2 * b) from by rw [show (2 : Int32) * nI b = nI (2 * b) from pk_mul 2 b]; exact nI_add 2 (2 * b), if_neg (nI_ge hm (by omega))]
          obtain ⟨d, d1, d2⟩ := lo (n := 16) (x25 >>> (nI m &&& 31)) (by omega) (by omega)
          refine RQ_o d2 ?_
          refine RQ_n (fun j74 e74 => ?_)
          refine RQ_n (fun j76 e76 => ?_)
          clear e76
          rw [if_neg (show ¬ (1 : Int32) = 0 by decide)]
          refine RQ_n (fun j79 e79 => ?_)
          have h79 : ∀ c, 33 ≤ c → c ≤ 126 → ¬ c = 59 → RQ r2 (fun s => ∃ v L, s = (1, nI (m + 1), v) ∧ TT v0 v L k ∧ L ≤ 12 * k + 6 + (m + 1)) (j79 (nI c)) := by
            intro c hc1 hc2 hc3
            rw [e79]
            dsimp only
            refine RQ_a (c := c) rfl hT (by omega) hc1 hc2 (fun r => rfl) (fun v'' hT'' _ => ?_)
            rw [if_neg hc3, Nat.add_zero] at hT''
            rw [e74]
            exact ⟨(1, nI m + 1, v''), ⟨v'', L + 1, by rw [nI_1], hT'', by omega⟩, rfl⟩
          have e97 : ∀ d, d < 16 → ¬ d < 10 → (97 : Int32) + nI d - 10 = nI (87 + d) := by decide
          by_cases hd : d < 10
          · rw [if_neg (show ¬ (10 : Int32) ≤ nI d from nI_ge (b := 10) hd (by omega)), show (48 : Int32) + nI d = nI (48 + d) from nI_add 48 d]
            exact h79 _ (by omega) (by omega) (by omega)
          · rw [if_pos (show (10 : Int32) ≤ nI d from nI_le (a := 10) (by omega) (by omega)), e97 d d1 hd]
            exact h79 _ (by omega) (by omega) (by omega)
        · obtain ⟨v, L, rfl, hT, hL⟩ := hI
          simp only [q_u3]
          rw [show (2 : Int32) + (2 : Int32) * nI b = nI (2 + 2 * b) from by rw [show (2 : Int32) * nI b = nI (2 * b) from pk_mul 2 b]; exact nI_add 2 (2 * b), if_pos (nI_le (Nat.le_refl _) (by omega))]
          exact h35 v L hT (by omega)
      clear e32
      have h96 : ∀ v L, TT v0 v L k → L ≤ 12 * k + 1 → RQ rec Q (j96 v) := by
        intro v L hT hL
        rw [e96]
        dsimp only
        refine RQ_n (fun j98 e98 => ?_)
        have h98 : ∀ c, 33 ≤ c → c ≤ 126 → ¬ c = 59 → RQ rec Q (j98 (nI c)) := by
          intro c hc1 hc2 hc3
          rw [e98]
          dsimp only
          refine RQ_a (c := c) rfl hT (by omega) hc1 hc2 (fun r => rfl) (fun v1 hT1 _ => ?_)
          rw [if_neg hc3, Nat.add_zero] at hT1
          refine RQ_n (fun j104 e104 => ?_)
          have h104 : ∀ v L, TT v0 v L k → L ≤ 12 * k + 3 → RQ rec Q (j104 v) := by
            intro v L hT hL
            rw [e104]
            dsimp only
            refine RQ_n (fun j106 e106 => ?_)
            have h106 : ∀ v L, TT v0 v L k → L ≤ 12 * k + 4 → RQ rec Q (j106 v) := by
              intro v L hT hL
              rw [e106]
              dsimp only
              rw [show nI N - nI N / (10 : Int32) * (10 : Int32) = nI (N % 10) from xrem (d := 10) (by omega) (by omega) (by omega)]
              refine RQ_a (c := 48 + N % 10) (nI_add 48 (N % 10)) hT (by omega) (by omega) (by omega) (fun r => rfl) (fun v1 hT1 _ => ?_)
              rw [if_neg (by omega), Nat.add_zero] at hT1
              exact h32 v1 _ hT1 (by omega)
            clear e106
            refine RQ_i (fun _ => h106 v L hT (by omega)) (fun _ => ?_)
            rw [show nI N / (10 : Int32) = nI (N / 10) from q_div (d := 10) (by omega) (by omega) (by omega), show nI (N / 10) - nI (N / 10) / (10 : Int32) * (10 : Int32) = nI (N / 10 % 10) from xrem (d := 10) (by omega) (by omega) (by omega)]
            refine RQ_a (c := 48 + N / 10 % 10) (nI_add 48 (N / 10 % 10)) hT (by omega) (by omega) (by omega) (fun r => rfl) (fun v1 hT1 _ => ?_)
            rw [if_neg (by omega), Nat.add_zero] at hT1
            exact h106 v1 _ hT1 (by omega)
          clear e104
          refine RQ_i (fun _ => h104 v1 _ hT1 (by omega)) (fun _ => ?_)
          rw [show nI N / (100 : Int32) = nI (N / 100) from q_div (d := 100) (by omega) (by omega) (by omega)]
          refine RQ_a (c := 48 + N / 100) (nI_add 48 (N / 100)) hT1 (by omega) (by omega) (by omega) (fun r => rfl) (fun v2 hT2 _ => ?_)
          rw [if_neg (by omega), Nat.add_zero] at hT2
          exact h104 v2 _ hT2 (by omega)
        clear e98
        refine RQ_i (fun _ => RQ_i (fun _ => ?_) (fun _ => ?_)) (fun _ => ?_)
        · exact h98 116 (by omega) (by omega) (by omega)
        · exact h98 101 (by omega) (by omega) (by omega)
        · exact h98 119 (by omega) (by omega) (by omega)
      clear e96
      rcases Nat.eq_zero_or_pos k with k0 | k0
      · rw [if_pos (show nI k = 0 by rw [k0]; rfl)]
        have : C = k := by omega
        rw [this] at hT
        exact h96 v L hT (by omega)
      · rw [if_neg (nI_ne0 k0 (by omega))]
        refine RQ_a (c := 59) rfl hT (by omega) (by omega) (by omega) (fun r => rfl) (fun v1 hT1 _ => ?_)
        rw [if_pos rfl, show C + 1 = k by omega] at hT1
        exact h96 v1 _ hT1 (by omega)
    · obtain ⟨v, L, C, rfl, hT, hL, hC⟩ := hI
      simp only [q_u3]
      rw [if_pos (nI_le (Nat.le_refl _) (by omega))]
      refine wp_n (fun j14 e14 => ?_)
      clear e14
      rw [if_neg (show ¬ (1 : Int32) = 0 by decide)]
      obtain ⟨b, b1, b2⟩ := lo (n := 6) (p >>> ((26 : Int32) &&& 31)) (by omega) (by omega)
      refine wp_e b2 ?_
      refine wp_n (fun j19 e19 => ?_)
      refine wp_i (fun _ => ?_) (fun _ => ?_)
      · rw [e19]
        refine wp_s ⟨rfl, L, C, hT, by omega, ?_⟩
        rcases hC with ⟨hC, hC2⟩ | hC
        · exact Or.inr (Or.inl (by omega))
        · exact Or.inl (by omega)
      · obtain ⟨v1, g1, g2, g3⟩ := TT_a hT (show L < 60 by omega) (c := 59) (by omega) (by omega)
        refine wp_e (show m_L_append_q v (59 : Int32) = some (nI (L + 1), v1) from g1) ?_
        dsimp only
        rw [q_lt, if_neg (nI_nle (by omega) (by omega)), e19]
        exact wp_s ⟨rfl, L + 1, _, g2, by omega, Or.inr (Or.inr ⟨by omega, g3⟩)⟩
  obtain ⟨⟨z, v'⟩, h1, h2, L, C, h3, h4, h5⟩ := key
  obtain rfl : z = 1 := h2
  exact ⟨v', L, C, h1, h3, h4, h5⟩
