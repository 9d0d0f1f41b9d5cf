/-! OBEY with the invariants: the text -/
def cu (T : Nat → Nat) : Nat → Nat
  | 0 => 0
  | k + 1 => cu T k + (if T k = 59 then 1 else 0)
theorem cu_m {T : Nat → Nat} {p q : Nat} (h : p ≤ q) : cu T p ≤ cu T q := by
  obtain ⟨d, rfl⟩ := Nat.le.dest h
  clear h
  induction d with
  | zero => exact Nat.le_refl _
  | succ d ih => exact Nat.le_trans ih (Nat.le_add_right _ _)
theorem VAL_last {T : Nat → Nat} {L : Nat} : ∀ d p (W : xSt) (l t u M : Int32), p < L → L - p ≤ d → TX T L W → FS W p 1 l t u M → VAL T L p → ¬ T (L - 1) = 59 := by
  intro d
  induction d with
  | zero =>
    intro p W l t u M hp hd
    exact absurd hd (by omega)
  | succ d ih =>
    intro p W l t u M hp hd hT hF hval
    have hL := hT.1
    obtain ⟨cL, v1, v2⟩ := hval (fun _ _ => 0) rfl
    obtain ⟨w1, e1, e2, e3⟩ := J_part (c := fun _ _ => 0) hT hF (by omega) rfl
    rcases e3 with ⟨n, c', l', t', u', M', g1, g2, g3, g4, g5, g6, g7, g8, g9, g10, g11, g12, g13, g14⟩ | e3
    · have hT1 := TX_c hT e2
      obtain ⟨q, hq⟩ : ∃ q, q = p + n := ⟨_, rfl⟩
      rw [← hq] at g1 g4 g13
      have h59 : q < L → T q = 59 := fun hqL => by
        by_cases x : T q = 59
        · exact x
        · obtain ⟨c3, k⟩ := g13 hqL x
          exact (NOo_abs v1 v2 (w := st2 w1 0 10 0) ⟨n, c', g2, by omega, by rw [q_ss, va_up_ne _ _ (by omega), g4.1, hq], by rw [q_ss, va_up_self], fun _ => ⟨c3, by rw [← hq]; exact k⟩, fun y => by omega⟩).elim
      obtain ⟨W2, hW2⟩ : ∃ W2, W2 = st2 w1 0 9 (nI (q + 1)) := ⟨_, rfl⟩
      have fr2 : FRM W W2 := by rw [hW2]; exact FRM_t e2 (FRM_0 (by omega))
      have F2 : FS W2 (q + 1) 1 (nI l') (nI t') (nI u') M' := by rw [hW2]; exact FS_9 g4 _
      have T2 := TX_c hT fr2
      by_cases go2 : q < L
      · have k3 : m_X5_goesOnWith c' (nI (T q)) = some (1, (g14 c' (fun _ _ => rfl)).choose) := by
          rw [h59 go2]
          exact (g14 c' (fun _ _ => rfl)).choose_spec.1
        have k4 := (g14 c' (fun _ _ => rfl)).choose_spec.2
        rw [hq] at k3
        have rr : rn T (fun _ _ => 0) p (n + 1) = some _ := rn_a _ _ _ _ g2 (rn_1 k3)
        obtain ⟨r0, w0, t1, t2, -, t3⟩ := J_text L (q + 1) _ W2 _ _ _ _ (by clear g11; omega) (by clear g11; omega) T2 F2 k4
        have val : VAL T L (q + 1) := by
          rcases t3 with ⟨t3, cM, t4, t5⟩ | ⟨t3, t4⟩
          · exact VAL_of T2 F2 (by clear g11; omega) k4 t4 t5
          · rw [show q + 1 = p + (n + 1) by (clear g11; omega)] at t4
            exact (NOo_abs v1 v2 (NOo_s rr t4)).elim
        have hq1 : q + 1 < L := by
          by_cases x : q + 1 < L
          · exact x
          · exfalso
            obtain ⟨cM, z1, z2⟩ := val _ k4
            rw [show L - (q + 1) = 0 by (clear g11; omega)] at z1
            cases z1
            rw [e_c0 k4] at z2
            cases z2
        exact ih (q + 1) W2 _ _ _ _ hq1 (by clear g11; omega) T2 F2 val
      · exact g3 (L - 1) (by clear g11; omega) (by clear g11; omega)
    · exact (NOo_abs v1 v2 e3).elim
theorem I_obey {T : Nat → Nat} {L : Nat} : ∀ d p B (a : Nat) (V W : xSt) (l t u M : Int32), p < L → L - p ≤ d → TV T L V → TX T L W → FS W p 1 l t u M → (sh 3 V) 0 0 = nI 0 → VAL T L p → RBC B V W → IV B (W 1) → B + 100 * d + 200 < 16000000 → ∃ c V' W', c + cu T p ≤ 1 + cu T (L - 1) ∧ (∀ F, L - p + 3 < F → lp OBL F (nI a, 1, nI p, V) = some (nI (a + c), V')) ∧ W' 3 = W 3 ∧ W' 4 = W 4 ∧ W' 0 3 = W 0 3 ∧ W' 0 5 = W 0 5 ∧ V' 0 7 = 0 ∧ RBC (B + 100 * d) V' W' ∧ IV (B + 100 * d) (W' 1) := by
  intro d
  induction d with
  | zero =>
    intro p B a V W l t u M hp hd
    exact absurd hd (by omega)
  | succ d ih =>
    intro p B a V W l t u M hp hd hV hT hF h0 hval H hI hB
    have hL := hT.1
    have hc : ∀ i, i < L → T i < 127 := fun i hi => (hT.2.2 i hi).2.2
    obtain ⟨cL, v1, v2⟩ := hval _ h0
    obtain ⟨w1, e1, e2, e3⟩ := J_part hT hF (by omega) h0
    rcases e3 with ⟨n, c', l', t', u', M', g1, g2, g3, g4, g5, g6, g7, g8, g9, g10, g11, g12, g13, g14⟩ | e3
    · have hT1 := TX_c hT e2
      obtain ⟨q, hq⟩ : ∃ q, q = p + n := ⟨_, rfl⟩
      rw [← hq] at g1 g4 g13
      have h59 : q < L → T q = 59 := fun hqL => by
        by_cases x : T q = 59
        · exact x
        · obtain ⟨c3, k⟩ := g13 hqL x
          exact (NOo_abs v1 v2 (w := st2 w1 0 10 0) ⟨n, c', g2, by omega, by rw [q_ss, va_up_ne _ _ (by omega), g4.1, hq], by rw [q_ss, va_up_self], fun _ => ⟨c3, by rw [← hq]; exact k⟩, fun y => by omega⟩).elim
      have tl := rn_tl _ _ _ _ g2
      obtain ⟨V1, hV1⟩ : ∃ V1, V1 = pu 3 3 V c' := ⟨_, rfl⟩
      have TV1 : TV T L V1 := by rw [hV1]; exact TV_c hV
      obtain ⟨W2, hW2⟩ : ∃ W2, W2 = st2 w1 0 9 (nI (q + 1)) := ⟨_, rfl⟩
      have fr2 : FRM W W2 := by rw [hW2]; exact FRM_t e2 (FRM_0 (by omega))
      have F2 : FS W2 (q + 1) 1 (nI l') (nI t') (nI u') M' := by rw [hW2]; exact FS_9 g4 _
      have H2 : RBC B V1 W2 := by rw [hV1]; exact RBC_F (RBC_p3 H) fr2
      have p3 : V1 3 = c' 0 := by rw [hV1, pu_i (by omega) (by omega)]
      have p4 : V1 4 = c' 1 := by rw [hV1, pu_i (by omega) (by omega)]
      have p5 : V1 5 = c' 2 := by rw [hV1, pu_i (by omega) (by omega)]
      have w6 : W2 6 = w1 6 := by rw [hW2]; exact q_sn (by omega)
      have hI2 : IV B (W2 1) := by rw [fr2.1 1 (by omega) (by omega)]; exact hI
      obtain ⟨r, V2, τ, d1, d2, d3, d4, d5, d6⟩ := i_doPart H2 hI2 (by clear g11; omega) g5 g6 g7 (by rw [p3]; exact g8) (by rw [p3]; exact g9) (by rw [p3]; exact g10) F2.2.2.1 F2.2.2.2.1 F2.2.2.2.2.1 F2.2.2.2.2.2 (fun e => by
        obtain ⟨m, m1, m2, m3, m4, m5⟩ := g11 e
        refine ⟨m, m1, m2, m3, by rw [p4]; exact m4, fun i hi => ?_⟩
        rw [p5, w6]
        exact m5 i hi)
      obtain ⟨c2, k1, k2⟩ := g14 (sh 3 V2) (fun j hj => by rw [sh_e, d5 _ (by omega), hV1, pu_i (by omega) (by omega)]; exact congrArg c' (by omega))
      have TV2 : TV T L V2 := ⟨TV1.1, by rw [d5 0 (by omega)]; exact TV1.2.1, fun i hi => by rw [d5 2 (by omega)]; exact TV1.2.2 i hi⟩
      obtain ⟨V3, hV3⟩ : ∃ V3, V3 = pu 3 3 V2 c2 := ⟨_, rfl⟩
      have TV3 : TV T L V3 := by rw [hV3]; exact TV_c TV2
      obtain ⟨W3, hW3⟩ : ∃ W3, W3 = va_up W2 1 τ := ⟨_, rfl⟩
      have W3o : ∀ j, j ≠ 1 → W3 j = W2 j := fun j hj => by rw [hW3]; exact va_up_ne _ _ hj
      have H3 : RBC (B + 100) V3 W3 := by rw [hV3, hW3]; exact RBC_p3 d4
      have F3 : FS W3 (q + 1) 1 (nI l') (nI t') (nI u') M' := by
        unfold FS
        rw [W3o 0 (by omega)]
        exact F2
      have T3 : TX T L W3 := by
        have T2 := TX_c hT fr2
        exact ⟨T2.1, by rw [W3o 0 (by omega)]; exact T2.2.1, fun i hi => by rw [W3o 5 (by omega)]; exact T2.2.2 i hi⟩
      obtain ⟨r', hr', er⟩ : ∃ r', r' ≤ 1 ∧ r = nI r' := by
        rcases d3 with e | e
        · exact ⟨0, by omega, e⟩
        · exact ⟨1, by omega, e⟩
      have f3 : W3 3 = W 3 := by rw [W3o 3 (by omega)]; exact fr2.1 3 (by omega) (by omega)
      have f4 : W3 4 = W 4 := by rw [W3o 4 (by omega)]; exact fr2.1 4 (by omega) (by omega)
      have f03 : W3 0 3 = W 0 3 := by rw [W3o 0 (by omega)]; exact fr2.2 3 (by omega)
      have f05 : W3 0 5 = W 0 5 := by rw [W3o 0 (by omega)]; exact fr2.2 5 (by omega)
      have hI3 : IV (B + 100) (W3 1) := by rw [hW3, va_up_self]; exact d6
      have cl : ∀ F, lp OBL (F + 1 + n) (nI a, 1, nI p, V) = lp OBL F (nI (a + r'), r, nI (q + 1), V3) := fun F => by
        rw [O_run n p V c' hV hc (by omega) g3 g2 (F + 1), ← hq, ← hV1, O_end TV1 g1 h59 d1 k1 d3 F, hV3, ← nI_add a r', ← er]
      by_cases go : r = 1 ∧ q < L
      · obtain ⟨go1, go2⟩ := go
        have k3 : m_X5_goesOnWith c' (nI (T q)) = some (1, (g14 c' (fun _ _ => rfl)).choose) := by
          rw [h59 go2]
          exact (g14 c' (fun _ _ => rfl)).choose_spec.1
        have k4 := (g14 c' (fun _ _ => rfl)).choose_spec.2
        rw [hq] at k3
        have rr : rn T (sh 3 V) p (n + 1) = some _ := rn_a _ _ _ _ g2 (rn_1 k3)
        obtain ⟨r0, w0, t1, t2, -, t3⟩ := J_text L (q + 1) _ W3 _ _ _ _ (by clear g11; omega) (by clear g11; omega) T3 F3 k4
        have val : VAL T L (q + 1) := by
          rcases t3 with ⟨t3, cM, t4, t5⟩ | ⟨t3, t4⟩
          · exact VAL_of T3 F3 (by clear g11; omega) k4 t4 t5
          · rw [show q + 1 = p + (n + 1) by (clear g11; omega)] at t4
            exact (NOo_abs v1 v2 (NOo_s rr t4)).elim
        have hq1 : q + 1 < L := by
          by_cases x : q + 1 < L
          · exact x
          · exfalso
            obtain ⟨cM, z1, z2⟩ := val _ k4
            rw [show L - (q + 1) = 0 by (clear g11; omega)] at z1
            cases z1
            rw [e_c0 k4] at z2
            cases z2
        have sh0 : (sh 3 V3) 0 0 = nI 0 := by
          rw [sh_e, hV3, pu_i (by omega) (by omega)]
          exact k2
        obtain ⟨c, V', W', z0, z1, z2, z3, z4, z5, z6, z7, z8⟩ := ih (q + 1) (B + 100) (a + r') V3 W3 _ _ _ _ hq1 (by clear g11; omega) TV3 T3 F3 sh0 val H3 hI3 (by clear g11; omega)
        have c1 : cu T (q + 1) = cu T q + 1 := by
          show cu T q + (if T q = 59 then 1 else 0) = _
          rw [if_pos (h59 go2)]
        have c2' := cu_m (T := T) (p := p) (q := q) (by clear g11; omega)
        refine ⟨r' + c, V', W', by clear g11; omega, fun F hF' => ?_, z2.trans f3, z3.trans f4, z4.trans f03, z5.trans f05, z6, by rw [show B + 100 * (d + 1) = B + 100 + 100 * d by (clear g11; omega)]; exact z7, by rw [show B + 100 * (d + 1) = B + 100 + 100 * d by (clear g11; omega)]; exact z8⟩
        have := cl (F - 1 - n)
        rw [show F - 1 - n + 1 + n = F by (clear g11; omega)] at this
        rw [this]
        have := z1 (F - 1 - n) (by clear g11; omega)
        rw [go1, show a + (r' + c) = a + r' + c by (clear g11; omega)]
        exact this
      · have c2' := cu_m (T := T) (p := p) (q := L - 1) (by clear g11; omega)
        refine ⟨r', st2 V3 0 7 0, st2 W3 0 7 0, by clear g11; omega, fun F hF' => ?_, by rw [q_sn (by omega)]; exact f3, by rw [q_sn (by omega)]; exact f4, by rw [q_ss, va_up_ne _ _ (by omega)]; exact f03, by rw [q_ss, va_up_ne _ _ (by omega)]; exact f05, by rw [q_ss, va_up_self], RBC_b (RBC_t0 H3) (by clear g11; omega), by rw [q_sn (by omega)]; exact IV_b hI3 (by clear g11; omega)⟩
        have := cl (F - 1 - n)
        rw [show F - 1 - n + 1 + n = F by (clear g11; omega)] at this
        rw [this, show F - 1 - n = F - 1 - n - 1 + 1 by (clear g11; omega), lp, OBL_e, q_lt, TV3.2.1]
        by_cases x : nI L < nI (q + 1)
        · rw [if_pos x, q_lt]
        · rw [if_neg x, if_pos (by
            rcases d3 with e | e
            · exact e
            · exfalso
              rw [q_lts (by clear g11; omega) (by clear g11; omega)] at x
              exact go ⟨e, by clear g11; omega⟩), q_lt]
    · exact (NOo_abs v1 v2 e3).elim
