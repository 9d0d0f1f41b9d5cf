/-! OBEY: the text is obeyed -/
def VAL (T : Nat → Nat) (L p : Nat) : Prop := ∀ c : xSt, c 0 0 = nI 0 → ∃ cL, rn T c p (L - p) = some cL ∧ m_X5_isComplete cL = some 1
theorem VAL_of {T : Nat → Nat} {L p : Nat} {w c0 cL : xSt} {l t u M : Int32} (hT : TX T L w) (hF : FS w p 1 l t u M) (hp : p ≤ L) (h0 : c0 0 0 = nI 0) (hr : rn T c0 p (L - p) = some cL) (hc : m_X5_isComplete cL = some 1) : VAL T L p := by
  intro c hc0
  obtain ⟨r0, w0, x1, x2, -, x3⟩ := J_text L p c0 w l t u M hp (by omega) hT hF h0
  obtain ⟨r, w', y1, y2, -, y3⟩ := J_text L p c w l t u M hp (by omega) hT hF hc0
  have e := (x1 (L + 3) (by omega)).symm.trans (y1 (L + 3) (by omega))
  have e2 : r0 = r := by
    injection e with e
    exact congrArg Prod.fst e
  rcases x3 with ⟨x3, -⟩ | ⟨x3, x4⟩
  · rcases y3 with ⟨y3, y4⟩ | ⟨y3, y4⟩
    · exact y4
    · rw [← e2, x3] at y3
      exact absurd y3 (by decide)
  · exact (NOo_abs hr hc x4).elim
theorem J_obey {T : Nat → Nat} {L : Nat} : ∀ d p B (a : Int32) (V W : xSt) (l t u M : Int32), p < L → L - p ≤ d → TV T L V → TX T L W → FS W p 1 l t u M → (sh 3 V) 0 0 = nI 0 → VAL T L p → RBC B V W → B + 100 * d + 200 < 16000000 → ∃ z V' W', (∀ F, L - p + 3 < F → lp OBL F (a, 1, nI p, V) = some (z, V')) ∧ (∀ F, d + 3 < F → lp OBR F (a, 1, W) = some (z, W')) ∧ W' 0 8 = W 0 8 ∧ RBC (B + 100 * d) V' W' := by
  intro d
  induction d with
  | zero =>
    intro p B a V W l t u M hp hd
    exact absurd hd (by omega)
  | succ d ih =>
    intro p B a V W l t u M hp hd hV hT hF h0 hval H hB
    have hL := hT.1
    have hc : ∀ i, i < L → T i < 127 := fun i hi => (hT.2.2 i hi).2.2
    obtain ⟨cL, v1, v2⟩ := hval _ h0
    obtain ⟨w1, e1, e2, e3⟩ := J_part hT hF (by omega) h0
    rcases e3 with ⟨n, c', l', t', u', M', g1, g2, g3, g4, g5, g6, g7, g8, g9, g10, g11, g12, g13, g14⟩ | e3
    · have hT1 := TX_c hT e2
      obtain ⟨q, hq⟩ : ∃ q, q = p + n := ⟨_, rfl⟩
      rw [← hq] at g1 g4 g13
      have h59 : q < L → T q = 59 := fun hqL => by
        by_cases x : T q = 59
        · exact x
        · obtain ⟨c3, k⟩ := g13 hqL x
          exact (NOo_abs v1 v2 (w := st2 w1 0 10 0) ⟨n, c', g2, by omega, by rw [q_ss, va_up_ne _ _ (by omega), g4.1, hq], by rw [q_ss, va_up_self], fun _ => ⟨c3, by rw [← hq]; exact k⟩, fun y => by omega⟩).elim
      have tl := rn_tl _ _ _ _ g2
      obtain ⟨V1, hV1⟩ : ∃ V1, V1 = pu 3 3 V c' := ⟨_, rfl⟩
      have TV1 : TV T L V1 := by rw [hV1]; exact TV_c hV
      obtain ⟨W2, hW2⟩ : ∃ W2, W2 = st2 w1 0 9 (nI (q + 1)) := ⟨_, rfl⟩
      have fr2 : FRM W W2 := by rw [hW2]; exact FRM_t e2 (FRM_0 (by omega))
      have F2 : FS W2 (q + 1) 1 (nI l') (nI t') (nI u') M' := by rw [hW2]; exact FS_9 g4 _
      have H2 : RBC B V1 W2 := by rw [hV1]; exact RBC_F (RBC_p3 H) fr2
      have p3 : V1 3 = c' 0 := by rw [hV1, pu_i (by omega) (by omega)]
      have p4 : V1 4 = c' 1 := by rw [hV1, pu_i (by omega) (by omega)]
      have p5 : V1 5 = c' 2 := by rw [hV1, pu_i (by omega) (by omega)]
      have w6 : W2 6 = w1 6 := by rw [hW2]; exact q_sn (by omega)
      obtain ⟨r, V2, τ, d1, d2, d3, d4, d5⟩ := s_doPart H2 (by clear g11; omega) g5 g6 g7 (by rw [p3]; exact g8) (by rw [p3]; exact g9) (by rw [p3]; exact g10) F2.2.2.1 F2.2.2.2.1 F2.2.2.2.2.1 F2.2.2.2.2.2 (fun e => by
        obtain ⟨m, m1, m2, m3, m4, m5⟩ := g11 e
        refine ⟨m, m1, m2, m3, by rw [p4]; exact m4, fun i hi => ?_⟩
        rw [p5, w6]
        exact m5 i hi)
      obtain ⟨c2, k1, k2⟩ := g14 (sh 3 V2) (fun j hj => by rw [sh_e, d5 _ (by omega), hV1, pu_i (by omega) (by omega)]; exact congrArg c' (by omega))
      have TV2 : TV T L V2 := ⟨TV1.1, by rw [d5 0 (by omega)]; exact TV1.2.1, fun i hi => by rw [d5 2 (by omega)]; exact TV1.2.2 i hi⟩
      obtain ⟨V3, hV3⟩ : ∃ V3, V3 = pu 3 3 V2 c2 := ⟨_, rfl⟩
      have TV3 : TV T L V3 := by rw [hV3]; exact TV_c TV2
      obtain ⟨W3, hW3⟩ : ∃ W3, W3 = va_up W2 1 τ := ⟨_, rfl⟩
      have W3o : ∀ j, j ≠ 1 → W3 j = W2 j := fun j hj => by rw [hW3]; exact va_up_ne _ _ hj
      have H3 : RBC (B + 100) V3 W3 := by rw [hV3, hW3]; exact RBC_p3 d4
      have F3 : FS W3 (q + 1) 1 (nI l') (nI t') (nI u') M' := by
        unfold FS
        rw [W3o 0 (by omega)]
        exact F2
      have T3 : TX T L W3 := by
        have T2 := TX_c hT fr2
        exact ⟨T2.1, by rw [W3o 0 (by omega)]; exact T2.2.1, fun i hi => by rw [W3o 5 (by omega)]; exact T2.2.2 i hi⟩
      have w8 : W3 0 8 = W 0 8 := by rw [W3o 0 (by omega)]; exact fr2.2 8 (by omega)
      have cl : ∀ F, lp OBL (F + 1 + n) (a, 1, nI p, V) = lp OBL F (a + r, r, nI (q + 1), V3) := fun F => by
        rw [O_run n p V c' hV hc (by omega) g3 g2 (F + 1), ← hq, ← hV1, O_end TV1 g1 h59 d1 k1 d3 F, hV3]
      have rf : ∀ F, lp OBR (F + 1) (a, 1, W) = lp OBR F (a + r, r, W3) := fun F => by
        rw [lp, OBR_e, q_lt, if_neg (by decide), hT.2.1, hF.1, if_neg (nI_ge hp (by omega)), e1, q_ob, q_lt, g4.1, show nI q + 1 = nI (q + 1) from nI_1 q, ← hW2, d2, q_ob, q_lt, q_lt, ← hW3]
        rcases d3 with rfl | rfl
        · rw [if_pos rfl]
        · dsimp only
          rw [if_neg (by decide)]
      by_cases go : r = 1 ∧ q < L
      · obtain ⟨go1, go2⟩ := go
        have k3 : m_X5_goesOnWith c' (nI (T q)) = some (1, (g14 c' (fun _ _ => rfl)).choose) := by
          rw [h59 go2]
          exact (g14 c' (fun _ _ => rfl)).choose_spec.1
        have k4 := (g14 c' (fun _ _ => rfl)).choose_spec.2
        rw [hq] at k3
        have rr : rn T (sh 3 V) p (n + 1) = some _ := rn_a _ _ _ _ g2 (rn_1 k3)
        obtain ⟨r0, w0, t1, t2, -, t3⟩ := J_text L (q + 1) _ W3 _ _ _ _ (by clear g11; omega) (by clear g11; omega) T3 F3 k4
        have val : VAL T L (q + 1) := by
          rcases t3 with ⟨t3, cM, t4, t5⟩ | ⟨t3, t4⟩
          · exact VAL_of T3 F3 (by clear g11; omega) k4 t4 t5
          · rw [show q + 1 = p + (n + 1) by (clear g11; omega)] at t4
            exact (NOo_abs v1 v2 (NOo_s rr t4)).elim
        have hq1 : q + 1 < L := by
          by_cases x : q + 1 < L
          · exact x
          · exfalso
            obtain ⟨cM, z1, z2⟩ := val _ k4
            rw [show L - (q + 1) = 0 by (clear g11; omega)] at z1
            cases z1
            rw [e_c0 k4] at z2
            cases z2
        have sh0 : (sh 3 V3) 0 0 = nI 0 := by
          rw [sh_e, hV3, pu_i (by omega) (by omega)]
          exact k2
        obtain ⟨z, V', W', z1, z2, z3, z4⟩ := ih (q + 1) (B + 100) (a + r) V3 W3 _ _ _ _ hq1 (by clear g11; omega) TV3 T3 F3 sh0 val H3 (by clear g11; omega)
        refine ⟨z, V', W', fun F hF' => ?_, fun F hF' => ?_, by rw [z3, w8], by rw [show B + 100 * (d + 1) = B + 100 + 100 * d by (clear g11; omega)]; exact z4⟩
        · have := cl (F - 1 - n)
          rw [show F - 1 - n + 1 + n = F by (clear g11; omega)] at this
          rw [this]
          have := z1 (F - 1 - n) (by clear g11; omega)
          rw [go1] at this ⊢
          exact this
        · obtain ⟨F, rfl⟩ : ∃ t, F = t + 1 := ⟨F - 1, by clear g11; omega⟩
          rw [rf F]
          have := z2 F (by clear g11; omega)
          rw [go1] at this ⊢
          exact this
      · refine ⟨a + r, st2 V3 0 7 0, st2 W3 0 7 0, fun F hF' => ?_, fun F hF' => ?_, by rw [q_ss, va_up_ne _ _ (by omega)]; exact w8, RBC_b (RBC_t0 H3) (by clear g11; omega)⟩
        · have := cl (F - 1 - n)
          rw [show F - 1 - n + 1 + n = F by (clear g11; omega)] at this
          rw [this, show F - 1 - n = F - 1 - n - 1 + 1 by (clear g11; omega), lp, OBL_e, q_lt, TV3.2.1]
          by_cases x : nI L < nI (q + 1)
          · rw [if_pos x, q_lt]
          · rw [if_neg x, if_pos (by
              rcases d3 with e | e
              · exact e
              · exfalso
                rw [q_lts (by clear g11; omega) (by clear g11; omega)] at x
                exact go ⟨e, by clear g11; omega⟩), q_lt]
        · obtain ⟨F, rfl⟩ : ∃ t, F = t + 1 := ⟨F - 1, by clear g11; omega⟩
          rw [rf F]
          obtain ⟨F, rfl⟩ : ∃ t, F = t + 1 := ⟨F - 1, by clear g11; omega⟩
          rw [lp, OBR_e, q_lt, T3.2.1, F3.1]
          rcases d3 with e | e
          · rw [if_pos e, q_lt]
          · rw [if_neg (by rw [e]; decide), if_pos (nI_le (by
              have : ¬ q < L := fun x => go ⟨e, x⟩
              clear g11; omega) (by clear g11; omega)), q_lt]
    · exact (NOo_abs v1 v2 e3).elim
