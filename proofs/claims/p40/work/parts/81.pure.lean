/-! TEXTS: values, the tail, a part -/
theorem J_vals {T : Nat → Nat} {L p tt : Nat} {c w : xSt} {l t u M : Int32} (hT : TX T L w) (hF : FS w p 1 l t u M) (hp : p ≤ L) (h0 : c 0 0 = nI 2) (hcl : c 0 1 = nI 119) (hct : c 0 2 = nI tt) (htt : tt < 1000) (hd : p < L → isD (T p) → ¬ (0 < tt ∧ 10 * tt + (T p - 48) ≤ mostN 119)) (h1 : c 1 1 = nI 0) : ∃ w', m_X9_takesValues w = some w' ∧ FRM w w' ∧ (OKv T L p l t u c w' ∨ NOo T L p c w') := by
  have hL := hT.1
  have hc : ∀ i, i < L → T i < 127 := fun i hi => (hT.2.2 i hi).2.2
  by_cases g : p < L ∧ T p = 58
  · obtain ⟨w1, e1, e2, e3, e4⟩ := R_vals hT hF (by omega) hp
    have hb : b58 T L p = 1 := by unfold b58; rw [if_pos g]
    rw [hb] at e1
    have hT1 := TX_c hT e3
    have k1 : m_X5_goesOnWith c (nI (T p)) = some (1, st2 c 0 0 3) := by
      rw [S2c h0 hcl (by omega) (hc _ g.1) (by unfold isD; omega), if_pos rfl, if_pos g.2]
    have r1 := rn_1 k1
    have n1 := N59_1 (T := T) (p := p) (by omega)
    obtain ⟨c1, hc1⟩ : ∃ c1, c1 = st2 c 0 0 3 := ⟨_, rfl⟩
    rw [← hc1] at r1
    have d0 : c1 0 0 = nI 3 := by rw [hc1]; rfl
    have d1 : c1 0 1 = c 0 1 := by rw [hc1]; rfl
    have d2 : c1 0 2 = c 0 2 := by rw [hc1]; rfl
    have d3 : c1 0 3 = c 0 3 := by rw [hc1]; rfl
    have d11 : c1 1 1 = nI 0 := by rw [hc1, q_sn (by omega)]; exact h1
    by_cases g2 : p + 1 < L ∧ isH (T (p + 1))
    · have ho := S3 (ch := T (p + 1)) d0
      rw [e_opV (hc _ g2.1), if_pos (show ((48 ≤ T (p + 1) ∧ T (p + 1) ≤ 57) ∨ (97 ≤ T (p + 1) ∧ T (p + 1) ≤ 102)) from g2.2)] at ho
      obtain ⟨w2, y1, y2, y3⟩ := J_val1 hT1 e1 g2.1 (by omega) (l0 := 119) (by omega) (by rw [d1]; exact hcl) g2.2 ho d11 (fun i hi => by omega)
      rcases y3 with ⟨c2, z1, z2, z3, z4, z5, z6, z7, z8, z9, z10⟩ | ⟨z1, z2⟩
      · obtain ⟨w', x1, x2, x3⟩ := J_vloop (l0 := 119) (by omega) 7 1 (p + 1 + 2) c2 w2 (by omega) (by omega) (TX_c hT1 y2) z4 z2 z5 (by rw [z6, d1]; exact hcl) z9 z10
        refine ⟨w', e4 w2 w' y1 (x1 xF (xFg (by omega))), FRM_t e3 (FRM_t y2 x2), ?_⟩
        rcases x3 with x3 | x3
        · exact Or.inl (OKv_s r1 n1 d1 d2 d3 (OKv_s z1 z3 z6 z7 z8 x3))
        · exact Or.inr (NOo_s r1 (NOo_s z1 x3))
      · refine ⟨w2, e4 w2 w2 y1 ?_, FRM_t e3 y2, Or.inr (NOo_s r1 z1)⟩
        obtain ⟨F, hF, _⟩ := xFs
        rw [hF, lp, q_u1, if_pos (show w2 0 10 = 0 from z2.2.1)]
    · obtain ⟨w2, y1, y2, y3, y4⟩ := R_val hT1 e1 (by omega) (by omega) (by omega)
      have hb2 : bH T L (p + 1 * 1) = 0 := by
        unfold bH
        rw [if_neg (show ¬ (p + 1 * 1 < L ∧ isH (T (p + 1 * 1))) from g2)]
      rw [hb2] at y2
      simp only [Nat.mul_zero, Nat.zero_mul, Nat.add_zero] at y2
      refine ⟨w2, e4 w2 w2 y1 ?_, FRM_t e3 y4, Or.inr (NOo_s r1 ⟨0, c1, rfl, by omega, y2.1, y2.2.1, fun x => ?_, fun x => ?_⟩)⟩
      · obtain ⟨F, hF, _⟩ := xFs
        rw [hF, lp, q_u1, if_pos (show w2 0 10 = 0 from y2.2.1)]
      · have ho := S3 (ch := T (p + 1)) d0
        rw [e_opV (hc _ x), if_neg (show ¬ ((48 ≤ T (p + 1) ∧ T (p + 1) ≤ 57) ∨ (97 ≤ T (p + 1) ∧ T (p + 1) ≤ 102)) from fun y => g2 ⟨x, y⟩)] at ho
        exact ⟨_, ho⟩
      · rw [e_compl d0 (by omega) (by rw [d1]; exact hcl) (by omega)]
        rfl
  · obtain ⟨w', M', e1, e2, e3⟩ := R_valsF hT hF (by omega) hp (Or.inr g)
    refine ⟨w', e1, e3, Or.inr ⟨0, c, rfl, by omega, e2.1, e2.2.1, fun x => ?_, fun x => ?_⟩⟩
    · by_cases dd : isD (T p)
      · exact ⟨_, S2b h0 hcl (by omega) hct htt dd (hd x dd)⟩
      · have k := S2c h0 hcl (by omega) (hc _ x) dd
        rw [if_pos rfl, if_neg (show ¬ T (p + 0) = 58 from fun y => g ⟨x, y⟩)] at k
        exact ⟨_, k⟩
    · rw [e_compl h0 (by omega) hcl (by omega)]
      rfl
def TLc (v15 : xSt) : Option xSt := lt (st2 v15 0 13 (5 : Int32)) (fun v17 => (if (v17 0 10) = 0 then some v17 else (if (v17 0 11) = (116 : Int32) then some v17 else ob (m_X9_here v17) (fun r21 => (if r21 = (33 : Int32) then lt (st2 v17 0 9 ((v17 0 9) + (1 : Int32))) (fun v23 => ob (m_X9_here v23) (fun r25 => lt (st2 v23 0 13 (r25 - (48 : Int32))) (fun v26 => ob (m_X9_here v26) (fun r28 => ob (m_X9_takes v26 (xwi r28 (48 : Int32) (57 : Int32))) (fun r31 => some r31))))) else some v17)))))
theorem TL_0 {w : xSt} {s : Nat} {l t u M : Int32} (h : FS w s 0 l t u M) : TLc w = some (st2 w 0 13 5) ∧ FS (st2 w 0 13 5) s 0 l t 5 M ∧ FRM w (st2 w 0 13 5) := by
  have g := FS_13 h 5
  refine ⟨?_, g, FRM_0 (by omega)⟩
  unfold TLc
  rw [q_lt, if_pos (show (st2 w 0 13 5) 0 10 = 0 from g.2.1)]
theorem NOo_f {T : Nat → Nat} {L p : Nat} {c w w' : xSt} (h : NOo T L p c w) (g : ∀ s, w 0 9 = nI s → w 0 10 = 0 → w' 0 9 = nI s ∧ w' 0 10 = 0) : NOo T L p c w' := by
  obtain ⟨n, c', h1, h2, h3, h4, h5, h6⟩ := h
  obtain ⟨g1, g2⟩ := g _ h3 h4
  exact ⟨n, c', h1, h2, g1, g2, h5, h6⟩
theorem TL_1 {w : xSt} (h : w 0 10 = 0) : ∃ w', TLc w = some w' ∧ FRM w w' ∧ ∀ s, w 0 9 = nI s → w 0 10 = 0 → w' 0 9 = nI s ∧ w' 0 10 = 0 := by
  refine ⟨st2 w 0 13 5, ?_, FRM_0 (by omega), fun s a b => ⟨by rw [q_ss, va_up_ne _ _ (by omega)]; exact a, by rw [q_ss, va_up_ne _ _ (by omega)]; exact b⟩⟩
  unfold TLc
  rw [q_lt, if_pos (by rw [q_ss, va_up_ne _ _ (by omega)]; exact h)]
theorem J_tail {T : Nat → Nat} {L p l t : Nat} {c w : xSt} {u M : Int32} (hT : TX T L w) (hF : FS w p 1 (nI l) (nI t) u M) (hp : p ≤ L) (hl3 : l = 119 ∨ l = 101 ∨ l = 116) (ht : t ≤ mostN l) (h1 : c 0 1 = nI l) (h2 : c 0 2 = nI t) (h3 : c 0 3 = nI 5) (hv : l = 119 → ∃ m, 1 ≤ m ∧ m ≤ 8 ∧ M = nI m ∧ c 1 1 = nI m ∧ VLS m c w) (hcm : m_X5_isComplete c = some 1) (h59 : ∀ d : xSt, (∀ j, j < 3 → d j = c j) → ∃ c'', m_X5_goesOnWith d (nI 59) = some (1, c'') ∧ c'' 0 0 = nI 0) (hg : p < L → ¬ T p = 59 → (m_X5_goesOnWith c (nI (T p)) = m_X5_endsPart c (nI (T p)) (if l = 116 then 0 else 1)) ∨ (¬ T p = 33 ∧ ∃ c'', m_X5_goesOnWith c (nI (T p)) = some (0, c''))) : ∃ w', TLc w = some w' ∧ FRM w w' ∧ (OKo T L p c w' ∨ NOo T L p c w') := by
  have hL := hT.1
  have hc : ∀ i, i < L → T i < 127 := fun i hi => (hT.2.2 i hi).2.2
  have hl127 : l < 127 := by rcases hl3 with e | e | e <;> rw [e] <;> decide
  have F1 := FS_13 hF 5
  obtain ⟨w1, hw1⟩ : ∃ w1, w1 = st2 w 0 13 5 := ⟨_, rfl⟩
  have fr1 : FRM w w1 := by rw [hw1]; exact FRM_0 (by omega)
  have h6 : w1 6 = w 6 := by rw [hw1]; exact q_sn (by omega)
  rw [← hw1] at F1
  have simpleOK : (p < L → ¬ T p = 59 → ∃ c'', m_X5_goesOnWith c (nI (T p)) = some (0, c'')) → OKo T L p c w1 := fun hh => ⟨0, c, l, t, 5, M, by omega, rfl, N59_0, F1, hl3, ht, by omega, h1, h2, h3, fun e => by
    obtain ⟨m, m1, m2, m3, m4, m5⟩ := hv e
    exact ⟨m, m1, m2, m3, m4, fun i hi => by rw [h6]; exact m5 i hi⟩, hcm, hh, h59⟩
  by_cases l116 : l = 116
  · refine ⟨w1, ?_, fr1, Or.inl (simpleOK (fun a b => ?_))⟩
    · unfold TLc
      rw [q_lt, ← hw1, F1.2.1, if_neg (by decide), F1.2.2.1, if_pos (by rw [l116]; decide)]
    · rcases hg a b with g | ⟨_, g⟩
      · rw [if_pos l116, e_ends (hc _ a), if_neg (fun x => x.2 rfl), if_neg b] at g
        exact ⟨_, g⟩
      · exact g
  · have n116 : ¬ (nI l : Int32) = (116 : Int32) := by
      rcases hl3 with rfl | rfl | rfl
      · decide
      · decide
      · exact absurd rfl l116
    have hh := r_here (TX_c hT fr1) F1.1 (by omega)
    have k33 : ((if p < L then nI (T p) else (-1 : Int32)) = (33 : Int32)) = (p < L ∧ T p = 33) := here58 (T := T) (L := L) (s := p) (k := 33) hc (by omega)
    by_cases g : p < L ∧ T p = 33
    · have k1 : m_X5_goesOnWith c (nI (T p)) = some (1, st2 c 0 0 6) := by
        rcases hg g.1 (by omega) with x | x
        · rw [x, if_neg l116, e_ends (hc _ g.1), if_pos ⟨g.2, by decide⟩]
        · exact absurd g.2 x.1
      have r1 := rn_1 k1
      have n1 := N59_1 (T := T) (p := p) (by omega)
      obtain ⟨c1, hc1⟩ : ∃ c1, c1 = st2 c 0 0 6 := ⟨_, rfl⟩
      rw [← hc1] at r1
      have d0 : c1 0 0 = nI 6 := by rw [hc1]; rfl
      have d1 : c1 0 1 = c 0 1 := by rw [hc1]; rfl
      have d2 : c1 0 2 = c 0 2 := by rw [hc1]; rfl
      have d11 : c1 1 = c 1 := by rw [hc1, q_sn (by omega)]
      have d22 : c1 2 = c 2 := by rw [hc1, q_sn (by omega)]
      obtain ⟨w2, hw2⟩ : ∃ w2, w2 = st2 w1 0 9 (nI (p + 1)) := ⟨_, rfl⟩
      have F2 : FS w2 (p + 1) 1 (nI l) (nI t) 5 M := by rw [hw2]; exact FS_9 F1 _
      have fr2 : FRM w w2 := by rw [hw2]; exact FRM_t fr1 (FRM_0 (by omega))
      have hh2 := r_here (TX_c hT fr2) F2.1 (by omega)
      obtain ⟨x, hx⟩ : ∃ x, x = (if p + 1 < L then nI (T (p + 1)) else (-1 : Int32)) := ⟨_, rfl⟩
      obtain ⟨w3, hw3⟩ : ∃ w3, w3 = st2 w2 0 13 (x - 48) := ⟨_, rfl⟩
      have F3 : FS w3 (p + 1) 1 (nI l) (nI t) (x - 48) M := by rw [hw3]; exact FS_13 F2 _
      have fr3 : FRM w w3 := by rw [hw3]; exact FRM_t fr2 (FRM_0 (by omega))
      have hh3 := r_here (TX_c hT fr3) F3.1 (by omega)
      have hxw := xwiD (T := T) (L := L) (s := p + 1) hc
      have h63 : w3 6 = w 6 := by rw [hw3, q_sn (by omega), hw2, q_sn (by omega), h6]
      obtain ⟨b, hb⟩ : ∃ b, b = (if p + 1 < L ∧ isD (T (p + 1)) then 1 else 0) := ⟨_, rfl⟩
      have hb2 : b < 2 := by rw [hb]; split <;> omega
      have hxb : xwi (if p + 1 < L then nI (T (p + 1)) else -1) 48 57 = nI b := by
        rw [hxw, hb]
        by_cases q : p + 1 < L ∧ isD (T (p + 1))
        · rw [if_pos q, if_pos q]; rfl
        · rw [if_neg q, if_neg q]; rfl
      obtain ⟨w4, e1, e2, e3, e4⟩ := r_takes F3 (by omega) hb2
      have run : TLc w = some w4 := by
        unfold TLc
        rw [q_lt, ← hw1, F1.2.1, if_neg (by decide), F1.2.2.1, if_neg n116, hh, q_ob, if_pos (k33.mpr g), q_lt, F1.1, show nI p + 1 = nI (p + 1) from nI_1 p, ← hw2, hh2, q_ob, q_lt, ← hx, ← hw3, hh3, q_ob, hxb, e1, q_ob]
      refine ⟨w4, run, FRM_t fr3 e4, ?_⟩
      by_cases q : p + 1 < L ∧ isD (T (p + 1))
      · rw [if_pos q] at hb
        rw [hb] at e2
        have xe : x - 48 = nI (T (p + 1) - 48) := by
          rw [hx, if_pos q.1, show (48 : Int32) = nI 48 from rfl, q_sub q.2.1]
        rw [xe] at e2
        have k2 := S6a d0 q.2
        obtain ⟨c2, hc2⟩ : ∃ c2, c2 = st2 (st2 c1 0 3 (nI (T (p + 1) - 48))) 0 0 7 := ⟨_, rfl⟩
        rw [← hc2] at k2
        have f0 : c2 0 0 = nI 7 := by rw [hc2]; rfl
        have f1 : c2 0 1 = nI l := by rw [← h1, ← d1, hc2]; rfl
        have hq := q.2
        unfold isD at hq
        refine Or.inl (OKo_s r1 n1 ⟨1, c2, l, t, T (p + 1) - 48, M, by omega, rn_1 k2, N59_1 (by omega), e2, hl3, ht, by omega, f1, by rw [← h2, ← d2, hc2]; rfl, by rw [hc2]; rfl, fun e => ?_, ?_, fun a bb => ?_, fun d hd => ?_⟩)
        · obtain ⟨m, m1, m2, m3, m4, m5⟩ := hv e
          refine ⟨m, m1, m2, m3, by rw [hc2, q_sn (by omega), q_sn (by omega), d11]; exact m4, fun i hi => ?_⟩
          rw [e3, h63, hc2, q_sn (by omega), q_sn (by omega), d22]
          exact m5 i hi
        · rw [e_compl (p := 7) (l := l) f0 (by decide) f1 hl127]
          rfl
        · rw [S7 f0, e_ends (hc _ a), if_neg (fun x => x.2 rfl), if_neg bb]
          exact ⟨_, rfl⟩
        · rw [S7 (by rw [hd 0 (by omega)]; exact f0), e_ends (by omega), if_neg (fun x => x.2 rfl), if_pos rfl]
          exact ⟨_, rfl, rfl⟩
      · rw [if_neg q] at hb
        rw [hb] at e2
        refine Or.inr (NOo_s r1 ⟨0, c1, rfl, by omega, e2.1, e2.2.1, fun a => ?_, fun a => ?_⟩)
        · exact ⟨_, S6b d0 (hc _ a) (fun y => q ⟨a, y⟩)⟩
        · have f1 : c1 0 1 = nI l := by rw [d1]; exact h1
          rw [e_compl (p := 6) (l := l) d0 (by decide) f1 hl127]
          rfl
    · refine ⟨w1, ?_, fr1, Or.inl (simpleOK (fun a b => ?_))⟩
      · unfold TLc
        rw [q_lt, ← hw1, F1.2.1, if_neg (by decide), F1.2.2.1, if_neg n116, hh, q_ob, if_neg (fun x => g (k33.mp x))]
      · rcases hg a b with y | ⟨_, y⟩
        · rw [e_ends (hc _ a), if_neg (fun x => g ⟨a, x.1⟩), if_neg b] at y
          exact ⟨_, y⟩
        · exact y
