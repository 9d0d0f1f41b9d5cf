/-! TEXTS: the whole part -/
theorem R_partY {l : Nat} {w r7 r14 r15 w' : xSt} (hl3 : l = 119 ∨ l = 101 ∨ l = 116) (hh : m_X9_here w = some (nI l)) (h1 : m_X9_takes (st2 w 0 11 (nI l)) (nI 1) = some r7) (h7 : r7 0 11 = nI l) (h2 : m_X9_takesNumber r7 (nI (leastN l)) (nI (mostN l)) = some r14) (h14 : r14 0 11 = nI l) (h3 : (if l = 119 then m_X9_takesValues r14 else some r14) = some r15) (h4 : TLc r15 = some w') : m_X9_takesPart w = some w' := by
  have e11 : (st2 w 0 11 (nI l)) 0 11 = nI l := by rw [q_ss, va_up_self]
  unfold m_X9_takesPart
  rw [hh, q_ob, q_lt, q_lt, q_lt, e11]
  rcases hl3 with rfl | rfl | rfl
  · rw [if_pos (by decide)]
    show ob (m_X9_takes (st2 w 0 11 (nI 119)) (nI 1)) _ = _
    rw [h1, q_ob, q_lt, h7, if_neg (by decide)]
    dsimp only
    rw [q_lt, if_pos (by decide)]
    show ob (m_X9_takesNumber r7 (nI (leastN 119)) (nI (mostN 119))) _ = _
    rw [h2, q_ob, q_lt, h14, if_pos (by decide)]
    rw [if_pos rfl] at h3
    rw [h3, q_ob]
    exact h4
  · rw [if_neg (by decide), if_pos (by decide)]
    show ob (m_X9_takes (st2 w 0 11 (nI 101)) (nI 1)) _ = _
    rw [h1, q_ob, q_lt, h7, if_neg (by decide)]
    dsimp only
    rw [q_lt, if_neg (by decide), if_pos (by decide)]
    show ob (m_X9_takesNumber r7 (nI (leastN 101)) (nI (mostN 101))) _ = _
    rw [h2, q_ob, q_lt, h14, if_neg (by decide)]
    rw [if_neg (by decide)] at h3
    cases h3
    exact h4
  · rw [if_neg (by decide), if_neg (by decide), if_pos (by decide)]
    show ob (m_X9_takes (st2 w 0 11 (nI 116)) (nI 1)) _ = _
    rw [h1, q_ob, q_lt, h7, if_pos (by decide)]
    dsimp only
    rw [q_lt, if_neg (by decide), if_neg (by decide)]
    show ob (m_X9_takesNumber r7 (nI (leastN 116)) (nI (mostN 116))) _ = _
    rw [h2, q_ob, q_lt, h14, if_neg (by decide)]
    rw [if_neg (by decide)] at h3
    cases h3
    exact h4
theorem R_partN {x : Int32} {w r7 r14 w' : xSt} (n1 : ¬ x = 119) (n2 : ¬ x = 101) (n3 : ¬ x = 116) (hh : m_X9_here w = some x) (h1 : m_X9_takes (st2 w 0 11 x) (nI 0) = some r7) (h7 : r7 0 11 = x) (h2 : m_X9_takesNumber r7 (nI 0) (nI 99) = some r14) (h14 : r14 0 11 = x) (h4 : TLc r14 = some w') : m_X9_takesPart w = some w' := by
  have e11 : (st2 w 0 11 x) 0 11 = x := by rw [q_ss, va_up_self]
  unfold m_X9_takesPart
  rw [hh, q_ob, q_lt, q_lt, q_lt, e11, if_neg n1, if_neg n2, if_neg n3]
  show ob (m_X9_takes (st2 w 0 11 x) (nI 0)) _ = _
  rw [h1, q_ob, q_lt, h7, if_neg n3]
  dsimp only
  rw [q_lt, if_neg n1, if_neg n2]
  show ob (m_X9_takesNumber r7 (nI 0) (nI 99)) _ = _
  rw [h2, q_ob, q_lt, h14, if_neg n1]
  exact h4
theorem FS_nI {w : xSt} {s : Nat} {f : Nat} {l t u M : Int32} (h : FS w s f l t u M) : w 0 11 = l := h.2.2.1
theorem e_c0 {c : xSt} (h : c 0 0 = nI 0) : m_X5_isComplete c = some 0 := by
  unfold m_X5_isComplete
  simp only [q_lt]
  rw [h, if_neg (by decide), if_neg (by decide), if_neg (by decide)]
theorem J_part {T : Nat → Nat} {L p : Nat} {c w : xSt} {l t u M : Int32} (hT : TX T L w) (hF : FS w p 1 l t u M) (hp : p ≤ L) (h0 : c 0 0 = nI 0) : ∃ w', m_X9_takesPart w = some w' ∧ FRM w w' ∧ (OKo T L p c w' ∨ NOo T L p c w') := by
  have hL := hT.1
  have hc : ∀ i, i < L → T i < 127 := fun i hi => (hT.2.2 i hi).2.2
  have hh := r_here hT hF.1 (by omega)
  by_cases g : p < L ∧ (T p = 119 ∨ T p = 101 ∨ T p = 116)
  · obtain ⟨hpL, hl3⟩ := g
    rw [if_pos hpL] at hh
    obtain ⟨lt, hlt⟩ : ∃ lt, lt = T p := ⟨_, rfl⟩
    have hl3' : lt = 119 ∨ lt = 101 ∨ lt = 116 := by rw [hlt]; exact hl3
    obtain ⟨c1, k1, k2, k3, k4, k5, k6, k7⟩ := S0a h0 hl3
    have r1 := rn_1 k1
    have n1 := N59_1 (T := T) (p := p) (by omega)
    rw [← hlt] at hh k3
    have F1 := FS_11 hF (nI lt)
    obtain ⟨w1, e1, e2, e3, e4⟩ := r_takesY F1
    have fr1 : FRM w w1 := FRM_t (FRM_0 (by omega)) e4
    have hT1 := TX_c hT fr1
    have hm := mostN_b lt
    have hle := leastN_b lt
    by_cases nm : p + 1 < L ∧ isD (T (p + 1)) ∧ leastN lt ≤ T (p + 1) - 48 ∧ T (p + 1) - 48 ≤ mostN lt
    · obtain ⟨nm0, nm1, nm2, nm3⟩ := nm
      obtain ⟨n, c2, w2, t', y1, y2, y3, y4, y5, y6, y7, y8, y9, y10, y11, y12, y13, y14, y15⟩ := J_numY hl3' hT1 e2 k2 k3 nm0 nm1 nm2 nm3
      have hT2 := TX_c hT1 y7
      have ht1000 : t' < 1000 := by omega
      have fr2 := FRM_t fr1 y7
      have h23 : c2 0 3 = nI 5 := by rw [y12]; exact k5
      by_cases l119 : lt = 119
      · rw [l119] at y10 y5 y14
        obtain ⟨w3, z1, z2, z3⟩ := J_vals hT2 y5 (by omega) y9 y10 y11 ht1000 y14 (by rw [y13]; exact k6)
        have hT3 := TX_c hT2 z2
        rcases z3 with ⟨n3, c3, m, q1, q2, q3, q4, q5, q6, q7, q8, q9, q10, q11, q12, q13⟩ | z3
        · have cc : m_X5_isComplete c3 = some 1 := by
            rw [e_compl (p := 5) (l := 119) q7 (by omega) (by rw [q8]; exact y10) (by omega)]
            rfl
          have gg : ∀ ch, ch < 127 → ¬ (m < 8 ∧ isH ch) → m_X5_goesOnWith c3 (nI ch) = m_X5_endsPart c3 (nI ch) 1 := fun ch a b => S5b q7 q11 q6 a b
          obtain ⟨w4, x1, x2, x3⟩ := J_tail (l := 119) (t := t') hT3 q4 q1 (Or.inl rfl) (by rw [← l119]; exact y8) (by rw [q8]; exact y10) (by rw [q9]; exact y11) (by rw [q10]; exact h23) (fun _ => ⟨m, q5, q6, rfl, q11, q12⟩) cc (fun d hd => ⟨st2 d 0 0 0, by rw [S5b (by rw [hd 0 (by omega)]; exact q7) (by rw [hd 1 (by omega)]; exact q11) q6 (by omega) (by unfold isH; omega), e_ends (by omega), if_neg (fun x => absurd x.1 (by omega)), if_pos rfl], rfl⟩) (fun a b => Or.inl (by rw [if_neg (by omega)]; exact gg _ (hc _ a) (fun x => q13 ⟨x.1, a, x.2⟩)))
          refine ⟨w4, R_partY hl3' hh e1 (FS_nI e2) y4 (by rw [FS_nI y5, l119]) (by rw [if_pos l119]; exact z1) x1, FRM_t fr2 (FRM_t z2 x2), ?_⟩
          rcases x3 with x3 | x3
          · exact Or.inl (OKo_s r1 n1 (OKo_s y1 y15 (OKo_s q2 q3 x3)))
          · exact Or.inr (NOo_s r1 (NOo_s y1 (NOo_s q2 x3)))
        · have f0 : w3 0 10 = 0 := by obtain ⟨_, _, _, _, _, x, _⟩ := z3; exact x
          obtain ⟨w4, x1, x2, x3⟩ := TL_1 f0
          refine ⟨w4, R_partY hl3' hh e1 (FS_nI e2) y4 (by rw [FS_nI y5, l119]) (by rw [if_pos l119]; exact z1) x1, FRM_t fr2 (FRM_t z2 x2), Or.inr (NOo_s r1 (NOo_s y1 (NOo_f z3 x3)))⟩
      · have cc : m_X5_isComplete c2 = some 1 := by
          rw [e_compl (p := 2) (l := lt) y9 (by omega) y10 (by omega), if_pos (Or.inr (Or.inr ⟨rfl, l119⟩))]
        have gg : ∀ ch, ch < 127 → ¬ isD ch → m_X5_goesOnWith c2 (nI ch) = m_X5_endsPart c2 (nI ch) (if lt = 101 then 1 else 0) := fun ch a b => by
          have := S2c y9 y10 hl3' a b
          rw [if_neg l119] at this
          exact this
        have eqm : (if lt = 101 then (1 : Int32) else 0) = (if lt = 116 then (0 : Int32) else 1) := by
          rcases hl3' with e | e | e
          · exact absurd e l119
          · rw [e]; rfl
          · rw [e]; rfl
        obtain ⟨w4, x1, x2, x3⟩ := J_tail hT2 y5 (by omega) hl3' y8 y10 y11 h23 (fun e => absurd e l119) cc (fun d hd => ⟨st2 d 0 0 0, by rw [S2c (by rw [hd 0 (by omega)]; exact y9) (by rw [hd 0 (by omega)]; exact y10) hl3' (by omega) (by unfold isD; omega), if_neg l119, e_ends (by omega), if_neg (fun x => absurd x.1 (by omega)), if_pos rfl], rfl⟩) (fun a b => by
          by_cases dd : isD (T (p + 1 + n))
          · exact Or.inr ⟨by unfold isD at dd; omega, _, S2b y9 y10 hl3' y11 ht1000 dd (y14 a dd)⟩
          · exact Or.inl (by rw [gg _ (hc _ a) dd, eqm]))
        refine ⟨w4, R_partY hl3' hh e1 (FS_nI e2) y4 (FS_nI y5) (by rw [if_neg l119]) x1, FRM_t fr2 x2, ?_⟩
        rcases x3 with x3 | x3
        · exact Or.inl (OKo_s r1 n1 (OKo_s y1 y15 x3))
        · exact Or.inr (NOo_s r1 (NOo_s y1 x3))
    · obtain ⟨w2, t', y1, y2, y3, y4⟩ := R_numF (a := leastN lt) (b := mostN lt) hT1 e2 (by omega) (by omega) hle hm (Or.inr nm)
      have hT2 := TX_c hT1 y4
      have no : ∀ w', w' 0 9 = nI (p + 1) → w' 0 10 = 0 → NOo T L p c w' := fun w' a b => NOo_s r1 ⟨0, c1, rfl, by omega, a, b, fun x => ⟨_, S1b k2 k3 hl3' (hc _ x) (fun y => nm ⟨x, y⟩)⟩, fun x => by
        rw [e_compl (p := 1) (l := lt) k2 (by omega) k3 (by omega)]
        rfl⟩
      by_cases l119 : lt = 119
      · obtain ⟨w3, M', z1, z2, z3⟩ := R_valsF hT2 y2 (by omega) (by omega) (Or.inl rfl)
        obtain ⟨x1, x2, x3⟩ := TL_0 z2
        exact ⟨_, R_partY hl3' hh e1 (FS_nI e2) y1 (FS_nI y2) (by rw [if_pos l119]; exact z1) x1, FRM_t fr1 (FRM_t y4 (FRM_t z3 x3)), Or.inr (no _ x2.1 x2.2.1)⟩
      · obtain ⟨x1, x2, x3⟩ := TL_0 y2
        exact ⟨_, R_partY hl3' hh e1 (FS_nI e2) y1 (FS_nI y2) (by rw [if_neg l119]) x1, FRM_t fr1 (FRM_t y4 x3), Or.inr (no _ x2.1 x2.2.1)⟩
  · obtain ⟨x, hx⟩ : ∃ x, x = (if p < L then nI (T p) else (-1 : Int32)) := ⟨_, rfl⟩
    rw [← hx] at hh
    have nk : ∀ k, k < 127 → ((k : Nat) = 119 ∨ k = 101 ∨ k = 116) → ¬ x = nI k := fun k a b e => by
      rw [hx, here58 hc a] at e
      exact g ⟨e.1, by rw [e.2]; exact b⟩
    have F1 := FS_11 hF x
    obtain ⟨w1, e1, e2, e3, e4⟩ := r_takesN (p := 0) F1 (by omega) (Or.inr rfl)
    have fr1 : FRM w w1 := FRM_t (FRM_0 (by omega)) e4
    obtain ⟨w2, t', y1, y2, y3, y4⟩ := R_numF (a := 0) (b := 99) (TX_c hT fr1) e2 (by omega) hp (by omega) (by omega) (Or.inl rfl)
    obtain ⟨x1, x2, x3⟩ := TL_0 y2
    refine ⟨_, R_partN (nk 119 (by omega) (by omega)) (nk 101 (by omega) (by omega)) (nk 116 (by omega) (by omega)) hh e1 (FS_nI e2) y1 (FS_nI y2) x1, FRM_t fr1 (FRM_t y4 x3), Or.inr ⟨0, c, rfl, by omega, x2.1, x2.2.1, fun a => ?_, fun a => ?_⟩⟩
    · exact ⟨_, S0b h0 (fun b => g ⟨a, b⟩) (hc _ a)⟩
    · exact e_c0 h0
