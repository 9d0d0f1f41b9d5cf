theorem pu_s3 {v : xSt} : pu 3 3 v (sh 3 v) = v := by
  funext j
  by_cases h : 3 ≤ j ∧ j < 6
  · rw [pu_i h.1 (by omega), sh_e, show 3 + (j - 3) = j by omega]
  · rw [pu_o (by omega)]
theorem sh_p3 {v c : xSt} (h : tl3 (sh 3 v) c) : sh 3 (pu 3 3 v c) = c := by
  funext j
  rw [sh_e]
  by_cases hj : j < 3
  · rw [pu_i (by omega) (by omega), show 3 + j - 3 = j by omega]
  · rw [pu_o (by omega), h j (by omega), sh_e]
theorem pu_p3 {v a b : xSt} : pu 3 3 (pu 3 3 v a) b = pu 3 3 v b := by
  funext j
  by_cases h : 3 ≤ j ∧ j < 6
  · rw [pu_i h.1 (by omega), pu_i h.1 (by omega)]
  · rw [pu_o (by omega), pu_o (by omega), pu_o (by omega)]
def FEL (rec6 : Int32 × xSt → Option (Int32 × xSt)) : Int32 × xSt → Option (Int32 × xSt) := un2 (fun (a4 : Int32) (v5 : xSt) => lt (fun (_ : Unit) => some ((v5 0 7), v5)) (fun j7 => (if (v5 0 7) ≤ a4 then j7 () else (if (60 : Int32) ≤ a4 then j7 () else ck (¬ (a4 < 0 ∨ 60 ≤ a4.toNatClampNeg)) (ob (m_X5_goesOnWith (sh 3 v5) (v5 2 a4.toNatClampNeg)) (fun r12 => lt (pu 3 3 v5 r12.2) (fun v14 => (if r12.1 = 0 then some (a4, v14) else rec6 ((a4 + 1), v14)))))))))
theorem FEL_e (rec6 : Int32 × xSt → Option (Int32 × xSt)) (a4 : Int32) (v5 : xSt) : FEL rec6 (a4, v5) = lt (fun (_ : Unit) => some ((v5 0 7), v5)) (fun j7 => (if (v5 0 7) ≤ a4 then j7 () else (if (60 : Int32) ≤ a4 then j7 () else ck (¬ (a4 < 0 ∨ 60 ≤ a4.toNatClampNeg)) (ob (m_X5_goesOnWith (sh 3 v5) (v5 2 a4.toNatClampNeg)) (fun r12 => lt (pu 3 3 v5 r12.2) (fun v14 => (if r12.1 = 0 then some (a4, v14) else rec6 ((a4 + 1), v14)))))))) := Eq.trans rfl rfl
def TV (T : Nat → Nat) (L : Nat) (v : xSt) : Prop := L ≤ 60 ∧ v 0 7 = nI L ∧ ∀ i, i < L → v 2 i = nI (T i)
theorem TV_c {T : Nat → Nat} {L : Nat} {v c : xSt} (h : TV T L v) : TV T L (pu 3 3 v c) := ⟨h.1, by rw [pu_o (by omega)]; exact h.2.1, fun i hi => by rw [pu_o (by omega)]; exact h.2.2 i hi⟩
theorem C_one {T : Nat → Nat} {L p : Nat} {v c' : xSt} {r : Int32} (h : TV T L v) (hp : p < L) (hg : m_X5_goesOnWith (sh 3 v) (nI (T p)) = some (r, c')) (F : Nat) : lp FEL (F + 1) (nI p, v) = if r = 0 then some (nI p, pu 3 3 v c') else lp FEL F (nI (p + 1), pu 3 3 v c') := by
  obtain ⟨h1, h2, h3⟩ := h
  rw [lp, FEL_e, q_lt, h2, if_neg (nI_ge hp (by omega)), if_neg (show ¬ (60 : Int32) ≤ nI p from nI_ge (b := 60) (by omega) (by omega)), q_cl (by omega), q_ck (by rw [show (0 : Int32) = nI 0 from rfl, q_lts (by omega) (by omega)]; omega), h3 p hp, hg, q_ob, q_lt]
  show (if r = 0 then _ else lp FEL F (nI p + 1, pu 3 3 v c')) = _
  rw [show nI p + 1 = nI (p + 1) from nI_1 p]
theorem rn_tl {T : Nat → Nat} : ∀ n (c c' : xSt) p, rn T c p n = some c' → tl3 c c' := by
  intro n
  induction n with
  | zero =>
    intro c c' p h
    cases h
    exact fun _ _ => rfl
  | succ n ih =>
    intro c c' p h
    rw [rn] at h
    cases hg : m_X5_goesOnWith c (nI (T p)) with
    | none => rw [hg] at h; cases h
    | some x =>
      obtain ⟨r, c1⟩ := x
      rw [hg] at h
      by_cases hr : r = 1
      · simp only [if_pos hr] at h
        have a := ih c1 c' (p + 1) h
        have b := k_go _ _ hg
        exact fun j hj => by rw [a j hj, b j hj]
      · simp only [if_neg hr] at h
        cases h
theorem C_run {T : Nat → Nat} {L : Nat} : ∀ n p (v c' : xSt), TV T L v → p + n ≤ L → rn T (sh 3 v) p n = some c' → ∀ F, lp FEL (F + n) (nI p, v) = lp FEL F (nI (p + n), pu 3 3 v c') := by
  intro n
  induction n with
  | zero =>
    intro p v c' h hp hr F
    cases hr
    rw [pu_s3]
    rfl
  | succ n ih =>
    intro p v c' h hp hr F
    rw [rn] at hr
    cases hg : m_X5_goesOnWith (sh 3 v) (nI (T p)) with
    | none => rw [hg] at hr; cases hr
    | some x =>
      obtain ⟨r, c1⟩ := x
      rw [hg] at hr
      by_cases hr1 : r = 1
      · simp only [if_pos hr1] at hr
        rw [show F + (n + 1) = F + n + 1 by omega, C_one h (by omega) hg, hr1, if_neg (by decide)]
        have e := sh_p3 (k_go _ _ hg)
        have := ih (p + 1) (pu 3 3 v c1) c' (TV_c h) (by omega) (by rw [e]; exact hr) F
        rw [this, pu_p3, show p + 1 + n = p + (n + 1) by omega]
      · simp only [if_neg hr1] at hr
        cases hr
def ITL (rec6 : xSt → Option (Int32 × xSt)) : xSt → Option (Int32 × xSt) := un1 (fun (v5 : xSt) => lt (fun (_ : Unit) => ck ((v5 0 10) = 0 ∨ (v5 0 10) = 1) (some ((v5 0 10), v5))) (fun j7 => (if (v5 0 10) = 0 then j7 () else (if (v5 0 7) ≤ (v5 0 9) then j7 () else ob (m_X9_here v5) (fun r12 => lt (fun (t13 : Int32) => ob (m_X9_takes v5 t13) (fun r16 => (if (r16 0 10) = 0 then rec6 r16 else ob (m_X9_takesPart r16) (fun r19 => rec6 r19)))) (fun j14 => (if r12 = (59 : Int32) then j14 (1 : Int32) else j14 (0 : Int32))))))))
theorem ITL_e (rec6 : xSt → Option (Int32 × xSt)) (v5 : xSt) : ITL rec6 v5 = lt (fun (_ : Unit) => ck ((v5 0 10) = 0 ∨ (v5 0 10) = 1) (some ((v5 0 10), v5))) (fun j7 => (if (v5 0 10) = 0 then j7 () else (if (v5 0 7) ≤ (v5 0 9) then j7 () else ob (m_X9_here v5) (fun r12 => lt (fun (t13 : Int32) => ob (m_X9_takes v5 t13) (fun r16 => (if (r16 0 10) = 0 then rec6 r16 else ob (m_X9_takesPart r16) (fun r19 => rec6 r19)))) (fun j14 => (if r12 = (59 : Int32) then j14 (1 : Int32) else j14 (0 : Int32))))))) := Eq.trans rfl rfl
theorem IT_0 {w : xSt} {F : Nat} (h : w 0 10 = 0) : lp ITL (F + 1) w = some (0, w) := by
  rw [lp, ITL_e, q_lt, if_pos h, q_ck (Or.inl h), h]
theorem J_text {T : Nat → Nat} {L : Nat} : ∀ d p (c w : xSt) (l t u M : Int32), p ≤ L → L - p ≤ d → TX T L w → FS w p 1 l t u M → c 0 0 = nI 0 → ∃ r w', (∀ F, d + 2 < F → ob (m_X9_takesPart w) (fun r19 => lp ITL F r19) = some (r, w')) ∧ FRM w w' ∧ w' 0 10 = r ∧ ((r = 1 ∧ ∃ c', rn T c p (L - p) = some c' ∧ m_X5_isComplete c' = some 1) ∨ (r = 0 ∧ NOo T L p c w')) := by
  intro d
  induction d with
  | zero =>
    intro p c w l t u M hp hd hT hF h0
    have hL := hT.1
    have hpL : p = L := by omega
    obtain ⟨w1, e1, e2, e3⟩ := J_part hT hF hp h0
    rcases e3 with ⟨n, c', l', t', u', M', g1, g2, g3, g4, g5, g6, g7, g8, g9, g10, g11, g12, g13, g14⟩ | e3
    · have hT1 := TX_c hT e2
      refine ⟨1, w1, fun F hF' => ?_, e2, g4.2.1, Or.inl ⟨rfl, c', by rw [show L - p = n by (clear g11; omega)]; exact g2, g12⟩⟩
      obtain ⟨F, rfl⟩ : ∃ t, F = t + 1 := ⟨F - 1, by omega⟩
      rw [e1, q_ob, lp, ITL_e, q_lt, g4.2.1, if_neg (by decide), hT1.2.1, g4.1, if_pos (nI_le (by omega) (by omega)), q_ck (by decide)]
      rfl
    · have f0 : w1 0 10 = 0 := by obtain ⟨_, _, _, _, _, x, _⟩ := e3; exact x
      refine ⟨0, w1, fun F hF' => ?_, e2, f0, Or.inr ⟨rfl, e3⟩⟩
      obtain ⟨F, rfl⟩ : ∃ t, F = t + 1 := ⟨F - 1, by omega⟩
      rw [e1, q_ob]
      exact IT_0 f0
  | succ d ih =>
    intro p c w l t u M hp hd hT hF h0
    have hL := hT.1
    have hc : ∀ i, i < L → T i < 127 := fun i hi => (hT.2.2 i hi).2.2
    obtain ⟨w1, e1, e2, e3⟩ := J_part hT hF hp h0
    rcases e3 with ⟨n, c', l', t', u', M', g1, g2, g3, g4, g5, g6, g7, g8, g9, g10, g11, g12, g13, g14⟩ | e3
    · have hT1 := TX_c hT e2
      by_cases hq : p + n = L
      · refine ⟨1, w1, fun F hF' => ?_, e2, g4.2.1, Or.inl ⟨rfl, c', by rw [show L - p = n by (clear g11; omega)]; exact g2, g12⟩⟩
        obtain ⟨F, rfl⟩ : ∃ t, F = t + 1 := ⟨F - 1, by omega⟩
        rw [e1, q_ob, lp, ITL_e, q_lt, g4.2.1, if_neg (by decide), hT1.2.1, g4.1, if_pos (nI_le (by omega) (by omega)), q_ck (by decide)]
        rfl
      · have hqL : p + n < L := by omega
        have hh := r_here hT1 g4.1 (by omega)
        rw [if_pos hqL] at hh
        by_cases h59 : T (p + n) = 59
        · obtain ⟨c2, k1, k2⟩ := g14 c' (fun _ _ => rfl)
          rw [← h59] at k1
          obtain ⟨w2, y1, y2, y3, y4⟩ := r_takesY g4
          obtain ⟨r, w', z1, z2, z2b, z3⟩ := ih (p + n + 1) c2 w2 _ _ _ _ (by clear g11; omega) (by clear g11; omega) (TX_c hT1 y4) y2 k2
          have rr : rn T c p (n + 1) = some c2 := rn_a _ _ _ _ g2 (rn_1 k1)
          refine ⟨r, w', fun F hF' => ?_, FRM_t e2 (FRM_t y4 z2), z2b, ?_⟩
          · obtain ⟨F, rfl⟩ : ∃ t, F = t + 1 := ⟨F - 1, by omega⟩
            rw [e1, q_ob, lp, ITL_e, q_lt, g4.2.1, if_neg (by decide), hT1.2.1, g4.1, if_neg (nI_ge hqL (by omega)), hh, q_ob, q_lj, if_pos (by rw [h59]; rfl), y1, q_ob, y2.2.1, if_neg (by decide)]
            exact z1 F (by omega)
          · rcases z3 with ⟨z3, c3, z4, z5⟩ | ⟨z3, z4⟩
            · exact Or.inl ⟨z3, c3, by rw [show L - p = n + 1 + (L - (p + n + 1)) by (clear g11; omega)]; exact rn_a _ _ _ _ rr z4, z5⟩
            · exact Or.inr ⟨z3, NOo_s rr z4⟩
        · obtain ⟨w2, y1, y2, y3, y4⟩ := r_takesN (p := 0) g4 (by omega) (Or.inr rfl)
          obtain ⟨c2, k1⟩ := g13 hqL h59
          refine ⟨0, w2, fun F hF' => ?_, FRM_t e2 y4, y2.2.1, Or.inr ⟨rfl, n, c', g2, g1, y2.1, y2.2.1, fun _ => ⟨c2, k1⟩, fun x => absurd x hq⟩⟩
          obtain ⟨F, rfl⟩ : ∃ t, F = t + 1 := ⟨F - 1, by omega⟩
          rw [e1, q_ob, lp, ITL_e, q_lt, g4.2.1, if_neg (by decide), hT1.2.1, g4.1, if_neg (nI_ge hqL (by omega)), hh, q_ob, q_lj, if_neg (show ¬ nI (T (p + n)) = (59 : Int32) from chn (k := 59) (hc _ hqL) (by omega) h59), y1, q_ob, if_pos (show w2 0 10 = 0 from y2.2.1)]
          obtain ⟨F, rfl⟩ : ∃ t, F = t + 1 := ⟨F - 1, by omega⟩
          exact IT_0 y2.2.1
    · have f0 : w1 0 10 = 0 := by obtain ⟨_, _, _, _, _, x, _⟩ := e3; exact x
      refine ⟨0, w1, fun F hF' => ?_, e2, f0, Or.inr ⟨rfl, e3⟩⟩
      obtain ⟨F, rfl⟩ : ∃ t, F = t + 1 := ⟨F - 1, by omega⟩
      rw [e1, q_ob]
      exact IT_0 f0
theorem NOo_abs {T : Nat → Nat} {L p : Nat} {c c2 w : xSt} (h : rn T c p (L - p) = some c2) (hc : m_X5_isComplete c2 = some 1) (g : NOo T L p c w) : False := by
  obtain ⟨n, c', g1, g2, g3, g4, g5, g6⟩ := g
  by_cases hn : p + n = L
  · have e : L - p = n := by omega
    rw [e, g1] at h
    cases h
    rw [g6 hn] at hc
    cases hc
  · obtain ⟨c3, g7⟩ := g5 (by omega)
    have key : ∀ m k (a b d : xSt) q, rn T a q m = some b → rn T a q (m + k) = some d → rn T b (q + m) k = some d := by
      intro m
      induction m with
      | zero =>
        intro k a b d q h1 h2
        cases h1
        rw [Nat.zero_add] at h2
        exact h2
      | succ m ih =>
        intro k a b d q h1 h2
        rw [rn] at h1
        rw [show m + 1 + k = m + k + 1 by omega, rn] at h2
        cases hg : m_X5_goesOnWith a (nI (T q)) with
        | none => rw [hg] at h1; cases h1
        | some x =>
          obtain ⟨r, a'⟩ := x
          rw [hg] at h1 h2
          by_cases hr : r = 1
          · simp only [if_pos hr] at h1 h2
            rw [show q + (m + 1) = q + 1 + m by omega]
            exact ih k a' b d (q + 1) h1 h2
          · simp only [if_neg hr] at h1
            cases h1
    have h2 := key n (L - p - n) c c' c2 p g1 (by rw [show n + (L - p - n) = L - p by omega]; exact h)
    rw [show L - p - n = L - p - n - 1 + 1 by omega, rn, g7] at h2
    simp only [if_neg (show ¬ (0 : Int32) = 1 by decide)] at h2
    cases h2
/-- the whole text, both sides -/
theorem RTx_T {v w : xSt} (h : RTx v w) : ∃ L T, TX T L w ∧ TV T L v := by
  obtain ⟨L, h1, h2, h3, h4⟩ := h
  refine ⟨L, fun i => (w 5 i).toNatClampNeg, ⟨h1, h3, fun i hi => ?_⟩, h1, h2, fun i hi => ?_⟩
  · obtain ⟨e, k, k1, k2, k3⟩ := h4 i hi
    dsimp only
    rw [k3, q_cl (by omega)]
    exact ⟨rfl, by omega, by omega⟩
  · obtain ⟨e, k, k1, k2, k3⟩ := h4 i hi
    dsimp only
    rw [e, k3, q_cl (by omega)]
theorem s_fe {T : Nat → Nat} {L : Nat} {v w : xSt} (hT : TX T L w) (hV : TV T L v) : ∃ r w' c', m_X9_isText w = some (r, w') ∧ FRM w w' ∧ w' 0 10 = r ∧ ((r = 1 ∧ m_X8_firstError v = some (nI L, pu 3 3 v c') ∧ m_X5_isComplete c' = some 1 ∧ rn T (st2 (sh 3 v) 0 0 0) 0 L = some c') ∨ (r = 0 ∧ ∃ q, q ≤ L ∧ m_X8_firstError v = some (nI q, pu 3 3 v c') ∧ w' 0 9 = nI q ∧ (q = L → m_X5_isComplete c' = some 0))) := by
  have hL := hT.1
  obtain ⟨c, hc⟩ : ∃ c, c = st2 (sh 3 v) 0 0 0 := ⟨_, rfl⟩
  have c0 : c 0 0 = nI 0 := by rw [hc, q_ss, va_up_self]; rfl
  have ct : tl3 (sh 3 v) c := fun j hj => by rw [hc, q_sn (by omega)]
  obtain ⟨w1, hw1⟩ : ∃ w1, w1 = st2 (st2 w 0 9 0) 0 10 1 := ⟨_, rfl⟩
  have fr1 : FRM w w1 := by rw [hw1]; exact FRM_t (FRM_0 (by omega)) (FRM_0 (by omega))
  have F1 : FS w1 0 1 (w1 0 11) (w1 0 12) (w1 0 13) (w1 0 14) := ⟨by rw [hw1, q_ss, va_up_ne _ _ (by omega), q_ss, va_up_self]; rfl, by rw [hw1, q_ss, va_up_self]; rfl, rfl, rfl, rfl, rfl⟩
  obtain ⟨r, w', z1, z2, z2b, z3⟩ := J_text L 0 c w1 _ _ _ _ (by omega) (by omega) (TX_c hT fr1) F1 c0
  have ref : m_X9_isText w = some (r, w') := by
    unfold m_X9_isText
    rw [q_lt, q_lt, ← hw1]
    exact z1 xF (xFg (by omega))
  have est : m_X8_firstError v = lp FEL xF (nI 0, pu 3 3 v c) := by
    unfold m_X8_firstError
    rw [show m_X5_start (sh 3 v) = some c by rw [hc]; rfl, q_ob, q_lt]
    rfl
  obtain ⟨F, hF, hF2⟩ := xFs
  have hsp := sh_p3 ct
  have hV1 := TV_c (c := c) hV
  have fin : ∀ G c', lp FEL (G + 1) (nI L, pu 3 3 v c') = some (nI L, pu 3 3 v c') := by
    intro G c'
    have hV2 := TV_c (c := c') hV
    rw [lp, FEL_e, q_lt, hV2.2.1, if_pos (nI_le (by omega) (by omega))]
  rcases z3 with ⟨z3, c', z4, z5⟩ | ⟨z3, n, c', z4, z5, z6, z7, z8, z9⟩
  · rw [show L - 0 = L by omega] at z4
    refine ⟨r, w', c', ref, FRM_t fr1 z2, z2b, Or.inl ⟨z3, ?_, z5, by rw [← hc]; exact z4⟩⟩
    have := C_run L 0 (pu 3 3 v c) c' hV1 (by omega) (by rw [hsp]; exact z4) (xF - L)
    rw [est, show xF = xF - L + L by omega, this, Nat.zero_add, pu_p3, show xF - L = (xF - L - 1) + 1 by omega]
    exact fin _ _
  · rw [Nat.zero_add] at z5 z6 z8 z9
    have run := C_run n 0 (pu 3 3 v c) c' hV1 (by omega) (by rw [hsp]; exact z4) (xF - n)
    rw [Nat.zero_add, pu_p3] at run
    by_cases hn : n = L
    · refine ⟨r, w', c', ref, FRM_t fr1 z2, z2b, Or.inr ⟨z3, n, z5, ?_, z6, fun e => z9 e⟩⟩
      rw [est, show xF = xF - n + n by omega, run, show xF - n = (xF - n - 1) + 1 by omega, hn]
      exact fin _ _
    · obtain ⟨c3, k⟩ := z8 (by omega)
      have tc : tl3 (sh 3 v) c' := fun j hj => by rw [rn_tl _ _ _ _ z4 j hj, ct j hj]
      have one := C_one (r := 0) (c' := c3) (TV_c (c := c') hV) (show n < L by omega) (by rw [sh_p3 tc]; exact k) (xF - n - 1)
      rw [if_pos rfl, pu_p3] at one
      refine ⟨r, w', c3, ref, FRM_t fr1 z2, z2b, Or.inr ⟨z3, n, z5, ?_, z6, fun e => absurd e hn⟩⟩
      rw [est, show xF = xF - n + n by omega, run, show xF - n = (xF - n - 1) + 1 by omega]
      exact one
theorem RBC_p3 {B : Nat} {v w c : xSt} (H : RBC B v w) : RBC B (pu 3 3 v c) w := by
  refine RBC_now H (Nat.le_refl _) (fun j j1 j2 => pu_o (by omega)) (fun k hk => by rw [pu_o (by omega)]) (fun _ _ _ => rfl) (fun _ _ => rfl) ?_
  exact RR_v H.1 (fun j hj => by rw [sh_e, sh_e, pu_o (by omega)])
theorem RBC_F {B : Nat} {v w w' : xSt} (H : RBC B v w) (g : FRM w w') : RBC B v w' := RBC_w H (fun j hj => g.1 j (by omega) (by omega)) (fun k hk => g.2 k (by omega))
theorem b_firstError {B : Nat} {v w : xSt} (H : RBC B v w) : MN B (m_X8_firstError v) (m_X9_firstError w) := by
  obtain ⟨L, T, hT, hV⟩ := RTx_T H.2.2.2.2
  have hL := hT.1
  have g1 : FRM w w := FRM_r w
  have hT1 : TX T L (st2 w 0 8 0) := ⟨hT.1, by rw [q_ss, va_up_ne _ _ (by omega)]; exact hT.2.1, fun i hi => by rw [q_sn (by omega)]; exact hT.2.2 i hi⟩
  obtain ⟨r, w', c', e1, e2, -, e3⟩ := s_fe hT1 hV
  have H1 := RBC_F (RBC_p3 (c := c') (RBC_1 (x := 0) H)) e2
  have w8 : w' 0 8 = 0 := by rw [e2.2 8 (by omega), q_ss, va_up_self]
  rcases e3 with ⟨h1, h2, h3, h4⟩ | ⟨h1, q, h2, h3, h4, h5⟩
  · refine ⟨nI L, pu 3 3 v c', w', h2, ?_, w8, H1⟩
    unfold m_X9_firstError
    rw [q_lt, e1, q_ob, q_lt, h1]
    show (if (1 : Int32) = 0 then _ else some (w' 0 7, w')) = _
    rw [if_neg (by decide), e2.2 7 (by omega), hT1.2.1]
  · refine ⟨nI q, pu 3 3 v c', w', h3, ?_, w8, H1⟩
    unfold m_X9_firstError
    rw [q_lt, e1, q_ob, q_lt, h1]
    show (if (0 : Int32) = 0 then some (w' 0 9, w') else _) = _
    rw [if_pos rfl, h4]
