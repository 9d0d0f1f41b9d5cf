/-! TEXTS: a whole part, both sides -/
def NOo (T : Nat → Nat) (L p : Nat) (c w : xSt) : Prop := ∃ n c', rn T c p n = some c' ∧ p + n ≤ L ∧ w 0 9 = nI (p + n) ∧ w 0 10 = 0 ∧ (p + n < L → ∃ c'', m_X5_goesOnWith c' (nI (T (p + n))) = some (0, c'')) ∧ (p + n = L → m_X5_isComplete c' = some 0)
def VLS (m : Nat) (c w : xSt) : Prop := ∀ i, i < m → c 2 i = w 6 i ∧ ∃ a, a < 256 ∧ c 2 i = nI a
def N59 (T : Nat → Nat) (p n : Nat) : Prop := ∀ i, p ≤ i → i < p + n → ¬ T i = 59
def OKo (T : Nat → Nat) (L p : Nat) (c w : xSt) : Prop := ∃ n c' l t u M, p + n ≤ L ∧ rn T c p n = some c' ∧ N59 T p n ∧ FS w (p + n) 1 (nI l) (nI t) (nI u) M ∧ (l = 119 ∨ l = 101 ∨ l = 116) ∧ t ≤ mostN l ∧ u ≤ 9 ∧ c' 0 1 = nI l ∧ c' 0 2 = nI t ∧ c' 0 3 = nI u ∧ (l = 119 → ∃ m, 1 ≤ m ∧ m ≤ 8 ∧ M = nI m ∧ c' 1 1 = nI m ∧ VLS m c' w) ∧ m_X5_isComplete c' = some 1 ∧ (p + n < L → ¬ T (p + n) = 59 → ∃ c'', m_X5_goesOnWith c' (nI (T (p + n))) = some (0, c'')) ∧ ∀ d : xSt, (∀ j, j < 3 → d j = c' j) → ∃ c'', m_X5_goesOnWith d (nI 59) = some (1, c'') ∧ c'' 0 0 = nI 0
def OKv (T : Nat → Nat) (L p : Nat) (l t u : Int32) (c w : xSt) : Prop := ∃ n c' m, p + n ≤ L ∧ rn T c p n = some c' ∧ N59 T p n ∧ FS w (p + n) 1 l t u (nI m) ∧ 1 ≤ m ∧ m ≤ 8 ∧ c' 0 0 = nI 5 ∧ c' 0 1 = c 0 1 ∧ c' 0 2 = c 0 2 ∧ c' 0 3 = c 0 3 ∧ c' 1 1 = nI m ∧ VLS m c' w ∧ ¬ (m < 8 ∧ p + n < L ∧ isH (T (p + n)))
theorem N59_a {T : Nat → Nat} {p k n : Nat} (h : N59 T p k) (g : N59 T (p + k) n) : N59 T p (k + n) := fun i a b => by
  by_cases e : i < p + k
  · exact h i a e
  · exact g i (by omega) (by omega)
theorem N59_0 {T : Nat → Nat} {p : Nat} : N59 T p 0 := fun i a b => by omega
theorem N59_1 {T : Nat → Nat} {p : Nat} (h : ¬ T p = 59) : N59 T p 1 := fun i a b => by
  rw [show i = p by omega]
  exact h
theorem NOo_s {T : Nat → Nat} {L p k : Nat} {c c1 w : xSt} (h : rn T c p k = some c1) (g : NOo T L (p + k) c1 w) : NOo T L p c w := by
  obtain ⟨n, c', g1, g2, g3, g4, g5, g6⟩ := g
  refine ⟨k + n, c', rn_a _ _ _ _ h g1, by omega, ?_, g4, ?_, ?_⟩
  · rw [g3, Nat.add_assoc]
  · rw [← Nat.add_assoc]; exact g5
  · rw [← Nat.add_assoc]; exact g6
theorem OKo_s {T : Nat → Nat} {L p k : Nat} {c c1 w : xSt} (h : rn T c p k = some c1) (h9 : N59 T p k) (g : OKo T L (p + k) c1 w) : OKo T L p c w := by
  obtain ⟨n, c', l, t, u, M, g1, g2, g3, g4, g5, g6, g7, g8, g9, g10, g11, g12, g13, g14⟩ := g
  refine ⟨k + n, c', l, t, u, M, by omega, rn_a _ _ _ _ h g2, N59_a h9 g3, ?_, g5, g6, g7, g8, g9, g10, g11, g12, ?_, g14⟩
  · rw [← Nat.add_assoc]; exact g4
  · rw [← Nat.add_assoc]; exact g13
theorem OKv_s {T : Nat → Nat} {L p k : Nat} {l t u : Int32} {c c1 w : xSt} (h : rn T c p k = some c1) (h9 : N59 T p k) (k1 : c1 0 1 = c 0 1) (k2 : c1 0 2 = c 0 2) (k3 : c1 0 3 = c 0 3) (g : OKv T L (p + k) l t u c1 w) : OKv T L p l t u c w := by
  obtain ⟨n, c', m, g1, g2, g3, g4, g5, g6, g7, g8, g9, g10, g11, g12, g13⟩ := g
  refine ⟨k + n, c', m, by omega, rn_a _ _ _ _ h g2, N59_a h9 g3, ?_, g5, g6, g7, by rw [g8, k1], by rw [g9, k2], by rw [g10, k3], g11, g12, ?_⟩
  · rw [← Nat.add_assoc]; exact g4
  · rw [← Nat.add_assoc]; exact g13
theorem rn_1 {T : Nat → Nat} {c c1 : xSt} {p : Nat} (h : m_X5_goesOnWith c (nI (T p)) = some (1, c1)) : rn T c p 1 = some c1 := by
  rw [rn_s h]
  rfl
theorem isH59 {ch : Nat} (h : isH ch) : ¬ ch = 59 := by unfold isH at h; omega
theorem J_val1 {T : Nat → Nat} {L p m l0 : Nat} {c w : xSt} {l t u : Int32} (hT : TX T L w) (hF : FS w p 1 l t u (nI m)) (hp : p < L) (hm : m < 8) (hl0 : l0 < 127) (hcl : c 0 1 = nI l0) (hh : isH (T p)) (ho : m_X5_goesOnWith c (nI (T p)) = some (1, st2 (st2 c 0 5 (nI (hvl (T p)))) 0 0 4)) (h1 : c 1 1 = nI m) (hv : VLS m c w) : ∃ w', m_X9_takesValue w = some w' ∧ FRM w w' ∧ ((∃ c', rn T c p 2 = some c' ∧ p + 2 ≤ L ∧ N59 T p 2 ∧ FS w' (p + 2) 1 l t u (nI (m + 1)) ∧ c' 0 0 = nI 5 ∧ c' 0 1 = c 0 1 ∧ c' 0 2 = c 0 2 ∧ c' 0 3 = c 0 3 ∧ c' 1 1 = nI (m + 1) ∧ VLS (m + 1) c' w') ∨ (NOo T L p c w' ∧ FS w' (p + 1) 0 l t u (nI (m + 1)))) := by
  have hL := hT.1
  have hb0 := hvl_b hh
  obtain ⟨w', e1, e2, e3, e4⟩ := R_val hT hF (by omega) (by omega) hm
  refine ⟨w', e1, e4, ?_⟩
  have b1 : bH T L p = 1 := by unfold bH; rw [if_pos (show p < L ∧ isH (T p) from ⟨hp, hh⟩)]
  rw [b1] at e2 e3
  obtain ⟨c1, hc1⟩ : ∃ c1, c1 = st2 (st2 c 0 5 (nI (hvl (T p)))) 0 0 4 := ⟨_, rfl⟩
  rw [← hc1] at ho
  have d0 : c1 0 0 = nI 4 := by rw [hc1]; rfl
  have d1 : c1 0 1 = c 0 1 := by rw [hc1]; rfl
  have d2 : c1 0 2 = c 0 2 := by rw [hc1]; rfl
  have d3 : c1 0 3 = c 0 3 := by rw [hc1]; rfl
  have d5 : c1 0 5 = nI (hvl (T p)) := by rw [hc1]; rfl
  have d11 : c1 1 1 = nI m := by rw [hc1, q_sn (by omega), q_sn (by omega)]; exact h1
  have d22 : c1 2 = c 2 := by rw [hc1, q_sn (by omega), q_sn (by omega)]
  have f0 : fH T L p = nI (hvl (T p)) := by unfold fH; rw [if_pos (show p < L ∧ isH (T p) from ⟨hp, hh⟩)]
  by_cases c2 : p + 1 < L ∧ isH (T (p + 1))
  · have b2 : bH T L (p + 1) = 1 := by unfold bH; rw [if_pos c2]
    have f1 : fH T L (p + 1) = nI (hvl (T (p + 1))) := by unfold fH; rw [if_pos c2]
    have hb1 := hvl_b c2.2
    obtain ⟨c3, y1, y2, y3, y4, y5, y6, y7, y8⟩ := S4a d0 d5 d11 (by omega) c2.2
    rw [show p + 1 * 1 = p + 1 by omega, b2] at e2
    rw [show p + 1 * 1 = p + 1 by omega, f0, f1, show (16 : Int32) = nI 16 from rfl, pk_mul, nI_add] at e3
    refine Or.inl ⟨c3, by rw [rn_s ho]; exact rn_1 y1, by omega, N59_a (k := 1) (N59_1 (isH59 hh)) (N59_1 (isH59 c2.2)), e2, y2, by rw [y3, d1], by rw [y4, d2], by rw [y5, d3], y6, fun i hi => ?_⟩
    rw [y7, e3, d22]
    by_cases e : i = m
    · rw [e, va_up_self, va_up_self]
      exact ⟨rfl, 16 * hvl (T p) + hvl (T (p + 1)), by omega, rfl⟩
    · rw [va_up_ne _ _ e, va_up_ne _ _ e]
      exact hv i (by omega)
  · have b2 : bH T L (p + 1) = 0 := by unfold bH; rw [if_neg c2]
    rw [show p + 1 * 1 = p + 1 by omega, b2] at e2
    refine Or.inr ⟨⟨1, c1, rn_1 ho, by omega, e2.1, e2.2.1, fun x => ?_, fun x => ?_⟩, e2⟩
    · exact ⟨_, S4b d0 (hT.2.2 _ x).2.2 (fun y => c2 ⟨x, y⟩)⟩
    · rw [e_compl d0 (by omega) (by rw [d1]; exact hcl) hl0]
      rfl
theorem J_vloop {T : Nat → Nat} {L l0 : Nat} {l t u : Int32} (hl0 : l0 < 127) : ∀ d m p (c w : xSt), m + d = 8 → 1 ≤ m → TX T L w → FS w p 1 l t u (nI m) → p ≤ L → c 0 0 = nI 5 → c 0 1 = nI l0 → c 1 1 = nI m → VLS m c w →
    ∃ w', (∀ F, d < F → lp (fun (rec11 : xSt → Option xSt) => un1 (fun (v10 : xSt) => (if (v10 0 10) = 0 then some v10 else (if (8 : Int32) ≤ (v10 0 14) then some v10 else ob (m_X9_here v10) (fun r15 => ob (m_X9_figure r15) (fun r17 => (if r17 < 0 then some v10 else ob (m_X9_takesValue v10) (fun r20 => rec11 r20)))))))) F w = some w') ∧ FRM w w' ∧ (OKv T L p l t u c w' ∨ NOo T L p c w') := by
  intro d
  induction d with
  | zero =>
    intro m p c w hm hm1 hT hF hp h0 hcl h1 hv
    have hm8 : m = 8 := by omega
    subst hm8
    refine ⟨w, fun F hF' => ?_, FRM_r w, Or.inl ⟨0, c, 8, by omega, rfl, N59_0, hF, by omega, by omega, h0, rfl, rfl, rfl, h1, hv, fun x => absurd x.1 (by omega)⟩⟩
    obtain ⟨F, rfl⟩ : ∃ t, F = t + 1 := ⟨F - 1, by omega⟩
    rw [lp, q_u1, hF.2.1, if_neg (by decide), hF.2.2.2.2.2, if_pos (by decide)]
  | succ d ih =>
    intro m p c w hm hm1 hT hF hp h0 hcl h1 hv
    have hL := hT.1
    have hc : ∀ i, i < L → T i < 127 := fun i hi => (hT.2.2 i hi).2.2
    have hh := r_here hT hF.1 (by omega)
    have n8 : ¬ (8 : Int32) ≤ nI m := nI_ge (b := 8) (by omega) (by omega)
    by_cases g : p < L ∧ isH (T p)
    · have h5 := S5a h0 h1 (by omega) g.2
      obtain ⟨w1, e1, e2, e3⟩ := J_val1 hT hF g.1 (by omega) hl0 hcl g.2 h5 h1 hv
      have step : ∀ F w', d + 1 < F + 1 → lp (fun (rec11 : xSt → Option xSt) => un1 (fun (v10 : xSt) => (if (v10 0 10) = 0 then some v10 else (if (8 : Int32) ≤ (v10 0 14) then some v10 else ob (m_X9_here v10) (fun r15 => ob (m_X9_figure r15) (fun r17 => (if r17 < 0 then some v10 else ob (m_X9_takesValue v10) (fun r20 => rec11 r20)))))))) F w1 = some w' → lp (fun (rec11 : xSt → Option xSt) => un1 (fun (v10 : xSt) => (if (v10 0 10) = 0 then some v10 else (if (8 : Int32) ≤ (v10 0 14) then some v10 else ob (m_X9_here v10) (fun r15 => ob (m_X9_figure r15) (fun r17 => (if r17 < 0 then some v10 else ob (m_X9_takesValue v10) (fun r20 => rec11 r20)))))))) (F + 1) w = some w' := by
        intro F w' _ hh2
        rw [lp, q_u1, hF.2.1, if_neg (by decide), hF.2.2.2.2.2, if_neg n8, hh, q_ob, fgH hc, q_ob, if_pos (show p < L ∧ isH (T p) from g), if_neg (show ¬ nI (hvl (T p)) < (0 : Int32) from nI_nlt (Nat.zero_le _) (by have := hvl_b g.2; omega)), e1, q_ob]
        exact hh2
      rcases e3 with ⟨c1, y1, y2, y3, y4, y5, y6, y7, y8, y9, y10⟩ | ⟨y1, y2⟩
      · obtain ⟨w', z1, z2, z3⟩ := ih (m + 1) (p + 2) c1 w1 (by omega) (by omega) (TX_c hT e2) y4 y2 y5 (by rw [y6]; exact hcl) y9 y10
        refine ⟨w', fun F hF' => ?_, FRM_t e2 z2, ?_⟩
        · obtain ⟨F, rfl⟩ : ∃ t, F = t + 1 := ⟨F - 1, by omega⟩
          exact step F w' hF' (z1 F (by omega))
        · rcases z3 with z3 | z3
          · exact Or.inl (OKv_s y1 y3 y6 y7 y8 z3)
          · exact Or.inr (NOo_s y1 z3)
      · refine ⟨w1, fun F hF' => ?_, e2, Or.inr y1⟩
        obtain ⟨F, rfl⟩ : ∃ t, F = t + 1 := ⟨F - 1, by omega⟩
        refine step F w1 hF' ?_
        obtain ⟨F, rfl⟩ : ∃ t, F = t + 1 := ⟨F - 1, by omega⟩
        rw [lp, q_u1, if_pos (show w1 0 10 = 0 from y2.2.1)]
    · refine ⟨w, fun F hF' => ?_, FRM_r w, Or.inl ⟨0, c, m, by omega, rfl, N59_0, hF, by omega, by omega, h0, rfl, rfl, rfl, h1, hv, fun x => g ⟨x.2.1, x.2.2⟩⟩⟩
      obtain ⟨F, rfl⟩ : ∃ t, F = t + 1 := ⟨F - 1, by omega⟩
      rw [lp, q_u1, hF.2.1, if_neg (by decide), hF.2.2.2.2.2, if_neg n8, hh, q_ob, fgH hc, q_ob, if_neg g, if_pos (by decide)]
/-- the colon -/
def b58 (T : Nat → Nat) (L s : Nat) : Nat := if s < L ∧ T s = 58 then 1 else 0
theorem here58 {T : Nat → Nat} {L s k : Nat} (h : ∀ i, i < L → T i < 127) (hk : k < 127) : ((if s < L then nI (T s) else (-1 : Int32)) = nI k) = (s < L ∧ T s = k) := by
  by_cases c : s < L
  · rw [if_pos c, q_eq (by have := h s c; omega) (by omega)]
    exact propext ⟨fun x => ⟨c, x⟩, fun x => x.2⟩
  · rw [if_neg c]
    refine propext ⟨fun x => ?_, fun x => absurd x.1 c⟩
    have e : ∀ k, k < 127 → ¬ (-1 : Int32) = nI k := by decide +kernel
    exact absurd x (e k hk)
theorem R_vals {T : Nat → Nat} {L : Nat} {w : xSt} {s f : Nat} {l t u M : Int32} (hT : TX T L w) (h : FS w s f l t u M) (hf : f < 2) (hs : s ≤ L) : ∃ w1, FS w1 (s + f * b58 T L s) (f * b58 T L s) l t u (nI 0) ∧ w1 6 = w 6 ∧ FRM w w1 ∧ ∀ w2 w3, m_X9_takesValue w1 = some w2 → lp (fun (rec11 : xSt → Option xSt) => un1 (fun (v10 : xSt) => (if (v10 0 10) = 0 then some v10 else (if (8 : Int32) ≤ (v10 0 14) then some v10 else ob (m_X9_here v10) (fun r15 => ob (m_X9_figure r15) (fun r17 => (if r17 < 0 then some v10 else ob (m_X9_takesValue v10) (fun r20 => rec11 r20)))))))) xF w2 = some w3 → m_X9_takesValues w = some w3 := by
  have hL := hT.1
  have hc : ∀ i, i < L → T i < 127 := fun i hi => (hT.2.2 i hi).2.2
  have hh := r_here hT h.1 (by omega)
  have hb : b58 T L s < 2 := by unfold b58; split <;> omega
  obtain ⟨w1, e1, e2, e3, e4⟩ := r_takes h hf hb
  refine ⟨st2 w1 0 14 0, FS_14 e2 _, by rw [q_sn (by omega), e3], FRM_t e4 (FRM_0 (by omega)), fun w2 w3 g1 g2 => ?_⟩
  unfold m_X9_takesValues
  rw [hh, q_ob, q_lj]
  have hx : (if (if s < L then nI (T s) else (-1 : Int32)) = (58 : Int32) then (1 : Int32) else (0 : Int32)) = nI (b58 T L s) := by
    have k : ((if s < L then nI (T s) else (-1 : Int32)) = (58 : Int32)) = (s < L ∧ T s = 58) := here58 (T := T) (L := L) (s := s) (k := 58) hc (by omega)
    unfold b58
    by_cases g : s < L ∧ T s = 58
    · rw [if_pos (k.mpr g), if_pos g]
      rfl
    · rw [if_neg (fun x => g (k.mp x)), if_neg g]
      rfl
  rw [hx, e1, q_ob, q_lt, g1, q_ob]
  exact g2
theorem R_valsF {T : Nat → Nat} {L : Nat} {w : xSt} {s f : Nat} {l t u M : Int32} (hT : TX T L w) (h : FS w s f l t u M) (hf : f < 2) (hs : s ≤ L) (hp : f = 0 ∨ ¬ (s < L ∧ T s = 58)) : ∃ w' M', m_X9_takesValues w = some w' ∧ FS w' s 0 l t u M' ∧ FRM w w' := by
  obtain ⟨w1, e1, e2, e3, e4⟩ := R_vals hT h hf hs
  have z : f * b58 T L s = 0 := by
    rcases hp with hp | hp
    · rw [hp, Nat.zero_mul]
    · unfold b58
      rw [if_neg hp, Nat.mul_zero]
  rw [z] at e1
  obtain ⟨w2, g1, g2, g3, g4⟩ := R_val (TX_c hT e3) e1 (by omega) (by omega) (by omega)
  simp only [Nat.zero_mul, Nat.add_zero, Nat.zero_add] at g2
  refine ⟨w2, nI 1, e4 w2 w2 g1 ?_, g2, FRM_t e3 g4⟩
  obtain ⟨F, hF, _⟩ := xFs
  rw [hF, lp, q_u1, if_pos (show w2 0 10 = 0 from g2.2.1)]
