/-! TEXTS: the reference's reader beside the class's -/
def rn (T : Nat → Nat) : xSt → Nat → Nat → Option xSt
  | c, _, 0 => some c
  | c, p, n + 1 => match m_X5_goesOnWith c (nI (T p)) with
    | some (r, c') => if r = 1 then rn T c' (p + 1) n else none
    | none => none
theorem rn_s {T : Nat → Nat} {c c1 : xSt} {p n : Nat} (h : m_X5_goesOnWith c (nI (T p)) = some (1, c1)) : rn T c p (n + 1) = rn T c1 (p + 1) n := by
  rw [rn, h]
  exact if_pos rfl
theorem rn_a {T : Nat → Nat} {c1 c2 : xSt} : ∀ n (c : xSt) p m, rn T c p n = some c1 → rn T c1 (p + n) m = some c2 → rn T c p (n + m) = some c2 := by
  intro n
  induction n with
  | zero =>
    intro c p m h1 h2
    cases h1
    rw [Nat.zero_add]
    exact h2
  | succ n ih =>
    intro c p m h1 h2
    rw [rn] at h1
    cases hg : m_X5_goesOnWith c (nI (T p)) with
    | none => rw [hg] at h1; cases h1
    | some x =>
      obtain ⟨r, c'⟩ := x
      rw [hg] at h1
      by_cases hr : r = 1
      · subst hr
        simp only [if_true] at h1
        rw [show n + 1 + m = n + m + 1 by omega, rn_s hg]
        exact ih c' (p + 1) m h1 (by rw [show p + 1 + n = p + (n + 1) by omega]; exact h2)
      · simp only [if_neg hr] at h1
        cases h1
def TX (T : Nat → Nat) (L : Nat) (w : xSt) : Prop := L ≤ 60 ∧ w 0 7 = nI L ∧ ∀ i, i < L → w 5 i = nI (T i) ∧ 33 ≤ T i ∧ T i < 127
def FRM (w w' : xSt) : Prop := (∀ j, j ≠ 0 → j ≠ 6 → w' j = w j) ∧ ∀ k, k < 9 ∨ 15 ≤ k → w' 0 k = w 0 k
theorem FRM_t {w w' w'' : xSt} (h : FRM w w') (g : FRM w' w'') : FRM w w'' := ⟨fun j a b => by rw [g.1 j a b, h.1 j a b], fun k a => by rw [g.2 k a, h.2 k a]⟩
theorem FRM_r (w : xSt) : FRM w w := ⟨fun _ _ _ => rfl, fun _ _ => rfl⟩
theorem FRM_0 {w : xSt} {k : Nat} {x : Int32} (h : 9 ≤ k ∧ k < 15) : FRM w (st2 w 0 k x) := ⟨fun j a _ => q_sn a, fun i hi => by rw [q_ss, va_up_ne _ _ (by omega)]⟩
theorem TX_c {T : Nat → Nat} {L : Nat} {w w' : xSt} (h : TX T L w) (g : FRM w w') : TX T L w' := ⟨h.1, by rw [g.2 7 (by omega)]; exact h.2.1, fun i hi => by rw [g.1 5 (by omega) (by omega)]; exact h.2.2 i hi⟩
/-- the reader's own numbers -/
def FS (w : xSt) (s f : Nat) (l t u m : Int32) : Prop := w 0 9 = nI s ∧ w 0 10 = nI f ∧ w 0 11 = l ∧ w 0 12 = t ∧ w 0 13 = u ∧ w 0 14 = m
theorem r_here {T : Nat → Nat} {L s : Nat} {w : xSt} (h : TX T L w) (hs : w 0 9 = nI s) (hs1 : s < 100) : m_X9_here w = some (if s < L then nI (T s) else -1) := by
  obtain ⟨h1, h2, h3⟩ := h
  unfold m_X9_here
  rw [h2, hs]
  by_cases c : s < L
  · rw [if_neg (nI_ge c (by omega)), if_pos c, q_cl (by omega), q_ck (by rw [show (0 : Int32) = nI 0 from rfl, q_lts (by omega) (by omega)]; omega), (h3 s c).1]
  · rw [if_pos (nI_le (by omega) (by omega)), if_neg c]
theorem r_takesY {w : xSt} {s : Nat} {l t u m : Int32} (h : FS w s 1 l t u m) : ∃ w', m_X9_takes w 1 = some w' ∧ FS w' (s + 1) 1 l t u m ∧ w' 6 = w 6 ∧ FRM w w' := by
  obtain ⟨a1, a2, a3, a4, a5, a6⟩ := h
  refine ⟨st2 (st2 w 0 10 1) 0 9 (nI (s + 1)), ?_, ⟨by rw [q_ss, va_up_self], by rw [q_ss, va_up_ne _ _ (by omega), q_ss, va_up_self]; rfl, ?_, ?_, ?_, ?_⟩, by rw [q_sn (by omega), q_sn (by omega)], FRM_t (FRM_0 (by omega)) (FRM_0 (by omega))⟩
  · unfold m_X9_takes
    simp only [q_lt]
    rw [a2, if_neg (by decide), if_neg (by decide), q_ck (by decide), q_ss, va_up_self, va_up_ne _ _ (by omega), a1, if_neg (by decide), show nI s + 1 = nI (s + 1) from nI_1 s]
  · rw [q_ss, va_up_ne _ _ (by omega), q_ss, va_up_ne _ _ (by omega)]; exact a3
  · rw [q_ss, va_up_ne _ _ (by omega), q_ss, va_up_ne _ _ (by omega)]; exact a4
  · rw [q_ss, va_up_ne _ _ (by omega), q_ss, va_up_ne _ _ (by omega)]; exact a5
  · rw [q_ss, va_up_ne _ _ (by omega), q_ss, va_up_ne _ _ (by omega)]; exact a6
theorem r_takesN {w : xSt} {s f : Nat} {l t u m p : Int32} (h : FS w s f l t u m) (hf : f < 2) (hp : f = 0 ∨ p = 0) : ∃ w', m_X9_takes w p = some w' ∧ FS w' s 0 l t u m ∧ w' 6 = w 6 ∧ FRM w w' := by
  obtain ⟨a1, a2, a3, a4, a5, a6⟩ := h
  refine ⟨st2 (st2 w 0 10 0) 0 9 (nI s), ?_, ⟨by rw [q_ss, va_up_self], by rw [q_ss, va_up_ne _ _ (by omega), q_ss, va_up_self]; rfl, ?_, ?_, ?_, ?_⟩, by rw [q_sn (by omega), q_sn (by omega)], FRM_t (FRM_0 (by omega)) (FRM_0 (by omega))⟩
  · have e0 : nI s + 0 = nI s := Int32.add_zero _
    have key : ck ((0 : Int32) = 0 ∨ (0 : Int32) = 1) (lt (st2 w 0 10 0) (fun v4 => lt (fun (t5 : Int32) (t6 : Int32) => lt (st2 v4 0 9 (t5 + t6)) (fun v8 => some v8)) (fun j7 => (if (v4 0 10) = 0 then j7 (v4 0 9) (0 : Int32) else j7 (v4 0 9) (1 : Int32))))) = some (st2 (st2 w 0 10 0) 0 9 (nI s)) := by
      rw [q_ck (by decide)]
      simp only [q_lt]
      rw [q_ss, va_up_self, va_up_ne _ _ (by omega), a1, if_pos rfl, e0]
    unfold m_X9_takes
    simp only [q_lt] at key ⊢
    rcases hp with hp | hp
    · subst hp
      rw [if_pos (show w 0 10 = 0 from a2)]
      exact key
    · by_cases c : w 0 10 = 0
      · rw [if_pos c]
        exact key
      · rw [if_neg c, if_pos hp]
        exact key
  · rw [q_ss, va_up_ne _ _ (by omega), q_ss, va_up_ne _ _ (by omega)]; exact a3
  · rw [q_ss, va_up_ne _ _ (by omega), q_ss, va_up_ne _ _ (by omega)]; exact a4
  · rw [q_ss, va_up_ne _ _ (by omega), q_ss, va_up_ne _ _ (by omega)]; exact a5
  · rw [q_ss, va_up_ne _ _ (by omega), q_ss, va_up_ne _ _ (by omega)]; exact a6
theorem xwiD {T : Nat → Nat} {L s : Nat} (h : ∀ i, i < L → T i < 127) : xwi (if s < L then nI (T s) else -1) 48 57 = if s < L ∧ isD (T s) then 1 else 0 := by
  by_cases c : s < L
  · rw [if_pos c]
    have : ∀ ch, ch < 127 → xwi (nI ch) 48 57 = if 48 ≤ ch ∧ ch ≤ 57 then 1 else 0 := by decide +kernel
    rw [this _ (h s c)]
    unfold isD
    by_cases d : 48 ≤ T s ∧ T s ≤ 57
    · rw [if_pos d, if_pos ⟨c, d⟩]
    · rw [if_neg d, if_neg (fun x => d x.2)]
  · rw [if_neg c, if_neg (fun x => c x.1)]
    decide
/-- the loop over the further digits, both sides -/
theorem J_loop {T : Nat → Nat} {L l : Nat} (hl3 : l = 119 ∨ l = 101 ∨ l = 116) {u m : Int32} : ∀ d p t (c w : xSt), p + d = L → TX T L w → FS w p 1 (nI l) (nI t) u m → t ≤ mostN l → c 0 0 = nI 2 → c 0 1 = nI l → c 0 2 = nI t →
    ∃ n c' w' t', rn T c p n = some c' ∧ p + n ≤ L ∧ (∀ F, d < F → lp (fun (rec12 : xSt → Option xSt) => un1 (fun (v11 : xSt) => (if (v11 0 10) = 0 then some v11 else (if (v11 0 12) ≤ 0 then some v11 else ob (m_X9_here v11) (fun r16 => (if (xwi r16 (48 : Int32) (57 : Int32)) = 0 then some v11 else ob (m_X9_here v11) (fun r20 => (if nI (mostN l) < ((((10 : Int32) * (v11 0 12)) + r20) - (48 : Int32)) then some v11 else ob (m_X9_here v11) (fun r23 => lt (st2 v11 0 12 ((((10 : Int32) * (v11 0 12)) + r23) - (48 : Int32))) (fun v24 => lt (st2 v24 0 9 ((v24 0 9) + (1 : Int32))) (fun v25 => rec12 v25))))))))))) F w = some w') ∧
      FS w' (p + n) 1 (nI l) (nI t') u m ∧ w' 6 = w 6 ∧ FRM w w' ∧ t' ≤ mostN l ∧ c' 0 0 = nI 2 ∧ c' 0 1 = nI l ∧ c' 0 2 = nI t' ∧ c' 0 3 = c 0 3 ∧ c' 1 = c 1 ∧ c' 2 = c 2 ∧ tl3 c c' ∧ (p + n < L → isD (T (p + n)) → ¬ (0 < t' ∧ 10 * t' + (T (p + n) - 48) ≤ mostN l))  ∧ (∀ i, p ≤ i → i < p + n → ¬ T i = 59) := by
  have hm : mostN l ≤ 255 := by unfold mostN; split; omega; split <;> omega
  intro d
  induction d with
  | zero =>
    intro p t c w hp hT hF ht h0 h1 h2
    refine ⟨0, c, w, t, rfl, by omega, fun F hF' => ?_, hF, rfl, FRM_r w, ht, h0, h1, h2, rfl, rfl, rfl, fun _ _ => rfl, fun hh => absurd hh (by omega), fun i a b => by omega⟩
    obtain ⟨F, rfl⟩ : ∃ t, F = t + 1 := ⟨F - 1, by omega⟩
    have hh := r_here hT hF.1 (by have := hT.1; omega)
    rw [lp]
    simp only [q_u1]
    rw [hF.2.1, if_neg (by decide)]
    by_cases c0 : w 0 12 ≤ 0
    · rw [if_pos c0]
    · rw [if_neg c0, hh]
      simp only [q_ob]
      rw [xwiD (fun i hi => (hT.2.2 i hi).2.2), if_neg (show ¬ (p < L ∧ isD (T p)) from fun x => absurd x.1 (by omega)), if_pos (by decide)]
  | succ d ih =>
    intro p t c w hp hT hF ht h0 h1 h2
    have hL := hT.1
    have hpL : p < L := by omega
    obtain ⟨x1, x2, x3⟩ := hT.2.2 p hpL
    have hh := r_here hT hF.1 (by omega)
    rw [if_pos hpL] at hh
    have e10 : ∀ ch, 48 ≤ ch → (10 : Int32) * nI t + nI ch - 48 = nI (10 * t + (ch - 48)) := by
      intro ch hch
      rw [show (10 : Int32) = nI 10 from rfl, pk_mul, nI_add, show (48 : Int32) = nI 48 from rfl, q_sub (by omega)]
      congr 1
      omega
    have hxw : xwi (nI (T p)) 48 57 = if isD (T p) then 1 else 0 := by
      have := xwiD (T := T) (L := L) (s := p) (fun i hi => (hT.2.2 i hi).2.2)
      rw [if_pos hpL] at this
      rw [this]
      by_cases dd : isD (T p)
      · rw [if_pos dd, if_pos ⟨hpL, dd⟩]
      · rw [if_neg dd, if_neg (fun x => dd x.2)]
    have stop : (¬ (isD (T p) ∧ 0 < t ∧ 10 * t + (T p - 48) ≤ mostN l)) → ∀ F, d + 1 < F → lp (fun (rec12 : xSt → Option xSt) => un1 (fun (v11 : xSt) => (if (v11 0 10) = 0 then some v11 else (if (v11 0 12) ≤ 0 then some v11 else ob (m_X9_here v11) (fun r16 => (if (xwi r16 (48 : Int32) (57 : Int32)) = 0 then some v11 else ob (m_X9_here v11) (fun r20 => (if nI (mostN l) < ((((10 : Int32) * (v11 0 12)) + r20) - (48 : Int32)) then some v11 else ob (m_X9_here v11) (fun r23 => lt (st2 v11 0 12 ((((10 : Int32) * (v11 0 12)) + r23) - (48 : Int32))) (fun v24 => lt (st2 v24 0 9 ((v24 0 9) + (1 : Int32))) (fun v25 => rec12 v25))))))))))) F w = some w := by
      intro hn F hF'
      obtain ⟨F, rfl⟩ : ∃ t, F = t + 1 := ⟨F - 1, by omega⟩
      rw [lp]
      simp only [q_u1]
      rw [hF.2.1, if_neg (by decide), hF.2.2.2.1]
      by_cases c0 : 0 < t
      · rw [if_neg (nI_nle c0 (by omega)), hh]
        simp only [q_ob]
        rw [hxw]
        by_cases dd : isD (T p)
        · rw [if_pos dd, if_neg (by decide), e10 _ dd.1, if_pos (nI_lt (by omega) (by unfold isD at dd; omega))]
        · rw [if_neg dd, if_pos rfl]
      · rw [if_pos (by rw [show t = 0 by omega]; decide)]
    by_cases go : isD (T p) ∧ 0 < t ∧ 10 * t + (T p - 48) ≤ mostN l
    · obtain ⟨dd, g0, g1⟩ := go
      obtain ⟨c1, k1, k2, k3, k4, k5, k6, k7, k8⟩ := S2a h0 h1 hl3 h2 (by omega) dd g0 g1
      obtain ⟨w1, hw1⟩ : ∃ w1, w1 = st2 (st2 w 0 12 (nI (10 * t + (T p - 48)))) 0 9 (nI (p + 1)) := ⟨_, rfl⟩
      have F1 : FS w1 (p + 1) 1 (nI l) (nI (10 * t + (T p - 48))) u m := by
        obtain ⟨a1, a2, a3, a4, a5, a6⟩ := hF
        rw [hw1]
        refine ⟨by rw [q_ss, va_up_self], ?_, ?_, ?_, ?_, ?_⟩
        · rw [q_ss, va_up_ne _ _ (by omega), q_ss, va_up_ne _ _ (by omega)]; exact a2
        · rw [q_ss, va_up_ne _ _ (by omega), q_ss, va_up_ne _ _ (by omega)]; exact a3
        · rw [q_ss, va_up_ne _ _ (by omega), q_ss, va_up_self]
        · rw [q_ss, va_up_ne _ _ (by omega), q_ss, va_up_ne _ _ (by omega)]; exact a5
        · rw [q_ss, va_up_ne _ _ (by omega), q_ss, va_up_ne _ _ (by omega)]; exact a6
      have fr : FRM w w1 := by rw [hw1]; exact FRM_t (FRM_0 (by omega)) (FRM_0 (by omega))
      obtain ⟨n, c', w', t', y1, y2, y3, y4, y5, y6, y7, y8, y9, y10, y11, y12, y13, y14, y15, y16⟩ := ih (p + 1) (10 * t + (T p - 48)) c1 w1 (by omega) (TX_c hT fr) F1 g1 k2 k3 k4
      refine ⟨n + 1, c', w', t', by rw [rn_s k1]; exact y1, by omega, fun F hF' => ?_, by rw [show p + (n + 1) = p + 1 + n by omega]; exact y4, by rw [y5, hw1, q_sn (by omega), q_sn (by omega)], FRM_t fr y6, y7, y8, y9, y10, by rw [y11, k5], by rw [y12, k6], by rw [y13, k7], fun j hj => by rw [y14 j hj, k8 j hj], by rw [show p + (n + 1) = p + 1 + n by omega]; exact y15, fun i a b => by
        by_cases e : i = p
        · rw [e]; unfold isD at dd; omega
        · exact y16 i (by omega) (by omega)⟩
      obtain ⟨F, rfl⟩ : ∃ t, F = t + 1 := ⟨F - 1, by omega⟩
      rw [lp]
      simp only [q_u1, q_lt]
      rw [hF.2.1, if_neg (by decide), hF.2.2.2.1, if_neg (nI_nle g0 (by omega)), hh]
      simp only [q_ob]
      rw [hxw, if_pos dd, if_neg (by decide), e10 _ dd.1, if_neg (nI_nlt g1 (by omega)), q_ss, va_up_ne _ _ (show (9 : Nat) ≠ 12 by omega), hF.1, show nI p + 1 = nI (p + 1) from nI_1 p, ← hw1]
      exact y3 F (by omega)
    · refine ⟨0, c, w, t, rfl, by omega, stop go, hF, rfl, FRM_r w, ht, h0, h1, h2, rfl, rfl, rfl, fun _ _ => rfl, fun _ dd hh => go ⟨dd, hh⟩, fun i a b => by omega⟩
