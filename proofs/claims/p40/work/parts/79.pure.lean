/-! TEXTS: the parts of the reference's reader -/
theorem q_lj {α β : Type} (J : α → β) (c : Prop) [Decidable c] (a b : α) : lt J (fun j => if c then j a else j b) = J (if c then a else b) := by
  unfold lt
  split <;> rfl
theorem FS_9 {w : xSt} {s f : Nat} {l t u m : Int32} (h : FS w s f l t u m) (r : Nat) : FS (st2 w 0 9 (nI r)) r f l t u m := by
  obtain ⟨a1, a2, a3, a4, a5, a6⟩ := h
  refine ⟨?_, ?_, ?_, ?_, ?_, ?_⟩
  · rw [q_ss, va_up_self]
  · rw [q_ss, va_up_ne _ _ (by omega)]; exact a2
  · rw [q_ss, va_up_ne _ _ (by omega)]; exact a3
  · rw [q_ss, va_up_ne _ _ (by omega)]; exact a4
  · rw [q_ss, va_up_ne _ _ (by omega)]; exact a5
  · rw [q_ss, va_up_ne _ _ (by omega)]; exact a6
theorem FS_11 {w : xSt} {s f : Nat} {l t u m : Int32} (h : FS w s f l t u m) (x : Int32) : FS (st2 w 0 11 x) s f x t u m := by
  obtain ⟨a1, a2, a3, a4, a5, a6⟩ := h
  refine ⟨?_, ?_, ?_, ?_, ?_, ?_⟩
  · rw [q_ss, va_up_ne _ _ (by omega)]; exact a1
  · rw [q_ss, va_up_ne _ _ (by omega)]; exact a2
  · rw [q_ss, va_up_self]
  · rw [q_ss, va_up_ne _ _ (by omega)]; exact a4
  · rw [q_ss, va_up_ne _ _ (by omega)]; exact a5
  · rw [q_ss, va_up_ne _ _ (by omega)]; exact a6
theorem FS_12 {w : xSt} {s f : Nat} {l t u m : Int32} (h : FS w s f l t u m) (x : Int32) : FS (st2 w 0 12 x) s f l x u m := by
  obtain ⟨a1, a2, a3, a4, a5, a6⟩ := h
  refine ⟨?_, ?_, ?_, ?_, ?_, ?_⟩
  · rw [q_ss, va_up_ne _ _ (by omega)]; exact a1
  · rw [q_ss, va_up_ne _ _ (by omega)]; exact a2
  · rw [q_ss, va_up_ne _ _ (by omega)]; exact a3
  · rw [q_ss, va_up_self]
  · rw [q_ss, va_up_ne _ _ (by omega)]; exact a5
  · rw [q_ss, va_up_ne _ _ (by omega)]; exact a6
theorem FS_13 {w : xSt} {s f : Nat} {l t u m : Int32} (h : FS w s f l t u m) (x : Int32) : FS (st2 w 0 13 x) s f l t x m := by
  obtain ⟨a1, a2, a3, a4, a5, a6⟩ := h
  refine ⟨?_, ?_, ?_, ?_, ?_, ?_⟩
  · rw [q_ss, va_up_ne _ _ (by omega)]; exact a1
  · rw [q_ss, va_up_ne _ _ (by omega)]; exact a2
  · rw [q_ss, va_up_ne _ _ (by omega)]; exact a3
  · rw [q_ss, va_up_ne _ _ (by omega)]; exact a4
  · rw [q_ss, va_up_self]
  · rw [q_ss, va_up_ne _ _ (by omega)]; exact a6
theorem FS_14 {w : xSt} {s f : Nat} {l t u m : Int32} (h : FS w s f l t u m) (x : Int32) : FS (st2 w 0 14 x) s f l t u x := by
  obtain ⟨a1, a2, a3, a4, a5, a6⟩ := h
  refine ⟨?_, ?_, ?_, ?_, ?_, ?_⟩
  · rw [q_ss, va_up_ne _ _ (by omega)]; exact a1
  · rw [q_ss, va_up_ne _ _ (by omega)]; exact a2
  · rw [q_ss, va_up_ne _ _ (by omega)]; exact a3
  · rw [q_ss, va_up_ne _ _ (by omega)]; exact a4
  · rw [q_ss, va_up_ne _ _ (by omega)]; exact a5
  · rw [q_ss, va_up_self]
theorem FRM_6 {w : xSt} {k : Nat} {x : Int32} : FRM w (st2 w 6 k x) := ⟨fun j _ b => q_sn b, fun i _ => by rw [q_sn (by omega)]⟩
theorem FS_6 {w : xSt} {s f : Nat} {l t u m : Int32} (h : FS w s f l t u m) (k : Nat) (x : Int32) : FS (st2 w 6 k x) s f l t u m := by
  unfold FS
  rw [q_sn (by omega)]
  exact h
theorem r_takes {w : xSt} {s f b : Nat} {l t u m : Int32} (h : FS w s f l t u m) (hf : f < 2) (hb : b < 2) : ∃ w', m_X9_takes w (nI b) = some w' ∧ FS w' (s + f * b) (f * b) l t u m ∧ w' 6 = w 6 ∧ FRM w w' := by
  by_cases c : f = 1 ∧ b = 1
  · obtain ⟨rfl, rfl⟩ := c
    exact r_takesY h
  · have e : f * b = 0 := by
      have : f = 0 ∨ b = 0 := by omega
      rcases this with rfl | rfl
      · exact Nat.zero_mul _
      · exact Nat.mul_zero _
    rw [e]
    exact r_takesN h hf (by
      by_cases f0 : f = 0
      · exact Or.inl f0
      · exact Or.inr (by rw [show b = 0 by omega]; rfl))
theorem xFs : ∃ F, xF = F + 1 ∧ 1000 < F := by
  have : (1001 : Nat) < xF := xFg (by omega)
  exact ⟨xF - 1, by omega, by omega⟩
theorem R_numF {T : Nat → Nat} {L : Nat} {w : xSt} {s f a b : Nat} {l t u m : Int32} (hT : TX T L w) (h : FS w s f l t u m) (hf : f < 2) (hs : s ≤ L) (ha : a ≤ 1) (hb : b ≤ 255) (hp : f = 0 ∨ ¬ (s < L ∧ isD (T s) ∧ a ≤ T s - 48 ∧ T s - 48 ≤ b)) : ∃ w' t', m_X9_takesNumber w (nI a) (nI b) = some w' ∧ FS w' s 0 l t' u m ∧ w' 6 = w 6 ∧ FRM w w' := by
  have hL := hT.1
  have hh := r_here hT h.1 (by omega)
  have hx48 := xwiD (T := T) (L := L) (s := s) (fun i hi => (hT.2.2 i hi).2.2)
  have hxv : s < L → isD (T s) → (if s < L then nI (T s) else (-1 : Int32)) - 48 = nI (T s - 48) := by
    intro c d
    rw [if_pos c, show (48 : Int32) = nI 48 from rfl, q_sub d.1]
  obtain ⟨x, hx⟩ : ∃ x, x = (if s < L then nI (T s) else (-1 : Int32)) := ⟨_, rfl⟩
  rw [← hx] at hh hx48 hxv
  obtain ⟨w3, hw3⟩ : ∃ w3, w3 = st2 w 0 12 (x - 48) := ⟨_, rfl⟩
  have F3 : FS w3 s f l (x - 48) u m := by rw [hw3]; exact FS_12 h _
  have fr : FRM w w3 := by rw [hw3]; exact FRM_0 (by omega)
  have h6 : w3 6 = w 6 := by rw [hw3]; exact q_sn (by omega)
  have hh3 := r_here (TX_c hT fr) F3.1 (by omega)
  rw [← hx] at hh3
  have key : ∀ y : Int32, (f = 0 ∨ y = 0) → ∃ w' t', ob (m_X9_takes w3 y) (fun r10 => lp (fun (rec12 : xSt → Option xSt) => un1 (fun (v11 : xSt) => (if (v11 0 10) = 0 then some v11 else (if (v11 0 12) ≤ 0 then some v11 else ob (m_X9_here v11) (fun r16 => (if (xwi r16 (48 : Int32) (57 : Int32)) = 0 then some v11 else ob (m_X9_here v11) (fun r20 => (if (nI b) < ((((10 : Int32) * (v11 0 12)) + r20) - (48 : Int32)) then some v11 else ob (m_X9_here v11) (fun r23 => lt (st2 v11 0 12 ((((10 : Int32) * (v11 0 12)) + r23) - (48 : Int32))) (fun v24 => lt (st2 v24 0 9 ((v24 0 9) + (1 : Int32))) (fun v25 => rec12 v25))))))))))) xF r10) = some w' ∧ FS w' s 0 l t' u m ∧ w' 6 = w 6 ∧ FRM w w' := by
    intro y hy
    obtain ⟨w4, e1, e2, e3, e4⟩ := r_takesN F3 hf hy
    refine ⟨w4, x - 48, ?_, e2, by rw [e3, h6], FRM_t fr e4⟩
    obtain ⟨F, hF, _⟩ := xFs
    rw [e1, q_ob, hF, lp, q_u1, if_pos (show w4 0 10 = 0 from e2.2.1)]
  unfold m_X9_takesNumber
  rw [hh, q_ob, q_lt, ← hw3, hh3, q_ob]
  simp only [q_lt] at key ⊢
  rw [hx48]
  by_cases c1 : s < L ∧ isD (T s)
  · have hv : w3 0 12 = nI (T s - 48) := by rw [F3.2.2.2.1, hxv c1.1 c1.2]
    have h127 := (hT.2.2 s c1.1).2.2
    rw [if_pos c1, if_neg (by decide), hv]
    by_cases c2 : a ≤ T s - 48
    · rw [if_neg (nI_nlt c2 (by omega))]
      by_cases c3 : T s - 48 ≤ b
      · rw [if_neg (nI_nlt c3 (by omega))]
        exact key 1 (by
          rcases hp with hp | hp
          · exact Or.inl hp
          · exact absurd ⟨c1.1, c1.2, c2, c3⟩ hp)
      · rw [if_pos (nI_lt (by omega) (by omega))]
        exact key 0 (Or.inr rfl)
    · rw [if_pos (nI_lt (by omega) (by omega))]
      exact key 0 (Or.inr rfl)
  · rw [if_neg c1, if_pos (by decide)]
    exact key 0 (Or.inr rfl)
theorem mostN_b (l : Nat) : mostN l ≤ 255 := by unfold mostN; split; omega; split <;> omega
theorem leastN_b (l : Nat) : leastN l ≤ 1 := by unfold leastN; split <;> omega
theorem J_numY {T : Nat → Nat} {L l p : Nat} (hl3 : l = 119 ∨ l = 101 ∨ l = 116) {c w : xSt} {t0 u m : Int32} (hT : TX T L w) (hF : FS w p 1 (nI l) t0 u m) (h0 : c 0 0 = nI 1) (h1 : c 0 1 = nI l) (hp : p < L) (hd : isD (T p)) (ha : leastN l ≤ T p - 48) (hb : T p - 48 ≤ mostN l) : ∃ n c' w' t', rn T c p n = some c' ∧ 0 < n ∧ p + n ≤ L ∧ m_X9_takesNumber w (nI (leastN l)) (nI (mostN l)) = some w' ∧ FS w' (p + n) 1 (nI l) (nI t') u m ∧ w' 6 = w 6 ∧ FRM w w' ∧ t' ≤ mostN l ∧ c' 0 0 = nI 2 ∧ c' 0 1 = nI l ∧ c' 0 2 = nI t' ∧ c' 0 3 = c 0 3 ∧ c' 1 = c 1 ∧ (p + n < L → isD (T (p + n)) → ¬ (0 < t' ∧ 10 * t' + (T (p + n) - 48) ≤ mostN l)) ∧ (∀ i, p ≤ i → i < p + n → ¬ T i = 59) := by
  have hL := hT.1
  have hm := mostN_b l
  have hle := leastN_b l
  obtain ⟨c1, k1, k2, k3, k4, k5, k6, k7, k8⟩ := S1a h0 h1 hl3 hd ha hb
  have hh := r_here hT hF.1 (by omega)
  rw [if_pos hp] at hh
  have e48 : nI (T p) - 48 = nI (T p - 48) := by rw [show (48 : Int32) = nI 48 from rfl, q_sub hd.1]
  obtain ⟨w3, hw3⟩ : ∃ w3, w3 = st2 w 0 12 (nI (T p - 48)) := ⟨_, rfl⟩
  have F3 : FS w3 p 1 (nI l) (nI (T p - 48)) u m := by rw [hw3]; exact FS_12 hF _
  have fr : FRM w w3 := by rw [hw3]; exact FRM_0 (by omega)
  have h6 : w3 6 = w 6 := by rw [hw3]; exact q_sn (by omega)
  have hh3 := r_here (TX_c hT fr) F3.1 (by omega)
  rw [if_pos hp] at hh3
  obtain ⟨w4, e1, e2, e3, e4⟩ := r_takesY F3
  obtain ⟨n, c', w', t', y1, y2, y3, y4, y5, y6, y7, y8, y9, y10, y11, y12, y13, y14, y15, y16⟩ := J_loop hl3 (L - (p + 1)) (p + 1) (T p - 48) c1 w4 (by omega) (TX_c hT (FRM_t fr e4)) e2 hb k2 k3 k4
  refine ⟨n + 1, c', w', t', by rw [rn_s k1]; exact y1, by omega, by omega, ?_, by rw [show p + (n + 1) = p + 1 + n by omega]; exact y4, by rw [y5, e3, h6], FRM_t fr (FRM_t e4 y6), y7, y8, y9, y10, by rw [y11, k5], by rw [y12, k6], by rw [show p + (n + 1) = p + 1 + n by omega]; exact y15, fun i a b => ?_⟩
  · have hxw := xwiD (T := T) (L := L) (s := p) (fun i hi => (hT.2.2 i hi).2.2)
    rw [if_pos hp, if_pos (show p < L ∧ isD (T p) from ⟨hp, hd⟩)] at hxw
    unfold m_X9_takesNumber
    rw [hh, q_ob, q_lt, e48, ← hw3, hh3, q_ob]
    rw [q_lt, q_lt, hxw, if_neg (by decide), F3.2.2.2.1, if_neg (nI_nlt ha (by omega)), if_neg (nI_nlt hb (by omega))]
    show ob (m_X9_takes w3 1) _ = _
    rw [e1, q_ob]
    exact y3 xF (xFg (by omega))
  · by_cases e : i = p
    · rw [e]; unfold isD at hd; omega
    · exact y16 i (by omega) (by omega)
theorem fgH {T : Nat → Nat} {L s : Nat} (h : ∀ i, i < L → T i < 127) : m_X9_figure (if s < L then nI (T s) else -1) = some (if s < L ∧ isH (T s) then nI (hvl (T s)) else -1) := by
  by_cases c : s < L
  · rw [if_pos c, fgR _ (h s c)]
    by_cases d : isH (T s)
    · rw [if_pos (show ((48 ≤ T s ∧ T s ≤ 57) ∨ (97 ≤ T s ∧ T s ≤ 102)) from d), if_pos (show s < L ∧ isH (T s) from ⟨c, d⟩)]
    · rw [if_neg (show ¬ ((48 ≤ T s ∧ T s ≤ 57) ∨ (97 ≤ T s ∧ T s ≤ 102)) from d), if_neg (fun x => d x.2)]
  · rw [if_neg c, if_neg (fun x => c x.1)]
    decide +kernel
/-- 1 for a figure here -/
def bH (T : Nat → Nat) (L s : Nat) : Nat := if s < L ∧ isH (T s) then 1 else 0
def fH (T : Nat → Nat) (L s : Nat) : Int32 := if s < L ∧ isH (T s) then nI (hvl (T s)) else -1
theorem bH_f {T : Nat → Nat} {L s : Nat} : (if fH T L s < 0 then (0 : Int32) else (1 : Int32)) = nI (bH T L s) := by
  unfold fH bH
  by_cases c : s < L ∧ isH (T s)
  · rw [if_pos c, if_pos c, if_neg (show ¬ nI (hvl (T s)) < (0 : Int32) from nI_nlt (Nat.zero_le _) (by have := hvl_b c.2; omega))]
    rfl
  · rw [if_neg c, if_neg c, if_pos (by decide)]
    rfl
theorem bH_b {T : Nat → Nat} {L s : Nat} : bH T L s < 2 := by unfold bH; split <;> omega
theorem R_val {T : Nat → Nat} {L : Nat} {w : xSt} {s f m : Nat} {l t u : Int32} (hT : TX T L w) (h : FS w s f l t u (nI m)) (hf : f < 2) (hs : s ≤ L) (hm : m < 8) : ∃ w', m_X9_takesValue w = some w' ∧ FS w' (s + f * bH T L s + f * bH T L s * bH T L (s + f * bH T L s)) (f * bH T L s * bH T L (s + f * bH T L s)) l t u (nI (m + 1)) ∧ w' 6 = va_up (w 6) m (16 * fH T L s + fH T L (s + f * bH T L s)) ∧ FRM w w' := by
  have hL := hT.1
  have hc : ∀ i, i < L → T i < 127 := fun i hi => (hT.2.2 i hi).2.2
  have hb1 := bH_b (T := T) (L := L) (s := s)
  obtain ⟨w1, e1, e2, e3, e4⟩ := r_takes h hf hb1
  have hf1 : f * bH T L s < 2 := by
    have : f = 0 ∨ f = 1 := by omega
    rcases this with rfl | rfl <;> omega
  obtain ⟨s1, hs1⟩ : ∃ s1, s1 = s + f * bH T L s := ⟨_, rfl⟩
  obtain ⟨f1, hfe⟩ : ∃ f1, f1 = f * bH T L s := ⟨_, rfl⟩
  rw [← hs1, ← hfe] at e2 ⊢
  rw [← hfe] at hf1
  obtain ⟨w2, g1, g2, g3, g4⟩ := r_takes e2 hf1 (bH_b (T := T) (L := L) (s := s1))
  have hh := r_here hT h.1 (by omega)
  have hh1 := r_here (TX_c hT e4) e2.1 (by omega)
  have hm14 := g2.2.2.2.2.2
  refine ⟨st2 (st2 w2 6 m (16 * fH T L s + fH T L s1)) 0 14 (nI (m + 1)), ?_, FS_14 (FS_6 g2 _ _) _, ?_, FRM_t e4 (FRM_t g4 (FRM_t FRM_6 (FRM_0 (by omega))))⟩
  · unfold m_X9_takesValue
    rw [hh, q_ob, fgH hc, q_ob, q_lj]
    rw [show (if (if s < L ∧ isH (T s) then nI (hvl (T s)) else (-1 : Int32)) < 0 then (0 : Int32) else (1 : Int32)) = nI (bH T L s) from bH_f]
    rw [e1, q_ob, hh1, q_ob, fgH hc, q_ob, q_lj]
    rw [show (if (if s1 < L ∧ isH (T s1) then nI (hvl (T s1)) else (-1 : Int32)) < 0 then (0 : Int32) else (1 : Int32)) = nI (bH T L s1) from bH_f]
    rw [g1, q_ob, hm14, q_cl (by omega), q_ck (by rw [show (0 : Int32) = nI 0 from rfl, q_lts (by omega) (by omega)]; omega)]
    simp only [q_lt]
    rw [q_sn (show (0 : Nat) ≠ 6 by omega), hm14, show nI m + 1 = nI (m + 1) from nI_1 m]
    rfl
  · rw [q_sn (by omega), q_ss, g3, e3]
