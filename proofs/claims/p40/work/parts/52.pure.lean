/-! finding the first of n: what both sides answer -/
def FD (i n : Nat) (p : Nat → Prop) (z : Int32) : Prop := (z = -1 ∧ ∀ r, i ≤ r → r < n → ¬ p r) ∨ ∃ r, i ≤ r ∧ r < n ∧ z = nI r ∧ p r ∧ ∀ t, i ≤ t → t < r → ¬ p t
theorem FD_u {i n : Nat} {p : Nat → Prop} {z y : Int32} (h : FD i n p z) (g : FD i n p y) : z = y := by
  rcases h with ⟨h1, h2⟩ | ⟨r, h1, h2, h3, h4, h5⟩ <;> rcases g with ⟨g1, g2⟩ | ⟨t, g1, g2, g3, g4, g5⟩
  · rw [h1, g1]
  · exact absurd g4 (h2 t g1 g2)
  · exact absurd h4 (g2 r h1 h2)
  · have : r = t := by
      rcases Nat.lt_trichotomy r t with c | c | c
      · exact absurd h4 (g5 r h1 c)
      · exact c
      · exact absurd g4 (h5 t g1 c)
    rw [h3, g3, this]
theorem FD_e {n : Nat} {p : Nat → Prop} : FD n n p (-1) := Or.inl ⟨rfl, fun r h1 h2 => absurd h2 (by omega)⟩
theorem FD_y {i n : Nat} {p : Nat → Prop} (hi : i < n) (h : p i) : FD i n p (nI i) := Or.inr ⟨i, Nat.le_refl _, hi, rfl, h, fun t h1 h2 => absurd h2 (by omega)⟩
theorem FD_n {i n : Nat} {p : Nat → Prop} {z : Int32} (h : ¬ p i) (g : FD (i + 1) n p z) : FD i n p z := by
  rcases g with ⟨g1, g2⟩ | ⟨t, g1, g2, g3, g4, g5⟩
  · refine Or.inl ⟨g1, fun r h1 h2 => ?_⟩
    by_cases c : r = i
    · rw [c]; exact h
    · exact g2 r (by omega) h2
  · refine Or.inr ⟨t, by omega, g2, g3, g4, fun r h1 h2 => ?_⟩
    by_cases c : r = i
    · rw [c]; exact h
    · exact g5 r (by omega) h2
theorem FD_c {i n : Nat} {p p' : Nat → Prop} {z : Int32} (h : ∀ r, i ≤ r → r < n → (p r ↔ p' r)) (g : FD i n p z) : FD i n p' z := by
  rcases g with ⟨g1, g2⟩ | ⟨t, g1, g2, g3, g4, g5⟩
  · exact Or.inl ⟨g1, fun r h1 h2 h3 => g2 r h1 h2 ((h r h1 h2).mpr h3)⟩
  · exact Or.inr ⟨t, g1, g2, g3, (h t g1 g2).mp g4, fun r h1 h2 h3 => g5 r h1 h2 ((h r h1 (by omega)).mpr h3)⟩
/-- a loop that goes up and stops at the first -/
theorem lp_fi {B : (Int32 → Option Int32) → Int32 → Option Int32} {s0 : Int32} {F n : Nat} {p : Nat → Prop} (hF : n < F) (h0 : s0 = nI 0) (hy : ∀ k rec, k < n → p k → B rec (nI k) = some (nI k)) (hn : ∀ k rec, k < n → ¬ p k → B rec (nI k) = rec (nI (k + 1))) (he : ∀ rec, B rec (nI n) = some (-1)) : wp (lp B F s0) (FD 0 n p) := by
  refine wp_lp (fun k s => s = nI k ∧ ∀ z, FD k n p z → FD 0 n p z) n hF ⟨h0, fun z h => h⟩ (fun k s rec hk hI => ?_) (fun s rec hI => ?_)
  · obtain ⟨rfl, hI⟩ := hI
    by_cases c : p k
    · exact Or.inr ⟨nI k, hy k rec hk c, hI _ (FD_y hk c)⟩
    · exact Or.inl ⟨nI (k + 1), ⟨rfl, fun z h => hI z (FD_n c h)⟩, hn k rec hk c⟩
  · obtain ⟨rfl, hI⟩ := hI
    exact ⟨-1, he rec, hI _ FD_e⟩
theorem xpred (i : Nat) : nI (i + 1) - nI 1 + -1 = nI i - nI 1 := by
  rw [show nI (i + 1) - nI 1 = nI i from nI_pred i]
  exact (Int32.sub_eq_add_neg (nI i) 1).symm
theorem xneg0 : nI 0 - nI 1 < 0 := by decide
theorem xpos0 {i : Nat} (h : i < 2147483647) : ¬ (nI (i + 1) - nI 1 < 0) := by
  rw [show nI (i + 1) - nI 1 = nI i from nI_pred i]
  exact nI_pos (by omega)
/-- a loop that goes down and keeps the last -/
theorem lp_fd {ρ : Type} {B : (Int32 × Int32 → Option ρ) → Int32 × Int32 → Option ρ} {s0 : Int32 × Int32} {F n : Nat} {p : Nat → Prop} {P : ρ → Prop} (hF : n < F) (h0 : s0 = (-1, nI n - nI 1)) (hy : ∀ i z rec, i < n → p i → B rec (z, nI (i + 1) - nI 1) = rec (nI i, nI (i + 1) - nI 1 + -1)) (hn : ∀ i z rec, i < n → ¬ p i → B rec (z, nI (i + 1) - nI 1) = rec (z, nI (i + 1) - nI 1 + -1)) (he : ∀ z rec, FD 0 n p z → wp (B rec (z, nI 0 - nI 1)) P) : wp (lp B F s0) P := by
  refine wp_lp (fun k s => s.2 = nI (n - k) - nI 1 ∧ FD (n - k) n p s.1) n hF (by rw [h0]; exact ⟨rfl, FD_e⟩) (fun k s rec hk hI => ?_) (fun s rec hI => ?_)
  · obtain ⟨z, a⟩ := s
    obtain ⟨h1, h2⟩ := hI
    simp only at h1 h2
    obtain ⟨i, hi⟩ : ∃ i, n - k = i + 1 := ⟨n - k - 1, by omega⟩
    have hi2 : n - (k + 1) = i := by omega
    rw [hi] at h1 h2
    subst h1
    left
    by_cases c : p i
    · refine ⟨_, ⟨?_, ?_⟩, hy i z rec (by omega) c⟩
      · rw [hi2]; exact xpred i
      · rw [hi2]; exact FD_y (by omega) c
    · refine ⟨_, ⟨?_, ?_⟩, hn i z rec (by omega) c⟩
      · rw [hi2]; exact xpred i
      · rw [hi2]; exact FD_n c h2
  · obtain ⟨z, a⟩ := s
    obtain ⟨h1, h2⟩ := hI
    rw [Nat.sub_self] at h1 h2
    simp only at h1 h2
    subst h1
    exact he z rec h2
theorem r_foremost {w : xSt} {σ : Nat → Int32} {n : Nat} (hn : σ 580 = nI n) (h1 : n ≤ 10) : wp (m_X9_foremost (va_up w 1 σ)) (FD 0 n (fun r => lk (σ 554) (σ 555) (sa σ r) = 0)) := by
  unfold m_X9_foremost
  simp only [kc580, kn580, va_up_self, q_lt, hn]
  refine lp_fd (p := fun r => lk (σ 554) (σ 555) (sa σ r) = 0) (xFg (by omega)) rfl (fun i z rec hi hp => ?_) (fun i z rec hi hp => ?_) (fun z rec h => ?_)
  · simp only [q_u2]
    rw [if_neg (xpos0 (by omega))]
    have e : nI (i + 1) - nI 1 = nI i := nI_pred i
    rw [e, r_sectorAt (by omega)]
    simp only [q_ob, r_locked]
    rw [if_pos hp]
  · simp only [q_u2]
    rw [if_neg (xpos0 (by omega))]
    have e : nI (i + 1) - nI 1 = nI i := nI_pred i
    rw [e, r_sectorAt (by omega)]
    simp only [q_ob, r_locked]
    rw [if_neg hp]
  · simp only [q_u2]
    rw [if_pos xneg0]
    exact wp_s h
/-- the orders that press an erase of the sector s with the urgency u -/
def prs (σ : Nat → Int32) (s u : Int32) (r : Nat) : Prop := σ (617 + 18 * r + 1) = 0 ∧ sa σ r ≠ s ∧ ¬ σ (617 + 18 * r + 3) < u + σ 560 ∧ lk (σ 554) (σ 555) (sa σ r) = 0
theorem r_presses {w : xSt} {σ : Nat → Int32} {n : Nat} {s u : Int32} (hn : σ 580 = nI n) (h1 : n ≤ 10) : wp (m_X9_presses (va_up w 1 σ) s u) (FD 0 n (prs σ s u)) := by
  unfold m_X9_presses
  simp only [kc580, kn580, va_up_self, q_lt, hn]
  refine lp_fd (p := prs σ s u) (xFg (by omega)) rfl (fun i z rec hi hp => ?_) (fun i z rec hi hp => ?_) (fun z rec h => ?_)
  · simp only [q_u2]
    rw [if_neg (xpos0 (by omega))]
    have e : nI (i + 1) - nI 1 = nI i := nI_pred i
    have o1 : m_X9_ofOrder (va_up w 1 σ) (nI i) 1 = some (σ (617 + 18 * i + 1)) := r_ofOrder (j := 1) (by omega)
    have o3 : m_X9_ofOrder (va_up w 1 σ) (nI i) 3 = some (σ (617 + 18 * i + 3)) := r_ofOrder (j := 3) (by omega)
    obtain ⟨p1, p2, p3, p4⟩ := hp
    rw [e, o1]
    simp only [q_ob, o3, r_sectorAt (show i < 10 by omega), r_locked, kc560, kn560, va_up_self]
    rw [if_pos p1, if_neg p2, if_neg p3, if_pos p4]
    rfl
  · simp only [q_u2]
    rw [if_neg (xpos0 (by omega))]
    have e : nI (i + 1) - nI 1 = nI i := nI_pred i
    have o1 : m_X9_ofOrder (va_up w 1 σ) (nI i) 1 = some (σ (617 + 18 * i + 1)) := r_ofOrder (j := 1) (by omega)
    have o3 : m_X9_ofOrder (va_up w 1 σ) (nI i) 3 = some (σ (617 + 18 * i + 3)) := r_ofOrder (j := 3) (by omega)
    rw [e, o1]
    simp only [q_ob, o3, r_sectorAt (show i < 10 by omega), r_locked, kc560, kn560, va_up_self]
    by_cases c1 : σ (617 + 18 * i + 1) = 0
    · rw [if_pos c1]
      by_cases c2 : sa σ i = s
      · rw [if_pos c2]; rfl
      · rw [if_neg c2]
        by_cases c3 : σ (617 + 18 * i + 3) < u + σ 560
        · rw [if_pos c3]; rfl
        · rw [if_neg c3]
          by_cases c4 : lk (σ 554) (σ 555) (sa σ i) = 0
          · exact absurd ⟨c1, c2, c3, c4⟩ hp
          · rw [if_neg c4]; rfl
    · rw [if_neg c1]; rfl
  · simp only [q_u2]
    rw [if_pos xneg0]
    exact wp_s h
theorem r_ones : ∀ k, k < 256 → m_X9_ones (nI k) = some (xbc (nI k)) := by decide +kernel
theorem r_falls {w : xSt} {σ : Nat → Int32} {c a b : Nat} (hc : c < 512) (ha : a < 256) (hb : b < 256) (h : σ c = nI a) : m_X9_falls (va_up w 1 σ) (nI c) (nI b) = some (va_up w 1 (va_up (va_up σ 563 (σ 563 + (xbc (nI a) - xbc (nI b)))) c (nI b))) := by
  unfold m_X9_falls
  simp (disch := omega) only [kc563, kn563, va_up_self, q_cl, q_ck, li, q_lts, h, r_ones a ha, r_ones b hb, q_ob, q_lt, q_st]
def rp (c k : Nat) : Nat := c / 8 * 8 + (c + k) % 8
theorem xrp_n {c k : Nat} (hc : c < 256) (hk : k < 256) : xrp (nI c) (nI k) = nI (rp c k) := by
  unfold xrp rp
  simp (disch := omega) only [li, q_lt, q_ob, q_u1, q_u2, q_u3, q_u4, nI_add, pk_mul, q_cl, q_lts, q_le, q_eq, q_sub, q_div, q_ck, q_st, va_up_self, Nat.reduceAdd, Nat.reduceMul]
  congr 2
  omega
theorem xrem {a d : Nat} (ha : a < 2147483648) (h0 : 0 < d) (hd : d < 2147483648) : nI a - nI a / nI d * nI d = nI (a % d) := pk_rem ha h0 hd
theorem nI_and (a b : Nat) : nI a &&& nI b = nI (a &&& b) := by
  apply Int32.toBitVec_inj.mp
  show BitVec.ofNat 32 a &&& BitVec.ofNat 32 b = BitVec.ofNat 32 (a &&& b)
  exact (BitVec.ofNat_and ..).symm
/-- a write that goes on: with the tick in which a cell falls, and without -/
theorem r_writesOn {w : xSt} {σ : Nat → Int32} {d e t c a b q m : Nat} (hd : σ 583 = nI d) (he : σ 585 = nI e) (ht : σ 584 = nI t) (hd0 : 0 < d) (hd1 : d < 100000) (he0 : 0 < e) (he1 : e < 100000) (ht1 : t < 100000) (hc : σ 582 = nI c) (hc1 : c < 256) (hq : d / e = q) (hm : d % e = m) (hq8 : q < 9) (ha : σ (rp c (q - 1)) = nI a) (ha1 : a < 256) (hb : σ (590 + (q - 1)) = nI b) (hb1 : b < 256) :
    m_X9_writesOn (va_up w 1 σ) = some (va_up w 1 (va_up (if m = 0 then va_up (va_up σ 563 (σ 563 + (xbc (nI a) - xbc (nI (a &&& b))))) (rp c (q - 1)) (nI (a &&& b)) else σ) 562 (σ 562 + (if d = t then nI 1 else nI 0)))) := by
  have hab1 : a &&& b < 256 := Nat.and_lt_two_pow (n := 8) _ hb1
  have hrp : rp c (q - 1) < 256 := by unfold rp; omega
  have hme : m < 100000 := by rw [← hm]; exact Nat.lt_trans (Nat.mod_lt _ he0) he1
  have hrem : nI d - nI (q * e) = nI m := by
    have := xrem (show d < 2147483648 by omega) he0 (show e < 2147483648 by omega)
    rw [pk_div (by omega) he0 (by omega), pk_mul, hq, hm] at this
    exact this
  have hq2 : q < 2147483648 := by omega
  have hx : xrp (nI c) (nI (q - 1)) = nI (rp c (q - 1)) := xrp_n hc1 (by omega)
  unfold xrp at hx
  have hf := r_falls (w := w) (σ := σ) (c := rp c (q - 1)) (a := a) (b := a &&& b) (by omega) ha1 hab1 ha
  unfold m_X9_writesOn
  by_cases hz : m = 0
  · have hq1 : 1 ≤ q := by
      rw [← hq]
      exact Nat.div_pos (Nat.le_of_dvd hd0 (Nat.dvd_of_mod_eq_zero (by rw [hm]; exact hz))) he0
    have h9 : 581 + (9 + (q - 1)) = 590 + (q - 1) := by omega
    have hu := r_under (w := w) (σ := σ) (j := 9 + (q - 1)) (by omega)
    rw [h9, hb] at hu
    have g3 : (va_up (va_up σ 563 (σ 563 + (xbc (nI a) - xbc (nI (a &&& b))))) (rp c (q - 1)) (nI (a &&& b))) 583 = nI d := by rw [va_up_ne _ _ (by omega), va_up_ne _ _ (by omega), hd]
    have g4 : (va_up (va_up σ 563 (σ 563 + (xbc (nI a) - xbc (nI (a &&& b))))) (rp c (q - 1)) (nI (a &&& b))) 584 = nI t := by rw [va_up_ne _ _ (by omega), va_up_ne _ _ (by omega), ht]
    have g2 : (va_up (va_up σ 563 (σ 563 + (xbc (nI a) - xbc (nI (a &&& b))))) (rp c (q - 1)) (nI (a &&& b))) 562 = σ 562 := by rw [va_up_ne _ _ (by omega), va_up_ne _ _ (by omega)]
    rw [if_pos hz]
    simp only [li] at hx
    simp (disch := omega) only [li, q_lt, q_ob, r_under, Nat.reduceAdd, hd, he, hc, ht, q_eq, q_ck, q_div, hq, pk_mul, hrem, q_sub]
    rw [if_pos hz]
    simp (disch := omega) only [nI_add, q_div, pk_mul, q_sub] at hx
    simp (disch := omega) only [nI_add, q_div, pk_mul, q_sub, hx, q_cl, q_lts, q_ck, hu, q_ob, va_up_self, ha, nI_and, hf, r_under, Nat.reduceAdd, g3, g4, g2, q_eq, q_st]
    by_cases hdt : d = t
    · rw [if_pos hdt, if_pos hdt]
    · rw [if_neg hdt, if_neg hdt]
  · rw [if_neg hz]
    simp (disch := omega) only [li, q_lt, q_ob, r_under, Nat.reduceAdd, hd, he, hc, ht, q_eq, q_ck, q_div, hq, pk_mul, hrem, q_sub]
    rw [if_neg hz]
    simp (disch := omega) only [q_cl, q_lts, q_ck, va_up_self, q_st]
    by_cases hdt : d = t
    · rw [if_pos hdt, if_pos hdt]
    · rw [if_neg hdt, if_neg hdt]
