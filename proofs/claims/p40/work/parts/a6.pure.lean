/-! POST -/
theorem jnB_z {σ : Nat → Int32} {n i q k p u j : Nat} (hi : i ≤ n) (h : 617 + 18 * (n + 1) ≤ j) : jnB σ n i q k p u j = σ j := by
  unfold jnB jnA
  rw [va_up_ne _ _ (by omega), va_up_ne _ _ (by omega), fl_o (by omega), va_up_ne _ _ (by omega), va_up_ne _ _ (by omega), va_up_ne _ _ (by omega), va_up_ne _ _ (by omega), va_up_ne _ _ (by omega)]
  unfold sl
  rw [if_neg (by omega)]
/-- the numbers and urgencies that wait -/
def LF (σ : Nat → Int32) (n q : Nat) : Prop := ∀ r, r < n → ∃ a g, a < q ∧ g ≤ 9 ∧ σ (617 + 18 * r) = nI a ∧ σ (617 + 18 * r + 3) = nI g
theorem LF_of {B : Nat} {v : xSt} {σ : Nat → Int32} (H : R0 B v σ) : ∃ n q, n ≤ 10 ∧ q ≤ B ∧ σ 580 = nI n ∧ σ 566 = nI q ∧ LF σ n q := by
  obtain ⟨n, q, π, a1, a2, a3, a4, a5, a6, a7, a8, a9⟩ := H.2.2.2.2.2.2.1
  refine ⟨n, q, a1, a2, a3, a5, fun r hr => ?_⟩
  obtain ⟨⟨a, b1, b2, b3⟩, -, ⟨u, c1, c2, c3⟩, -⟩ := a8 r hr
  exact ⟨a, u, b1, c1, b3, c3⟩
theorem IS_jnB {σ : Nat → Int32} {n i q k p u : Nat} (H : IS σ) (hn : σ 580 = nI n) (hn1 : n < 10) (hi : i ≤ n) (hq : q < 100000000) (hu : u ≤ 9) (hF : LF σ n q) (h1 : ∀ r, i ≤ r → r < n → ¬ nI u ≤ σ (617 + 18 * r + 3)) (h2 : i = 0 ∨ nI u ≤ σ (617 + 18 * (i - 1) + 3)) : IS (jnB σ n i q k p u) := by
  obtain ⟨j1, j2, j3, j4, j5, j6⟩ := jnB_r (σ := σ) (n := n) (i := i) (q := q) (k := k) (p := p) (u := u)
  intro m hm hm1 a ha
  rw [jnB_n.1] at hm
  obtain rfl : n + 1 = m := (nI_eq (by omega) (by omega)).mp hm
  have lo : ∀ r, r < i → jnB σ n i q k p u (617 + 18 * r) = σ (617 + 18 * r) ∧ jnB σ n i q k p u (617 + 18 * r + 3) = σ (617 + 18 * r + 3) := fun r hr => ⟨jnB_lo (by omega) hi (by omega) (by omega), jnB_lo (by omega) hi (by omega) (by omega)⟩
  have hh : ∀ r, i ≤ r → r < n → jnB σ n i q k p u (617 + 18 * (r + 1)) = σ (617 + 18 * r) ∧ jnB σ n i q k p u (617 + 18 * (r + 1) + 3) = σ (617 + 18 * r + 3) := fun r hr hr2 => by
    refine ⟨(jnB_hi (by omega) (by omega) hi).trans (congrArg σ (by omega)), (jnB_hi (by omega) (by omega) hi).trans (congrArg σ (by omega))⟩
  rcases Nat.lt_or_ge (a + 1) i with c | c
  · exact so_e (H n hn (by omega) a (by omega)) (lo a (by omega)).1 (lo a (by omega)).2 (lo (a + 1) c).1 (lo (a + 1) c).2
  · rcases Nat.lt_or_ge a i with c2 | c2
    · obtain rfl : i = a + 1 := by omega
      obtain ⟨x, g, f1, f2, f3, f4⟩ := hF a (by omega)
      have hug : nI u ≤ σ (617 + 18 * a + 3) := by
        rcases h2 with h2 | h2
        · omega
        · exact h2
      rw [f4, nI_leI (by omega) (by omega)] at hug
      unfold so
      rw [j1, j4, (lo a (by omega)).1, (lo a (by omega)).2, f3, f4]
      by_cases e : u = g
      · subst e
        exact Or.inr ⟨rfl, nI_lt f1 (by omega)⟩
      · exact Or.inl (nI_lt (by omega) (by omega))
    · by_cases c3 : a = i
      · subst c3
        obtain ⟨x, g, f1, f2, f3, f4⟩ := hF a (by omega)
        have hug := h1 a (Nat.le_refl _) (by omega)
        rw [f4, nI_leI (by omega) (by omega)] at hug
        unfold so
        rw [j4, (hh a (by omega) (by omega)).2, f4]
        exact Or.inl (nI_lt (by omega) (by omega))
      · obtain ⟨b, rfl⟩ : ∃ b, a = b + 1 := ⟨a - 1, by omega⟩
        exact so_e (H n hn (by omega) b (by omega)) (hh b (by omega) (by omega)).1 (hh b (by omega) (by omega)).2 (hh (b + 1) (by omega) (by omega)).1 (hh (b + 1) (by omega) (by omega)).2
theorem IV_jnB {B n i q k p u : Nat} {σ : Nat → Int32} (H : IV B σ) (hn : σ 580 = nI n) (hn1 : n < 10) (hi : i ≤ n) (hq0 : σ 566 = nI q) (hqB : q ≤ B) (hB : B < 16000000) (hu : u ≤ 9) (hF : LF σ n q) (h1 : ∀ r, i ≤ r → r < n → ¬ nI u ≤ σ (617 + 18 * r + 3)) (h2 : i = 0 ∨ nI u ≤ σ (617 + 18 * (i - 1) + 3)) : IV (B + 1) (jnB σ n i q k p u) := by
  obtain ⟨g1, g2, ⟨m, q', g3, g4, g5, g6, g7⟩, g8, g9⟩ := H
  obtain rfl : m = n := (nI_eq (by omega) (by omega)).mp (g5.symm.trans hn)
  obtain rfl : q' = q := (nI_eq (by omega) (by omega)).mp (g6.symm.trans hq0)
  exact ⟨IC_c g1 (fun k hk => jnB_lo (by omega) hi (by omega) (by omega)), IS_jnB g2 hn hn1 hi (by omega) hu hF h1 h2, ⟨m + 1, q' + 1, by omega, by omega, jnB_n.1, jnB_n.2, by omega⟩, IF_b (IF_c g8 (fun k hk => jnB_lo (by omega) hi (by omega) (by omega))) (by omega), IZ_c g9 (fun k hk => jnB_z hi (by omega))⟩
/-- congruence of all but the insides of orders -/
theorem IV_k {B : Nat} {σ τ : Nat → Int32} (H : IV B σ) (g : ∀ k, k < 512 ∨ k = 561 ∨ k = 563 ∨ k = 566 ∨ k = 580 ∨ 797 ≤ k → τ k = σ k) (g2 : ∀ r, r < 10 → τ (617 + 18 * r) = σ (617 + 18 * r) ∧ τ (617 + 18 * r + 3) = σ (617 + 18 * r + 3)) : IV B τ := by
  refine ⟨IC_c H.1 (fun k hk => g k (by omega)), fun n hn hn1 r hr => ?_, IN_c H.2.2.1 (fun k hk => g k (by omega)), IF_c H.2.2.2.1 (fun k hk => g k (by omega)), IZ_c H.2.2.2.2 (fun k hk => g k (by omega))⟩
  rw [g 580 (by omega)] at hn
  exact so_e (H.2.1 n hn hn1 r hr) (g2 r (by omega)).1 (g2 r (by omega)).2 (g2 (r + 1) (by omega)).1 (g2 (r + 1) (by omega)).2
def PO (σ τ : Nat → Int32) (n i q k p u m : Nat) : Prop := i ≤ n ∧ τ 580 = nI (n + 1) ∧ τ (617 + 18 * i) = nI q ∧ τ (617 + 18 * i + 1) = nI k ∧ τ (617 + 18 * i + 2) = nI p ∧ τ (617 + 18 * i + 3) = nI u ∧ τ (617 + 18 * i + 4) = σ 561 ∧ τ 561 = σ 561 ∧ τ (617 + 18 * i + 5) = nI (if k = 0 then m else 0) ∧ τ 567 = nI (if k = 0 then 0 else m) ∧ (i < n → ∃ g, g < u ∧ τ (617 + 18 * (i + 1) + 3) = nI g) ∧ ∀ r, i < r → r ≤ n → ∃ a, a < q ∧ τ (617 + 18 * r) = nI a
theorem p4_0 {B B1 B2 B3 : Nat} {a b : Option (Int32 × xSt)} {t1 t2 t3 : Option (String × xSt)} {E1 E2 E3 : String} {z : Int32} {w' : xSt} (h : MN B a b ∨ MT B1 t1 E1 1 b ∨ MT B2 t2 E2 2 b ∨ MT B3 t3 E3 3 b) (e : b = some (z, w')) (k : w' 0 8 = 0) : MN B a b := by
  rcases h with h | h | h | h
  · exact h
  · exact absurd ((pk_t h e).symm.trans k) (by decide)
  · exact absurd ((pk_t h e).symm.trans k) (by decide)
  · exact absurd ((pk_t h e).symm.trans k) (by decide)
theorem p4_1 {B B1 B2 B3 : Nat} {a b : Option (Int32 × xSt)} {t1 t2 t3 : Option (String × xSt)} {E1 E2 E3 : String} {z : Int32} {w' : xSt} (h : MN B a b ∨ MT B1 t1 E1 1 b ∨ MT B2 t2 E2 2 b ∨ MT B3 t3 E3 3 b) (e : b = some (z, w')) (k : w' 0 8 = 1) : MT B1 t1 E1 1 b := by
  rcases h with h | h | h | h
  · exact absurd ((pk_n h e).symm.trans k) (by decide)
  · exact h
  · exact absurd ((pk_t h e).symm.trans k) (by decide)
  · exact absurd ((pk_t h e).symm.trans k) (by decide)
theorem p4_2 {B B1 B2 B3 : Nat} {a b : Option (Int32 × xSt)} {t1 t2 t3 : Option (String × xSt)} {E1 E2 E3 : String} {z : Int32} {w' : xSt} (h : MN B a b ∨ MT B1 t1 E1 1 b ∨ MT B2 t2 E2 2 b ∨ MT B3 t3 E3 3 b) (e : b = some (z, w')) (k : w' 0 8 = 2) : MT B2 t2 E2 2 b := by
  rcases h with h | h | h | h
  · exact absurd ((pk_n h e).symm.trans k) (by decide)
  · exact absurd ((pk_t h e).symm.trans k) (by decide)
  · exact h
  · exact absurd ((pk_t h e).symm.trans k) (by decide)
theorem p4_3 {B B1 B2 B3 : Nat} {a b : Option (Int32 × xSt)} {t1 t2 t3 : Option (String × xSt)} {E1 E2 E3 : String} {z : Int32} {w' : xSt} (h : MN B a b ∨ MT B1 t1 E1 1 b ∨ MT B2 t2 E2 2 b ∨ MT B3 t3 E3 3 b) (e : b = some (z, w')) (k : w' 0 8 = 3) : MT B3 t3 E3 3 b := by
  rcases h with h | h | h | h
  · exact absurd ((pk_n h e).symm.trans k) (by decide)
  · exact absurd ((pk_t h e).symm.trans k) (by decide)
  · exact absurd ((pk_t h e).symm.trans k) (by decide)
  · exact h
theorem PO_j {σ : Nat → Int32} {n i q k p u m : Nat} (hn1 : n < 10) (hi : i ≤ n) (hq : q < 100000000) (hu : u ≤ 9) (hF : LF σ n q) (h1 : ∀ r, i ≤ r → r < n → ¬ nI u ≤ σ (617 + 18 * r + 3)) (hk : k = 1) (hm : σ 567 = nI m) : PO σ (jnB σ n i q k p u) n i q k p u m := by
  subst hk
  obtain ⟨j1, j2, j3, j4, j5, j6⟩ := jnB_r (σ := σ) (n := n) (i := i) (q := q) (k := 1) (p := p) (u := u)
  refine ⟨hi, jnB_n.1, j1, j2, j3, j4, j5, jnB_lo (by omega) hi (by omega) (by omega), j6 0 (by omega), ?_, fun h => ?_, fun r hr hr2 => ?_⟩
  · rw [jnB_lo (by omega) hi (by omega) (by omega)]
    exact hm
  · obtain ⟨x, g, f1, f2, f3, f4⟩ := hF i h
    have hug := h1 i (Nat.le_refl _) h
    rw [f4, nI_leI (by omega) (by omega)] at hug
    refine ⟨g, by omega, ((jnB_hi (by omega) (by omega) hi).trans (congrArg σ (by omega))).trans f4⟩
  · obtain ⟨x, g, f1, f2, f3, f4⟩ := hF (r - 1) (by omega)
    exact ⟨x, f1, ((jnB_hi (by omega) (by omega) hi).trans (congrArg σ (by omega))).trans f3⟩
/-- .. of a write: its values behind it -/
def wpS (τ0 : Nat → Int32) (b : Nat) : Nat → Int32 := va_up (fl (fl (va_up τ0 (b + 5) (τ0 567)) (b + 6) 12 (fun t => τ0 (568 + t))) 568 12 (fun _ => nI 0)) 567 (nI 0)
theorem PO_w {σ : Nat → Int32} {n i q p u m : Nat} (hn1 : n < 10) (hi : i ≤ n) (hq : q < 100000000) (hu : u ≤ 9) (hF : LF σ n q) (h1 : ∀ r, i ≤ r → r < n → ¬ nI u ≤ σ (617 + 18 * r + 3)) (hm : σ 567 = nI m) : PO σ (wpS (jnB σ n i q 0 p u) (617 + 18 * i)) n i q 0 p u m := by
  obtain ⟨j1, j2, j3, j4, j5, j6⟩ := jnB_r (σ := σ) (n := n) (i := i) (q := q) (k := 0) (p := p) (u := u)
  have wo : ∀ j, j ≠ 567 → (j < 568 ∨ 580 ≤ j) → (j < 617 + 18 * i + 5 ∨ 617 + 18 * i + 18 ≤ j) → wpS (jnB σ n i q 0 p u) (617 + 18 * i) j = jnB σ n i q 0 p u j := by
    intro j a1 a2 a3
    unfold wpS
    rw [va_up_ne _ _ a1, fl_o (by omega), fl_o (by omega), va_up_ne _ _ (by omega)]
  refine ⟨hi, by rw [wo _ (by omega) (by omega) (by omega)]; exact jnB_n.1, by rw [wo _ (by omega) (by omega) (by omega)]; exact j1, by rw [wo _ (by omega) (by omega) (by omega)]; exact j2, by rw [wo _ (by omega) (by omega) (by omega)]; exact j3, by rw [wo _ (by omega) (by omega) (by omega)]; exact j4, by rw [wo _ (by omega) (by omega) (by omega)]; exact j5, by rw [wo _ (by omega) (by omega) (by omega)]; exact jnB_lo (by omega) hi (by omega) (by omega), ?_, ?_, fun h => ?_, fun r hr hr2 => ?_⟩
  · unfold wpS
    rw [va_up_ne _ _ (by omega), fl_o (by omega), fl_o (by omega), va_up_self, jnB_lo (by omega) hi (by omega) (by omega)]
    exact hm
  · unfold wpS
    exact va_up_self _ _ _
  · obtain ⟨x, g, f1, f2, f3, f4⟩ := hF i h
    have hug := h1 i (Nat.le_refl _) h
    rw [f4, nI_leI (by omega) (by omega)] at hug
    refine ⟨g, by omega, ?_⟩
    rw [wo _ (by omega) (by omega) (by omega)]
    exact ((jnB_hi (by omega) (by omega) hi).trans (congrArg σ (by omega))).trans f4
  · obtain ⟨x, g, f1, f2, f3, f4⟩ := hF (r - 1) (by omega)
    refine ⟨x, f1, ?_⟩
    rw [wo _ (by omega) (by omega) (by omega)]
    exact ((jnB_hi (by omega) (by omega) hi).trans (congrArg σ (by omega))).trans f3
theorem D_post {B : Nat} {v w : xSt} {p1 p2 p3 : Int32} (hJ : J B v w) (hB : B + 1 < 16000000) : ((xwi p1 0 1 = 0 ∨ xwi p3 0 9 = 0) ∧ NO B w (m_L_post v p1 p2 p3) (-102)) ∨ ∃ k u, k ≤ 1 ∧ p1 = nI k ∧ u ≤ 9 ∧ p3 = nI u ∧ (((k = 0 ∧ xwi p2 0 255 = 0 ∨ k = 1 ∧ xwi p2 0 7 = 0) ∧ NO B w (m_L_post v p1 p2 p3) (-101)) ∨ ∃ p n m q, p2 = nI p ∧ (k = 0 → p < 256) ∧ (k = 1 → p < 8) ∧ n ≤ 10 ∧ m ≤ 12 ∧ q ≤ B ∧ n ≤ q ∧ w 1 580 = nI n ∧ w 1 567 = nI m ∧ (((n = 10 ∨ (k = 0 ∧ m = 0)) ∧ NO B w (m_L_post v p1 p2 p3) (-103)) ∨ (n < 10 ∧ (k = 0 → 0 < m) ∧ ∃ i τ, PO (w 1) τ n i q k p u m ∧ OK (B + 1) w (m_L_post v p1 p2 p3) (nI q) τ))) := by
  have H := hJ.1
  have x1 : xwi p1 (0 : Int32) (1 : Int32) = 0 ∨ (xwi p1 (0 : Int32) (1 : Int32) = 1 ∧ ∃ j, 0 ≤ j ∧ j ≤ 1 ∧ p1 = nI j) := xwi_r p1 0 1 (by omega) (by omega)
  have x3 : xwi p3 (0 : Int32) (9 : Int32) = 0 ∨ (xwi p3 (0 : Int32) (9 : Int32) = 1 ∧ ∃ j, 0 ≤ j ∧ j ≤ 9 ∧ p3 = nI j) := xwi_r p3 0 9 (by omega) (by omega)
  have y0 : xwi p2 (0 : Int32) (255 : Int32) = 0 ∨ (xwi p2 (0 : Int32) (255 : Int32) = 1 ∧ ∃ j, 0 ≤ j ∧ j ≤ 255 ∧ p2 = nI j) := xwi_r p2 0 255 (by omega) (by omega)
  have y1 : xwi p2 (0 : Int32) (7 : Int32) = 0 ∨ (xwi p2 (0 : Int32) (7 : Int32) = 1 ∧ ∃ j, 0 ≤ j ∧ j ≤ 7 ∧ p2 = nI j) := xwi_r p2 0 7 (by omega) (by omega)
  rcases x1 with x1 | ⟨x1, k, -, hk, rfl⟩
  · left
    have e : m_X9_post w p1 p2 p3 = some (0, e8 w 1) := by
      unfold m_X9_post
      simp only [q_lt]
      rw [if_pos x1]
      rfl
    obtain ⟨v', hv, hJ'⟩ := NO_f hJ.2 (p4_1 (b_post H hB) e (e8_8 _ _)) e (EQ_f _ _)
    exact ⟨Or.inl x1, v', _, by unfold m_L_post m_L_post_n; exact L_t1 (XN_post hv) hv, EQ_f _ _, hJ'⟩
  have n1 : ¬ xwi (nI k) (0 : Int32) (1 : Int32) = 0 := by rw [x1]; decide
  rcases x3 with x3 | ⟨x3, u, -, hu, rfl⟩
  · left
    have e : m_X9_post w (nI k) p2 p3 = some (0, e8 w 1) := by
      unfold m_X9_post
      simp only [q_lt]
      rw [if_neg n1, if_pos x3]
      rfl
    obtain ⟨v', hv, hJ'⟩ := NO_f hJ.2 (p4_1 (b_post H hB) e (e8_8 _ _)) e (EQ_f _ _)
    exact ⟨Or.inr x3, v', _, by unfold m_L_post m_L_post_n; exact L_t1 (XN_post hv) hv, EQ_f _ _, hJ'⟩
  have n3 : ¬ xwi (nI u) (0 : Int32) (9 : Int32) = 0 := by rw [x3]; decide
  right
  refine ⟨k, u, hk, rfl, hu, rfl, ?_⟩
  obtain ⟨n, q, a1, a2, a3, a5, hF⟩ := LF_of H.1.1
  obtain ⟨n', q', c1, c2, c3, c4, hnq⟩ := hJ.2.1.2.2.1
  obtain rfl : n' = n := (nI_eq (by omega) (by omega)).mp (c3.symm.trans a3)
  obtain rfl : q' = q := (nI_eq (by omega) (by omega)).mp (c4.symm.trans a5)
  obtain ⟨m, m1, m2, m4, m5⟩ := RLd_f H.1.1.2.2.2.1
  have s580 : (st2 w 0 8 0) 1 580 = nI n' := by rw [q_sn (by omega)]; exact a3
  have s567 : (st2 w 0 8 0) 1 567 = nI m := by rw [q_sn (by omega)]; exact m4
  have n10 : ¬ n' < 10 → nI n' = (10 : Int32) := fun g => by rw [show n' = 10 by omega]; rfl
  have n10' : n' < 10 → ¬ nI n' = (10 : Int32) := fun g e => by
    have := (nI_eq (a := n') (b := 10) (by omega) (by omega)).mp e
    omega
  obtain ⟨i, hi, h1, h2'⟩ := ins_ex n' (fun r => ¬ nI u ≤ w 1 (617 + 18 * r + 3))
  have h2 : i = 0 ∨ nI u ≤ w 1 (617 + 18 * (i - 1) + 3) := h2'.imp id Classical.not_not.mp
  have kk : k = 0 ∨ k = 1 := by omega
  rcases kk with rfl | rfl
  · have k0 : nI 0 = (0 : Int32) := rfl
    rcases y0 with y0 | ⟨y0, p, -, hp, rfl⟩
    · left
      have e : m_X9_post w (nI 0) p2 (nI u) = some (0, e8 w 2) := by
        unfold m_X9_post
        simp only [q_lt]
        rw [if_neg n1, if_neg n3, if_pos k0, if_pos y0]
        rfl
      obtain ⟨v', hv, hJ'⟩ := NO_f hJ.2 (p4_2 (b_post H hB) e (e8_8 _ _)) e (EQ_f _ _)
      exact ⟨Or.inl ⟨rfl, y0⟩, v', _, by unfold m_L_post m_L_post_n; exact L_t2 xs_3 (XN_post hv) hv, EQ_f _ _, hJ'⟩
    have ny : ¬ xwi (nI p) (0 : Int32) (255 : Int32) = 0 := by rw [y0]; decide
    right
    refine ⟨p, n', m, q', rfl, fun _ => by omega, fun h => by omega, a1, m1, a2, hnq, a3, m4, ?_⟩
    by_cases hf : n' < 10
    · by_cases hm : m = 0
      · left
        have e : m_X9_post w (nI 0) (nI p) (nI u) = some (0, e8 w 3) := by
          unfold m_X9_post
          simp only [q_lt, kc580, kn580, kc567, kn567]
          rw [if_neg n1, if_neg n3, if_pos k0, if_neg ny, s580, if_neg (n10' hf), if_pos k0, s567, if_pos (by rw [hm]; rfl)]
          rfl
        obtain ⟨v', hv, hJ'⟩ := NO_f hJ.2 (p4_3 (b_post H hB) e (e8_8 _ _)) e (EQ_f _ _)
        exact ⟨Or.inr ⟨rfl, hm⟩, v', _, by unfold m_L_post m_L_post_n; exact L_t3 xs_1 xs_2 (XN_post hv) hv, EQ_f _ _, hJ'⟩
      · right
        have nm0 : ¬ nI m = (0 : Int32) := nI_ne0 (by omega) (by omega)
        obtain ⟨w1, e2, hS, hw1, h8, hj⟩ := sv_8 H
        have rp := r_posts (w := w1) (k := 0) (p := p) a3 hf hi a5 (by omega) h1 h2
        rw [show va_up w1 1 (w 1) = w1 by rw [← hw1]; exact va_up_id] at rp
        obtain ⟨τ0, hτ0⟩ : ∃ τ0, τ0 = jnB (w 1) n' i q' 0 p u := ⟨_, rfl⟩
        rw [← hτ0] at rp
        obtain ⟨b, hb⟩ : ∃ b, b = 617 + 18 * i := ⟨_, rfl⟩
        rw [← hb] at rp
        have hb1 : 617 ≤ b ∧ b + 18 ≤ 797 := by omega
        have t567 : τ0 567 = nI m := by rw [hτ0, jnB_lo (by omega) hi (by omega) (by omega)]; exact m4
        have r4 : τ0 566 = nI (q' + 1) := by rw [hτ0]; exact jnB_n.2
        obtain ⟨τ1, hτ1⟩ : ∃ τ1, τ1 = fl (va_up τ0 (b + 5) (τ0 567)) (b + 6) 12 (fun t => τ0 (568 + t)) := ⟨_, rfl⟩
        obtain ⟨τ, hτ⟩ : ∃ τ, τ = va_up (fl τ1 568 12 (fun _ => nI 0)) 567 (nI 0) := ⟨_, rfl⟩
        have e : m_X9_post w (nI 0) (nI p) (nI u) = some (nI q', va_up w1 1 τ) := by
          unfold m_X9_post
          simp only [q_lt, kc580, kn580, kc567, kn567]
          rw [if_neg n1, if_neg n3, if_pos k0, if_neg ny, s580, if_neg (n10' hf), if_pos k0, s567, if_neg nm0, e2, q_ob, rp, q_ob, if_pos k0]
          simp (disch := omega) only [li, q_ob, nI_add, q_cl, q_lts, q_le, q_ck, q_st, va_up_self, Nat.reduceAdd]
          refine lpf_r (fun t => (nI t, va_up w1 1 (fl (va_up τ0 (b + 5) (τ0 567)) (b + 6) t (fun t => τ0 (568 + t))))) 12 (xFg (by omega)) (by simp only [fl_0]) (fun t rec ht => ?_) (fun rec => ?_)
          · simp (disch := omega) only [li, q_lt, q_ob, q_u2, nI_add, q_cl, q_lts, q_le, q_ck, q_st, va_up_self, Nat.reduceAdd, fl_o, va_up_ne]
            rw [if_neg (by omega), fl_s (by omega) rfl]
          · have hul := r_unloads (w := w1) (σ := τ1)
            rw [← hτ] at hul
            have t566 : τ 566 - nI 1 = nI q' := by
              rw [hτ, va_up_ne _ _ (by omega), fl_o (by omega), hτ1, fl_o (by omega), va_up_ne _ _ (by omega), r4, q_sub (by omega)]
              rfl
            simp only [q_u2]
            rw [if_pos (by decide), ← hτ1, hul, q_ob, va_up_self, t566]
        have hτw : τ = wpS τ0 b := by rw [hτ, hτ1]; rfl
        have hP : PO (w 1) τ n' i q' 0 p u m := by
          rw [hτw, hτ0, hb]
          exact PO_w hf hi (by omega) hu hF h1 m4
        have hV0 : IV (B + 1) τ0 := by
          rw [hτ0]
          exact IV_jnB hJ.2.1 a3 hf hi a5 a2 (by omega) hu hF h1 h2
        have hV : IV (B + 1) τ := by
          refine IV_k hV0 (fun k hk => ?_) (fun r hr => ⟨?_, ?_⟩)
          · rw [hτ, va_up_ne _ _ (by omega), fl_o (by omega), hτ1, fl_o (by omega), va_up_ne _ _ (by omega)]
          · rw [hτ, va_up_ne _ _ (by omega), fl_o (by omega), hτ1, fl_o (by omega), va_up_ne _ _ (by omega)]
          · rw [hτ, va_up_ne _ _ (by omega), fl_o (by omega), hτ1, fl_o (by omega), va_up_ne _ _ (by omega)]
        obtain ⟨v', hv, hJ'⟩ := OK_f hJ.2 (Nat.le_succ _) (p4_0 (b_post H hB) e (fl8 h8)) e hS hV
        exact ⟨hf, fun _ => by omega, i, τ, hP, v', _, by unfold m_L_post m_L_post_n; exact L_n hv, SV_1 hS, va_up_self _ _ _, hJ'⟩
    · left
      have e : m_X9_post w (nI 0) (nI p) (nI u) = some (0, e8 w 3) := by
        unfold m_X9_post
        simp only [q_lt, kc580, kn580, kc567, kn567]
        rw [if_neg n1, if_neg n3, if_pos k0, if_neg ny, s580, if_pos (n10 hf)]
        rfl
      obtain ⟨v', hv, hJ'⟩ := NO_f hJ.2 (p4_3 (b_post H hB) e (e8_8 _ _)) e (EQ_f _ _)
      exact ⟨Or.inl (by omega), v', _, by unfold m_L_post m_L_post_n; exact L_t3 xs_1 xs_2 (XN_post hv) hv, EQ_f _ _, hJ'⟩
  · have k0 : ¬ nI 1 = (0 : Int32) := by decide
    rcases y1 with y1 | ⟨y1, p, -, hp, rfl⟩
    · left
      have e : m_X9_post w (nI 1) p2 (nI u) = some (0, e8 w 2) := by
        unfold m_X9_post
        simp only [q_lt]
        rw [if_neg n1, if_neg n3, if_neg k0, if_pos y1]
        rfl
      obtain ⟨v', hv, hJ'⟩ := NO_f hJ.2 (p4_2 (b_post H hB) e (e8_8 _ _)) e (EQ_f _ _)
      exact ⟨Or.inr ⟨rfl, y1⟩, v', _, by unfold m_L_post m_L_post_n; exact L_t2 xs_3 (XN_post hv) hv, EQ_f _ _, hJ'⟩
    have ny : ¬ xwi (nI p) (0 : Int32) (7 : Int32) = 0 := by rw [y1]; decide
    right
    refine ⟨p, n', m, q', rfl, fun h => by omega, fun _ => by omega, a1, m1, a2, hnq, a3, m4, ?_⟩
    by_cases hf : n' < 10
    · right
      obtain ⟨w1, e2, hS, hw1, h8, hj⟩ := sv_8 H
      have rp := r_posts (w := w1) (k := 1) (p := p) a3 hf hi a5 (by omega) h1 h2
      rw [show va_up w1 1 (w 1) = w1 by rw [← hw1]; exact va_up_id] at rp
      have e : m_X9_post w (nI 1) (nI p) (nI u) = some (nI q', va_up w1 1 (jnB (w 1) n' i q' 1 p u)) := by
        unfold m_X9_post
        simp only [q_lt, kc580, kn580, kc567, kn567, kc566, kn566]
        rw [if_neg n1, if_neg n3, if_neg k0, if_neg ny, s580, if_neg (n10' hf), if_neg k0, e2, q_ob, rp, q_ob, if_neg k0]
        show some (va_up w1 1 (jnB (w 1) n' i q' 1 p u) 1 566 - 1, va_up w1 1 (jnB (w 1) n' i q' 1 p u)) = _
        rw [va_up_self, jnB_n.2, show (1 : Int32) = nI 1 from rfl, q_sub (by omega)]
        rfl
      obtain ⟨v', hv, hJ'⟩ := OK_f hJ.2 (Nat.le_succ _) (p4_0 (b_post H hB) e (fl8 h8)) e hS (IV_jnB hJ.2.1 a3 hf hi a5 a2 (by omega) hu hF h1 h2)
      exact ⟨hf, fun h => by omega, i, _, PO_j hf hi (by omega) hu hF h1 rfl m4, v', _, by unfold m_L_post m_L_post_n; exact L_n hv, SV_1 hS, va_up_self _ _ _, hJ'⟩
    · left
      have e : m_X9_post w (nI 1) (nI p) (nI u) = some (0, e8 w 3) := by
        unfold m_X9_post
        simp only [q_lt, kc580, kn580, kc567, kn567]
        rw [if_neg n1, if_neg n3, if_neg k0, if_neg ny, s580, if_pos (n10 hf)]
        rfl
      obtain ⟨v', hv, hJ'⟩ := NO_f hJ.2 (p4_3 (b_post H hB) e (e8_8 _ _)) e (EQ_f _ _)
      exact ⟨Or.inl (by omega), v', _, by unfold m_L_post m_L_post_n; exact L_t3 xs_1 xs_2 (XN_post hv) hv, EQ_f _ _, hJ'⟩
