/-! AN ORDER JOINS: both sides -/
/-- where it goes, and what the line is before -/
theorem s_jn {B u : Nat} {v c : xSt} {σ : Nat → Int32} (H : RR B v σ) (hc : ∀ j, j < 32 → c j = v (14 + j)) : ∃ n q i π, n ≤ 10 ∧ q ≤ B ∧ σ 580 = nI n ∧ c 0 1 = nI n ∧ σ 566 = nI q ∧ c 0 2 = nI q ∧ PM 10 π (c 1) ∧ PM 10 π (v 15) ∧ i ≤ n ∧ (∀ r, r < n → c (2 + 3 * π r) 3 = σ (617 + 18 * r + 3)) ∧ (∀ r, i ≤ r → r < n → ¬ nI u ≤ σ (617 + 18 * r + 3)) ∧ (i = 0 ∨ nI u ≤ σ (617 + 18 * (i - 1) + 3)) ∧ (∀ r, r < n → q < 2000000000 → ¬ c (2 + 3 * π r) 0 = nI q) ∧ (∀ r, r < n → ROd q (v (16 + 3 * π r)) (v (17 + 3 * π r) 1) (v (18 + 3 * π r)) σ (617 + 18 * r)) ∧ ∀ r r', r < n → r' < n → σ (617 + 18 * r) = σ (617 + 18 * r') → r = r' := by
  obtain ⟨n, q, π, a1, a2, a3, a4, a5, a6, a7, a8, a9⟩ := H.1.2.2.2.2.2.2.1
  obtain ⟨i, b1, b2, b3⟩ := ins_ex n (fun r => ¬ nI u ≤ σ (617 + 18 * r + 3))
  refine ⟨n, q, i, π, a1, a2, a3, by rw [hc 0 (by omega)]; exact a4, a5, by rw [hc 0 (by omega)]; exact a6, by rw [hc 1 (by omega)]; exact a7, a7, b1, fun r hr => ?_, b2, ?_, fun r hr hq2 => ?_, a8, a9⟩
  · have hπ := (a7.1 r (by omega)).1
    obtain ⟨-, -, ⟨u', u1, u2, u3⟩, -⟩ := a8 r hr
    rw [hc _ (by omega), show 14 + (2 + 3 * π r) = 16 + 3 * π r by omega, u2, u3]
  · rcases b3 with b3 | b3
    · exact Or.inl b3
    · exact Or.inr (Classical.not_not.mp b3)
  · have hπ := (a7.1 r (by omega)).1
    obtain ⟨⟨a, g1, g2, g3⟩, -⟩ := a8 r hr
    rw [hc _ (by omega), show 14 + (2 + 3 * π r) = 16 + 3 * π r by omega, g2, nI_eq (by omega) (by omega)]
    omega
theorem s_joinE {B n u p : Nat} {v c : xSt} {σ : Nat → Int32} (H : RR B v σ) (hB : B + 1 < 16000000) (hn : σ 580 = nI n) (hn1 : n < 10) (hp : p < 8) (hu : u ≤ 9) (hc : ∀ j, j < 32 → c j = v (14 + j)) : ∃ q b c2 τ, m_X1_join c (nI 2) (nI p) (nI u) (v 0 8) = some (nI q, c2) ∧ (∀ w, m_X9_posts (va_up w 1 σ) (nI 1) (nI p) (nI u) = some (nI b, va_up w 1 τ)) ∧ τ 566 = nI (q + 1) ∧ q < 16000000 ∧ ∀ v', (∀ j, j < 32 → v' (14 + j) = c2 j) → (∀ j, j < 14 ∨ j = 46 → v' j = v j) → RR (B + 1) v' τ := by
  obtain ⟨n', q, i, π, a1, a2, a3, a4, a5, a6, a7, a7', a8, a9, a10, a11, a12, a13, a14⟩ := s_jn (u := u) H hc
  obtain rfl : n' = n := (nI_eq (by omega) (by omega)).mp (a3.symm.trans hn)
  have cln := (a7.1 n' hn1).1
  obtain ⟨z1, z2, z3, z4, z5, z6⟩ := jnB_r (σ := σ) (n := n') (i := i) (q := q) (k := 1) (p := p) (u := u)
  obtain ⟨y1, y2⟩ := jnB_n (σ := σ) (n := n') (i := i) (q := q) (k := 1) (p := p) (u := u)
  obtain ⟨x1, x2, x3, x4, x5, x6⟩ := jnC_k (c := c) (n := n') (i := i) (q := q) (kk := π n') (K := nI 2) (P := nI p) (U := nI u) (X := v 0 8)
  refine ⟨q, 617 + 18 * i, _, jnB σ n' i q 1 p u, s_join a4 hn1 a6 a7 a8 a9 a10 a11, fun w => r_posts a3 hn1 a8 a5 (by omega) a10 a11, y2, by omega, fun v' g1 g2 => ⟨?_, ?_⟩⟩
  · refine R0_line H.1 (by omega) g2 (fun k k1 k2 k3 => jnB_lo (by omega) a8 k2 k3) ?_
    refine RLn_j hn1 a8 (by omega) (by omega) a7' a13 a14 y1 y2 (fun r t hr ht => jnB_lo (by omega) a8 (by omega) (by omega)) (fun r t hr hr2 ht => ?_) ⟨⟨q, by omega, ?_, z1⟩, ⟨1, p, 0, by omega, ?_, z2, ?_, z3, by omega, by omega, ⟨?_, by omega, fun t ht => by omega⟩, z6 0 (by omega), by omega⟩, ⟨u, hu, ?_, z4⟩, ?_⟩ z1 ?_ ?_ ?_ (fun j j1 j2 j3 j4 j5 => ?_)
    · rw [jnB_hi (by omega) (by omega) a8]
      exact congrArg σ (by omega)
    · rw [show 16 + 3 * π n' = 14 + (2 + 3 * π n') by omega, g1 _ (by omega), x1]
    · rw [show 16 + 3 * π n' = 14 + (2 + 3 * π n') by omega, g1 _ (by omega), x2]
    · rw [show 16 + 3 * π n' = 14 + (2 + 3 * π n') by omega, g1 _ (by omega), x3]
    · rw [show 17 + 3 * π n' = 14 + (2 + 3 * π n' + 1) by omega, g1 _ (by omega), x6]
      rfl
    · rw [show 16 + 3 * π n' = 14 + (2 + 3 * π n') by omega, g1 _ (by omega), x4]
    · rw [show 16 + 3 * π n' = 14 + (2 + 3 * π n') by omega, g1 _ (by omega), x5, z5, H.2]
    · rw [show (14 : Nat) = 14 + 0 from rfl, g1 0 (by omega), jnC_0, va_up_ne _ _ (by omega), va_up_self]
    · rw [show (14 : Nat) = 14 + 0 from rfl, g1 0 (by omega), jnC_0, va_up_self]
    · rw [show (15 : Nat) = 14 + 1 from rfl, g1 1 (by omega), jnC_1, hc 1 (by omega)]
    · rw [show j = 14 + (j - 14) by omega, g1 _ (by omega), jnC_o (by omega) (by omega) (by omega), hc _ (by omega)]
  · rw [g2 0 (by omega), jnB_lo (by omega) a8 (by omega) (by omega)]
    exact H.2
theorem s_joinW {B n u p m : Nat} {v c : xSt} {σ : Nat → Int32} (H : RR B v σ) (hB : B + 1 < 16000000) (hn : σ 580 = nI n) (hn1 : n < 10) (hp : p < 256) (hu : u ≤ 9) (hc : ∀ j, j < 32 → c j = v (14 + j)) (hm1 : 1 ≤ m) (hm : m ≤ 12) (hcm : c 32 1 = nI m) : ∃ q b c2 τ0, 617 ≤ b ∧ b + 18 ≤ 797 ∧ m_X1_joinWrite c (nI p) (nI u) (v 0 8) = some (nI q, c2) ∧ (∀ w, m_X9_posts (va_up w 1 σ) (nI 0) (nI p) (nI u) = some (nI b, va_up w 1 τ0)) ∧ τ0 566 = nI (q + 1) ∧ q < 16000000 ∧ (∀ j, j < 617 → j ≠ 566 → j ≠ 580 → τ0 j = σ j) ∧ c2 32 = c 32 ∧ c2 33 = c 33 ∧ ∀ τ v', (∀ j, j < b + 5 ∨ b + 18 ≤ j → τ j = τ0 j) → τ (b + 5) = nI m → (∀ t, t < m → c 33 t = τ (b + 6 + t) ∧ ∃ a, a < 256 ∧ τ (b + 6 + t) = nI a) → (∀ j, j < 32 → v' (14 + j) = c2 j) → (∀ j, j < 14 ∨ j = 46 → v' j = v j) → RR (B + 1) v' τ := by
  obtain ⟨n', q, i, π, a1, a2, a3, a4, a5, a6, a7, a7', a8, a9, a10, a11, a12, a13, a14⟩ := s_jn (u := u) H hc
  obtain rfl : n' = n := (nI_eq (by omega) (by omega)).mp (a3.symm.trans hn)
  have cln := (a7.1 n' hn1).1
  obtain ⟨z1, z2, z3, z4, z5, z6⟩ := jnB_r (σ := σ) (n := n') (i := i) (q := q) (k := 0) (p := p) (u := u)
  obtain ⟨y1, y2⟩ := jnB_n (σ := σ) (n := n') (i := i) (q := q) (k := 0) (p := p) (u := u)
  obtain ⟨x1, x2, x3, x4, x5, x6⟩ := jnC_k (c := c) (n := n') (i := i) (q := q) (kk := π n') (K := 1) (P := nI p) (U := nI u) (X := v 0 8)
  obtain ⟨c2, f1, f2, f3, f4, f5, f6, f7, f8, f9⟩ := s_joinWrite (P := nI p) (X := v 0 8) a4 hn1 a6 a7 a8 a9 a10 a11 (fun r hr => a12 r hr (by omega))
  refine ⟨q, 617 + 18 * i, c2, jnB σ n' i q 0 p u, by omega, by omega, f1, fun w => r_posts a3 hn1 a8 a5 (by omega) a10 a11, y2, by omega, fun j j1 j2 j3 => jnB_lo (by omega) a8 j2 j3, f8, f9, fun τ v' e1 e2 e3 g1 g2 => ⟨?_, ?_⟩⟩
  · refine R0_line H.1 (by omega) g2 (fun k k1 k2 k3 => by rw [e1 k (by omega)]; exact jnB_lo (by omega) a8 k2 k3) ?_
    refine RLn_j hn1 a8 (by omega) (by omega) a7' a13 a14 (by rw [e1 _ (by omega)]; exact y1) (by rw [e1 _ (by omega)]; exact y2) (fun r t hr ht => by rw [e1 _ (by omega)]; exact jnB_lo (by omega) a8 (by omega) (by omega)) (fun r t hr hr2 ht => ?_) ⟨⟨q, by omega, ?_, ?_⟩, ⟨0, p, m, by omega, ?_, ?_, ?_, ?_, fun _ => hp, by omega, ⟨?_, hm, fun t ht => ?_⟩, e2, fun _ => hm1⟩, ⟨u, hu, ?_, ?_⟩, ?_⟩ (by rw [e1 _ (by omega)]; exact z1) ?_ ?_ ?_ (fun j j1 j2 j3 j4 j5 => ?_)
    · rw [e1 _ (by omega), jnB_hi (by omega) (by omega) a8]
      exact congrArg σ (by omega)
    · rw [show 16 + 3 * π n' = 14 + (2 + 3 * π n') by omega, g1 _ (by omega), f4, x1]
    · rw [e1 _ (by omega)]; exact z1
    · rw [show 16 + 3 * π n' = 14 + (2 + 3 * π n') by omega, g1 _ (by omega), f4, x2]
      rfl
    · rw [e1 _ (by omega)]; exact z2
    · rw [show 16 + 3 * π n' = 14 + (2 + 3 * π n') by omega, g1 _ (by omega), f4, x3]
    · rw [e1 _ (by omega)]; exact z3
    · rw [show 17 + 3 * π n' = 14 + (2 + 3 * π n' + 1) by omega, g1 _ (by omega), f5, hcm]
    · rw [show 18 + 3 * π n' = 14 + (2 + 3 * π n' + 2) by omega, g1 _ (by omega), f6 t (by omega)]
      exact e3 t ht
    · rw [show 16 + 3 * π n' = 14 + (2 + 3 * π n') by omega, g1 _ (by omega), f4, x4]
    · rw [e1 _ (by omega)]; exact z4
    · rw [show 16 + 3 * π n' = 14 + (2 + 3 * π n') by omega, g1 _ (by omega), f4, x5, e1 _ (by omega), z5, H.2]
    · rw [show (14 : Nat) = 14 + 0 from rfl, g1 0 (by omega), f2, jnC_0, va_up_ne _ _ (by omega), va_up_self]
    · rw [show (14 : Nat) = 14 + 0 from rfl, g1 0 (by omega), f2, jnC_0, va_up_self]
    · rw [show (15 : Nat) = 14 + 1 from rfl, g1 1 (by omega), f3, jnC_1, hc 1 (by omega)]
    · rw [show j = 14 + (j - 14) by omega, g1 _ (by omega), f7 _ (by omega) (by omega) (by omega) (by omega) (by omega), hc _ (by omega)]
  · rw [g2 0 (by omega), e1 _ (by omega), jnB_lo (by omega) a8 (by omega) (by omega)]
    exact H.2
