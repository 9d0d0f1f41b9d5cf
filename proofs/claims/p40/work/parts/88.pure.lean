/-! AN ORDER JOINS: the tie -/
theorem jnA_hi {σ : Nat → Int32} {n i q k p u j : Nat} (h : 617 + 18 * i + 18 ≤ j) (h2 : j < 617 + 18 * (n + 1)) (hi : i ≤ n) : jnA σ n i q k p u j = σ (j - 18) := by
  unfold jnA
  rw [va_up_ne _ _ (by omega), va_up_ne _ _ (by omega), va_up_ne _ _ (by omega), va_up_ne _ _ (by omega), va_up_ne _ _ (by omega)]
  exact if_pos (by omega)
theorem jnB_lo {σ : Nat → Int32} {n i q k p u j : Nat} (h : j < 617 + 18 * i) (hi : i ≤ n) (h1 : j ≠ 566) (h2 : j ≠ 580) : jnB σ n i q k p u j = σ j := by
  unfold jnB
  rw [va_up_ne _ _ h1, va_up_ne _ _ h2, fl_o (by omega), jnA_o h hi]
theorem jnB_hi {σ : Nat → Int32} {n i q k p u j : Nat} (h : 617 + 18 * i + 18 ≤ j) (h2 : j < 617 + 18 * (n + 1)) (hi : i ≤ n) : jnB σ n i q k p u j = σ (j - 18) := by
  unfold jnB
  rw [va_up_ne _ _ (by omega), va_up_ne _ _ (by omega), fl_o (by omega), jnA_hi h h2 hi]
theorem jnB_n {σ : Nat → Int32} {n i q k p u : Nat} : jnB σ n i q k p u 580 = nI (n + 1) ∧ jnB σ n i q k p u 566 = nI (q + 1) := by
  unfold jnB
  rw [va_up_self, va_up_ne _ _ (by omega), va_up_self]
  exact ⟨rfl, rfl⟩
theorem jnB_r {σ : Nat → Int32} {n i q k p u : Nat} : jnB σ n i q k p u (617 + 18 * i) = nI q ∧ jnB σ n i q k p u (617 + 18 * i + 1) = nI k ∧ jnB σ n i q k p u (617 + 18 * i + 2) = nI p ∧ jnB σ n i q k p u (617 + 18 * i + 3) = nI u ∧ jnB σ n i q k p u (617 + 18 * i + 4) = σ 561 ∧ ∀ t, t < 13 → jnB σ n i q k p u (617 + 18 * i + 5 + t) = nI 0 := by
  unfold jnB
  refine ⟨?_, ?_, ?_, ?_, ?_, fun t ht => ?_⟩
  · rw [va_up_ne _ _ (by omega), va_up_ne _ _ (by omega), fl_o (by omega)]
    unfold jnA
    rw [va_up_ne _ _ (by omega), va_up_ne _ _ (by omega), va_up_ne _ _ (by omega), va_up_ne _ _ (by omega), va_up_self]
  · rw [va_up_ne _ _ (by omega), va_up_ne _ _ (by omega), fl_o (by omega)]
    unfold jnA
    rw [va_up_ne _ _ (by omega), va_up_ne _ _ (by omega), va_up_ne _ _ (by omega), va_up_self]
  · rw [va_up_ne _ _ (by omega), va_up_ne _ _ (by omega), fl_o (by omega)]
    unfold jnA
    rw [va_up_ne _ _ (by omega), va_up_ne _ _ (by omega), va_up_self]
  · rw [va_up_ne _ _ (by omega), va_up_ne _ _ (by omega), fl_o (by omega)]
    unfold jnA
    rw [va_up_ne _ _ (by omega), va_up_self]
  · rw [va_up_ne _ _ (by omega), va_up_ne _ _ (by omega), fl_o (by omega)]
    unfold jnA
    rw [va_up_self]
  · rw [va_up_ne _ _ (by omega), va_up_ne _ _ (by omega), fl_i (by omega) (by omega)]
def gI (i n r : Nat) : Nat := if r < i then r else if r = i then n else if r ≤ n then r - 1 else r
theorem gI_b {i n r : Nat} (hi : i ≤ n) (hn : n < 10) (hr : r < 10) : gI i n r < 10 := by
  unfold gI
  split
  · omega
  · split
    · omega
    · split <;> omega
theorem gI_i {i n a b : Nat} (hi : i ≤ n) (h : gI i n a = gI i n b) : a = b := by
  unfold gI at h
  split at h
  · split at h
    · exact h
    · split at h
      · omega
      · split at h <;> omega
  · split at h
    · split at h
      · omega
      · split at h
        · omega
        · split at h <;> omega
    · split at h
      · split at h
        · omega
        · split at h
          · omega
          · split at h <;> omega
      · split at h
        · omega
        · split at h
          · omega
          · split at h <;> omega
theorem RLn_j {B n q i : Nat} {π : Nat → Nat} {v v' : xSt} {σ τ : Nat → Int32} (hn1 : n < 10) (hi : i ≤ n) (hqB : q + 1 ≤ B) (hq1 : q < 100000000) (hp : PM 10 π (v 15)) (hro : ∀ r, r < n → ROd q (v (16 + 3 * π r)) (v (17 + 3 * π r) 1) (v (18 + 3 * π r)) σ (617 + 18 * r)) (hd : ∀ r r', r < n → r' < n → σ (617 + 18 * r) = σ (617 + 18 * r') → r = r')
    (t1 : τ 580 = nI (n + 1)) (t2 : τ 566 = nI (q + 1)) (tl : ∀ r t, r < i → t < 18 → τ (617 + 18 * r + t) = σ (617 + 18 * r + t)) (th : ∀ r t, i < r → r ≤ n → t < 18 → τ (617 + 18 * r + t) = σ (617 + 18 * (r - 1) + t)) (tn : ROd (q + 1) (v' (16 + 3 * π n)) (v' (17 + 3 * π n) 1) (v' (18 + 3 * π n)) τ (617 + 18 * i)) (tq : τ (617 + 18 * i) = nI q)
    (g1 : v' 14 1 = nI (n + 1)) (g2 : v' 14 2 = nI (q + 1)) (g3 : v' 15 = va_up (slf (v 15) n (n - i)) i (nI (π n))) (g4 : ∀ j, 16 ≤ j → j < 46 → j ≠ 16 + 3 * π n → j ≠ 17 + 3 * π n → j ≠ 18 + 3 * π n → v' j = v j) : RLn B v' τ := by
  have cq : ∀ a, a < 10 → v 15 a = nI (π a) := fun a ha => (hp.1 a ha).2
  have cl : ∀ a, a < 10 → π a < 10 := fun a ha => (hp.1 a ha).1
  have row : ∀ r t, r ≤ n → r ≠ i → t < 18 → gI i n r < n ∧ τ (617 + 18 * r + t) = σ (617 + 18 * gI i n r + t) := by
    intro r t hr hri ht
    unfold gI
    by_cases h : r < i
    · rw [if_pos h]
      exact ⟨by omega, tl r t h ht⟩
    · rw [if_neg h, if_neg hri, if_pos hr]
      exact ⟨by omega, th r t (by omega) hr ht⟩
  refine ⟨n + 1, q + 1, fun r => π (gI i n r), by omega, hqB, t1, g1, t2, g2, ⟨fun r hr => ⟨cl _ (gI_b hi hn1 hr), ?_⟩, fun r r' hr hr' e => gI_i hi (hp.2 _ _ (gI_b hi hn1 hr) (gI_b hi hn1 hr') e)⟩, fun r hr => ?_, fun r r' hr hr' e => ?_⟩
  · rw [g3, up_eq]
    unfold gI
    dsimp only
    by_cases h1 : r = i
    · rw [if_pos h1, if_neg (by omega), if_pos h1]
    · rw [if_neg h1]
      unfold slf
      by_cases h2 : r < i
      · rw [if_neg (by omega), if_pos h2, cq r hr]
      · rw [if_neg h2, if_neg h1]
        by_cases h3 : r ≤ n
        · rw [if_pos (by omega), if_pos h3, cq _ (by omega)]
        · rw [if_neg (by omega), if_neg h3, cq r hr]
  · dsimp only
    by_cases h1 : r = i
    · have : gI i n r = n := by unfold gI; rw [if_neg (by omega), if_pos h1]
      rw [this, h1]
      exact tn
    · have hr1 := row r 0 (by omega) h1 (by omega)
      have hne : π (gI i n r) ≠ π n := fun e => by
        have := hp.2 _ _ (gI_b hi hn1 (by omega)) hn1 e
        omega
      have hlt := cl _ (gI_b (r := r) hi hn1 (by omega))
      rw [g4 (16 + 3 * π (gI i n r)) (by omega) (by omega) (by omega) (by omega) (by omega), g4 (17 + 3 * π (gI i n r)) (by omega) (by omega) (by omega) (by omega) (by omega), g4 (18 + 3 * π (gI i n r)) (by omega) (by omega) (by omega) (by omega) (by omega)]
      exact ROd_c (hro _ hr1.1) (fun k hk => (row r k (by omega) h1 hk).2) (fun _ _ => rfl) (fun _ _ => rfl) (by omega)
  · by_cases h1 : r = i
    · by_cases h2 : r' = i
      · rw [h1, h2]
      · have hr1 := row r' 0 (by omega) h2 (by omega)
        obtain ⟨a, a1, a2, a3⟩ := (hro _ hr1.1).1
        rw [h1, tq] at e
        have e2 := hr1.2
        rw [Nat.add_zero, Nat.add_zero] at e2
        rw [e2, a3, nI_eq (by omega) (by omega)] at e
        omega
    · have hr0 := row r 0 (by omega) h1 (by omega)
      have e1 := hr0.2
      rw [Nat.add_zero, Nat.add_zero] at e1
      by_cases h2 : r' = i
      · obtain ⟨a, a1, a2, a3⟩ := (hro _ hr0.1).1
        rw [h2, tq, e1, a3, nI_eq (by omega) (by omega)] at e
        omega
      · have hr1 := row r' 0 (by omega) h2 (by omega)
        have e2 := hr1.2
        rw [Nat.add_zero, Nat.add_zero] at e2
        rw [e1, e2] at e
        exact gI_i hi (hd _ _ hr0.1 hr1.1 e)
