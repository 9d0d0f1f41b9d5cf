/-! AN ORDER JOINS: the reference's line -/
theorem r_posts {w : xSt} {σ : Nat → Int32} {n i q k p u : Nat} (hn : σ 580 = nI n) (hn1 : n < 10) (hi : i ≤ n) (hq : σ 566 = nI q) (hq1 : q < 100000000) (h1 : ∀ r, i ≤ r → r < n → ¬ nI u ≤ σ (617 + 18 * r + 3)) (h2 : i = 0 ∨ nI u ≤ σ (617 + 18 * (i - 1) + 3)) : m_X9_posts (va_up w 1 σ) (nI k) (nI p) (nI u) = some (nI (617 + 18 * i), va_up w 1 (jnB σ n i q k p u)) := by
  have T := r_postT (w := w) (k := k) (p := p) (u := u) hn hn1 hi hq hq1
  unfold m_X9_posts
  rw [q_ck (by decide)]
  refine lpf_r (fun m => (nI (n - m), va_up w 1 (sl σ n m))) (n - i) (xFg (by omega)) (by rw [kn580, va_up_self, hn, sl_0]; rfl) (fun m rec hm => ?_) (fun rec => ?_)
  · have h1' := h1 (n - m - 1) (by omega) (by omega)
    clear T
    simp (disch := omega) only [li, q_lt, q_ob, q_u1, q_u2, q_u3, q_u4, nI_add, pk_mul, q_cl, q_lts, q_le, q_eq, q_sub, q_div, q_ck, q_st, va_up_self, Nat.reduceAdd, Nat.reduceMul, r_ofOrder, sl_lo]
    rw [if_neg (by omega), if_neg h1']
    refine lpf_r (fun t => (nI t, va_up w 1 (fl (sl σ n m) (617 + 18 * (n - m)) t (fun t => σ (617 + 18 * (n - m - 1) + t))))) 18 (xFg (by omega)) (by simp only [fl_0]) (fun t rec2 ht => ?_) (fun rec2 => ?_)
    · simp (disch := omega) only [li, q_lt, q_ob, q_u1, q_u2, q_u3, q_u4, nI_add, pk_mul, q_cl, q_lts, q_le, q_eq, q_sub, q_div, q_ck, q_st, va_up_self, Nat.reduceAdd, Nat.reduceMul, r_ofOrder, sl_lo, fl_o]
      rw [if_neg (by omega), fl_s (by omega) rfl]
    · simp (disch := omega) only [li, q_lt, q_ob, q_u1, q_u2, q_u3, q_u4, nI_add, pk_mul, q_cl, q_lts, q_le, q_eq, q_sub, q_div, q_ck, q_st, va_up_self, Nat.reduceAdd, Nat.reduceMul]
      rw [if_pos (by omega), nI_dc (by omega), sl_s (by omega)]
      rfl
  · have e2 : n - (n - i) = i := by omega
    have e3 : sl σ n (n - i) 566 = nI q := by rw [sl_lo (by omega), hq]
    have e4 : sl σ n (n - i) 561 = σ 561 := sl_lo (by omega)
    simp (disch := omega) only [li, q_lt, q_ob, q_u2, nI_add, pk_mul, q_cl, q_lts, q_le, q_eq, q_sub, q_ck, q_st, va_up_self, va_up_ne, Nat.reduceAdd, Nat.reduceMul, Nat.add_zero, e2, e3, e4] at T ⊢
    by_cases h0 : i = 0
    · rw [if_pos (by omega)]
      exact T
    · rw [if_neg (by omega), r_ofOrder (by omega), q_ob, sl_lo (by omega), if_pos (by rcases h2 with h2 | h2; exact absurd h2 h0; exact h2)]
      exact T
