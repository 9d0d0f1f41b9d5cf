/-! AN ORDER JOINS: the reference -/
def sl (σ : Nat → Int32) (n k : Nat) : Nat → Int32 := fun j => if 617 + 18 * (n - k + 1) ≤ j ∧ j < 617 + 18 * (n + 1) then σ (j - 18) else σ j
theorem sl_lo {σ : Nat → Int32} {n k j : Nat} (h : j < 617 + 18 * (n - k + 1)) : sl σ n k j = σ j := if_neg (by omega)
theorem sl_0 {σ : Nat → Int32} {n : Nat} : sl σ n 0 = σ := by
  funext j
  exact if_neg (by omega)
theorem sl_s {σ : Nat → Int32} {n k : Nat} (hk : k < n) : fl (sl σ n k) (617 + 18 * (n - k)) 18 (fun t => σ (617 + 18 * (n - k - 1) + t)) = sl σ n (k + 1) := by
  funext j
  unfold sl
  by_cases h : 617 + 18 * (n - k) ≤ j ∧ j < 617 + 18 * (n - k) + 18
  · rw [fl_i h.1 h.2, if_pos (by omega)]
    exact congrArg σ (by omega)
  · rw [fl_o (by omega)]
    by_cases h2 : 617 + 18 * (n - k + 1) ≤ j ∧ j < 617 + 18 * (n + 1)
    · rw [if_pos h2, if_pos (by omega)]
    · rw [if_neg h2, if_neg (by omega)]
theorem ins_ex (n : Nat) (g : Nat → Prop) : ∃ i, i ≤ n ∧ (∀ r, i ≤ r → r < n → g r) ∧ (i = 0 ∨ ¬ g (i - 1)) := by
  induction n with
  | zero => exact ⟨0, by omega, fun r a b => by omega, Or.inl rfl⟩
  | succ n ih =>
    by_cases h : g n
    · obtain ⟨i, h1, h2, h3⟩ := ih
      refine ⟨i, by omega, fun r a b => ?_, h3⟩
      by_cases e : r = n
      · rw [e]; exact h
      · exact h2 r a (by omega)
    · exact ⟨n + 1, by omega, fun r a b => by omega, Or.inr h⟩
theorem nI_dc {a : Nat} (h : 1 ≤ a) : nI a + -nI 1 = nI (a - 1) := by
  rw [← Int32.sub_eq_add_neg]
  exact q_sub h
def jnA (σ : Nat → Int32) (n i q k p u : Nat) : Nat → Int32 := va_up (va_up (va_up (va_up (va_up (sl σ n (n - i)) (617 + 18 * i) (nI q)) (617 + 18 * i + 1) (nI k)) (617 + 18 * i + 2) (nI p)) (617 + 18 * i + 3) (nI u)) (617 + 18 * i + 4) (σ 561)
def jnB (σ : Nat → Int32) (n i q k p u : Nat) : Nat → Int32 := va_up (va_up (fl (jnA σ n i q k p u) (617 + 18 * i + 5) 13 (fun _ => nI 0)) 580 (nI (n + 1))) 566 (nI (q + 1))
theorem jnA_o {σ : Nat → Int32} {n i q k p u j : Nat} (h : j < 617 + 18 * i) (hi : i ≤ n) : jnA σ n i q k p u j = σ j := by
  unfold jnA
  rw [va_up_ne _ _ (by omega), va_up_ne _ _ (by omega), va_up_ne _ _ (by omega), va_up_ne _ _ (by omega), va_up_ne _ _ (by omega), sl_lo (by omega)]
theorem r_postT {w : xSt} {σ : Nat → Int32} {n i q k p u : Nat} (hn : σ 580 = nI n) (hn1 : n < 10) (hi : i ≤ n) (hq : σ 566 = nI q) (hq1 : q < 100000000) :
    lp (fun (rec20 : Int32 × xSt → Option (Int32 × xSt)) => un2 (fun (a18 : Int32) (v19 : xSt) => (if (18 : Int32) ≤ a18 then ck (¬ ((580 : Int32) < 0 ∨ 797 ≤ (580 : Int32).toNatClampNeg)) (ck (¬ ((580 : Int32) < 0 ∨ 797 ≤ (580 : Int32).toNatClampNeg)) (lt (st2 v19 1 (580 : Int32).toNatClampNeg ((v19 1 (580 : Int32).toNatClampNeg) + (1 : Int32))) (fun v24 => ck (¬ ((566 : Int32) < 0 ∨ 797 ≤ (566 : Int32).toNatClampNeg)) (ck (¬ ((566 : Int32) < 0 ∨ 797 ≤ (566 : Int32).toNatClampNeg)) (lt (st2 v24 1 (566 : Int32).toNatClampNeg ((v24 1 (566 : Int32).toNatClampNeg) + (1 : Int32))) (fun v27 => some (((617 : Int32) + ((18 : Int32) * (nI i))), v27))))))) else ck (¬ ((((617 : Int32) + ((18 : Int32) * (nI i))) + a18) < 0 ∨ 797 ≤ (((617 : Int32) + ((18 : Int32) * (nI i))) + a18).toNatClampNeg)) (lt (st2 v19 1 (((617 : Int32) + ((18 : Int32) * (nI i))) + a18).toNatClampNeg (0 : Int32)) (fun v29 => rec20 ((a18 + 1), v29)))))) xF ((5 : Int32), va_up w 1 (jnA σ n i q k p u)) = some (nI (617 + 18 * i), va_up w 1 (jnB σ n i q k p u)) := by
  refine lpf_r (fun m => (nI (5 + m), va_up w 1 (fl (jnA σ n i q k p u) (617 + 18 * i + 5) m (fun _ => nI 0)))) 13 (xFg (by omega)) (by simp only [fl_0]; rfl) (fun m rec hm => ?_) (fun rec => ?_)
  · simp (disch := omega) only [li, q_lt, q_ob, q_u1, q_u2, q_u3, q_u4, nI_add, pk_mul, q_cl, q_lts, q_le, q_eq, q_sub, q_div, q_ck, q_st, va_up_self, Nat.reduceAdd, Nat.reduceMul]
    rw [if_neg (by omega), fl_s (by omega) rfl]
    rfl
  · have e1 : fl (jnA σ n i q k p u) (617 + 18 * i + 5) 13 (fun _ => nI 0) 580 = nI n := by rw [fl_o (by omega), jnA_o (by omega) hi, hn]
    have e2 : fl (jnA σ n i q k p u) (617 + 18 * i + 5) 13 (fun _ => nI 0) 566 = nI q := by rw [fl_o (by omega), jnA_o (by omega) hi, hq]
    simp (disch := omega) only [li, q_lt, q_ob, q_u1, q_u2, q_u3, q_u4, nI_add, pk_mul, q_cl, q_lts, q_le, q_eq, q_sub, q_div, q_ck, q_st, va_up_self, Nat.reduceAdd, Nat.reduceMul, e1, e2, va_up_ne]
    rw [if_pos (by omega)]
    rfl
