/-! AN ORDER JOINS: the class -/
def slf (f : Nat → Int32) (n m : Nat) : Nat → Int32 := fun j => if n - m + 1 ≤ j ∧ j ≤ n then f (j - 1) else f j
theorem slf_0 {f : Nat → Int32} {n : Nat} : slf f n 0 = f := by
  funext j
  exact if_neg (by omega)
theorem slf_lo {f : Nat → Int32} {n m j : Nat} (h : j < n - m + 1) : slf f n m j = f j := if_neg (by omega)
theorem slf_s {f : Nat → Int32} {n m : Nat} (h : m < n) : va_up (slf f n m) (n - m) (f (n - m - 1)) = slf f n (m + 1) := by
  funext j
  rw [up_eq]
  unfold slf
  by_cases e : j = n - m
  · rw [if_pos e, if_pos (by omega)]
    exact congrArg f (by omega)
  · rw [if_neg e]
    by_cases e2 : n - m + 1 ≤ j ∧ j ≤ n
    · rw [if_pos e2, if_pos (by omega)]
    · rw [if_neg e2, if_neg (by omega)]
def jnO (c : xSt) (n i kk : Nat) : xSt := st2 (st2 (va_up c 1 (slf (c 1) n (n - i))) 1 i (nI kk)) 0 1 (nI (n + 1))
theorem s_openPlace {n i u : Nat} {π : Nat → Nat} {c : xSt} {σ : Nat → Int32} (hn : c 0 1 = nI n) (hn1 : n < 10) (hp : PM 10 π (c 1)) (hi : i ≤ n) (hu : ∀ r, r < n → c (2 + 3 * π r) 3 = σ (617 + 18 * r + 3)) (h1 : ∀ r, i ≤ r → r < n → ¬ nI u ≤ σ (617 + 18 * r + 3)) (h2 : i = 0 ∨ nI u ≤ σ (617 + 18 * (i - 1) + 3)) : m_X1_openPlace c (nI u) = some (some (π n), jnO c n i (π n)) := by
  have cq : ∀ a, a < 10 → c 1 a = nI (π a) := fun a ha => (hp.1 a ha).2
  have cl : ∀ a, a < 10 → π a < 10 := fun a ha => (hp.1 a ha).1
  have cln := cl n hn1
  unfold m_X1_openPlace
  rw [hn, if_neg (show ¬ nI n < (0 : Int32) from nI_nlt (Nat.zero_le _) (by omega)), if_pos (show nI n < (10 : Int32) from nI_lt (b := 10) hn1 (by omega))]
  rw [q_ck (by rw [q_cl (by omega), show (0 : Int32) = nI 0 from rfl, q_lts (by omega) (by omega)]; omega)]
  rw [q_lt, q_cl (by omega), cq n hn1, q_cl (by omega), q_ck cln]
  refine lpf_r (fun m => (nI (n - m), va_up c 1 (slf (c 1) n m))) (n - i) (xFg (by omega)) (by rw [slf_0, va_up_id]; rfl) (fun m rec hm => ?_) (fun rec => ?_)
  · have h1' := h1 (n - m - 1) (by omega) (by omega)
    have hu' := hu (n - m - 1) (by omega)
    have cq' := cq (n - m - 1) (by omega)
    have cl' := cl (n - m - 1) (by omega)
    have s1 : slf (c 1) n m (n - m - 1) = nI (π (n - m - 1)) := by rw [slf_lo (by omega), cq']
    simp (disch := omega) only [li, q_lt, q_ob, q_u2, nI_add, pk_mul, q_cl, q_lts, q_le, q_eq, q_sub, q_ck, q_st, va_up_self, va_up_ne, Nat.reduceAdd, Nat.reduceMul, s1]
    rw [if_neg (by omega), hu', if_neg h1', ← cq', slf_s (by omega), nI_dc (by omega)]
    rfl
  · have e2 : n - (n - i) = i := by omega
    have fin : some (some (π n), st2 (st2 (va_up c 1 (slf (c 1) n (n - i))) 1 i (nI (π n))) 0 1 ((st2 (va_up c 1 (slf (c 1) n (n - i))) 1 i (nI (π n))) 0 1 + 1)) = some (some (π n), jnO c n i (π n)) := by
      unfold jnO
      rw [q_sn (by omega), va_up_ne _ _ (by omega), hn, show nI n + 1 = nI (n + 1) from nI_1 n]
    rw [q_u2, e2]
    rw [q_lt, q_ck (by rw [q_cl (by omega), show (0 : Int32) = nI 0 from rfl, q_lts (by omega) (by omega)]; omega), q_cl (by omega), q_lt, q_lt, fin]
    by_cases h0 : i = 0
    · rw [if_pos (by rw [h0]; decide)]
    · have hu' := hu (i - 1) (by omega)
      have cl' := cl (i - 1) (by omega)
      have s1 : slf (c 1) n (n - i) (i - 1) = nI (π (i - 1)) := by rw [slf_lo (by omega), cq _ (by omega)]
      have h2' : nI u ≤ σ (617 + 18 * (i - 1) + 3) := by rcases h2 with h2 | h2; exact absurd h2 h0; exact h2
      simp (disch := omega) only [li, q_lt, q_ob, nI_add, pk_mul, q_cl, q_lts, q_le, q_eq, q_sub, q_ck, va_up_self, va_up_ne, Nat.reduceAdd, Nat.reduceMul, s1]
      rw [if_neg (by omega), hu', if_pos h2']
def jnC (c : xSt) (n i q kk : Nat) (K P U X : Int32) : xSt := st2 (st2 (st2 (st2 (st2 (st2 (st2 (jnO c n i kk) (2 + 3 * kk) 0 (nI q)) (2 + 3 * kk) 1 K) (2 + 3 * kk) 2 P) (2 + 3 * kk) 3 U) (2 + 3 * kk) 4 X) (2 + 3 * kk + 1) 1 0) 0 2 (nI (q + 1))
theorem s_join {n i u q : Nat} {π : Nat → Nat} {c : xSt} {σ : Nat → Int32} {K P X : Int32} (hn : c 0 1 = nI n) (hn1 : n < 10) (hq : c 0 2 = nI q) (hp : PM 10 π (c 1)) (hi : i ≤ n) (hu : ∀ r, r < n → c (2 + 3 * π r) 3 = σ (617 + 18 * r + 3)) (h1 : ∀ r, i ≤ r → r < n → ¬ nI u ≤ σ (617 + 18 * r + 3)) (h2 : i = 0 ∨ nI u ≤ σ (617 + 18 * (i - 1) + 3)) : m_X1_join c K P (nI u) X = some (nI q, jnC c n i q (π n) K P (nI u) X) := by
  have cln := (hp.1 n hn1).1
  have o2 : (jnO c n i (π n)) 0 2 = nI q := by
    unfold jnO
    rw [q_ss, va_up_ne _ _ (by omega), q_sn (by omega), va_up_ne _ _ (by omega), hq]
  unfold m_X1_join
  rw [s_openPlace hn hn1 hp hi hu h1 h2, q_ob, q_lt, q_lt, q_oms, q_ck cln]
  simp only [q_lt]
  have e1 : (st2 (st2 (st2 (st2 (st2 (st2 (jnO c n i (π n)) (2 + 3 * π n) 0 (nI q)) (2 + 3 * π n) 1 K) (2 + 3 * π n) 2 P) (2 + 3 * π n) 3 (nI u)) (2 + 3 * π n) 4 X) (2 + 3 * π n + 1) 1 0) 0 2 = nI q := by
    rw [q_sn (by omega), q_sn (by omega), q_sn (by omega), q_sn (by omega), q_sn (by omega), q_sn (by omega), o2]
  rw [o2, e1, show nI q + 1 = nI (q + 1) from nI_1 q]
  have e2 : (jnC c n i q (π n) K P (nI u) X) (2 + 3 * π n) 0 = nI q := by
    unfold jnC
    rw [q_sn (by omega), q_sn (by omega), q_ss, va_up_ne _ _ (by omega), q_ss, va_up_ne _ _ (by omega), q_ss, va_up_ne _ _ (by omega), q_ss, va_up_ne _ _ (by omega), q_ss, va_up_self]
  show some ((jnC c n i q (π n) K P (nI u) X) (2 + 3 * π n) 0, jnC c n i q (π n) K P (nI u) X) = _
  rw [e2]
/-- what stands where after a join -/
theorem jnC_0 {c : xSt} {n i q kk : Nat} {K P U X : Int32} : jnC c n i q kk K P U X 0 = va_up (va_up (c 0) 1 (nI (n + 1))) 2 (nI (q + 1)) := by
  unfold jnC jnO
  rw [q_ss, q_sn (by omega), q_sn (by omega), q_sn (by omega), q_sn (by omega), q_sn (by omega), q_sn (by omega), q_ss, q_sn (by omega), va_up_ne _ _ (by omega)]
theorem jnC_1 {c : xSt} {n i q kk : Nat} {K P U X : Int32} : jnC c n i q kk K P U X 1 = va_up (slf (c 1) n (n - i)) i (nI kk) := by
  unfold jnC jnO
  rw [q_sn (by omega), q_sn (by omega), q_sn (by omega), q_sn (by omega), q_sn (by omega), q_sn (by omega), q_sn (by omega), q_sn (by omega), q_ss, va_up_self]
theorem jnC_k {c : xSt} {n i q kk : Nat} {K P U X : Int32} : jnC c n i q kk K P U X (2 + 3 * kk) 0 = nI q ∧ jnC c n i q kk K P U X (2 + 3 * kk) 1 = K ∧ jnC c n i q kk K P U X (2 + 3 * kk) 2 = P ∧ jnC c n i q kk K P U X (2 + 3 * kk) 3 = U ∧ jnC c n i q kk K P U X (2 + 3 * kk) 4 = X ∧ jnC c n i q kk K P U X (2 + 3 * kk + 1) 1 = 0 := by
  unfold jnC
  rw [q_sn (show 2 + 3 * kk ≠ 0 by omega), q_sn (show 2 + 3 * kk ≠ 2 + 3 * kk + 1 by omega), q_sn (show 2 + 3 * kk + 1 ≠ 0 by omega), q_ss, q_ss, q_ss, q_ss, q_ss, q_ss]
  exact ⟨rfl, rfl, rfl, rfl, rfl, rfl⟩
theorem jnC_o {c : xSt} {n i q kk j : Nat} {K P U X : Int32} (h : 2 ≤ j) (hk : j ≠ 2 + 3 * kk) (hk2 : j ≠ 2 + 3 * kk + 1) : jnC c n i q kk K P U X j = c j := by
  unfold jnC jnO
  rw [q_sn (by omega), q_sn (by omega), q_sn (by omega), q_sn (by omega), q_sn (by omega), q_sn (by omega), q_sn (by omega), q_sn (by omega), q_sn (by omega), va_up_ne _ _ (by omega)]
