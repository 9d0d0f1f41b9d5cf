/-! THE CLASS: small methods' closed forms -/
theorem pu_i {b n j : Nat} {v w : xSt} (h : b ≤ j) (h2 : j < b + n) : pu b n v w j = w (j - b) := if_pos ⟨h, h2⟩
theorem pu_o {b n j : Nat} {v w : xSt} (h : j < b ∨ b + n ≤ j) : pu b n v w j = v j := if_neg (by omega)
theorem sh_e {α : Type} {b j : Nat} {v : Nat → α} : sh b v j = v (b + j) := rfl
theorem ct_l {α : Type} {n j : Nat} {a b : Nat → α} (h : j < n) : ct n a b j = a j := if_pos h
theorem ct_h {α : Type} {n j : Nat} {a b : Nat → α} (h : n ≤ j) : ct n a b j = b (j - n) := if_neg (by omega)
theorem lkm_le {l : Nat} (hl : l ≤ 4) : (if nI l ≤ 0 then (0 : Int32) else (1 : Int32) <<< ((nI l - 1) &&& 31)) = lkm (nI l) := by
  have : ∀ l, l < 5 → (if nI l ≤ 0 then (0 : Int32) else (1 : Int32) <<< ((nI l - 1) &&& 31)) = lkm (nI l) := by decide +kernel
  exact this l (by omega)
theorem e_hold {u : xSt} {l : Nat} {s : Int32} (h : u 0 0 = nI l) (hl : l ≤ 4) : m_X2_hold u s = some (lk (u 0 0) (u 0 1) s) := by
  have e := lkm_le hl
  unfold m_X2_hold lk
  rw [h, ← e]
  simp only [q_lt]
  by_cases c : nI l ≤ 0 <;> by_cases c2 : u 0 1 = 1
  · simp only [if_pos c, if_pos c2]
    by_cases h3 : s < 8 - (0 : Int32)
    · rw [if_pos h3, if_pos h3]
    · rw [if_neg h3, if_neg h3]
  · simp only [if_pos c, if_neg c2]
    by_cases h3 : (0 : Int32) ≤ s
    · rw [if_pos h3, if_pos h3]
    · rw [if_neg h3, if_neg h3]
  · simp only [if_neg c, if_pos c2]
    by_cases h3 : s < 8 - (1 : Int32) <<< ((nI l - 1) &&& 31)
    · rw [if_pos h3, if_pos h3]
    · rw [if_neg h3, if_neg h3]
  · simp only [if_neg c, if_neg c2]
    by_cases h3 : (1 : Int32) <<< ((nI l - 1) &&& 31) ≤ s
    · rw [if_pos h3, if_pos h3]
    · rw [if_neg h3, if_neg h3]
theorem lk_01 (l d s : Int32) : lk l d s = 0 ∨ lk l d s = 1 := by
  unfold lk
  by_cases h : d = 1
  · rw [if_pos h]
    by_cases h2 : s < 8 - lkm l
    · exact Or.inl (if_pos h2)
    · exact Or.inr (if_neg h2)
  · rw [if_neg h]
    by_cases h2 : lkm l ≤ s
    · exact Or.inl (if_pos h2)
    · exact Or.inr (if_neg h2)
theorem e_valueFor {c : xSt} {k : Int32} : m_X4_valueFor c k = some (xvf (c 0 1) (c 1) k) := by
  unfold m_X4_valueFor xvf
  simp only [q_lt]
  by_cases h : k < 0
  · rw [if_pos h, if_pos h]
  by_cases h2 : k < c 0 1
  · rw [if_neg h, if_neg h, if_pos h2, if_pos h2]
  · rw [if_neg h, if_neg h, if_neg h2, if_neg h2]
theorem xat_n {N i : Nat} {f : Nat → Int32} (h : i < N) (hN : N < 2147483648) : xat N f (nI i) = f i := by
  unfold xat
  rw [if_neg (nI_pos (by omega)), if_neg (show ¬ Int32.ofNat N ≤ nI i from nI_ge h hN), q_cl (by omega)]
theorem xpt_n {N i : Nat} {f : Nat → Int32} {x : Int32} (h : i < N) (hN : N < 2147483648) : xpt N f (nI i) x = va_up f i x := by
  unfold xpt
  rw [if_neg (nI_pos (by omega)), if_neg (show ¬ Int32.ofNat N ≤ nI i from nI_ge h hN), q_cl (by omega)]
/-- where the value for a step stands -/
def vi (m k : Nat) : Nat := if k + 8 < m then k + 8 else k
theorem xvf_n {m i : Nat} {r : Nat → Int32} (hm : m ≤ 12) (hi : i < m) : xvf (nI m) r (nI i) = r (vi m i) := by
  unfold xvf
  rw [if_neg (nI_pos (by omega)), if_pos (nI_lt hi (by omega))]
  have e : nI i + (nI m - 1 - nI i) / 8 * 8 = nI (vi m i) := by
    simp (disch := omega) only [li, q_lt, q_ob, q_u1, q_u2, q_u3, q_u4, nI_add, pk_mul, q_cl, q_lts, q_le, q_eq, q_sub, q_div, q_ck, q_st, va_up_self, Nat.reduceAdd, Nat.reduceMul]
    unfold vi
    congr 1
    split <;> omega
  rw [e, xat_n (by unfold vi; split <;> omega) (by omega)]
theorem xvf_x {m i : Nat} {r : Nat → Int32} (hm : m ≤ 12) (hi : m ≤ i) (hi2 : i < 2147483648) : xvf (nI m) r (nI i) = -1 := by
  unfold xvf
  rw [if_neg (nI_pos (by omega)), if_neg (nI_nlt hi (by omega))]
theorem s_X4_become (c : xSt) : ∃ r, m_X4_become c = some r ∧ r 0 = va_up (c 0) 1 (c 2 1) ∧ (∀ i, i < 12 → r 1 i = c 3 i) ∧ ∀ j, 2 ≤ j → r j = c j := by
  unfold m_X4_become
  rw [q_ck (by decide)]
  refine ⟨_, rfl, ?_, fun i hi => ?_, fun j hj => ?_⟩
  · rfl
  · show (va_up c 1 (va_cpy (c 3) (c 1) 0 0 12)) 1 i = c 3 i
    rw [va_up_self, pk_cpy_in (by omega) (by omega)]
    congr 1
    omega
  · show (st2 (va_up c 1 _) 0 1 _) j = c j
    rw [q_sn (by omega), va_up_ne _ _ (by omega)]
theorem s_X7_become {c : xSt} {u : Nat} (h : c 3 7 = nI u) (hu : u < 2) : ∃ r, m_X7_become c = some r ∧ (∀ j, j < 8 → r 0 j = c 3 j) ∧ r 1 1 = c 4 1 ∧ (∀ i, i < 12 → r 2 i = c 5 i) ∧ ∀ j, 3 ≤ j → r j = c j := by
  sorry
theorem e_X7_start (c : xSt) (a b t u : Int32) : ∃ r, m_X7_start c a b t u = some r ∧ r 0 = va_up (va_up (va_up (va_up (va_up (va_up (c 0) 0 a) 1 b) 4 t) 5 0) 6 u) 7 0 ∧ ∀ j, 1 ≤ j → r j = c j := by
  refine ⟨_, rfl, rfl, fun j hj => ?_⟩
  show (st2 (st2 (st2 (st2 (st2 (st2 c 0 0 a) 0 1 b) 0 4 t) 0 5 0) 0 6 u) 0 7 0) j = c j
  rw [q_sn (by omega), q_sn (by omega), q_sn (by omega), q_sn (by omega), q_sn (by omega), q_sn (by omega)]
theorem s_X7_end (c : xSt) : ∃ r, m_X7_end c = some r ∧ r 0 = va_up (va_up (va_up (va_up (va_up (va_up (c 0) 0 0) 1 (-1)) 4 0) 5 0) 6 (-1)) 7 0 ∧ ∀ j, 1 ≤ j → r j = c j := by
  obtain ⟨r, h, h2⟩ := e_X7_start c 0 (-1) 0 (-1)
  refine ⟨r, ?_, h2⟩
  unfold m_X7_end
  rw [h]
  rfl
