/-! THE CLASS: small methods' closed forms -/
theorem pu_i {b n j : Nat} {v w : xSt} (h : b ≤ j) (h2 : j < b + n) : pu b n v w j = w (j - b) := if_pos ⟨h, h2⟩
theorem pu_o {b n j : Nat} {v w : xSt} (h : j < b ∨ b + n ≤ j) : pu b n v w j = v j := if_neg (by omega)
theorem sh_e {α : Type} {b j : Nat} {v : Nat → α} : sh b v j = v (b + j) := Eq.trans rfl rfl
theorem ct_l {α : Type} {n j : Nat} {a b : Nat → α} (h : j < n) : ct n a b j = a j := if_pos h
theorem ct_h {α : Type} {n j : Nat} {a b : Nat → α} (h : n ≤ j) : ct n a b j = b (j - n) := if_neg (by omega)
theorem lkm_le {l : Nat} (hl : l ≤ 4) : (if nI l ≤ 0 then (0 : Int32) else (1 : Int32) <<< ((nI l - 1) &&& 31)) = lkm (nI l) := by
  have : ∀ l, l < 5 → (if nI l ≤ 0 then (0 : Int32) else (1 : Int32) <<< ((nI l - 1) &&& 31)) = lkm (nI l) := by decide +kernel
  exact this l (by omega)
theorem e_hold {u : xSt} {l : Nat} {s : Int32} (h : u 0 0 = nI l) (hl : l ≤ 4) : m_X2_hold u s = some (lk (u 0 0) (u 0 1) s) := by
  have e := lkm_le hl
  unfold m_X2_hold lk
  rw [h, ← e]
  simp only [q_lt]
  by_cases c : nI l ≤ 0 <;> by_cases c2 : u 0 1 = 1
  · simp only [if_pos c, if_pos c2]
    by_cases h3 : s < 8 - (0 : Int32)
    · rw [if_pos h3, if_pos h3]
    · rw [if_neg h3, if_neg h3]
  · simp only [if_pos c, if_neg c2]
    by_cases h3 : (0 : Int32) ≤ s
    · rw [if_pos h3, if_pos h3]
    · rw [if_neg h3, if_neg h3]
  · simp only [if_neg c, if_pos c2]
    by_cases h3 : s < 8 - (1 : Int32) <<< ((nI l - 1) &&& 31)
    · rw [if_pos h3, if_pos h3]
    · rw [if_neg h3, if_neg h3]
  · simp only [if_neg c, if_neg c2]
    by_cases h3 : (1 : Int32) <<< ((nI l - 1) &&& 31) ≤ s
    · rw [if_pos h3, if_pos h3]
    · rw [if_neg h3, if_neg h3]
theorem lk_01 (l d s : Int32) : lk l d s = 0 ∨ lk l d s = 1 := by
  unfold lk
  by_cases h : d = 1
  · rw [if_pos h]
    by_cases h2 : s < 8 - lkm l
    · exact Or.inl (if_pos h2)
    · exact Or.inr (if_neg h2)
  · rw [if_neg h]
    by_cases h2 : lkm l ≤ s
    · exact Or.inl (if_pos h2)
    · exact Or.inr (if_neg h2)
theorem e_valueFor {c : xSt} {k : Int32} : m_X4_valueFor c k = some (xvf (c 0 1) (c 1) k) := by
  unfold m_X4_valueFor xvf
  simp only [q_lt]
  by_cases h : k < 0
  · rw [if_pos h, if_pos h]
  by_cases h2 : k < c 0 1
  · rw [if_neg h, if_neg h, if_pos h2, if_pos h2]
  · rw [if_neg h, if_neg h, if_neg h2, if_neg h2]
theorem xat_n {N i : Nat} {f : Nat → Int32} (h : i < N) (hN : N < 2147483648) : xat N f (nI i) = f i := by
  unfold xat
  rw [if_neg (nI_pos (by omega)), if_neg (show ¬ Int32.ofNat N ≤ nI i from nI_ge h hN), q_cl (by omega)]
theorem xpt_n {N i : Nat} {f : Nat → Int32} {x : Int32} (h : i < N) (hN : N < 2147483648) : xpt N f (nI i) x = va_up f i x := by
  unfold xpt
  rw [if_neg (nI_pos (by omega)), if_neg (show ¬ Int32.ofNat N ≤ nI i from nI_ge h hN), q_cl (by omega)]
/-- where the value for a step stands -/
def vi (m k : Nat) : Nat := if k + 8 < m then k + 8 else k
theorem xvf_n {m i : Nat} {r : Nat → Int32} (hm : m ≤ 12) (hi : i < m) : xvf (nI m) r (nI i) = r (vi m i) := by
  unfold xvf
  rw [if_neg (nI_pos (by omega)), if_pos (nI_lt hi (by omega))]
  have e : nI i + (nI m - 1 - nI i) / 8 * 8 = nI (vi m i) := by
    simp (disch := omega) only [li, q_lt, q_ob, q_u1, q_u2, q_u3, q_u4, nI_add, pk_mul, q_cl, q_lts, q_le, q_eq, q_sub, q_div, q_ck, q_st, va_up_self, Nat.reduceAdd, Nat.reduceMul]
    unfold vi
    congr 1
    split <;> omega
  rw [e, xat_n (by unfold vi; split <;> omega) (by omega)]
theorem xvf_x {m i : Nat} {r : Nat → Int32} (hm : m ≤ 12) (hi : m ≤ i) (hi2 : i < 2147483648) : xvf (nI m) r (nI i) = -1 := by
  unfold xvf
  rw [if_neg (nI_pos (by omega)), if_neg (nI_nlt hi (by omega))]
theorem s_X4_become (c : xSt) : ∃ r, m_X4_become c = some r ∧ r 0 = va_up (c 0) 1 (c 2 1) ∧ (∀ i, i < 12 → r 1 i = c 3 i) ∧ ∀ j, 2 ≤ j → r j = c j := by
  unfold m_X4_become
  rw [q_ck (by decide)]
  refine ⟨_, rfl, ?_, fun i hi => ?_, fun j hj => ?_⟩
  · rfl
  · show (va_up c 1 (va_cpy (c 3) (c 1) 0 0 12)) 1 i = c 3 i
    rw [va_up_self, pk_cpy_in (by omega) (by omega)]
    congr 1
    omega
  · show (st2 (va_up c 1 _) 0 1 _) j = c j
    rw [q_sn (by omega), va_up_ne _ _ (by omega)]
theorem st_h {v c : xSt} {f : Nat → Int32} (h : v 0 = f ∧ ∀ j, 1 ≤ j → v j = c j) (k : Nat) (x : Int32) : (st2 v 0 k x) 0 = va_up f k x ∧ ∀ j, 1 ≤ j → (st2 v 0 k x) j = c j := by
  refine ⟨by rw [q_ss, h.1], fun j hj => ?_⟩
  rw [q_sn (by omega)]
  exact h.2 j hj
theorem s_X7_become {c : xSt} {u : Nat} (h : c 3 7 = nI u) (hu : u < 2) : wp (m_X7_become c) (fun r => (∀ j, j < 8 → r 0 j = c 3 j) ∧ r 1 1 = c 4 1 ∧ (∀ i, i < 12 → r 2 i = c 5 i) ∧ ∀ j, 3 ≤ j → r j = c j) := by
  unfold m_X7_become
  have H0 : c 0 = c 0 ∧ ∀ j, 1 ≤ j → c j = c j := ⟨rfl, fun _ _ => rfl⟩
  refine wp_n (fun v1 e1 => ?_)
  have H1 := st_h H0 0 (c 3 0)
  rw [← e1] at H1
  refine wp_n (fun v2 e2 => ?_)
  rw [H1.2 3 (by omega)] at e2
  have H2 := st_h H1 1 (c 3 1)
  rw [← e2] at H2
  refine wp_n (fun v3 e3 => ?_)
  rw [H2.2 3 (by omega)] at e3
  have H3 := st_h H2 2 (c 3 2)
  rw [← e3] at H3
  refine wp_n (fun v4 e4 => ?_)
  rw [H3.2 3 (by omega)] at e4
  have H4 := st_h H3 3 (c 3 3)
  rw [← e4] at H4
  refine wp_n (fun v5 e5 => ?_)
  rw [H4.2 3 (by omega)] at e5
  have H5 := st_h H4 4 (c 3 4)
  rw [← e5] at H5
  refine wp_n (fun v6 e6 => ?_)
  rw [H5.2 3 (by omega)] at e6
  have H6 := st_h H5 5 (c 3 5)
  rw [← e6] at H6
  refine wp_n (fun v7 e7 => ?_)
  rw [H6.2 3 (by omega)] at e7
  have H7 := st_h H6 6 (c 3 6)
  rw [← e7] at H7
  have hb : nI u = 0 ∨ nI u = 1 := by
    rcases (show u = 0 ∨ u = 1 by omega) with rfl | rfl
    · exact Or.inl rfl
    · exact Or.inr rfl
  rw [H7.2 3 (by omega), h]
  refine wp_c hb ?_
  refine wp_n (fun v9 e9 => ?_)
  have H9 := st_h H7 7 (nI u)
  rw [← e9] at H9
  obtain ⟨r, hr, r0, r1, r2⟩ := s_X4_become (ct 2 (sh 1 v9) (sh 4 v9))
  refine wp_e hr ?_
  refine wp_n (fun v12 e12 => ?_)
  refine wp_s ?_
  have g0 : v12 0 = v9 0 := by rw [e12, pu_o (by omega), pu_o (by omega)]
  have g1 : v12 1 = r 0 := by rw [e12, pu_o (by omega), pu_i (by omega) (by omega)]
  have g2 : v12 2 = r 1 := by rw [e12, pu_o (by omega), pu_i (by omega) (by omega)]
  refine ⟨fun j hj => ?_, ?_, fun i hi => ?_, fun j hj => ?_⟩
  · rw [g0, H9.1]
    rcases (show j = 0 ∨ j = 1 ∨ j = 2 ∨ j = 3 ∨ j = 4 ∨ j = 5 ∨ j = 6 ∨ j = 7 by omega) with rfl | rfl | rfl | rfl | rfl | rfl | rfl | rfl
    all_goals first | rfl | exact h.symm
  · rw [g1, r0, va_up_self]
    exact congrFun (H9.2 4 (by omega)) 1
  · rw [g2, r1 i hi]
    exact congrFun (H9.2 5 (by omega)) i
  · rw [e12]
    by_cases c1 : j < 4
    · rw [pu_o (by omega), pu_o (by omega), H9.2 j (by omega)]
    · by_cases c2 : j < 6
      · rw [pu_i (by omega) (by omega), sh_e, r2 _ (by omega), ct_h (by omega), sh_e, H9.2 _ (by omega)]
        congr 1
        omega
      · rw [pu_o (by omega), pu_o (by omega), H9.2 j (by omega)]
theorem e_X7_start (c : xSt) (a b t u : Int32) : ∃ r, m_X7_start c a b t u = some r ∧ r 0 = va_up (va_up (va_up (va_up (va_up (va_up (c 0) 0 a) 1 b) 4 t) 5 0) 6 u) 7 0 ∧ ∀ j, 1 ≤ j → r j = c j := by
  refine ⟨_, rfl, rfl, fun j hj => ?_⟩
  show (st2 (st2 (st2 (st2 (st2 (st2 c 0 0 a) 0 1 b) 0 4 t) 0 5 0) 0 6 u) 0 7 0) j = c j
  rw [q_sn (by omega), q_sn (by omega), q_sn (by omega), q_sn (by omega), q_sn (by omega), q_sn (by omega)]
theorem s_X7_end (c : xSt) : ∃ r, m_X7_end c = some r ∧ r 0 = va_up (va_up (va_up (va_up (va_up (va_up (c 0) 0 0) 1 (-1)) 4 0) 5 0) 6 (-1)) 7 0 ∧ ∀ j, 1 ≤ j → r j = c j := by
  obtain ⟨r, h, h2⟩ := e_X7_start c 0 (-1) 0 (-1)
  refine ⟨r, ?_, h2⟩
  unfold m_X7_end
  rw [h]
  rfl
