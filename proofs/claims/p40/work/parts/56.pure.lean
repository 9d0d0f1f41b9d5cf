/-! THE CLASS AND THE TIE: beginnings of works, the line -/
theorem bE_o {σ : Nat → Int32} {p k : Nat} {u t : Int32} (h : k < 581 ∨ 599 ≤ k) : bE σ p u t k = σ k := by
  unfold bE
  simp (disch := omega) only [va_up_ne, fl_o]
theorem bL_o {σ : Nat → Int32} {k : Nat} {l d : Int32} (h : k < 581 ∨ 599 ≤ k) : bL σ l d k = σ k := by
  unfold bL
  simp (disch := omega) only [va_up_ne, fl_o]
theorem mn8 (m : Nat) : mn m 8 ≤ 8 ∧ mn m 8 ≤ m := by unfold mn; split <;> omega
theorem bW_o {σ : Nat → Int32} {c a m e k : Nat} {u : Int32} (h : k < 581 ∨ 599 ≤ k) : bW σ c a m e u k = σ k := by
  have := (mn8 m).1
  unfold bW
  simp (disch := omega) only [va_up_ne, fl_o]
theorem rM_o {σ : Nat → Int32} {r n k : Nat} (h : k < 617) (h2 : k ≠ 580) : rM σ r n k = σ k := by
  unfold rM
  simp (disch := omega) only [va_up_ne, fl_o]
theorem rM_580 {σ : Nat → Int32} {r n : Nat} : rM σ r n 580 = nI (n - 1) := by
  unfold rM
  rw [va_up_self]
theorem rM_lo {σ : Nat → Int32} {r n a k : Nat} (h : a < r) (hk : k < 18) : rM σ r n (617 + 18 * a + k) = σ (617 + 18 * a + k) := by
  unfold rM
  simp (disch := omega) only [va_up_ne, fl_o]
theorem rM_hi {σ : Nat → Int32} {r n a k : Nat} (h : r ≤ a) (ha : a < 9) (hk : k < 18) : rM σ r n (617 + 18 * a + k) = σ (617 + 18 * (a + 1) + k) := by
  unfold rM
  rw [va_up_ne _ _ (by omega), fl_i (by omega) (by omega), if_pos (by omega)]
  congr 1
  omega
theorem sA_o {σ : Nat → Int32} {k : Nat} {u : Int32} (h : k < 581 ∨ 617 ≤ k) (h2 : k ≠ 565) : sA σ u k = σ k := by
  unfold sA
  simp (disch := omega) only [va_up_ne, fl_o]
theorem tB_o {σ : Nat → Int32} {k : Nat} (h : k < 581 ∨ 617 ≤ k) : tB σ k = σ k := by
  unfold tB
  simp (disch := omega) only [va_up_ne, fl_o]
/-- a work has begun: the tie but for the work itself -/
theorem R0_work {B : Nat} {v v' : xSt} {σ τ : Nat → Int32} (H : R0 B v σ) (gv : ∀ j, j < 47 → j ≠ 8 → j ≠ 9 → j ≠ 10 → v' j = v j) (g : ∀ k, k < 581 ∨ 599 ≤ k → τ k = σ k) (hw : RWk (v' 8) (v' 9 1) (v' 10) τ 581) : R0 B v' τ := by
  obtain ⟨h1, h2, h3, h4, h5, h6, h7, h8⟩ := H
  unfold R0
  rw [gv 0 (by omega) (by omega) (by omega) (by omega), gv 1 (by omega) (by omega) (by omega) (by omega), gv 2 (by omega) (by omega) (by omega) (by omega), gv 3 (by omega) (by omega) (by omega) (by omega), gv 4 (by omega) (by omega) (by omega) (by omega), gv 5 (by omega) (by omega) (by omega) (by omega), gv 6 (by omega) (by omega) (by omega) (by omega), gv 7 (by omega) (by omega) (by omega) (by omega), gv 11 (by omega) (by omega) (by omega) (by omega), gv 12 (by omega) (by omega) (by omega) (by omega), gv 13 (by omega) (by omega) (by omega) (by omega), gv 46 (by omega) (by omega) (by omega) (by omega)]
  exact ⟨RSc_c h1 (fun k hk => g k (by omega)) (fun _ _ => rfl), RCell_c h2 (fun k hk => g k (by omega)), RLk_c h3 (fun k hk hk2 => g k (by omega)) (fun _ _ => rfl), RLd_c h4 (fun k hk hk2 => g k (by omega)) (fun _ _ => rfl), hw, RWk_c h6 (fun k hk => g _ (by omega)) (fun _ _ => rfl) (fun _ _ => rfl), RLn_c h7 (Nat.le_refl _) (fun k hk => g k (by omega)) (fun j hj hj2 => gv j (by omega) (by omega) (by omega) (by omega)), RSt_c h8 (fun k hk hk2 => g k (by omega)) (fun _ _ => rfl)⟩
theorem s_startE {B p t : Nat} {v v' : xSt} {σ : Nat → Int32} {u : Int32} (H : R0 B v σ) (hp : p < 8) (ht : 5 ≤ t) (ht1 : t < 20000000) (hu : u = -1 ∨ ∃ g, g ≤ 9 ∧ u = nI g) (g8 : v' 8 = va_up (va_up (va_up (va_up (va_up (va_up (v 8) 0 2) 1 (nI p)) 4 (nI t)) 5 0) 6 u) 7 0) (gv : ∀ j, j < 47 → j ≠ 8 → v' j = v j) : R0 B v' (bE σ p u (nI t)) := by
  refine R0_work H (fun j h1 h2 _ _ => gv j h1 h2) (fun k hk => bE_o hk) ?_
  rw [g8]
  refine ⟨⟨0, by omega, rfl, ?_⟩, Or.inr ⟨2, 0, t, p, by omega, by omega, ?_, rfl, by omega, ht1, rfl, ?_, rfl, ?_, rfl, ?_, ?_, ?_, ?_, ?_, ?_⟩⟩
  any_goals (unfold bE; simp (disch := omega) only [va_up_self, va_up_ne, fl_i, Nat.reduceAdd]; done)
  · simp (disch := omega) only [va_up_self, va_up_ne]; exact hu
  · intro h; exact absurd h (by omega)
  · intro _; exact ⟨hp, ht⟩
  · intro h; exact absurd h (by omega)
theorem s_startL {B p t d : Nat} {v v' : xSt} {σ : Nat → Int32} (H : R0 B v σ) (hp : p ≤ 4) (ht : σ 559 = nI t) (ht0 : 0 < t) (ht1 : t < 20000000) (g8 : v' 8 = va_up (va_up (va_up (va_up (va_up (va_up (va_up (v 8) 0 3) 1 (nI p)) 4 (nI t)) 5 0) 6 (-1)) 7 0) 2 (nI d)) (gv : ∀ j, j < 47 → j ≠ 8 → v' j = v j) : R0 B v' (bL σ (nI p) (nI d)) := by
  refine R0_work H (fun j h1 h2 _ _ => gv j h1 h2) (fun k hk => bL_o hk) ?_
  rw [g8]
  refine ⟨⟨0, by omega, rfl, ?_⟩, Or.inr ⟨3, 0, t, p, by omega, by omega, ?_, rfl, by omega, ht1, rfl, ?_, rfl, ?_, rfl, ?_, ?_, ?_, ?_, ?_, ?_⟩⟩
  any_goals (unfold bL; simp (disch := omega) only [va_up_self, va_up_ne, fl_i, Nat.reduceAdd]; done)
  · unfold bL; simp (disch := omega) only [va_up_self, va_up_ne, fl_i, Nat.reduceAdd]; exact ht
  · simp (disch := omega) only [va_up_self, va_up_ne]; exact Or.inl trivial
  · intro h; exact absurd h (by omega)
  · intro h; exact absurd h (by omega)
  · intro _; refine ⟨hp, ?_⟩
    unfold bL; simp (disch := omega) only [va_up_self, va_up_ne, fl_i, Nat.reduceAdd]
theorem s_startWrite {c : xSt} {m e : Nat} {p u : Int32} (hz : c 3 1 = nI m) (hm : m ≤ 12) : wp (m_X7_startWrite c p (nI e) u) (fun r => r 0 = va_up (va_up (va_up (va_up (va_up (va_up (va_up (c 0) 0 1) 1 p) 4 (nI (mn m 8 * e))) 5 0) 6 u) 7 0) 3 (nI e) ∧ r 1 1 = nI m ∧ (∀ i, i < 12 → r 2 i = c 4 i) ∧ (∀ j, 3 ≤ j → r j = c j)) := by
  unfold m_X7_startWrite
  have hsp : m_X4_span (sh 3 c) = some (nI (mn m 8)) := by
    unfold m_X4_span
    rw [show (sh 3 c) 0 1 = nI m from hz]
    unfold mn
    by_cases h : m < 8
    · rw [if_neg (show ¬ (8 : Int32) < nI m from nI_nlt (a := 8) (b := m) (by omega) (by omega)), if_pos h]
    · by_cases h2 : m = 8
      · subst h2
        rw [if_neg (by decide), if_neg (by omega)]
      · rw [if_pos (show (8 : Int32) < nI m from nI_lt (a := 8) (by omega) (by omega)), if_neg h]
        rfl
  refine wp_e hsp ?_
  obtain ⟨r, hr, r0, r1⟩ := e_X7_start c 1 p (nI (mn m 8) * nI e) u
  refine wp_e hr ?_
  refine wp_n (fun v5 e5 => wp_n (fun v6 e6 => ?_))
  have f5 : v5 0 = r 0 ∧ ∀ j, 1 ≤ j → v5 j = c j := by
    refine ⟨by rw [e5, pu_i (by omega) (by omega)], fun j hj => ?_⟩
    rw [e5]
    by_cases h : j < 3
    · rw [pu_i (by omega) (by omega)]
      exact r1 j hj
    · rw [pu_o (by omega)]
  have f6 := st_h f5 3 (nI e)
  rw [← e6] at f6
  obtain ⟨q, hq, q0, q1, q2⟩ := s_X4_become (ct 2 (sh 1 v6) (sh 3 v6))
  refine wp_e hq ?_
  refine wp_n (fun v9 e9 => wp_s ?_)
  refine ⟨?_, ?_, fun i hi => ?_, fun j hj => ?_⟩
  · rw [e9, pu_o (by omega), pu_o (by omega), f6.1, r0, pk_mul]
  · rw [e9, pu_o (by omega), pu_i (by omega) (by omega), q0, va_up_self]
    show v6 3 1 = nI m
    rw [f6.2 3 (by omega), hz]
  · rw [e9, pu_o (by omega), pu_i (by omega) (by omega), q1 i hi]
    exact congrFun (f6.2 4 (by omega)) i
  · rw [e9]
    by_cases h : j < 5
    · rw [pu_i (by omega) (by omega), sh_e, q2 _ (by omega), ct_h (by omega), sh_e, f6.2 _ (by omega)]
      congr 1
      omega
    · rw [pu_o (by omega), pu_o (by omega), f6.2 j (by omega)]
theorem s_startW {B c m e a : Nat} {v v' : xSt} {σ rr : Nat → Int32} {u z : Int32} (H : R0 B v σ) (hc : c < 256) (hm0 : 0 < m) (he0 : 1 ≤ e) (he1 : e ≤ 99) (hR : RRw m z rr σ a) (hu : u = -1 ∨ ∃ g, g ≤ 9 ∧ u = nI g) (g8 : v' 8 = va_up (va_up (va_up (va_up (va_up (va_up (va_up (v 8) 0 1) 1 (nI c)) 4 (nI (mn m 8 * e))) 5 0) 6 u) 7 0) 3 (nI e)) (g9 : v' 9 1 = nI m) (g10 : ∀ i, i < 12 → v' 10 i = rr i) (gv : ∀ j, j < 47 → j ≠ 8 → j ≠ 9 → j ≠ 10 → v' j = v j) : R0 B v' (bW σ c a m e u) := by
  refine R0_work H gv (fun k hk => bW_o hk) ?_
  obtain ⟨hz, hm, hv⟩ := hR
  have hmm : mn m 8 ≤ 8 ∧ 1 ≤ mn m 8 ∧ mn m 8 ≤ m := by unfold mn; split <;> omega
  have hte : mn m 8 * e ≤ 8 * 99 := Nat.mul_le_mul hmm.1 he1
  have hte0 : 0 < mn m 8 * e := Nat.mul_pos hmm.2.1 he0
  rw [g8, g9]
  refine ⟨⟨0, by omega, rfl, ?_⟩, Or.inr ⟨1, 0, mn m 8 * e, c, by omega, by omega, ?_, rfl, hte0, by omega, rfl, ?_, rfl, ?_, rfl, ?_, ?_, ?_, ?_, ?_, ?_⟩⟩
  any_goals (unfold bW; simp (disch := omega) only [va_up_self, va_up_ne, fl_i, fl_o, Nat.reduceAdd]; done)
  · simp (disch := omega) only [va_up_self, va_up_ne]; exact hu
  · intro _
    refine ⟨hc, mn m 8, e, hmm.2.1, hmm.1, he0, he1, rfl, rfl, ?_, fun i hi => ?_⟩
    · unfold bW; simp (disch := omega) only [va_up_self, va_up_ne, fl_i, fl_o, Nat.reduceAdd]
    · have hvi : vi m i < m := by unfold vi; split <;> omega
      have e1 : bW σ c a m e u (581 + 9 + i) = σ (a + vi m i) := by
        unfold bW
        rw [fl_i (by omega) (by omega)]
        unfold vi
        rw [show 581 + 9 + i - 590 = i by omega]
      rw [e1, xvf_c g10, xvf_n hm (by omega)]
      exact hv _ hvi
  · intro h; exact absurd h (by omega)
  · intro h; exact absurd h (by omega)
