/-! FREE IN -/
theorem s_free {B : Nat} {v : xSt} {σ : Nat → Int32} (H : R0 B v σ) : ∃ z, (z = 0 ∨ z = 1) ∧ m_X6_isFree v = some z ∧ (∀ w, m_X9_isFree (va_up w 1 σ) = some z) ∧ (z = 0 → idle σ σ → (∃ k, 1 ≤ k ∧ k ≤ 3 ∧ σ 599 = nI k) ∧ σ 605 = 0 ∧ ∃ n y, σ 580 = nI n ∧ n ≤ 10 ∧ ¬ y = -1 ∧ FD 0 n (fun r => lk (σ 554) (σ 555) (sa σ r) = 0) y) := by
  obtain ⟨n, q, π, a1, a2, a3, -⟩ := id H.2.2.2.2.2.2.1
  obtain ⟨y, hy, hf⟩ := s_foremost H a3 a1
  have rf : ∀ w : xSt, m_X9_foremost (va_up w 1 σ) = some y := fun w => r_foremost_e a3 a1 hf
  have p6 : ∀ w : xSt, m_X9_apart (va_up w 1 σ) 6 = some (σ 605) := fun w => r_apart (j := 6) (by omega)
  obtain ⟨u, u1, u2, u3⟩ := RWk_7 H.2.2.2.2.2.1
  rcases s_busy H with ⟨c1, c2, c3⟩ | ⟨c1, c3⟩
  · rcases s_asd H with ⟨d1, d2, d3⟩ | ⟨d1, d2, d3⟩
    · by_cases hy1 : y = -1
      · refine ⟨1, Or.inr rfl, ?_, fun w => ?_, fun h => absurd h (by decide)⟩
        · unfold m_X6_isFree
          simp only [q_lt]
          rw [if_pos d1, c1]
          simp only [q_ob]
          repeat first | rw [if_pos (by decide)]
          rw [hy]
          simp only [q_ob]
          rw [if_pos hy1]
        · unfold m_X9_isFree
          rw [c3]
          simp only [q_ob, q_lt, d3, rf]
          repeat first | rw [if_pos (by decide)]
          rw [if_pos hy1]
      · refine ⟨0, Or.inl rfl, ?_, fun w => ?_, fun _ hi => ?_⟩
        · unfold m_X6_isFree
          simp only [q_lt]
          rw [if_pos d1, c1]
          simp only [q_ob]
          repeat first | rw [if_pos (by decide)]
          rw [hy]
          simp only [q_ob]
          rw [if_neg hy1]
        · unfold m_X9_isFree
          rw [c3]
          simp only [q_ob, q_lt, d3, rf]
          repeat first | rw [if_pos (by decide)]
          rw [if_neg hy1]
        · rcases hi.2.2 with ⟨-, n2, i1, i2, i3⟩ | ⟨⟨k, k1, k2, k3⟩, -⟩
          · obtain rfl : n2 = n := (nI_eq (by omega) (by omega)).mp (i1.symm.trans a3)
            exact absurd (FD_u hf i3) hy1
          · rw [d2] at k3
            exact absurd k3.symm (nI_ne0 (by omega) (by omega))
    · rcases (show u = 0 ∨ u = 1 by omega) with rfl | rfl
      · have g7 : v 11 7 = 0 := u2
        have g6 : ¬ σ 605 = 1 := by rw [show σ 605 = nI 0 from u3]; decide
        by_cases hy1 : y = -1
        · refine ⟨1, Or.inr rfl, ?_, fun w => ?_, fun h => absurd h (by decide)⟩
          · unfold m_X6_isFree
            simp only [q_lt]
            rw [if_neg d1, if_pos g7, c1]
            simp only [q_ob]
            repeat first | rw [if_pos (by decide)]
            rw [hy]
            simp only [q_ob]
            rw [if_pos hy1]
          · unfold m_X9_isFree
            rw [c3]
            simp only [q_ob, q_lt, d3, rf, p6]
            rw [if_pos (by decide), if_neg (by decide), if_neg g6, if_pos hy1]
        · refine ⟨0, Or.inl rfl, ?_, fun w => ?_, fun _ hi => ⟨d2, u3, n, y, a3, a1, hy1, hf⟩⟩
          · unfold m_X6_isFree
            simp only [q_lt]
            rw [if_neg d1, if_pos g7, c1]
            simp only [q_ob]
            repeat first | rw [if_pos (by decide)]
            rw [hy]
            simp only [q_ob]
            rw [if_neg hy1]
          · unfold m_X9_isFree
            rw [c3]
            simp only [q_ob, q_lt, d3, rf, p6]
            rw [if_pos (by decide), if_neg (by decide), if_neg g6, if_neg hy1]
      · have g7 : ¬ v 11 7 = 0 := by rw [u2]; decide
        have g6 : σ 605 = 1 := u3
        refine ⟨0, Or.inl rfl, ?_, fun w => ?_, fun _ hi => ?_⟩
        · unfold m_X6_isFree
          simp only [q_lt]
          rw [if_neg d1, if_neg g7, c1]
          simp only [q_ob]
          rw [if_pos (by decide), if_neg (by decide)]
        · unfold m_X9_isFree
          rw [c3]
          simp only [q_ob, q_lt, d3, rf, p6]
          rw [if_pos (by decide), if_neg (by decide), if_pos g6]
        · rcases hi.2.2 with ⟨i1, -⟩ | ⟨-, i1⟩
          · obtain ⟨k, k1, k2, k3⟩ := d2
            rw [i1] at k3
            exact absurd k3.symm (nI_ne0 (by omega) (by omega))
          · rw [g6] at i1
            exact absurd i1 (by decide)
  · refine ⟨0, Or.inl rfl, ?_, fun w => ?_, fun _ hi => ?_⟩
    · unfold m_X6_isFree
      simp only [q_lt, c1, q_ob]
      by_cases e1 : v 11 0 = 0
      · rw [if_pos e1]; rfl
      · rw [if_neg e1]
        by_cases e2 : v 11 7 = 0
        · rw [if_pos e2]; rfl
        · rw [if_neg e2]; rfl
    · unfold m_X9_isFree
      rw [c3]
      rfl
    · have := r_busy0 (w := fun _ _ => 0) (σ := σ) hi.2.1
      rw [c3] at this
      exact absurd this (by decide)
/-- the reference's loop, and what stands at its end -/
def frX (a4 : Int32) (v5 : xSt) : Option (Int32 × xSt) := ob (m_X9_copies 797 797 (ct 1 (sh 2 v5) (sh 1 v5)) (0 : Int32) (0 : Int32)) (fun r9 => lt (pu 1 1 (pu 2 1 v5 r9) (sh 1 r9)) (fun v10 => (if a4 ≤ (1000 : Int32) then some (a4, v10) else some ((-1 : Int32), v10))))
def frB (rec6 : Int32 × xSt → Option (Int32 × xSt)) : Int32 × xSt → Option (Int32 × xSt) := un2 (fun (a4 : Int32) (v5 : xSt) => lt (fun (_ : Unit) => frX a4 v5) (fun j7 => (if (1000 : Int32) < a4 then j7 () else ob (m_X9_isFree v5) (fun r14 => (if r14 = 0 then ob (m_X9_ticks v5) (fun r18 => lt (r18.2) (fun v20 => rec6 ((a4 + 1), v20))) else j7 ())))))
theorem frX_e {w : xSt} {τ : Nat → Int32} {a : Nat} (ha : a ≤ 1001) : frX (nI a) (va_up w 1 τ) = some (if a ≤ 1000 then nI a else -1, va_up w 1 (fl τ 0 797 (fun k => w 2 (0 + k)))) := by
  obtain ⟨u, e1, e2, e3⟩ := r_cp (N := 797) (M := 797) (p := 0) (q := 0) (u := va_up w 1 τ) (a := 2) (b := 1) (by omega) (by omega) (by omega) (by omega) (by omega)
  have hu : u = va_up w 1 (fl τ 0 797 (fun k => w 2 (0 + k))) := by
    funext j
    by_cases c : j = 1
    · subst c
      rw [va_up_self, e3, va_up_self, va_up_ne _ _ (by omega)]
    · rw [va_up_ne _ _ c, e2 j c, va_up_ne _ _ c]
  have e1' : ob (m_X9_copies 797 797 (ct 1 (sh 2 (va_up w 1 τ)) (sh 1 (va_up w 1 τ))) (0 : Int32) (0 : Int32)) (fun r => some (pu 1 1 (pu 2 1 (va_up w 1 τ) r) (sh 1 r))) = some u := e1
  unfold frX
  cases hc : m_X9_copies 797 797 (ct 1 (sh 2 (va_up w 1 τ)) (sh 1 (va_up w 1 τ))) (0 : Int32) (0 : Int32) with
  | none => rw [hc] at e1'; cases e1'
  | some x =>
    rw [hc] at e1'
    simp only [q_ob, q_lt] at e1' ⊢
    rw [Option.some.inj e1', hu]
    by_cases c : a ≤ 1000
    · rw [if_pos (show nI a ≤ (1000 : Int32) from nI_le (b := 1000) c (by omega)), if_pos c]
    · rw [if_neg (show ¬ nI a ≤ (1000 : Int32) from nI_ge (a := 1000) (by omega) (by omega)), if_neg c]
/-- nothing goes on any more, and it is never free -/
theorem fr_stuck {σ : Nat → Int32} {n y : _} {k : Nat} (h0 : σ 581 = 0) (hk1 : 1 ≤ k) (hk3 : k ≤ 3) (hk : σ 599 = nI k) (h6 : σ 605 = 0) (hn : σ 580 = nI n) (hn1 : n ≤ 10) (hy : ¬ y = -1) (hf : FD 0 n (fun r => lk (σ 554) (σ 555) (sa σ r) = 0) y) : ∀ m a (τ : Nat → Int32), a + m = 1001 → (∀ k, k ≠ 561 → τ k = σ k) → ∀ w F, m < F → ∃ ρ, lp frB F (nI a, va_up w 1 τ) = some (-1, va_up w 1 ρ) ∧ ∀ k, k < 797 → ρ k = w 2 k := by
  intro m
  induction m with
  | zero =>
    intro a τ ha hτ w F hF
    obtain ⟨F, rfl⟩ : ∃ t, F = t + 1 := ⟨F - 1, by omega⟩
    obtain rfl : a = 1001 := by omega
    refine ⟨fl τ 0 797 (fun k => w 2 (0 + k)), ?_, fun k hk => ?_⟩
    · rw [lp]
      unfold frB
      simp only [q_u2, q_lt]
      rw [if_pos (show (1000 : Int32) < nI 1001 by decide), frX_e (by omega), if_neg (by omega)]
    · rw [fl_i (by omega) (by omega)]
      exact congrArg _ (by omega)
  | succ m ih =>
    intro a τ ha hτ w F hF
    obtain ⟨F, rfl⟩ : ∃ t, F = t + 1 := ⟨F - 1, by omega⟩
    have bz : ∀ w : xSt, m_X9_isBusy (va_up w 1 τ) = some 0 := fun w => r_busy0 (by rw [hτ _ (by omega)]; exact h0)
    have az : ∀ w : xSt, m_X9_isAside (va_up w 1 τ) = some 1 := fun w => r_aside1 (by rw [hτ _ (by omega)]; exact hk) (by omega) hk3
    have u0 : ∀ w : xSt, m_X9_under (va_up w 1 τ) 0 = some 0 := fun w => by
      rw [show (0 : Int32) = nI 0 from rfl, r_under (by omega), hτ _ (by omega)]
      exact congrArg some h0
    have p6 : ∀ w : xSt, m_X9_apart (va_up w 1 τ) 6 = some 0 := fun w => by
      rw [show (6 : Int32) = nI 6 from rfl, r_apart (by omega), hτ _ (by omega)]
      exact congrArg some h6
    have hf' : FD 0 n (fun r => lk (τ 554) (τ 555) (sa τ r) = 0) y := by
      refine FD_c (fun r _ hr => ?_) hf
      have : sa τ r = sa σ r := by
        unfold sa
        rw [hτ _ (by omega), hτ _ (by omega)]
      rw [this, hτ 554 (by omega), hτ 555 (by omega)]
    have rf : ∀ w : xSt, m_X9_foremost (va_up w 1 τ) = some y := fun w => r_foremost_e (by rw [hτ _ (by omega)]; exact hn) hn1 hf'
    have free : m_X9_isFree (va_up w 1 τ) = some 0 := by
      unfold m_X9_isFree
      rw [bz]
      simp only [q_ob, q_lt, az, p6, rf]
      rw [if_pos (by decide), if_neg (by decide), if_neg (by decide), if_neg hy]
    have tick : m_X9_ticks (va_up w 1 τ) = some (0, va_up w 1 (va_up τ 561 (τ 561 + 1))) := by
      have acts : m_X9_acts (va_up w 1 τ) = some (va_up w 1 τ) := by
        unfold m_X9_acts
        rw [u0]
        simp only [q_ob, q_lt, bz, az, p6]
        rw [if_neg (by decide), if_pos (by decide), if_pos (by decide), if_pos (by decide), if_neg (by decide), if_pos (by decide)]
      unfold m_X9_ticks
      rw [acts]
      simp only [q_ob, bz, q_lt, kc561, kn561, q_st, va_up_self]
      rw [if_pos (by decide)]
    obtain ⟨ρ, r1, r2⟩ := ih (a + 1) (va_up τ 561 (τ 561 + 1)) (by omega) (fun k hk => by rw [va_up_ne _ _ hk, hτ k hk]) w F (by omega)
    refine ⟨ρ, ?_, r2⟩
    rw [lp]
    unfold frB
    simp only [q_u2, q_lt]
    rw [if_neg (show ¬ (1000 : Int32) < nI a from nI_nlt (a := 1000) (by omega) (by omega)), free]
    simp only [q_ob]
    rw [if_pos (by decide), tick]
    simp only [q_ob, nI_1]
    exact r1
theorem fr_run : ∀ m a (B : Nat) (v : xSt) (τ : Nat → Int32), a + m = 1001 → B + m < 16000000 → RR B (sh 54 v) τ → ∃ z v', (∀ F, m < F → lp (fun (rec6 : Int32 × xSt → Option (Int32 × xSt)) => un2 (fun (a4 : Int32) (v5 : xSt) => (if (1000 : Int32) < a4 then some ((-1 : Int32), v5) else ob (m_X6_isFree (sh 54 v5)) (fun r9 => (if r9 = 0 then ob (m_X6_tick (sh 54 v5)) (fun r13 => lt (pu 54 47 v5 r13.2) (fun v15 => (if r13.1 = 0 then some ((-1 : Int32), v15) else rec6 ((a4 + 1), v15)))) else some (a4, v5)))))) F (nI a, v) = some (z, v')) ∧
    (∀ w F, m < F → ∃ ρ, lp frB F (nI a, va_up w 1 τ) = some (z, va_up w 1 ρ) ∧ ∀ k, k < 797 → ρ k = w 2 k) ∧ (∀ j, j < 54 ∨ 101 ≤ j → v' j = v j) ∧ SH (sh 54 v') := by
  intro m
  induction m with
  | zero =>
    intro a B v τ ha hB H
    obtain rfl : a = 1001 := by omega
    refine ⟨-1, v, fun F hF => ?_, fun w F hF => ?_, fun _ _ => rfl, RR_sh H⟩
    · obtain ⟨F, rfl⟩ : ∃ t, F = t + 1 := ⟨F - 1, by omega⟩
      rw [lp]
      simp only [q_u2]
      rw [if_pos (show (1000 : Int32) < nI 1001 by decide)]
    · obtain ⟨F, rfl⟩ : ∃ t, F = t + 1 := ⟨F - 1, by omega⟩
      refine ⟨fl τ 0 797 (fun k => w 2 (0 + k)), ?_, fun k hk => ?_⟩
      · rw [lp]
        unfold frB
        simp only [q_u2, q_lt]
        rw [if_pos (show (1000 : Int32) < nI 1001 by decide), frX_e (by omega), if_neg (by omega)]
      · rw [fl_i (by omega) (by omega)]
        exact congrArg _ (by omega)
  | succ m ih =>
    intro a B v τ ha hB H
    have h1000 : ¬ (1000 : Int32) < nI a := nI_nlt (a := 1000) (by omega) (by omega)
    obtain ⟨z, hz, f1, f2, f3⟩ := s_free H.1
    rcases hz with rfl | rfl
    · obtain ⟨b, ρ, c, t1, t2, t3, t4, t5, t6⟩ := s_tick H (by omega)
      have hch : ∀ j, j < 47 → (sh 54 (pu 54 47 v c)) j = c j := fun j hj => by rw [sh_e, pu_i (by omega) (by omega)]; exact congrArg c (by omega)
      by_cases hb : b = 0
      · obtain ⟨g1, g2⟩ := t6 hb
        obtain ⟨⟨k, k1, k2, k3⟩, g4, n, y, g5, g6, g7, g8⟩ := f3 rfl g2
        refine ⟨-1, pu 54 47 v c, fun F hF => ?_, fun w F hF => ?_, fun j hj => pu_o (by omega), RR_sh (RR_v t3 hch)⟩
        · obtain ⟨F, rfl⟩ : ∃ t, F = t + 1 := ⟨F - 1, by omega⟩
          rw [lp]
          simp only [q_u2]
          rw [if_neg h1000, f1]
          simp only [q_ob]
          rw [if_pos (by decide), t1]
          simp only [q_ob, q_lt]
          rw [if_pos hb]
        · exact fr_stuck g2.2.1 k1 k2 k3 g4 g5 g6 g7 g8 (m + 1) a τ ha (fun _ _ => rfl) w F hF
      · obtain ⟨z, v', z1, z2, z3, z4⟩ := ih (a + 1) (B + 1) (pu 54 47 v c) ρ (by omega) (by omega) (RR_v t3 hch)
        refine ⟨z, v', fun F hF => ?_, fun w F hF => ?_, fun j hj => by rw [z3 j hj, pu_o (by omega)], z4⟩
        · obtain ⟨F, rfl⟩ : ∃ t, F = t + 1 := ⟨F - 1, by omega⟩
          rw [lp]
          simp only [q_u2]
          rw [if_neg h1000, f1]
          simp only [q_ob]
          rw [if_pos (by decide), t1]
          simp only [q_ob, q_lt]
          rw [if_neg hb, nI_1]
          exact z1 F (by omega)
        · obtain ⟨F, rfl⟩ : ∃ t, F = t + 1 := ⟨F - 1, by omega⟩
          obtain ⟨χ, x1, x2⟩ := z2 w F (by omega)
          refine ⟨χ, ?_, x2⟩
          rw [lp]
          show frB (lp frB F) _ = _
          rw [← x1]
          unfold frB
          simp only [q_u2, q_lt]
          rw [if_neg h1000, f2 w]
          simp only [q_ob]
          rw [if_pos (by decide), t2 w]
          simp only [q_ob, nI_1]
    · refine ⟨nI a, v, fun F hF => ?_, fun w F hF => ?_, fun _ _ => rfl, RR_sh H⟩
      · obtain ⟨F, rfl⟩ : ∃ t, F = t + 1 := ⟨F - 1, by omega⟩
        rw [lp]
        simp only [q_u2]
        rw [if_neg h1000, f1]
        simp only [q_ob]
        rw [if_neg (by decide)]
      · obtain ⟨F, rfl⟩ : ∃ t, F = t + 1 := ⟨F - 1, by omega⟩
        refine ⟨fl τ 0 797 (fun k => w 2 (0 + k)), ?_, fun k hk => ?_⟩
        · rw [lp]
          unfold frB
          simp only [q_u2, q_lt]
          rw [if_neg h1000, f2 w]
          simp only [q_ob]
          rw [if_neg (by decide), frX_e (by omega), if_pos (by omega)]
        · rw [fl_i (by omega) (by omega)]
          exact congrArg _ (by omega)
theorem RBC_fr {B : Nat} {v v' w w' : xSt} (H : RBC B v w) (gv : ∀ j, j < 54 ∨ 101 ≤ j → v' j = v j) (hs : SH (sh 54 v')) (gw : ∀ j, j ≠ 1 → j ≠ 2 → w' j = w j) (g1 : ∀ k, k < 797 → w' 1 k = w 1 k) : RBC B v' w' := by
  obtain ⟨h1, h2, h3, ⟨n, n1, n2, n3, h4⟩, h5⟩ := H
  refine ⟨RR_v (RR_cp h1 g1) (fun j hj => gv (7 + j) (by omega)), hs, RSn_c h3 (Nat.le_refl _) (fun j j1 j2 => gv j (by omega)) (by rw [gv 0 (by omega)]) (gw 4 (by omega) (by omega)) (by rw [gw 0 (by omega) (by omega)]), ⟨n, n1, by rw [gv 0 (by omega)]; exact n2, by rw [gw 0 (by omega) (by omega)]; exact n3, RSv_c h4 n1 (Nat.le_refl _) (fun j j1 j2 => gv j (by omega)) (gv 1 (by omega)) (gw 3 (by omega) (by omega))⟩, RTx_c h5 (gv 2 (by omega)) (by rw [gv 0 (by omega)]) (gw 5 (by omega) (by omega)) (by rw [gw 0 (by omega) (by omega)])⟩
theorem s_freeTicks {B : Nat} {v w : xSt} (H : RBC B v w) (hB : B + 1001 < 16000000) : ∃ z v' w', m_X8_freeIn v = some (z, v') ∧ m_X9_freeTicks w = some (z, w') ∧ RBC B v' w' ∧ w' 0 = w 0 ∧ (∀ j, j < 54 ∨ 101 ≤ j → v' j = v j) ∧ (∀ k, k < 797 → w' 1 k = w 1 k) ∧ w' 5 = w 5 := by
  obtain ⟨r, hr, r1, r2⟩ := s_become (B := B) (c := ct 47 (sh 54 v) (sh 7 v)) (σ := w 1) (SH_c H.2.1 rfl) (RR_v H.1 (fun j hj => by rw [sh_e, ct_h (by omega), sh_e, sh_e]; exact congrArg v (by omega)))
  obtain ⟨v3, hv3⟩ : ∃ v3, v3 = pu 7 47 (pu 54 47 v r) (sh 47 r) := ⟨_, rfl⟩
  have k3 : ∀ j, v3 j = if 54 ≤ j ∧ j < 101 then r (j - 54) else v j := by
    intro j
    rw [hv3]
    by_cases c : 7 ≤ j ∧ j < 7 + 47
    · rw [pu_i c.1 c.2, sh_e, r2 _ (by omega), ct_h (by omega), sh_e, if_neg (by omega)]
      exact congrArg v (by omega)
    · rw [pu_o (by omega)]
      by_cases c2 : 54 ≤ j ∧ j < 54 + 47
      · rw [pu_i c2.1 c2.2, if_pos (by omega)]
      · rw [pu_o (by omega), if_neg (by omega)]
  obtain ⟨u, e1, e2, e3⟩ := r_cp (N := 797) (M := 797) (p := 0) (q := 0) (u := w) (a := 1) (b := 2) (by omega) (by omega) (by omega) (by omega) (by omega)
  have hu1 : u 1 = w 1 := e2 1 (by omega)
  have hu2 : ∀ k, k < 797 → u 2 k = w 1 k := by
    intro k hk
    rw [e3, fl_i (by omega) (by omega)]
    exact congrArg _ (by omega)
  obtain ⟨z, v', z1, z2, z3, z4⟩ := fr_run 1001 0 B v3 (w 1) (by omega) hB (RR_v r1 (fun j hj => by rw [sh_e, k3, if_pos (by omega)]; exact congrArg r (by omega)))
  obtain ⟨ρ, x1, x2⟩ := z2 u xF (xFg (by omega))
  have hva : va_up u 1 (w 1) = u := by rw [← hu1]; exact va_up_id
  rw [hva] at x1
  have gv : ∀ j, j < 54 ∨ 101 ≤ j → v' j = v j := fun j hj => by rw [z3 j hj, k3, if_neg (by omega)]
  refine ⟨z, v', va_up u 1 ρ, ?_, ?_, RBC_fr H gv z4 (fun j j1 j2 => by rw [va_up_ne _ _ j1, e2 j j2]) (fun k hk => by rw [va_up_self, x2 k hk, hu2 k hk]), by rw [va_up_ne _ _ (by omega), e2 0 (by omega)], gv, fun k hk => by rw [va_up_self, x2 k hk, hu2 k hk], by rw [va_up_ne _ _ (by omega), e2 5 (by omega)]⟩
  · unfold m_X8_freeIn
    rw [hr]
    simp only [q_ob, q_lt]
    rw [← hv3]
    exact z1 xF (xFg (by omega))
  · unfold m_X9_freeTicks
    have e1' : ob (m_X9_copies 797 797 (ct 1 (sh 1 w) (sh 2 w)) (0 : Int32) (0 : Int32)) (fun r => some (pu 2 1 (pu 1 1 w r) (sh 1 r))) = some u := e1
    cases hc : m_X9_copies 797 797 (ct 1 (sh 1 w) (sh 2 w)) (0 : Int32) (0 : Int32) with
    | none => rw [hc] at e1'; cases e1'
    | some x =>
      rw [hc] at e1'
      simp only [q_ob, q_lt] at e1' ⊢
      rw [Option.some.inj e1']
      exact x1
theorem b_freeIn {B : Nat} {v w : xSt} (H : RBC B v w) (hB : B + 1001 < 16000000) : MN B (m_X8_freeIn v) (m_X9_freeIn w) := by
  obtain ⟨z, v', w', h1, h2, h3, h4, -⟩ := s_freeTicks (RBC_1 (x := 0) H) hB
  refine ⟨z, v', w', h1, ?_, by rw [h4, w1_8], h3⟩
  unfold m_X9_freeIn
  simp only [q_lt]
  rw [h2]
  rfl
