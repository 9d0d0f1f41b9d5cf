/-! THE CHIP AND THE REFERENCE: the whole tie; what is saved -/
def RTx (v w : xSt) : Prop := ∃ L, L ≤ 60 ∧ v 0 7 = nI L ∧ w 0 7 = nI L ∧ ∀ i, i < L → v 2 i = w 5 i ∧ ∃ c, 33 ≤ c ∧ c ≤ 126 ∧ w 5 i = nI c
def RSn (B : Nat) (v w : xSt) : Prop := ∃ h, h < 2 ∧ v 0 3 = nI h ∧ w 0 5 = nI h ∧ SH (sh 101 v) ∧ (h = 1 → RR B (sh 101 v) (w 4))
def RSv (B n : Nat) (v w : xSt) : Prop := ∃ π, PM 6 π (v 1) ∧ (∀ i, i < 6 → SH (sh (148 + 47 * i) v)) ∧ ∀ i, i < n → RR B (sh (148 + 47 * π i) v) (sh (797 * i) (w 3))
def RBC (B : Nat) (v w : xSt) : Prop := RR B (sh 7 v) (w 1) ∧ SH (sh 54 v) ∧ RSn B v w ∧ (∃ n, n ≤ 6 ∧ v 0 5 = nI n ∧ w 0 3 = nI n ∧ RSv B n v w) ∧ RTx v w
theorem RSn_c {B B' : Nat} {v v' w w' : xSt} (H : RSn B v w) (hB : B ≤ B') (gv : ∀ j, 101 ≤ j → j < 148 → v' j = v j) (g0 : v' 0 3 = v 0 3) (gw : w' 4 = w 4) (gw0 : w' 0 5 = w 0 5) : RSn B' v' w' := by
  obtain ⟨h, h1, h2, h3, h4, h5⟩ := H
  refine ⟨h, h1, by rw [g0]; exact h2, by rw [gw0]; exact h3, SH_c h4 (gv 116 (by omega) (by omega)), fun e => ?_⟩
  rw [gw]
  exact RR_v (RR_b (h5 e) hB) (fun j hj => gv (101 + j) (by omega) (by omega))
theorem RSv_c {B B' n : Nat} {v v' w w' : xSt} (H : RSv B n v w) (hn : n ≤ 6) (hB : B ≤ B') (gv : ∀ j, 148 ≤ j → j < 430 → v' j = v j) (g1 : v' 1 = v 1) (gw : w' 3 = w 3) : RSv B' n v' w' := by
  obtain ⟨π, h1, h2, h3⟩ := H
  refine ⟨π, by rw [g1]; exact h1, fun i hi => SH_c (h2 i hi) (gv (148 + 47 * i + 15) (by omega) (by omega)), fun i hi => ?_⟩
  have hp := (h1.1 i (by omega)).1
  rw [gw]
  exact RR_v (RR_b (h3 i hi) hB) (fun j hj => gv (148 + 47 * π i + j) (by omega) (by omega))
theorem RTx_c {v v' w w' : xSt} (H : RTx v w) (g2 : v' 2 = v 2) (g0 : v' 0 7 = v 0 7) (gw : w' 5 = w 5) (gw0 : w' 0 7 = w 0 7) : RTx v' w' := by
  unfold RTx
  rw [g2, g0, gw, gw0]
  exact H
/-- the state under way has changed, nothing else -/
theorem RBC_now {B B' : Nat} {v v' w w' : xSt} (H : RBC B v w) (hB : B ≤ B') (gv : ∀ j, j < 430 → j = 1 ∨ j = 2 ∨ 54 ≤ j → v' j = v j) (g0 : ∀ k, k = 3 ∨ k = 5 ∨ k = 7 → v' 0 k = v 0 k) (gw : ∀ j, 3 ≤ j → j < 6 → w' j = w j) (gw0 : ∀ k, k = 3 ∨ k = 5 ∨ k = 7 → w' 0 k = w 0 k) (hr : RR B' (sh 7 v') (w' 1)) : RBC B' v' w' := by
  obtain ⟨h1, h2, h3, ⟨n, n1, n2, n3, h4⟩, h5⟩ := H
  refine ⟨hr, SH_c h2 (gv 69 (by omega) (by omega)), RSn_c h3 hB (fun j j1 j2 => gv j (by omega) (by omega)) (g0 3 (by omega)) (gw 4 (by omega) (by omega)) (gw0 5 (by omega)), ⟨n, n1, by rw [g0 5 (by omega)]; exact n2, by rw [gw0 3 (by omega)]; exact n3, RSv_c h4 n1 hB (fun j j1 j2 => gv j (by omega) (by omega)) (gv 1 (by omega) (by omega)) (gw 3 (by omega) (by omega))⟩, RTx_c h5 (gv 2 (by omega) (by omega)) (g0 7 (by omega)) (gw 5 (by omega) (by omega)) (gw0 7 (by omega))⟩
theorem RBC_w {B : Nat} {v w w' : xSt} (H : RBC B v w) (gw : ∀ j, j = 1 ∨ (3 ≤ j ∧ j < 6) → w' j = w j) (gw0 : ∀ k, k = 3 ∨ k = 5 ∨ k = 7 → w' 0 k = w 0 k) : RBC B v w' := RBC_now H (Nat.le_refl _) (fun _ _ _ => rfl) (fun _ _ => rfl) (fun j j1 j2 => gw j (by omega)) gw0 (by rw [gw 1 (by omega)]; exact H.1)
theorem r_copies {N M p q : Nat} {c : xSt} (hp : p + 797 ≤ N) (hq : q + 797 ≤ M) (hN : N < 100000) (hM : M < 100000) : m_X9_copies N M c (nI p) (nI q) = some (va_up c 1 (fl (c 1) q 797 (fun k => c 0 (p + k)))) := by
  unfold m_X9_copies
  refine lpf_r (fun k => (nI k, va_up c 1 (fl (c 1) q k (fun k => c 0 (p + k))))) 797 (xFg (by omega)) (by simp only [fl_0, va_up_id]; rfl) (fun k rec hk => ?_) (fun rec => ?_)
  · simp (disch := omega) only [li, q_lt, q_ob, q_u1, q_u2, q_u3, q_u4, nI_add, pk_mul, q_cl, q_lts, q_le, q_eq, q_sub, q_div, q_ck, q_st, va_up_self, Nat.reduceAdd, Nat.reduceMul, va_up_ne]
    rw [if_neg (by omega), fl_s rfl rfl]
  · simp (disch := omega) only [li, q_lt, q_ob, q_u1, q_u2, q_u3, q_u4, nI_add, pk_mul, q_cl, q_lts, q_le, q_eq, q_sub, q_div, q_ck, q_st, va_up_self, Nat.reduceAdd, Nat.reduceMul]
    rw [if_pos (by omega)]
/-- the reference's way of saving -/
theorem r_saves {w : xSt} {n : Nat} (hn : w 0 3 = nI n) (h6 : n ≤ 6) : ∃ w' n', (if n = 6 then n' = 5 else n' = n) ∧ m_X9_saves w = some w' ∧ w' 0 = va_up (w 0) 3 (nI (n' + 1)) ∧ (∀ j, j ≠ 0 → j ≠ 3 → w' j = w j) ∧ (∀ k, k < 797 * n' → w' 3 k = w 3 (k + 797 * (n - n'))) ∧ ∀ k, k < 797 → w' 3 (797 * n' + k) = w 1 k := by
  have fin : ∀ (u : xSt) (m : Nat), m ≤ 5 → u 0 3 = nI m → ∃ u', ob (m_X9_copies 797 4782 (ct 1 (sh 1 u) (sh 3 u)) (0 : Int32) ((797 : Int32) * (u 0 3))) (fun r4 => lt (pu 3 1 (pu 1 1 u r4) (sh 1 r4)) (fun v5 => lt (st2 v5 0 3 ((v5 0 3) + (1 : Int32))) (fun v6 => some v6))) = some u' ∧ u' 0 = va_up (u 0) 3 (nI (m + 1)) ∧ (∀ j, j ≠ 0 → j ≠ 3 → u' j = u j) ∧ u' 3 = fl (u 3) (797 * m) 797 (u 1) := by
    intro u m hm hu
    have e1 := r_copies (N := 797) (M := 4782) (p := 0) (q := 797 * m) (c := ct 1 (sh 1 u) (sh 3 u)) (by omega) (by omega) (by omega) (by omega)
    have e2 : (797 : Int32) * nI m = nI (797 * m) := pk_mul 797 m
    have e3 : (0 : Int32) = nI 0 := rfl
    rw [hu, e2, e3, e1]
    simp only [q_ob, q_lt]
    refine ⟨_, rfl, ?_, fun j j0 j3 => ?_, ?_⟩
    · rw [q_ss, pu_o (by omega), pu_o (by omega), hu]
      exact congrArg _ (nI_1 m)
    · rw [q_sn j0]
      by_cases j1 : j = 1
      · subst j1
        rw [pu_o (by omega), pu_i (by omega) (by omega), va_up_ne _ _ (by omega)]
        rfl
      · rw [pu_o (by omega), pu_o (by omega)]
    · rw [q_sn (by omega), pu_i (by omega) (by omega)]
      show (va_up (ct 1 (sh 1 u) (sh 3 u)) 1 _) 1 = _
      rw [va_up_self]
      show fl (u 3) (797 * m) 797 (fun k => u 1 (0 + k)) = _
      congr 1
      funext k
      rw [Nat.zero_add]
  by_cases c : n = 6
  · subst c
    have hs : ∃ u, (∀ j, j ≠ 3 → u j = w j) ∧ u 3 = fl (w 3) 0 3985 (fun k => w 3 (k + 797)) ∧ m_X9_saves w = ob (m_X9_copies 797 4782 (ct 1 (sh 1 (st2 u 0 3 ((u 0 3) - (1 : Int32)))) (sh 3 (st2 u 0 3 ((u 0 3) - (1 : Int32))))) (0 : Int32) ((797 : Int32) * ((st2 u 0 3 ((u 0 3) - (1 : Int32))) 0 3))) (fun r4 => lt (pu 3 1 (pu 1 1 (st2 u 0 3 ((u 0 3) - (1 : Int32))) r4) (sh 1 r4)) (fun v5 => lt (st2 v5 0 3 ((v5 0 3) + (1 : Int32))) (fun v6 => some v6))) := by
      refine ⟨va_up w 3 (fl (w 3) 0 3985 (fun k => w 3 (k + 797))), fun j hj => va_up_ne _ _ hj, va_up_self _ _ _, ?_⟩
      unfold m_X9_saves
      simp only [q_lt]
      rw [hn, if_pos (by decide)]
      refine lpf_r (fun k => (nI k, va_up w 3 (fl (w 3) 0 k (fun k => w 3 (k + 797))))) 3985 (xFg (by omega)) (by simp only [fl_0, va_up_id]; rfl) (fun k rec hk => ?_) (fun rec => ?_)
      · simp (disch := omega) only [li, q_lt, q_ob, q_u1, q_u2, q_u3, q_u4, nI_add, pk_mul, q_cl, q_lts, q_le, q_eq, q_sub, q_div, q_ck, q_st, va_up_self, Nat.reduceAdd, Nat.reduceMul, fl_o]
        rw [if_neg (by omega), fl_s (by omega) rfl]
      · simp only [q_u2]
        rw [if_pos (show (3985 : Int32) ≤ nI 3985 by decide)]
    obtain ⟨u, u1, u2, u3⟩ := hs
    have hu : (st2 u 0 3 ((u 0 3) - (1 : Int32))) 0 3 = nI 5 := by
      rw [q_ss, va_up_self, u1 0 (by omega), hn]
      rfl
    obtain ⟨u', e1, e2, e3, e4⟩ := fin _ 5 (by omega) hu
    refine ⟨u', 5, by rw [if_pos rfl], u3.trans e1, ?_, fun j j0 j3 => ?_, fun k hk => ?_, fun k hk => ?_⟩
    · rw [e2, q_ss, u1 0 (by omega), bx_uu]
    · rw [e3 j j0 j3, q_sn j0, u1 j j3]
    · rw [e4, fl_o (by omega), q_sn (by omega), u2, fl_i (by omega) (by omega)]
      exact congrArg _ (by omega)
    · rw [e4, fl_i (by omega) (by omega), q_sn (by omega), u1 1 (by omega)]
      exact congrArg _ (by omega)
  · obtain ⟨u', e1, e2, e3, e4⟩ := fin w n (by omega) hn
    refine ⟨u', n, by rw [if_neg c], ?_, e2, e3, fun k hk => ?_, fun k hk => ?_⟩
    · unfold m_X9_saves
      simp only [q_lt]
      rw [if_neg (by rw [hn]; exact fun e => c ((nI_eq (by omega) (by omega)).mp e))]
      exact e1
    · rw [e4, fl_o (by omega)]
      exact congrArg _ (by omega)
    · rw [e4, fl_i (by omega) (by omega)]
      exact congrArg _ (by omega)
/-- the class's way: the rows go round -/
def rot (f : Nat → Int32) (k : Nat) : Nat → Int32 := fun i => if i < k then f (i + 1) else if i = k then f 0 else f i
theorem rot_s {f : Nat → Int32} {k : Nat} : va_up (va_up (rot f k) k (f (k + 1))) (k + 1) (f 0) = rot f (k + 1) := by
  funext i
  by_cases c : i = k + 1
  · rw [c, va_up_self]
    unfold rot
    rw [if_neg (by omega), if_pos rfl]
  · rw [va_up_ne _ _ c]
    by_cases c2 : i = k
    · rw [c2, va_up_self]
      unfold rot
      rw [if_pos (by omega)]
    · rw [va_up_ne _ _ c2]
      unfold rot
      by_cases c3 : i < k
      · rw [if_pos c3, if_pos (by omega)]
      · rw [if_neg c3, if_neg c2, if_neg (by omega), if_neg c]
theorem s_drop {v : xSt} {π : Nat → Nat} (hp : PM 6 π (v 1)) (hn : v 0 5 = nI 6) : wp (m_X8_dropOldest v) (fun v' => v' 1 = rot (v 1) 5 ∧ v' 0 = va_up (v 0) 5 (nI 5) ∧ ∀ j, 2 ≤ j → v' j = v j) := by
  have hq : ∀ i, i < 6 → v 1 i = nI (π i) := fun i hi => (hp.1 i hi).2
  have hl : ∀ i, i < 6 → π i < 6 := fun i hi => (hp.1 i hi).1
  unfold m_X8_dropOldest
  refine wp_lp (fun k s => s = (nI k, va_up v 1 (rot (v 1) k))) 5 (xFg (by omega)) ?_ (fun k s rec hk hI => Or.inl ⟨_, rfl, ?_⟩) (fun s rec hI => ?_)
  · have : rot (v 1) 0 = v 1 := by
      funext i
      unfold rot
      rw [if_neg (by omega)]
      by_cases c : i = 0
      · rw [if_pos c, c]
      · rw [if_neg c]
    rw [this, va_up_id]
    rfl
  · subst hI
    have r1 : rot (v 1) k k = nI (π 0) := by
      unfold rot
      rw [if_neg (by omega), if_pos rfl, hq 0 (by omega)]
    have r2 : rot (v 1) k (k + 1) = nI (π (k + 1)) := by
      unfold rot
      rw [if_neg (by omega), if_neg (by omega), hq (k + 1) (by omega)]
    have b0 := hl 0 (by omega)
    have b1 := hl (k + 1) (by omega)
    simp (disch := omega) only [li, q_lt, q_ob, q_u1, q_u2, q_u3, q_u4, nI_add, pk_mul, q_cl, q_lts, q_le, q_eq, q_sub, q_div, q_ck, q_st, va_up_self, Nat.reduceAdd, Nat.reduceMul, r1, r2]
    rw [if_neg (by omega), ← hq (k + 1) (by omega), ← hq 0 (by omega), rot_s]
  · subst hI
    simp only [q_u2]
    rw [if_pos (show (6 : Int32) ≤ nI 5 + 1 by decide)]
    refine wp_n (fun v5 e5 => wp_s ⟨?_, ?_, fun j hj => ?_⟩)
    · rw [e5, q_sn (by omega), va_up_self]
    · rw [e5, q_ss, va_up_ne _ _ (show (0 : Nat) ≠ 1 by omega), hn]
      rfl
    · rw [e5, q_sn (by omega), va_up_ne _ _ (by omega)]
theorem s_save {B : Nat} {v w : xSt} (H : RBC B v w) : ∃ v' w', m_X8_save v = some v' ∧ m_X9_saves w = some w' ∧ RBC B v' w' ∧ (∀ j, 2 ≤ j → j < 148 → v' j = v j) ∧ (∀ k, k ≠ 5 → v' 0 k = v 0 k) ∧ (∀ j, j ≠ 0 → j ≠ 3 → w' j = w j) ∧ ∀ k, k ≠ 3 → w' 0 k = w 0 k := by
  obtain ⟨h1, h2, h3, ⟨n, n1, n2, n3, π, h4, h5, h6⟩, h7⟩ := H
  obtain ⟨w', n', s0, s1, s2, s3, s4, s5⟩ := r_saves n3 n1
  have hn' : n' ≤ 5 ∧ n' ≤ n ∧ (n = 6 ∨ n' = n) := by
    by_cases c : n = 6
    · rw [if_pos c] at s0; omega
    · rw [if_neg c] at s0; omega
  -- the row that is used next
  have hpre : ∃ v1 ρ, m_X8_save v = (if (xwi (v1 0 5) (0 : Int32) ((6 : Int32) - (1 : Int32))) = 0 then some v1 else ck (¬ ((v1 0 5) < 0 ∨ 6 ≤ (v1 0 5).toNatClampNeg)) (lt ((v1 1 (v1 0 5).toNatClampNeg).toNatClampNeg) (fun k6 => ck (k6 < 6) (ob (m_X6_become (ct 47 (sh (148 + 47 * k6) v1) (sh 7 v1))) (fun r9 => lt (pu 7 47 (pu (148 + 47 * k6) 47 v1 r9) (sh 47 r9)) (fun v10 => lt (st2 v10 0 5 ((v10 0 5) + (1 : Int32))) (fun v11 => some v11))))))) ∧ v1 0 5 = nI n' ∧ PM 6 ρ (v1 1) ∧ (∀ j, 2 ≤ j → v1 j = v j) ∧ (∀ k, k ≠ 5 → v1 0 k = v 0 k) ∧ ∀ i, i < n' → ρ i = π (i + (n - n')) := by
    by_cases c : n = 6
    · rw [if_pos c] at s0
      subst c; subst s0
      obtain ⟨v1, e1, g1, g2, g3⟩ := s_drop h4 n2
      refine ⟨v1, fun i => if i < 5 then π (i + 1) else if i = 5 then π 0 else π i, ?_, by rw [g2, va_up_self], ⟨fun r hr => ?_, fun a b ha hb hab => ?_⟩, g3, fun k hk => by rw [g2, va_up_ne _ _ hk], fun i hi => ?_⟩
      · unfold m_X8_save
        simp only [q_lt]
        rw [n2, if_neg (by decide), e1]
        rfl
      · rw [g1]
        unfold rot
        dsimp only
        by_cases c1 : r < 5
        · rw [if_pos c1, if_pos c1]
          exact h4.1 (r + 1) (by omega)
        · rw [if_neg c1, if_neg c1, if_pos (show r = 5 by omega), if_pos (show r = 5 by omega)]
          exact h4.1 0 (by omega)
      · dsimp only at hab
        by_cases c1 : a < 5 <;> by_cases c2 : b < 5
        · rw [if_pos c1, if_pos c2] at hab
          have := h4.2 _ _ (by omega) (by omega) hab
          omega
        · rw [if_pos c1, if_neg c2, if_pos (show b = 5 by omega)] at hab
          have := h4.2 _ _ (by omega) (by omega) hab
          omega
        · rw [if_neg c1, if_pos c2, if_pos (show a = 5 by omega)] at hab
          have := h4.2 _ _ (by omega) (by omega) hab
          omega
        · omega
      · dsimp only
        rw [if_pos hi]
    · rw [if_neg c] at s0
      subst s0
      refine ⟨v, π, ?_, n2, h4, fun _ _ => rfl, fun _ _ => rfl, fun i hi => by rw [Nat.sub_self, Nat.add_zero]⟩
      unfold m_X8_save
      simp only [q_lt]
      rw [n2, if_pos (show nI n' < (6 : Int32) from nI_lt (b := 6) (by omega) (by omega))]
  obtain ⟨v1, ρ, e1, p1, p2, p3, p4, p5⟩ := hpre
  obtain ⟨q1, q2⟩ := p2.1 n' (by omega)
  obtain ⟨r, hr, r1, r2⟩ := s_become (B := B) (c := ct 47 (sh (148 + 47 * ρ n') v1) (sh 7 v1)) (σ := w 1) (SH_c (h5 (ρ n') q1) (by
    show v1 (148 + 47 * ρ n' + 15) = _
    rw [p3 _ (by omega)]
    rfl)) (RR_v h1 (fun j hj => by
    rw [sh_e, ct_h (by omega), sh_e, p3 _ (by omega), sh_e]
    exact congrArg v (by omega)))
  have pu_n : ∀ j, pu 7 47 (pu (148 + 47 * ρ n') 47 v1 r) (sh 47 r) j = if 148 + 47 * ρ n' ≤ j ∧ j < 148 + 47 * ρ n' + 47 then r (j - (148 + 47 * ρ n')) else v1 j := by
    intro j
    by_cases c : 7 ≤ j ∧ j < 7 + 47
    · rw [pu_i c.1 c.2, sh_e, r2 _ (by omega), ct_h (by omega), sh_e, if_neg (by omega)]
      exact congrArg v1 (by omega)
    · rw [pu_o (by omega)]
      by_cases c2 : 148 + 47 * ρ n' ≤ j ∧ j < 148 + 47 * ρ n' + 47
      · rw [pu_i c2.1 c2.2, if_pos c2]
      · rw [pu_o (by omega), if_neg c2]
  refine ⟨st2 (pu 7 47 (pu (148 + 47 * ρ n') 47 v1 r) (sh 47 r)) 0 5 ((pu 7 47 (pu (148 + 47 * ρ n') 47 v1 r) (sh 47 r)) 0 5 + (1 : Int32)), w', ?_, s1, ?_, fun j j1 j2 => ?_, fun k hk => ?_, s3, fun k hk => by rw [s2, va_up_ne _ _ hk]⟩
  · rw [e1, p1]
    have hx : xwi (nI n') 0 (6 - 1) = 1 := by
      have : ∀ n, n < 6 → xwi (nI n) 0 (6 - 1) = 1 := by decide +kernel
      exact this n' (by omega)
    rw [hx, if_neg (by decide), q_cl (by omega), q_ck (by rw [show (0 : Int32) = nI 0 from rfl, q_lts (by omega) (by omega)]; omega), q2, q_cl (by omega)]
    simp only [q_lt]
    rw [q_ck q1, hr]
    rfl
  · have hi : ∀ j, 2 ≤ j → (st2 (pu 7 47 (pu (148 + 47 * ρ n') 47 v1 r) (sh 47 r)) 0 5 ((pu 7 47 (pu (148 + 47 * ρ n') 47 v1 r) (sh 47 r)) 0 5 + (1 : Int32))) j = if 148 + 47 * ρ n' ≤ j ∧ j < 148 + 47 * ρ n' + 47 then r (j - (148 + 47 * ρ n')) else v j := by
      intro j hj
      rw [q_sn (by omega), pu_n]
      by_cases c : 148 + 47 * ρ n' ≤ j ∧ j < 148 + 47 * ρ n' + 47
      · rw [if_pos c, if_pos c]
      · rw [if_neg c, if_neg c, p3 j hj]
    obtain ⟨v9, e9⟩ : ∃ v9, v9 = st2 (pu 7 47 (pu (148 + 47 * ρ n') 47 v1 r) (sh 47 r)) 0 5 ((pu 7 47 (pu (148 + 47 * ρ n') 47 v1 r) (sh 47 r)) 0 5 + (1 : Int32)) := ⟨_, rfl⟩
    have f0 : ∀ k, k ≠ 5 → v9 0 k = v 0 k := by
      intro k hk
      rw [e9, q_ss, va_up_ne _ _ hk, pu_n, if_neg (by omega), p4 k hk]
    have f05 : v9 0 5 = nI (n' + 1) := by
      rw [e9, q_ss, va_up_self, pu_n, if_neg (by omega), p1]
      exact nI_1 n'
    have f1 : v9 1 = v1 1 := by rw [e9, q_sn (by omega), pu_n, if_neg (by omega)]
    rw [← e9] at hi
    rw [← e9]
    have lo : ∀ j, 2 ≤ j → j < 148 → v9 j = v j := fun j j1 j2 => by rw [hi j j1, if_neg (by omega)]
    refine ⟨?_, SH_c h2 (lo 69 (by omega) (by omega)), RSn_c h3 (Nat.le_refl _) (fun j j1 j2 => lo j (by omega) (by omega)) (f0 3 (by omega)) (s3 4 (by omega) (by omega)) (by rw [s2, va_up_ne _ _ (by omega)]), ⟨n' + 1, by omega, f05, by rw [s2, va_up_self], ρ, by rw [f1]; exact p2, fun i hi6 => ?_, fun i hin => ?_⟩, RTx_c h7 (lo 2 (by omega) (by omega)) (f0 7 (by omega)) (s3 5 (by omega) (by omega)) (by rw [s2, va_up_ne _ _ (by omega)])⟩
    · rw [s3 1 (by omega) (by omega)]
      exact RR_v h1 (fun j hj => lo (7 + j) (by omega) (by omega))
    · by_cases c : i = ρ n'
      · refine SH_c (RR_sh r1) ?_
        show v9 (148 + 47 * i + 15) = _
        rw [hi _ (by omega), if_pos (by omega)]
        exact congrArg r (by omega)
      · refine SH_c (h5 i hi6) ?_
        show v9 (148 + 47 * i + 15) = _
        rw [hi _ (by omega), if_neg (by omega)]
        rfl
    · by_cases c : i = n'
      · subst c
        have e3 : ∀ k, k < 797 → (sh (797 * i) (w' 3)) k = w 1 k := fun k hk => s5 k hk
        refine RR_v (v := r) ⟨R0_s r1.1 (fun k hk _ => e3 k hk), by rw [e3 561 (by omega)]; exact r1.2⟩ (fun j hj => ?_)
        show v9 (148 + 47 * ρ i + j) = _
        rw [hi _ (by omega), if_pos (by omega)]
        exact congrArg r (by omega)
      · have hi2 : i < n' := by omega
        have ep := p5 i hi2
        have hb := (p2.1 i (by omega)).1
        have hne : ρ i ≠ ρ n' := fun e => c (p2.2 _ _ (by omega) (by omega) e)
        have hold := h6 (i + (n - n')) (by omega)
        rw [← ep] at hold
        have e3 : ∀ k, k < 797 → (sh (797 * i) (w' 3)) k = (sh (797 * (i + (n - n'))) (w 3)) k := by
          intro k hk
          rw [sh_e, s4 _ (by omega), sh_e]
          exact congrArg _ (by rw [Nat.mul_add]; omega)
        refine RR_v (v := sh (148 + 47 * ρ i) v) ⟨R0_s hold.1 (fun k hk _ => e3 k hk), by rw [e3 561 (by omega)]; exact hold.2⟩ (fun j hj => ?_)
        show v9 (148 + 47 * ρ i + j) = v (148 + 47 * ρ i + j)
        rw [hi _ (by omega), if_neg (by omega)]
  · rw [q_sn (by omega), pu_n, if_neg (by omega), p3 j (by omega)]
  · rw [q_ss, va_up_ne _ _ hk, pu_n, if_neg (by omega), p4 k hk]
