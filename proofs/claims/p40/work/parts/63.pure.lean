/-! THE CLASS AND THE TIE: why not, misses, whether it is free -/
theorem s_hind {B : Nat} {v : xSt} {σ : Nat → Int32} {k p : Int32} (H : R0 B v σ) : ∃ j, j ≤ 5 ∧ m_X6_hindrance v k p = some (nI j) ∧ (∀ w, m_X9_whyNot (va_up w 1 σ) k p = some (nI j)) ∧ (j = 0 → σ 581 = 0 ∧ (k = 1 → ¬ σ 567 = 0)) := by
  obtain ⟨h1, h2, ⟨⟨l, l1, l2, l3⟩, l4, l5, l6⟩, ⟨m, ⟨m1, m2, m3⟩, m4⟩, h5, h6, h7, h8⟩ := id H
  have p0 : ∀ w : xSt, m_X9_apart (va_up w 1 σ) 0 = some (σ 599) := fun w => r_apart (j := 0) (by omega)
  have p1 : ∀ w : xSt, m_X9_apart (va_up w 1 σ) 1 = some (σ 600) := fun w => r_apart (j := 1) (by omega)
  rcases h5.2 with hu | ⟨k8, d, t, p', b1, b2, b3, b4, b5⟩
  · obtain ⟨e1, e2, -⟩ := hu
    have bz : ∀ w : xSt, m_X9_isBusy (va_up w 1 σ) = some 0 := fun w => r_busy0 e1
    have cb : m_X6_isBusy v = some 0 := by unfold m_X6_isBusy; rw [if_pos e2]
    -- what stands behind the locks
    have al : ∃ a, (a = 0 ∨ a = 1) ∧ m_X6_asideAllows v k p = some a ∧ ∀ w, m_X9_allows (va_up w 1 σ) k p = some a := by
      rcases h6.2 with h | ⟨k2, d, t, p', c1, c2, c3, c4, c5, c6, c7, c8, c9, c10, c11, c12, c13⟩
      · refine ⟨1, Or.inr rfl, ?_, fun w => ?_⟩
        · unfold m_X6_asideAllows
          rw [if_pos h.2.1]
        · unfold m_X9_allows
          rw [r_aside0 h.1]
          rfl
      · have n11 : ¬ v 11 0 = 0 := by rw [c4]; exact nI_ne0 (by omega) (by omega)
        have e11 : v 11 1 = σ 600 := c11.trans c12.symm
        by_cases q2 : v 11 0 = 2
        · have q2' : σ 599 = 2 := by rw [c3, ← c4]; exact q2
          by_cases k1 : k = 1
          · by_cases ks : p / 32 = σ 600
            · refine ⟨0, Or.inl rfl, ?_, fun w => ?_⟩
              · unfold m_X6_asideAllows
                simp only [q_lt]
                rw [if_neg n11, if_pos q2, if_pos k1, if_pos]
                unfold xso
                rw [if_pos k1, ks, e11]
              · unfold m_X9_allows
                rw [r_aside1 c3 (by omega) c2]
                simp only [q_ob, q_lt, p0, p1]
                rw [if_neg (by decide), if_pos q2', if_pos k1, if_pos ks]
            · refine ⟨1, Or.inr rfl, ?_, fun w => ?_⟩
              · unfold m_X6_asideAllows
                simp only [q_lt]
                rw [if_neg n11, if_pos q2, if_pos k1, if_neg]
                unfold xso
                rw [if_pos k1, e11]
                exact ks
              · unfold m_X9_allows
                rw [r_aside1 c3 (by omega) c2]
                simp only [q_ob, q_lt, p0, p1]
                rw [if_neg (by decide), if_pos q2', if_pos k1, if_neg ks]
          · refine ⟨0, Or.inl rfl, ?_, fun w => ?_⟩
            · unfold m_X6_asideAllows
              simp only [q_lt]
              rw [if_neg n11, if_pos q2, if_neg k1]
            · unfold m_X9_allows
              rw [r_aside1 c3 (by omega) c2]
              simp only [q_ob, q_lt, p0, p1]
              rw [if_neg (by decide), if_pos q2', if_neg k1]
        · have q2' : ¬ σ 599 = 2 := by rw [c3, ← c4]; exact q2
          refine ⟨0, Or.inl rfl, ?_, fun w => ?_⟩
          · unfold m_X6_asideAllows
            simp only [q_lt]
            rw [if_neg n11, if_neg q2]
          · unfold m_X9_allows
            rw [r_aside1 c3 (by omega) c2]
            simp only [q_ob, q_lt, p0, p1]
            rw [if_neg (by decide), if_neg q2']
    obtain ⟨a, ha, al1, al2⟩ := al
    have lo : ∃ o, (o = 0 ∨ o = 1) ∧ (if k = 3 then (if v 5 2 = 0 then some 0 else some (1 : Int32)) else m_X2_hold (sh 5 v) (xso k p)) = some o ∧ ∀ w, (if k = 3 then (if σ 553 = 1 then some (1 : Int32) else some 0) else ob (m_X9_sectorOf (va_up w 1 σ) k p) (fun r18 => m_X9_isLocked (va_up w 1 σ) r18)) = some o := by
      by_cases k3 : k = 3
      · rcases l6 with l6 | l6
        · refine ⟨0, Or.inl rfl, ?_, fun w => ?_⟩
          · rw [if_pos k3, if_pos (by rw [l5, l6])]
          · rw [if_pos k3, if_neg (by rw [l6]; decide)]
        · refine ⟨1, Or.inr rfl, ?_, fun w => ?_⟩
          · rw [if_pos k3, if_neg (by rw [l5, l6]; decide)]
          · rw [if_pos k3, if_pos l6]
      · refine ⟨lk (σ 554) (σ 555) (xso k p), lk_01 _ _ _, ?_, fun w => ?_⟩
        · rw [if_neg k3, e_hold (u := sh 5 v) l2 l1, show (sh 5 v) 0 0 = σ 554 from l2.trans l3.symm, show (sh 5 v) 0 1 = σ 555 from l4]
        · have es : m_X9_sectorOf (va_up w 1 σ) k p = some (xso k p) := by
            unfold m_X9_sectorOf xso
            by_cases c : k = 1
            · rw [if_pos c, if_pos c]
            · rw [if_neg c, if_neg c]
          rw [if_neg k3, es]
          simp only [q_ob, r_locked]
    obtain ⟨o, ho, lo1, lo2⟩ := lo
    have hx1 : m_X6_hindrance v k p = if v 0 7 = 0 then some 2 else if o = 0 then (if a = 0 then some 4 else if k = 1 then (if v 6 1 = 0 then some 5 else some 0) else some 0) else some 3 := by
      unfold m_X6_hindrance
      rw [cb]
      simp only [q_ob, q_lt, al1]
      rw [if_pos (by decide)]
      by_cases c7 : v 0 7 = 0
      · rw [if_pos c7, if_pos c7]
      · rw [if_neg c7, if_neg c7]
        by_cases k3 : k = 3
        · rw [if_pos k3] at lo1 ⊢
          by_cases c5 : v 5 2 = 0
          · rw [if_pos c5] at lo1 ⊢
            cases lo1
            rw [if_pos rfl]
          · rw [if_neg c5] at lo1 ⊢
            cases lo1
            rw [if_neg (by decide)]
        · rw [if_neg k3] at lo1 ⊢
          rw [lo1]
          rfl
    have hx2 : ∀ w, m_X9_whyNot (va_up w 1 σ) k p = if σ 552 = 0 then some 2 else if o = 0 then (if a = 0 then some 4 else if k = 1 then (if σ 567 = 0 then some 5 else some 0) else some 0) else some 3 := by
      intro w
      have lo2 := lo2 w
      unfold m_X9_whyNot
      rw [bz]
      simp only [q_ob, q_lt, al2, kc552, kn552, kc567, kn567, kc553, kn553, va_up_self]
      rw [if_pos (by decide)]
      by_cases c7 : σ 552 = 0
      · rw [if_pos c7, if_pos c7]
      · rw [if_neg c7, if_neg c7]
        by_cases k3 : k = 3
        · rw [if_pos k3] at lo2 ⊢
          by_cases c5 : σ 553 = 1
          · rw [if_pos c5] at lo2 ⊢
            cases lo2
            rw [if_neg (by decide)]
          · rw [if_neg c5] at lo2 ⊢
            cases lo2
            rw [if_pos rfl]
        · rw [if_neg k3] at lo2 ⊢
          obtain ⟨y, hy⟩ : ∃ y, m_X9_sectorOf (va_up w 1 σ) k p = some y := by
            unfold m_X9_sectorOf
            by_cases c : k = 1
            · exact ⟨_, if_pos c⟩
            · exact ⟨_, if_neg c⟩
          rw [hy] at lo2 ⊢
          simp only [q_ob] at lo2 ⊢
          rw [lo2]
          rfl
    rw [h1.1] at hx1
    rw [show v 6 1 = σ 567 by rw [m1, m4]] at hx1
    have : ∃ j, j ≤ 5 ∧ (if σ 552 = 0 then some 2 else if o = 0 then (if a = 0 then some 4 else if k = 1 then (if σ 567 = 0 then some 5 else some 0) else some 0) else some 3) = some (nI j) ∧ (j = 0 → k = 1 → ¬ σ 567 = 0) := by
      split
      · exact ⟨2, by omega, rfl, fun h => absurd h (by omega)⟩
      · split
        · split
          · exact ⟨4, by omega, rfl, fun h => absurd h (by omega)⟩
          · split
            · split
              · exact ⟨5, by omega, rfl, fun h => absurd h (by omega)⟩
              · rename_i hh
                exact ⟨0, by omega, rfl, fun _ _ => hh⟩
            · rename_i hh
              exact ⟨0, by omega, rfl, fun _ h => absurd h hh⟩
        · exact ⟨3, by omega, rfl, fun h => absurd h (by omega)⟩
    obtain ⟨j, hj, e, e3⟩ := this
    exact ⟨j, hj, hx1.trans e, fun w => (hx2 w).trans e, fun h => ⟨e1, e3 h⟩⟩
  · refine ⟨1, by omega, ?_, fun w => ?_, fun h => absurd h (by omega)⟩
    · have cb : m_X6_isBusy v = some 1 := by unfold m_X6_isBusy; rw [if_neg (by rw [b4]; exact nI_ne0 (by omega) (by omega))]
      unfold m_X6_hindrance
      rw [cb]
      rfl
    · unfold m_X9_whyNot
      rw [r_busy1 b3 (by omega) b2]
      rfl
/-! misses -/
def ms (σ : Nat → Int32) (c m : Nat) : Nat → Nat
  | 0 => 0
  | k + 1 => ms σ c m k + (if k < m then (if σ (rp c k) &&& σ (568 + vi m k) = σ (568 + vi m k) then 0 else 1) else 0)
theorem ms_s {σ : Nat → Int32} {c m k : Nat} : ms σ c m (k + 1) = ms σ c m k + (if k < m then (if σ (rp c k) &&& σ (568 + vi m k) = σ (568 + vi m k) then 0 else 1) else 0) := rfl
theorem ms_le {σ : Nat → Int32} {c m : Nat} (k : Nat) : ms σ c m k ≤ k := by
  induction k with
  | zero => exact Nat.le_refl _
  | succ k ih =>
    unfold ms
    split
    · split <;> omega
    · omega
theorem ms_x {σ : Nat → Int32} {c m : Nat} : ∀ d, ms σ c m (m + d) = ms σ c m m := by
  intro d
  induction d with
  | zero => rfl
  | succ d ih =>
    rw [show m + (d + 1) = m + d + 1 by omega]
    unfold ms
    rw [if_neg (by omega), Nat.add_zero]
    rw [ih]
    cases m <;> rfl
theorem ms_8 {σ : Nat → Int32} {c m : Nat} : ms σ c m (mn m 8) = ms σ c m 8 := by
  unfold mn
  by_cases h : m < 8
  · rw [if_pos h]
    have := ms_x (σ := σ) (c := c) (m := m) (8 - m)
    rw [show m + (8 - m) = 8 by omega] at this
    exact this.symm
  · rw [if_neg h]
theorem r_loadedFor {w : xSt} {σ : Nat → Int32} {k m : Nat} (hm : σ 567 = nI m) (hm1 : m ≤ 12) (hk : k < 12) : m_X9_loadedFor (va_up w 1 σ) (nI k) = some (if k < m then σ (568 + vi m k) else -1) := by
  unfold m_X9_loadedFor
  simp only [kc567, kn567, va_up_self, hm, q_lt]
  by_cases h : k < m
  · rw [if_pos (nI_lt h (by omega)), if_pos h]
    unfold vi
    by_cases h2 : k + 8 < m
    · have e : nI k + 8 = nI (k + 8) := nI_add k 8
      rw [e, if_neg (nI_ge h2 (by omega)), if_pos h2]
      simp (disch := omega) only [li, q_lt, q_ob, q_u1, q_u2, q_u3, q_u4, nI_add, pk_mul, q_cl, q_lts, q_le, q_eq, q_sub, q_div, q_ck, q_st, va_up_self, Nat.reduceAdd, Nat.reduceMul]
    · have e : nI k + 8 = nI (k + 8) := nI_add k 8
      rw [e, if_pos (nI_le (by omega) (by omega)), if_neg h2]
      simp (disch := omega) only [li, q_lt, q_ob, q_u1, q_u2, q_u3, q_u4, nI_add, pk_mul, q_cl, q_lts, q_le, q_eq, q_sub, q_div, q_ck, q_st, va_up_self, Nat.reduceAdd, Nat.reduceMul]
  · rw [if_neg (nI_nlt (by omega) (by omega)), if_neg h]
theorem s_misses {B c : Nat} {v : xSt} {σ : Nat → Int32} (H : R0 B v σ) (hc : c < 256) : ∃ z, z ≤ 8 ∧ m_X6_missesAt v (nI c) = some (nI z) ∧ ∀ w, m_X9_missesAt (va_up w 1 σ) (nI c) = some (nI z) := by
  obtain ⟨h1, h2, h3, ⟨m, ⟨m1, m2, m3⟩, m4⟩, h5, h6, h7, h8⟩ := id H
  refine ⟨ms σ c m 8, ms_le 8, ?_, fun w => ?_⟩
  · have hsp : m_X4_span (sh 6 v) = some (nI (mn m 8)) := by
      unfold m_X4_span
      rw [show (sh 6 v) 0 1 = nI m from m1]
      unfold mn
      by_cases h : m < 8
      · rw [if_neg (show ¬ (8 : Int32) < nI m from nI_nlt (a := 8) (b := m) (by omega) (by omega)), if_pos h]
      · by_cases h2 : m = 8
        · subst h2
          rw [if_neg (by decide), if_neg (by omega)]
        · rw [if_pos (show (8 : Int32) < nI m from nI_lt (a := 8) (by omega) (by omega)), if_neg h]
          rfl
    unfold m_X6_missesAt
    rw [hsp]
    simp only [q_ob]
    rw [← ms_8]
    refine lpf_r (fun k => (nI (ms σ c m k), nI k)) (mn m 8) (xFg (by have := (mn8 m).1; omega)) rfl (fun k rec hk => ?_) (fun rec => ?_)
    · have hkm : k < m := by have := (mn8 m).2; omega
      have hk8 : k < 8 := by have := (mn8 m).1; omega
      have hvi : vi m k < m := by unfold vi; split <;> omega
      have hrp : rp c k < 256 := by unfold rp; omega
      simp only [q_u2, q_lt]
      have hm8 := (mn8 m).1
      rw [if_neg (nI_ge hk (by omega)), e_valueFor]
      simp only [q_ob]
      rw [show xvf ((sh 6 v) 0 1) ((sh 6 v) 1) (nI k) = σ (568 + vi m k) by
        show xvf (v 6 1) (v 7) (nI k) = _
        rw [m1, xvf_n m2 hkm, (m3 _ hvi).1], xrp_n hc (by omega), xat_n hrp (by omega), (h2.1 _ hrp).1]
      rw [ms_s]
      rw [if_pos hkm]
      by_cases cc : σ (rp c k) &&& σ (568 + vi m k) = σ (568 + vi m k)
      · rw [if_pos cc, if_pos cc, nI_1]
        rfl
      · rw [if_neg cc, if_neg cc, nI_1, nI_1]
    · simp only [q_u2]
      rw [if_pos (nI_le (Nat.le_refl _) (by have := (mn8 m).1; omega))]
  · unfold m_X9_missesAt
    refine lpf_r (fun k => (nI (ms σ c m k), nI k)) 8 (xFg (by omega)) rfl (fun k rec hk => ?_) (fun rec => ?_)
    · have hrp : rp c k < 256 := by unfold rp; omega
      have hx : xrp (nI c) (nI k) = nI (rp c k) := xrp_n hc (by omega)
      unfold xrp at hx
      simp only [q_u2, q_lt]
      rw [if_neg (show ¬ (8 : Int32) ≤ nI k from nI_ge (b := 8) (by omega) (by omega)), r_loadedFor m4 m2 (by omega)]
      simp only [q_ob]
      rw [hx, q_cl (by omega), q_ck (nI_in (c := rp c k) (N := 797) (by omega) (by omega) |> fun h => by rw [q_cl (by omega)] at h; exact h), va_up_self]
      rw [ms_s]
      by_cases hkm : k < m
      · have hvi : vi m k < m := by unfold vi; split <;> omega
        obtain ⟨a0, a, ha, ea⟩ := m3 _ hvi
        rw [if_pos hkm, if_pos hkm]
        rw [if_neg (by rw [ea, q_ne1 (by omega)]; exact id)]
        by_cases cc : σ (rp c k) &&& σ (568 + vi m k) = σ (568 + vi m k)
        · rw [if_pos cc, if_pos cc, nI_1]
          exact congrArg rec (by rw [show nI (ms σ c m k) + 0 = nI (ms σ c m k) from Int32.add_zero _]; rfl)
        · rw [if_neg cc, if_neg cc, nI_1, nI_1]
      · rw [if_neg hkm, if_neg hkm, if_pos rfl, nI_1]
        exact congrArg rec (by rw [show nI (ms σ c m k) + 0 = nI (ms σ c m k) from Int32.add_zero _]; rfl)
    · simp only [q_u2]
      rw [if_pos (show (8 : Int32) ≤ nI 8 by decide)]
