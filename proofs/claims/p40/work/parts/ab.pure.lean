/-! FALLS: cells, misses, fits, freeIn, read -/
theorem n_of (p : Int32) : ∃ m, p = nI m := ⟨p.toBitVec.toNat, Int32.toBitVec_inj.mp (by
  show p.toBitVec = BitVec.ofNat 32 p.toBitVec.toNat
  rw [BitVec.ofNat_toNat, BitVec.setWidth_eq])⟩
theorem lo {n : Nat} (p : Int32) (h0 : 0 < n) (h : n < 2147483648) : ∃ c, c < n ∧ m_L_low p (nI n) = some (nI c) := by
  obtain ⟨m, rfl⟩ := n_of p
  have hm : m &&& 2147483647 < 2147483648 := Nat.lt_succ_of_le Nat.and_le_right
  refine ⟨(m &&& 2147483647) % n, Nat.mod_lt _ h0, ?_⟩
  unfold m_L_low
  rw [q_ck (nI_ne0 h0 h), show nI m &&& (2147483647 : Int32) = nI (m &&& 2147483647) from nI_and m 2147483647, xrem hm h0 h]
theorem mi_n {B : Nat} {v w : xSt} (H : RBC B v w) {c : Nat} (hc : c < 256) : ∃ z, z ≤ 8 ∧ m_X8_misses_n v (nI c) = some (nI z) ∧ (w 1 567 = 0 → z = 0) := by
  obtain ⟨z, z1, z2, z3⟩ := s_misses H.1.1 hc
  refine ⟨z, z1, ?_, fun e => ?_⟩
  · unfold m_X8_misses_n
    rw [xw255 c hc, if_neg (by decide), z2, q_ob]
  · obtain ⟨m, m1, m2, m4, m5⟩ := RLd_f H.1.1.2.2.2.1
    obtain rfl : m = 0 := (nI_eq (by omega) (by omega)).mp ((show w 1 567 = nI m from m4).symm.trans e)
    unfold m_X6_missesAt m_X4_span at z2
    rw [show (sh 6 (sh 7 v)) 0 1 = nI 0 from m2, if_neg (by decide), q_ob] at z2
    obtain ⟨t, ht⟩ : ∃ t, xF = t + 1 := ⟨xF - 1, by have := xFg (n := 0) (by omega); omega⟩
    rw [ht, lp] at z2
    simp only [q_u2] at z2
    rw [if_pos (by decide)] at z2
    exact (nI_eq (by omega) (by omega)).mp (Option.some.inj z2).symm
theorem t_fits {B : Nat} {v w : xSt} (H : RBC B v w) : ∃ z, m_X8_fits v = some z ∧ (z = -1 ∨ ∃ c, c < 256 ∧ z = nI c ∧ m_X8_misses_n v (nI c) = some 0) := by
  obtain ⟨⟨l, l1, l2, l3⟩, l4, l5⟩ := id H.1.1.2.2.1
  have el : ∀ s, m_X2_hold (sh 12 v) s = some (lk (w 1 554) (w 1 555) s) := by
    intro s
    have e1 := e_hold (u := sh 12 v) (s := s) l2 l1
    rw [show (sh 12 v) 0 0 = w 1 554 from l2.trans l3.symm, show (sh 12 v) 0 1 = w 1 555 from l4] at e1
    exact e1
  have ms : ∀ c, c < 256 → ∃ z, m_X6_missesAt (sh 7 v) (nI c) = some z := by
    intro c hc
    obtain ⟨z, hz, h1, h2⟩ := s_misses H.1.1 hc
    exact ⟨nI z, h1⟩
  have p : wp (m_X8_fits v) (FD 0 256 (fun c => lk (w 1 554) (w 1 555) (nI c / 32) = 0 ∧ m_X6_missesAt (sh 7 v) (nI c) = some 0)) := by
    unfold m_X8_fits
    refine lp_fi (p := fun c => lk (w 1 554) (w 1 555) (nI c / 32) = 0 ∧ m_X6_missesAt (sh 7 v) (nI c) = some 0) (xFg (by omega)) rfl (fun c rec hc hp => ?_) (fun c rec hc hp => ?_) (fun rec => ?_)
    · simp only [q_u1, q_lt]
      rw [if_neg (show ¬ (256 : Int32) ≤ nI c from nI_ge (b := 256) hc (by omega)), el]
      simp only [q_ob]
      rw [if_pos hp.1, hp.2]
      simp only [q_ob]
      rw [if_pos (by decide)]
    · obtain ⟨z, h1⟩ := ms c hc
      rw [h1] at hp
      simp only [q_u1, q_lt]
      rw [if_neg (show ¬ (256 : Int32) ≤ nI c from nI_ge (b := 256) hc (by omega)), el]
      simp only [q_ob]
      by_cases c1 : lk (w 1 554) (w 1 555) (nI c / 32) = 0
      · rw [if_pos c1, h1]
        simp only [q_ob]
        rw [if_neg (fun e => hp ⟨c1, congrArg some e⟩), show nI c + 1 = nI (c + 1) from nI_1 c]
      · rw [if_neg c1, show nI c + 1 = nI (c + 1) from nI_1 c]
    · simp only [q_u1]
      rw [if_pos (show (256 : Int32) ≤ nI 256 by decide)]
  obtain ⟨z, h1, h2⟩ := p
  refine ⟨z, h1, ?_⟩
  rcases h2 with ⟨h2, -⟩ | ⟨c, -, c1, c2, ⟨-, c3⟩, -⟩
  · exact Or.inl h2
  · refine Or.inr ⟨c, c1, c2, ?_⟩
    unfold m_X8_misses_n
    rw [xw255 c c1, if_neg (by decide), c3, q_ob]
def frA (rec6 : Int32 × xSt → Option (Int32 × xSt)) : Int32 × xSt → Option (Int32 × xSt) := un2 (fun (a4 : Int32) (v5 : xSt) => (if (1000 : Int32) < a4 then some ((-1 : Int32), v5) else ob (m_X6_isFree (sh 54 v5)) (fun r9 => (if r9 = 0 then ob (m_X6_tick (sh 54 v5)) (fun r13 => lt (pu 54 47 v5 r13.2) (fun v15 => (if r13.1 = 0 then some ((-1 : Int32), v15) else rec6 ((a4 + 1), v15)))) else some (a4, v5)))))
theorem frA_e (rec : Int32 × xSt → Option (Int32 × xSt)) (a : Int32) (v : xSt) : frA rec (a, v) = (if (1000 : Int32) < a then some ((-1 : Int32), v) else ob (m_X6_isFree (sh 54 v)) (fun r9 => (if r9 = 0 then ob (m_X6_tick (sh 54 v)) (fun r13 => lt (pu 54 47 v r13.2) (fun v15 => (if r13.1 = 0 then some ((-1 : Int32), v15) else rec ((a + 1), v15)))) else some (a, v)))) := Eq.trans rfl rfl
theorem fr_rng : ∀ (F a : Nat) (v : xSt) (z : Int32) (v' : xSt), a ≤ 1001 → lp frA F (nI a, v) = some (z, v') → z = -1 ∨ ∃ b, b ≤ 1000 ∧ z = nI b := by
  intro F
  induction F with
  | zero =>
    intro a v z v' ha h
    rw [lp] at h
    cases h
  | succ F ih =>
    intro a v z v' ha h
    rw [lp, frA_e] at h
    by_cases c : (1000 : Int32) < nI a
    · rw [if_pos c] at h
      cases h
      exact Or.inl rfl
    · have a1 : a ≤ 1000 := Nat.le_of_not_lt (fun h => c (nI_lt (a := 1000) h (by omega)))
      rw [if_neg c] at h
      obtain ⟨x, hx, h⟩ := ob_e h
      by_cases c2 : x = 0
      · rw [if_pos c2] at h
        obtain ⟨y, hy, h⟩ := ob_e h
        rw [q_lt] at h
        by_cases c3 : y.1 = 0
        · rw [if_pos c3] at h
          cases h
          exact Or.inl rfl
        · rw [if_neg c3, nI_1] at h
          exact ih (a + 1) _ z v' (by omega) h
      · rw [if_neg c2] at h
        cases h
        exact Or.inr ⟨a, a1, rfl⟩
theorem t_free {B : Nat} {v w : xSt} (hJ : J B v w) (hB : B + 1001 < 16000000) : ∃ z v', m_X8_freeIn v = some (z, v') ∧ J B v' w ∧ (z = -1 ∨ ∃ a, a ≤ 1000 ∧ z = nI a) := by
  obtain ⟨z, v', w', h1, h2, h3, h4, h5, -⟩ := s_freeTicks hJ.1 hB
  refine ⟨z, v', h1, ⟨RBC_fr hJ.1 h5 h3.2.1 (fun _ _ _ => rfl) (fun _ _ => rfl), hJ.2⟩, ?_⟩
  unfold m_X8_freeIn at h1
  obtain ⟨r, hr, h1⟩ := ob_e h1
  rw [q_lt] at h1
  exact fr_rng xF 0 _ z v' (by omega) h1
theorem t_falls {B : Nat} {v w : xSt} (hJ : J B v w) (hB : B + 1001 < 16000000) (p : Int32) : ∃ v', m_L_falls v p = some (1, v') ∧ J B v' w := by
  have H := hJ.1
  obtain ⟨c, c1, c2⟩ := lo (n := 256) p (by omega) (by omega)
  obtain ⟨z, z1, z2, z3⟩ := mi_n H c1
  obtain ⟨f, v', f1, f2, f3⟩ := t_free hJ hB
  have G := f2.1
  obtain ⟨y, y1, y2⟩ := t_fits G
  refine ⟨v', ?_, f2⟩
  unfold m_L_falls
  rw [show m_L_low p (256 : Int32) = some (nI c) from c2, q_ob, e_0 H c1, q_ob, e_1 H c1, q_ob, z2, q_ob, f1, q_ob]
  dsimp only
  rw [q_lt, y1, q_ob]
  refine l_n (fun j15 e15 => ?_)
  suffices hj : j15 1 = some (1, v') by
    refine l_n (fun j36 e36 => ?_)
    clear e36
    rw [if_pos (show w 1 c &&& w 1 (256 + c) = 0 from hJ.2.1.1 c c1), if_neg (show ¬ nI z < 0 from nI_nlt (b := 0) (by omega) (by omega)), if_neg (show ¬ (8 : Int32) < nI z from nI_nlt (a := 8) (by omega) (by omega)), c_11 G, q_ob]
    refine l_n (fun j42 e42 => ?_)
    have h42 : j42 () = some (1, v') := by
      rw [e42]
      dsimp only
      refine l_n (fun j43 e43 => ?_)
      have h43 : j43 () = some (1, v') := by
        rw [e43]
        dsimp only
        refine l_n (fun j44 e44 => ?_)
        have h44 : j44 () = some (1, v') := by rw [e44]; exact hj
        rcases f3 with f3 | ⟨a, a1, f3⟩
        · rw [if_pos f3]
          exact h44
        · rw [f3, if_neg (show ¬ nI a = -1 by rw [q_ne1 (by omega)]; exact id), if_neg (show ¬ nI a < 0 from nI_nlt (b := 0) (by omega) (by omega)), if_neg (show ¬ (1000 : Int32) < nI a from nI_nlt (a := 1000) (by omega) (by omega))]
          exact h44
      rcases y2 with y2 | ⟨d, d1, y2, d2⟩
      · rw [if_pos y2]
        exact h43
      · rw [y2, if_neg (show ¬ nI d = -1 by rw [q_ne1 (by omega)]; exact id), d2, q_ob, if_pos rfl]
        exact h43
    obtain ⟨m, m1, m2, m4, m5⟩ := RLd_f H.1.1.2.2.2.1
    rw [show w 1 567 = nI m from m4]
    by_cases hm : m = 0
    · subst hm
      rw [if_neg (by decide), if_pos (show nI z = 0 by rw [z3 m4]; rfl)]
      exact h42
    · rw [if_pos (show (0 : Int32) < nI m from nI_lt (a := 0) (by omega) (by omega))]
      exact h42
  rw [e15]
  dsimp only
  clear e15
  have h256 : m_L_read v' (256 : Int32) = some (-101, v') := by
    rcases D_read f2 (p := 256) with ⟨-, h⟩ | ⟨d, d1, d2, -⟩
    · exact h
    · exact absurd ((nI_eq (by omega) (by omega)).mp (show nI 256 = nI d from d2)) (by omega)
  rcases D_read f2 (p := nI c) with ⟨x, -⟩ | ⟨d, d1, d2, hr⟩
  · rw [xw255 c c1] at x
    exact absurd x (by decide)
  obtain rfl : d = c := (nI_eq (by omega) (by omega)).mp d2.symm
  rcases hr with ⟨hr, hb⟩ | ⟨hb, hr⟩
  · rw [hr, q_ob]
    dsimp only
    rw [q_lt]
    refine l_n (fun j20 e20 => ?_)
    clear e20
    rw [if_neg (by decide), h256, q_ob]
    dsimp only
    rw [q_lt, if_pos rfl, k_00 G, q_ob]
    refine l_n (fun j28 e28 => ?_)
    have h28 : j28 () = some (1, v') := by rw [e28]
    rcases und_le G with ⟨u1, u2⟩ | ⟨u1, u2⟩
    · rw [if_pos u2]
      by_cases q : (-103 : Int32) = w 1 d
      · rw [if_pos q]
        exact h28
      · rw [if_neg q, if_pos rfl, k_10 G, q_ob]
        rcases asd_le G with ⟨a1, a2⟩ | ⟨a1, a2⟩
        · rcases hb with h | h
          · exact absurd u1 h
          · exact absurd a1 h
        · rw [if_neg a2]
          exact h28
    · rw [if_neg u2, if_pos rfl]
      exact h28
  · rw [hr, q_ob]
    dsimp only
    rw [q_lt]
    refine l_n (fun j20 e20 => ?_)
    clear e20
    rw [if_neg (by decide), h256, q_ob]
    dsimp only
    rw [q_lt, if_pos rfl, k_00 G, q_ob]
    refine l_n (fun j28 e28 => ?_)
    have h28 : j28 () = some (1, v') := by rw [e28]
    rcases und_le G with ⟨u1, u2⟩ | ⟨u1, u2⟩
    · rw [if_pos u2, if_pos rfl]
      exact h28
    · exact absurd hb u1
