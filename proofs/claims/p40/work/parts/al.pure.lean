/-! THE LAW: the beginning and a round -/
def QQ (B : Nat) (m : Option (Int32 × Int64 × xSt)) : Prop := ∃ kp' v' w', m = some (1, kp', v') ∧ J B v' w' ∧ w' 0 5 = 1 ∧ kp' = LK (kpt w')
theorem QQ_n {β : Type} {B : Nat} {x : β} {f : β → Option (Int32 × Int64 × xSt)} (h : ∀ y, y = x → QQ B (f y)) : QQ B (lt x f) := h x rfl
theorem QQ_i {B : Nat} {c : Prop} {i : Decidable c} {x y : Option (Int32 × Int64 × xSt)} (h1 : c → QQ B x) (h2 : ¬ c → QQ B y) : QQ B (@ite _ c i x y) := by
  by_cases h : c
  · rw [if_pos h]; exact h1 h
  · rw [if_neg h]; exact h2 h
theorem t_b {B k L : Nat} {v w : xSt} {xs : Nat → Int32} {kp : Int64} (hJ : J B v w) (hB : B + 10000 < 16000000) (h5 : w 0 5 = 1) (hkp : kp = LK (kpt w)) (hk : k < 52) : QQ (B + 6000) (m_law_b v xs L kp (nI k)) := by
  have H := hJ.1
  have n10 : ¬ (1 : Int32) = 0 := by decide
  unfold m_law_b
  refine QQ_n (fun j2 e2 => ?_)
  have e2k : (2 : Int32) * nI k = nI (2 * k) := pk_mul 2 k
  have hs : ∃ t1, (if (2 : Int32) ≤ nI k then ck (¬ ((2 : Int32) * nI k) < 0) (j2 (lotv L xs ((2 : Int32) * nI k))) else j2 (17 : Int32)) = j2 t1 := by
    by_cases c : (2 : Int32) ≤ nI k
    · exact ⟨_, by rw [if_pos c, q_ck (show ¬ (2 : Int32) * nI k < 0 by rw [e2k]; exact nI_nlt (b := 0) (by omega) (by omega))]⟩
    · exact ⟨17, by rw [if_neg c]⟩
  obtain ⟨t1, ht⟩ := hs
  rw [ht, e2]
  dsimp only
  clear ht e2
  rw [q_ck (show ¬ ((2 : Int32) * nI k) + (1 : Int32) < 0 by rw [e2k, nI_1]; exact nI_nlt (b := 0) (by omega) (by omega))]
  refine QQ_n (fun x4 _ => ?_)
  rw [t_look H (by omega), q_ob]
  dsimp only
  rw [q_lt, c_15 H, q_ob]
  obtain ⟨v1, w1, a1, a2, a3⟩ := t_acts hJ (by omega) t1 x4
  rw [a1, q_ob]
  dsimp only
  rw [q_lt]
  have b5 : w1 0 5 = 1 := by
    rcases a2 with h | h
    · rw [h.2.2.2.2]; exact h5
    · rw [(SV_k h).1]; exact h5
  have bk : kp = LK (kpt w1) := by
    rcases a2 with h | h
    · rw [EQ_kpt h]; exact hkp
    · rw [(SV_k h).2]; exact hkp
  refine QQ_n (fun j16 e16 => ?_)
  refine QQ_n (fun j104 e104 => ?_)
  clear e104
  rw [if_neg n10]
  refine QQ_n (fun j107 e107 => ?_)
  have h16 : ∀ v, J (B + 6000) v w1 → QQ (B + 6000) (j16 1 v) := by
    intro v2 hv2
    rw [e16]
    dsimp only
    rw [c_15 hv2.1, q_ob]
    refine QQ_n (fun j21 e21 => ?_)
    refine QQ_n (fun j90 e90 => ?_)
    clear e90
    rw [if_neg n10]
    refine QQ_n (fun j93 e93 => ?_)
    refine QQ_n (fun j95 e95 => ?_)
    have h21 : QQ (B + 6000) (j21 1 v2) := by
      rw [e21]
      dsimp only
      refine QQ_n (fun j24 e24 => ?_)
      rw [if_neg n10]
      have h24 : ∀ v w2, J (B + 6000) v w2 → w2 0 5 = 1 → kp = LK (kpt w2) → QQ (B + 6000) (j24 1 v) := by
        intro v w2 hv h5 hk
        rw [e24]
        dsimp only
        refine QQ_n (fun j28 e28 => ?_)
        rw [if_neg n10]
        have h28 : ∀ kp v w, J (B + 6000) v w → w 0 5 = 1 → kp = LK (kpt w) → QQ (B + 6000) (j28 1 kp v) := by
          intro kp v w hv h5 hk
          rw [e28]
          dsimp only
          rw [if_neg n10]
          refine QQ_i (fun _ => ?_) (fun _ => ⟨kp, v, w, rfl, hv, h5, hk⟩)
          rw [c_15 hv.1, q_ob]
          rcases D_undo hv with ⟨z, v3, w3, u1, u2, u3⟩ | ⟨m, v3, w3, m6, m1, u1, ⟨u2, u3, u4, u5, u6⟩, u7⟩
          · rw [u1, q_ob]
            dsimp only
            rw [q_lt]
            refine QQ_n (fun j38 e38 => ?_)
            rw [if_pos (show w 0 3 = 0 from z), e38]
            dsimp only
            refine QQ_n (fun j40 e40 => ?_)
            rw [if_pos rfl, e40]
            exact ⟨kp, v3, w3, rfl, u3, u2.2.2.2.2.trans h5, by rw [EQ_kpt u2]; exact hk⟩
          · rw [u1, q_ob]
            dsimp only
            rw [q_lt]
            refine QQ_n (fun j38 e38 => ?_)
            rw [m1, if_neg (nI_ne0 (by omega) (by omega)), e38]
            dsimp only
            refine QQ_n (fun j40 e40 => ?_)
            rw [nI_pred, if_pos rfl, e40]
            exact ⟨kp, v3, w3, rfl, u7, u6.trans h5, by rw [hk]; unfold kpt; rw [u4]⟩
        clear e28
        refine QQ_i (fun _ => ?_) (fun _ => h28 kp v w2 hv h5 hk)
        rcases D_goBack hv with ⟨z, -⟩ | ⟨-, v3, w3, g1, g2, g3, g4⟩
        · exact absurd (z.symm.trans h5) (by decide)
        rw [g1, q_ob]
        dsimp only
        rw [q_lt]
        refine QQ_n (fun j50 e50 => ?_)
        refine QQ_n (fun j55 e55 => ?_)
        clear e55
        obtain ⟨t, t1, t2⟩ := IV_t (hv.2.2.2 h5)
        rw [t2, if_neg (show ¬ nI t < 0 from nI_nlt (b := 0) (by omega) (by omega)), t_look g4.1 (by omega), q_ob]
        dsimp only
        rw [q_lt, g3, if_pos (show lg_cmp (LK (kpt w2)) kp = 0 by rw [hk]; exact lg_r _)]
        rcases D_undo g4 with ⟨z, -⟩ | ⟨m, v5, w5, m6, m1, u1, ⟨u2, u3, u4, u5, u6⟩, u7⟩
        · obtain ⟨n, n', x1, x2, x3, x4, -⟩ := g2
          have := (nI_eq (a := n' + 1) (b := 0) (by split at x3 <;> omega) (by omega)).mp (x4.symm.trans z)
          omega
        rw [u1, q_ob]
        dsimp only
        obtain ⟨v6, w6, k1, k2, k3, k4, k5, k6, k7⟩ := D_keep u7
        rw [q_lt, if_neg (show ¬ nI m < 0 from nI_nlt (b := 0) (by omega) (by omega)), k1, q_ob]
        dsimp only
        rw [q_lt, c_0 k7.1, q_ob, k2, if_pos rfl, e50]
        dsimp only
        rw [t_look k7.1 (by omega), q_ob]
        dsimp only
        rw [q_lt]
        exact h28 _ v6 w6 k7 k5 (by rw [k6, k2])
      clear e24
      refine QQ_i (fun c => ?_) (fun _ => h24 v2 w1 hv2 b5 bk)
      obtain ⟨b, b1, b2⟩ := lo (n := 3) (x4 >>> ((8 : Int32) &&& 31)) (by omega) (by omega)
      rw [show m_L_low (x4 >>> ((8 : Int32) &&& 31)) (3 : Int32) = some (nI b) from b2, q_ob]
      refine QQ_i (fun _ => ?_) (fun _ => h24 v2 w1 hv2 b5 bk)
      rcases a2 with hE | hS
      · exfalso
        obtain ⟨n, n1, n2, n3, -⟩ := H.2.2.2.1
        rw [hE.2.2.2.1, n3, nI_1] at c
        have := (nI_eq (by omega) (by omega)).mp c
        omega
      · obtain ⟨n, n', x1, x2, x3, x4, x5, x6, x7, x8, x9⟩ := SV_s hJ.2.1.2.2.2.2 hS
        rw [x7, x2, nI_1] at c
        have hn : n' + 1 = n + 1 := (nI_eq (by omega) (by omega)).mp c
        rcases D_undo hv2 with ⟨z, -⟩ | ⟨m, v3, w3, m6, m1, u1, ⟨u2, u3, u4, u5, u6⟩, u7⟩
        · have := (nI_eq (by omega) (by omega)).mp (x7.symm.trans z)
          omega
        have hm : n' + 1 = m + 1 := (nI_eq (by omega) (by omega)).mp (x7.symm.trans m1)
        obtain rfl : m = n' := by omega
        obtain rfl : m = n := by omega
        rw [u1, q_ob]
        dsimp only
        rw [q_lt]
        refine QQ_n (fun j81 e81 => ?_)
        refine QQ_n (fun j83 e83 => ?_)
        clear e83
        rw [if_pos x2.symm, t_look u7.1 (by omega), q_ob]
        dsimp only
        rw [q_lt, u2, x9, if_pos (lg_r _), e81]
        exact h24 v3 w3 u7 (u6.trans b5) (by rw [bk]; unfold kpt; rw [u4])
    have h93 : QQ (B + 6000) (j93 v2) := by
      rw [e93]
      exact h21
    clear e21 e93
    rcases a2 with hE | hS
    · rw [if_pos hE.2.2.2.1]
      refine QQ_i (fun _ => h93) (fun _ => ?_)
      rw [t_look hv2.1 (by omega), q_ob]
      dsimp only
      rw [q_lt, hE.1, if_pos (lg_r _)]
      exact h93
    · obtain ⟨n, n', y1, y2, y3, y4, -⟩ := hS
      rw [y2, y4] at e95
      rw [y2, y4]
      by_cases n6 : n = 6
      · rw [if_pos n6] at y3
        rw [if_pos (show nI (n' + 1) = nI n by rw [y3, n6]), if_pos (show nI n = (6 : Int32) by rw [n6]; rfl)]
        exact h93
      · rw [if_neg n6] at y3
        rw [if_neg (nn (by omega) (by omega) (by omega)), e95]
        dsimp only
        rw [if_pos (show nI (n' + 1) = nI n + 1 by rw [y3, nI_1])]
        exact h93
  clear e16
  have h107 : QQ (B + 6000) (j107 v1) := by
    rw [e107]
    dsimp only
    refine QQ_n (fun j109 e109 => ?_)
    refine QQ_i (fun _ => ?_) (fun _ => ?_)
    · obtain ⟨v2, f1, f2⟩ := t_falls a3 (by omega) x4
      rw [f1, q_ob]
      dsimp only
      rw [q_lt, if_neg n10, e109]
      exact h16 v2 f2
    · rw [e109]
      exact h16 v1 a3
  clear e107
  refine QQ_i (fun _ => h107) (fun _ => ?_)
  rw [t_holds a3 (by omega), q_ob]
  dsimp only
  rw [q_lt, if_neg n10]
  exact h107
theorem t_a : QQ 0 (m_law_a v0BC) := by
  have n10 : ¬ (1 : Int32) = 0 := by decide
  unfold m_law_a
  rw [t_holds i_J (by omega), q_ob]
  dsimp only
  rw [q_lt]
  refine QQ_n (fun j7 e7 => ?_)
  refine QQ_n (fun j12 e12 => ?_)
  clear e12
  rw [if_neg n10]
  obtain ⟨v1, f1, f2⟩ := t_falls i_J (by omega) 0
  rw [f1, q_ob]
  dsimp only
  rw [q_lt, if_neg n10]
  rcases D_undo f2 with ⟨z, v2, w2, u1, u2, u3⟩ | ⟨m, v3, w3, m6, m1, -⟩
  · rw [u1, q_ob]
    dsimp only
    rw [q_lt, if_pos rfl]
    rcases D_goBack u3 with ⟨y, v3, w3, g1, g2, g3⟩ | ⟨y, -⟩
    · rw [g1, q_ob]
      dsimp only
      rw [q_lt, if_pos rfl]
      obtain ⟨v6, w6, k1, k2, k3, k4, k5, k6, k7⟩ := D_keep g3
      have e561 : w3 1 561 = 0 := by
        rw [g2.1, u2.1]
        exact i_zero (k := 561) (by omega) (by omega)
      rw [k1, q_ob]
      dsimp only
      rw [q_lt, if_pos e561, e7]
      dsimp only
      rw [t_look k7.1 (by omega), q_ob]
      dsimp only
      rw [q_lt]
      exact ⟨_, v6, w6, rfl, k7, k5, by rw [k6, k2]⟩
    · rw [u2.2.2.2.2] at y
      exact absurd (show (0 : Int32) = 1 from y) (by decide)
  · exact absurd ((nI_eq (by omega) (by omega)).mp (show nI 0 = nI (m + 1) from m1)) (by omega)
def RRP (k : Nat) (kp : Int64) (v : xSt) : Prop := ∃ w, J (10000 * k) v w ∧ w 0 5 = 1 ∧ kp = LK (kpt w)
theorem i_a : ∃ kp v, m_law_a v0BC = some (1, kp, v) ∧ RRP 0 kp v := by
  obtain ⟨kp, v, w, h1, h2, h3, h4⟩ := t_a
  exact ⟨kp, v, h1, w, h2, h3, h4⟩
theorem i_b {xs : Nat → Int32} {L k : Nat} {kp : Int64} {v : xSt} (hk : k < 52) (hR : RRP k kp v) : ∃ kp' v', m_law_b v xs L kp (nI k) = some (1, kp', v') ∧ RRP (k + 1) kp' v' := by
  obtain ⟨w, h1, h2, h3⟩ := hR
  obtain ⟨kp', v', w', g1, g2, g3, g4⟩ := t_b (xs := xs) (L := L) h1 (by omega) h2 h3 hk
  exact ⟨kp', v', g1, w', J_b g2 (by omega), g3, g4⟩
theorem i_end {kp : Int64} {v : xSt} (hR : RRP 52 kp v) : m_L_holds v = some (1, v) := by
  obtain ⟨w, h1, -⟩ := hR
  exact t_holds h1 (by omega)
