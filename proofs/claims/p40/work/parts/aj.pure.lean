/-! READS, ACTS -/
theorem lg_r (x : Int64) : lg_cmp x x = 0 := by
  unfold lg_cmp
  rw [if_neg (fun h => Int64.lt_irrefl h), if_pos rfl]
theorem SV_l {w w2 w3 : xSt} (h : EQ w w2) (g : SV w2 w3) : SV w w3 := by
  obtain ⟨a1, a2, a3, a4, a5⟩ := h
  obtain ⟨n, n', h1, h2, h3, h4, h5, h6, h7, h8⟩ := g
  exact ⟨n, n', h1, a4.symm.trans h2, h3, h4, h5.trans a5, h6.trans a3, fun k hk => by rw [h7 k hk, a2], fun k hk => by rw [h8 k hk, a1]⟩
theorem SV_r {w w2 w3 : xSt} (g : SV w w2) (h : EQ w2 w3) : SV w w3 := SV_c g h.2.2.2.1 h.2.2.2.2 h.2.2.1 h.2.1
theorem J_clr {B : Nat} {v w : xSt} (hJ : J B v w) : ∃ w', m_X8_clearBuffer v = some (v 0 7, st2 v 0 7 0) ∧ EQ w w' ∧ J B (st2 v 0 7 0) w' := by
  obtain ⟨w', h1, h2, -⟩ := J_tx (L := 0) (T := fun _ => 0) (v' := st2 v 0 7 0) hJ (by omega) (fun j a b => q_sn a) (fun k hk => by rw [q_ss, va_up_ne _ _ hk]) (by rw [q_ss, va_up_self]; rfl) (fun i hi => absurd hi (by omega))
  exact ⟨w', by unfold m_X8_clearBuffer; rw [q_lt], h1, h2⟩
set_option maxHeartbeats 1000000 in
theorem t_reads {B : Nat} {v w : xSt} (hJ : J B v w) (hB : B + 7000 < 16000000) (p : Int32) : AC (B + 6000) w (m_L_reads v p) := by
  have H := hJ.1
  obtain ⟨n, n1, n2⟩ := lo (n := 5) p (by omega) (by omega)
  obtain ⟨L0, hL0, hv0, -⟩ := id H.2.2.2.2
  obtain ⟨v1, L, C, t1, ⟨g1, g2, g3, T, g4, g5⟩, hL, hC⟩ := t_types hv0 hL0 n2 n1
  obtain ⟨w1, E1, J1, T1, V1⟩ := J_tx hJ hL g1 g2 g3 g4
  obtain ⟨q, v2, w2, q1, q2, E2, J2, T2, V2⟩ := D_first J1 T1 V1
  rcases D_obey J2 hB T2 V2 with ⟨v3, w3, o1, E3, J3, o4⟩ | ⟨c, v3, w3, l0, l59, cc, o1, S3, J3, o4⟩
  · obtain ⟨w4, k1, E4, J4⟩ := J_clr J3
    have hE : EQ w w4 := EQ_t E1 (EQ_t E2 (EQ_t E3 E4))
    refine ⟨_, w4, ?_, Or.inl hE, J_b J4 (by omega)⟩
    unfold m_L_reads
    rw [t_look H (by omega), q_ob]
    dsimp only
    rw [q_lt, c_15 H, q_ob, t1, q_ob]
    dsimp only
    rw [q_lt, q2, q_ob]
    dsimp only
    rw [q_lt, o1, q_ob]
    dsimp only
    rw [q_lt, k1, q_ob]
    dsimp only
    rw [q_lt]
    refine l_n (fun j20 e20 => ?_)
    clear e20
    rw [if_neg (show ¬ (1 : Int32) = 0 by decide)]
    refine l_n (fun j23 e23 => ?_)
    rw [if_pos rfl, o4, if_neg (nI_nlt q1 (by omega)), t_look J4.1 (by omega), q_ob]
    dsimp only
    rw [q_lt, hE.1, if_pos (lg_r _), c_15 J4.1, q_ob, hE.2.2.2.1, if_pos rfl, e23]
  · obtain ⟨w4, k1, E4, J4⟩ := J_clr J3
    have hE : EQ w w2 := EQ_t E1 E2
    have hS : SV w w4 := SV_l hE (SV_r S3 E4)
    have hcn : c ≤ n := by
      have := cu_m (T := T) (p := L - 1) (q := L) (by omega)
      rcases hC with h | h | ⟨h, h'⟩
      · omega
      · omega
      · exfalso
        obtain ⟨x1, x2, x3⟩ := g4 (L - 1) (by omega)
        exact l59 ((nI_eq (by omega) (by omega)).mp (x3.symm.trans h'))
    have c102 : ∀ c, c < 5 → ¬ nI c = -102 := by decide
    refine ⟨_, w4, ?_, Or.inr hS, J4⟩
    unfold m_L_reads
    rw [t_look H (by omega), q_ob]
    dsimp only
    rw [q_lt, c_15 H, q_ob, t1, q_ob]
    dsimp only
    rw [q_lt, q2, q_ob]
    dsimp only
    rw [q_lt, o1, q_ob]
    dsimp only
    rw [q_lt, k1, q_ob]
    dsimp only
    rw [q_lt]
    refine l_n (fun j20 e20 => ?_)
    clear e20
    rw [if_neg (show ¬ (1 : Int32) = 0 by decide)]
    refine l_n (fun j23 e23 => ?_)
    rw [if_neg (c102 c (by omega)), if_neg (show ¬ nI c < 0 from nI_nlt (b := 0) (by omega) (by omega)), show m_L_low p (5 : Int32) = some (nI n) from n2, q_ob, if_neg (nI_nlt hcn (by omega)), o4, if_pos rfl, c_15 J4.1, q_ob]
    refine l_n (fun j34 e34 => ?_)
    obtain ⟨m, m', h1, h2, h3, h4, -⟩ := hS
    rw [h2, h4]
    by_cases c6 : m = 6
    · rw [if_pos c6] at h3
      rw [if_pos (show (6 : Int32) ≤ nI m from nI_le (a := 6) (by omega) (by omega)), e34]
      dsimp only
      rw [if_pos (show nI (m' + 1) = (6 : Int32) by rw [h3]; rfl), e23]
    · rw [if_neg c6] at h3
      rw [if_neg (show ¬ (6 : Int32) ≤ nI m from nI_ge (b := 6) (by omega) (by omega)), e34]
      dsimp only
      rw [if_pos (show nI (m' + 1) = nI m + 1 by rw [h3, nI_1]), e23]
theorem AC_f {B : Nat} {w : xSt} {m : Option (Int32 × xSt)} (h : AC B w m) : AC B w (ob m (fun r => lt r.2 (fun v => some (r.1, v)))) := by
  obtain ⟨v', w', h1, h2, h3⟩ := h
  exact ⟨v', w', by rw [h1]; rfl, h2, h3⟩
set_option maxHeartbeats 1000000 in
theorem t_acts {B : Nat} {v w : xSt} (hJ : J B v w) (hB : B + 7000 < 16000000) (p1 p2 : Int32) : AC (B + 6000) w (m_L_acts v p1 p2) := by
  obtain ⟨k, k1, k2⟩ := lo (n := 24) p1 (by omega) (by omega)
  by_cases a1 : k < 5
  · exact AC_b (t_a0 hJ p2 k2 a1) (by omega)
  by_cases a2 : 12 ≤ k ∧ k < 17
  · exact AC_b (t_a4 hJ (by omega) p2 k2 a2.1 a2.2) (by omega)
  unfold m_L_acts
  rw [show m_L_low p1 (24 : Int32) = some (nI k) from k2, q_ob, if_pos (show (5 : Int32) ≤ nI k from nI_le (a := 5) (by omega) (by omega))]
  by_cases a3 : k < 8
  · rw [if_neg (show ¬ (8 : Int32) ≤ nI k from nI_ge (b := 8) (by omega) (by omega))]
    refine AC_f ?_
    rcases (show k = 5 ∨ k = 6 ∨ k = 7 by omega) with rfl | rfl | rfl
    · exact AC_b (t_beg0 hJ (by omega) p2) (by omega)
    · exact AC_b (t_beg1 hJ (by omega) p2) (by omega)
    · exact AC_b (t_beg2 hJ (by omega) p2) (by omega)
  rw [if_pos (show (8 : Int32) ≤ nI k from nI_le (a := 8) (by omega) (by omega))]
  by_cases a4 : k < 12
  · rw [if_neg (show ¬ (12 : Int32) ≤ nI k from nI_ge (b := 12) (by omega) (by omega))]
    exact AC_b (AC_f (t_ord hJ (by omega) p2)) (by omega)
  rw [if_pos (show (12 : Int32) ≤ nI k from nI_le (a := 12) (by omega) (by omega)), if_pos (show (17 : Int32) ≤ nI k from nI_le (a := 17) (by omega) (by omega))]
  by_cases a5 : k < 23
  · rw [if_neg (show ¬ (23 : Int32) ≤ nI k from nI_ge (b := 23) (by omega) (by omega))]
    refine AC_f ?_
    rcases (show k = 17 ∨ k = 18 ∨ k = 19 ∨ k = 20 ∨ k = 21 ∨ k = 22 by omega) with rfl | rfl | rfl | rfl | rfl | rfl
    · exact AC_b (t_ch0 hJ p2) (by omega)
    · exact AC_b (t_ch1 hJ p2) (by omega)
    · exact AC_b (t_ch2 hJ p2) (by omega)
    · exact AC_b (t_ch3 hJ p2) (by omega)
    · exact AC_b (t_ch4 hJ p2) (by omega)
    · exact AC_b (t_ch5 hJ p2) (by omega)
  rw [if_pos (show (23 : Int32) ≤ nI k from nI_le (a := 23) (by omega) (by omega))]
  exact AC_f (t_reads hJ hB p2)
