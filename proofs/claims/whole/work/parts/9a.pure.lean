/-! THE DIGEST, the reference's side, and both -/
theorem fo_g {g : Nat → Int64 → Int64} {h x : Int64} {k : Nat} {α : Type} {rec : Int64 × Int32 → α} {i : Int32} (e : g k (fo g h k) = x) : rec (x, i) = rec (fo g h (k + 1), i) := by rw [fo_s, e]
set_option maxHeartbeats 4000000 in
theorem b_digest {B : Nat} {v w : xSt} (H0 : RBC B v w) (hB : B + 1001 < 16000000) : ∃ z v' w', m_X8_digest v = some (z, v') ∧ m_X9_digest w = some (z, w') ∧ w' 0 8 = 0 ∧ RBC B v' w' := by
  obtain ⟨u, hu⟩ : ∃ u, u = st2 w 0 8 0 := ⟨_, rfl⟩
  have H : RBC B v u := by rw [hu]; exact RBC_1 H0
  have u8 : u 0 8 = 0 := by rw [hu]; exact w1_8 w 0
  obtain ⟨n, q, π, n1, -, n2, -⟩ := H.1.1.2.2.2.2.2.2.1
  obtain ⟨m, ⟨-, m1, -⟩, m2⟩ := H.1.1.2.2.2.1
  obtain ⟨zm, x1, y1⟩ := d_mis H
  obtain ⟨zf, x2, y2⟩ := s_fits H
  obtain ⟨zt, v1, w1, x3, y3, H1, g1, -⟩ := s_freeTicks H hB
  obtain ⟨zl, x4, y4⟩ := s_least H1
  obtain ⟨zh, v2, w2, x5, y5, g2, g3⟩ := s_most H1
  have H2 : RBC B v2 w2 := RBC_mo H1 g2 g3
  obtain ⟨ns, s1, x6, y6⟩ := s_share H2
  obtain ⟨nw, s2, x7, y7⟩ := s_wear H2 (by omega)
  obtain ⟨g, k1, k2, k3, -⟩ := H2.2.2.1
  obtain ⟨L, l1, l2, l3, l4⟩ := H2.2.2.2.2
  have x8 := dm_6 (u := w2) k1 k2 l1 l2 (fun k hk => (l4 k hk).1)
  refine ⟨fo (mxf (w2 5)) (xmx (xmx (xmx (xmx (xmx (xmx (xmx (xmx (xmx (fo (mxf (dhF u)) (fo (mxf (fun k => u 1 (568 + k))) (fo (fun p x => fo (mxf (doF u p)) x 6) (fo (fun p x => fo (mxf (dwF u p)) x 5) (fo (fun p x => fo (mxf (dsF u p)) x 7) (fo (dcG u) (fo (mxf (fun k => u 1 (556 + k))) (fo (mxf (dcF u)) 3607 16) 5) 256) 8) 2) n) m) 3) zm.toInt64) zf.toInt64) zt.toInt64) zl.toInt64) zh.toInt64) (shV ns).toInt64) (wrV nw).toInt32.toInt64) (nI g).toInt64) (nI L).toInt64) L, v2, w2, ?_, ?_, by rw [g3 0 (by omega), g1, u8], H2⟩
  · unfold m_X8_digest
    rw [dm_1 H, q_ob, dm_2 H (by omega), q_ob, dm_3 H, q_ob, dm_4 H n2 n1 m2 m1, q_ob, dm_5 H x1, q_ob, x2, q_ob, e_X8_mix, q_ob, x3, q_ob, q_lt]
    dsimp only
    rw [e_X8_mix, q_ob, x4, q_ob, e_X8_mix, q_ob, x5, q_ob, q_lt]
    dsimp only
    rw [e_X8_mix, q_ob, x6, q_ob, (shr_t ns s1).2.2, q_ob, e_X8_mix, q_ob, x7, q_ob, (wr_t nw s2).2.2, q_ob, e_X8_mix, q_ob, x8, q_ob]
  · unfold m_X9_digest
    rw [← hu, q_lt]
    refine lpf_r (fun k => (fo (mxf (dcF u)) 3607 k, nI k)) 16 (xFg (by omega)) fo_i (fun k rec hk => ?_) (fun rec => ?_)
    · simp only [q_u2]
      rw [if_neg (show ¬ (16 : Int32) ≤ nI k from nI_ge (b := 16) hk (by omega)), (d_cnt H hk).2, q_ob, nI_1]
      exact fo_g rfl
    simp only [q_u2]
    rw [if_pos (show (16 : Int32) ≤ nI 16 by decide)]
    refine lpf_r (fun k => (fo (mxf (fun k => u 1 (556 + k))) (fo (mxf (dcF u)) 3607 16) k, nI k)) 5 (xFg (by omega)) fo_i (fun k rec hk => ?_) (fun rec => ?_)
    · simp only [q_u2]
      rw [if_neg (show ¬ (5 : Int32) ≤ nI k from nI_ge (b := 5) hk (by omega)), show (556 : Int32) + nI k = nI (556 + k) from nI_add 556 k, q_ck (nI_in (show 556 + k < 797 by omega) (by omega)), q_cl (by omega), q_lt, nI_1]
      exact fo_g rfl
    simp only [q_u2]
    rw [if_pos (show (5 : Int32) ≤ nI 5 by decide)]
    obtain ⟨h5, hh5⟩ : ∃ x, x = fo (mxf (fun k => u 1 (556 + k))) (fo (mxf (dcF u)) 3607 16) 5 := ⟨_, rfl⟩
    rw [← hh5]
    refine lpf_r (fun k => (fo (dcG u) h5 k, nI k)) 256 (xFg (by omega)) fo_i (fun k rec hk => ?_) (fun rec => ?_)
    · simp only [q_u2]
      rw [if_neg (show ¬ (256 : Int32) ≤ nI k from nI_ge (b := 256) hk (by omega)), q_ck (nI_in (show k < 797 by omega) (by omega)), show (256 : Int32) + nI k = nI (256 + k) from nI_add 256 k, q_ck (nI_in (show 256 + k < 797 by omega) (by omega)), q_cl (by omega), q_cl (by omega), q_lt, nI_1]
      exact fo_g rfl
    simp only [q_u2]
    rw [if_pos (show (256 : Int32) ≤ nI 256 by decide)]
    obtain ⟨h4, hh4⟩ : ∃ x, x = fo (dcG u) h5 256 := ⟨_, rfl⟩
    rw [← hh4]
    rw [fo_m (g := fun p => mxf (dsF u p)) (n := 7) (by omega) (h := h4) 8]
    refine lpf_r (fun k => (fo (fun k x => mxf (dsF u (k / 7)) (k % 7) x) h4 k, nI k)) 56 (xFg (by omega)) fo_i (fun k rec hk => ?_) (fun rec => ?_)
    · simp only [q_u2]
      rw [if_neg (show ¬ (56 : Int32) ≤ nI k from nI_ge (b := 56) hk (by omega)), show nI k - nI k / (7 : Int32) * (7 : Int32) = nI (k % 7) from pk_rem (a := k) (d := 7) (by omega) (by omega) (by omega), show nI k / (7 : Int32) = nI (k / 7) from pk_div (a := k) (d := 7) (by omega) (by omega) (by omega), (d_sec H (by omega) (show k / 7 < 8 by omega) (show k % 7 < 7 by omega)).2, q_ob, nI_1]
      exact fo_g rfl
    simp only [q_u2]
    rw [if_pos (show (56 : Int32) ≤ nI 56 by decide), show 7 * 8 = 56 from rfl]
    obtain ⟨h3, hh3⟩ : ∃ x, x = fo (fun k x => mxf (dsF u (k / 7)) (k % 7) x) h4 56 := ⟨_, rfl⟩
    rw [← hh3]
    rw [fo_m (g := fun p => mxf (dwF u p)) (n := 5) (by omega) (h := h3) 2]
    refine lpf_r (fun k => (fo (fun k x => mxf (dwF u (k / 5)) (k % 5) x) h3 k, nI k)) 10 (xFg (by omega)) fo_i (fun k rec hk => ?_) (fun rec => ?_)
    · simp only [q_u2]
      rw [if_neg (show ¬ (10 : Int32) ≤ nI k from nI_ge (b := 10) hk (by omega)), show nI k - nI k / (5 : Int32) * (5 : Int32) = nI (k % 5) from pk_rem (a := k) (d := 5) (by omega) (by omega) (by omega), show nI k / (5 : Int32) = nI (k / 5) from pk_div (a := k) (d := 5) (by omega) (by omega) (by omega), (d_wrk H (show k / 5 < 2 by omega) (show k % 5 < 5 by omega)).2, q_ob, nI_1]
      exact fo_g rfl
    simp only [q_u2]
    rw [if_pos (show (10 : Int32) ≤ nI 10 by decide), show 5 * 2 = 10 from rfl]
    obtain ⟨h2, hh2⟩ : ∃ x, x = fo (fun k x => mxf (dwF u (k / 5)) (k % 5) x) h3 10 := ⟨_, rfl⟩
    rw [← hh2]
    rw [fo_m (g := fun p => mxf (doF u p)) (n := 6) (by omega) (h := h2) n]
    have k580 : ¬ ((580 : Int32) < 0 ∨ 797 ≤ (580 : Int32).toNatClampNeg) := by decide
    have k567 : ¬ ((567 : Int32) < 0 ∨ 797 ≤ (567 : Int32).toNatClampNeg) := by decide
    have e580 : (6 : Int32) * u 1 (580 : Int32).toNatClampNeg = nI (6 * n) := by
      rw [show (580 : Int32).toNatClampNeg = 580 by decide, n2]
      exact pk_mul 6 n
    have e567 : u 1 (567 : Int32).toNatClampNeg = nI m := by
      rw [show (567 : Int32).toNatClampNeg = 567 by decide, m2]
    refine lpf_r (fun k => (fo (fun k x => mxf (doF u (k / 6)) (k % 6) x) h2 k, nI k)) (6 * n) (xFg (by omega)) fo_i (fun k rec hk => ?_) (fun rec => ?_)
    · simp only [q_u2]
      rw [q_ck k580, e580, if_neg (nI_ge hk (by omega)), show nI k - nI k / (6 : Int32) * (6 : Int32) = nI (k % 6) from pk_rem (a := k) (d := 6) (by omega) (by omega) (by omega), show nI k / (6 : Int32) = nI (k / 6) from pk_div (a := k) (d := 6) (by omega) (by omega) (by omega), (d_ord H n2 n1 (show k / 6 < n by omega) (show k % 6 < 6 by omega)).2, q_ob, nI_1]
      exact fo_g rfl
    simp only [q_u2]
    rw [q_ck k580, e580, if_pos (nI_le (Nat.le_refl (6 * n)) (by omega))]
    obtain ⟨h1, hh1⟩ : ∃ x, x = fo (fun k x => mxf (doF u (k / 6)) (k % 6) x) h2 (6 * n) := ⟨_, rfl⟩
    rw [← hh1]
    refine lpf_r (fun k => (fo (mxf (fun k => u 1 (568 + k))) h1 k, nI k)) m (xFg (by omega)) fo_i (fun k rec hk => ?_) (fun rec => ?_)
    · simp only [q_u2]
      rw [q_ck k567, e567, if_neg (nI_ge hk (by omega)), show (568 : Int32) + nI k = nI (568 + k) from nI_add 568 k, q_ck (nI_in (show 568 + k < 797 by omega) (by omega)), q_cl (by omega), q_lt, nI_1]
      exact fo_g rfl
    simp only [q_u2]
    rw [q_ck k567, e567, if_pos (nI_le (Nat.le_refl m) (by omega))]
    obtain ⟨h0, hh0⟩ : ∃ x, x = fo (mxf (fun k => u 1 (568 + k))) h1 m := ⟨_, rfl⟩
    rw [← hh0]
    refine lpf_r (fun k => (fo (mxf (dhF u)) h0 k, nI (k + 1))) 3 (xFg (by omega)) fo_i1 (fun k rec hk => ?_) (fun rec => ?_)
    · simp only [q_u2]
      rw [if_neg (show ¬ (4 : Int32) ≤ nI (k + 1) from nI_ge (b := 4) (by omega) (by omega)), (d_hin H k).2, q_ob, nI_1]
      exact fo_g rfl
    simp only [q_u2]
    rw [if_pos (show (4 : Int32) ≤ nI (3 + 1) by decide), y1, q_ob, y2, q_ob, y3, q_ob, q_lt]
    dsimp only
    rw [q_lt, y4, q_ob, y5, q_ob, q_lt]
    dsimp only
    rw [q_lt, y6, q_ob, (shr_t ns s1).2.1.symm.trans (shr_t ns s1).2.2, q_ob, y7, q_ob, (wr_t nw s2).2.1.symm.trans (wr_t nw s2).2.2, q_ob, q_lt, q_lt]
    obtain ⟨X, hX⟩ : ∃ X : Int64, X = xmx (xmx (xmx (xmx (xmx (xmx (xmx (fo (mxf (dhF u)) h0 3) zm.toInt64) zf.toInt64) zt.toInt64) zl.toInt64) zh.toInt64) (shV ns).toInt64) (wrV nw).toInt32.toInt64 := ⟨_, rfl⟩
    rw [← hX]
    have tail : ∀ x : Int64, lp (fun (rec66 : Int64 × Int32 → Option (Int64 × xSt)) => un2 (fun (a64 : Int64) (a65 : Int32) => (if (w2 0 7) ≤ a65 then some (a64, w2) else ck (¬ (a65 < 0 ∨ 60 ≤ a65.toNatClampNeg)) (lt ((((31 : Int64) * a64) + ((w2 5 a65.toNatClampNeg)).toInt64)) (fun x69 => rec66 (x69, (a65 + 1))))))) xF (x, (0 : Int32)) = some (fo (mxf (w2 5)) x L, w2) := by
      intro x
      refine lpf_r (fun k => (fo (mxf (w2 5)) x k, nI k)) L (xFg (by omega)) fo_i (fun k rec hk => ?_) (fun rec => ?_)
      · simp only [q_u2]
        rw [l3, if_neg (nI_ge hk (by omega)), q_ck (nI_in (show k < 60 by omega) (by omega)), q_cl (by omega), q_lt, nI_1]
        exact fo_g rfl
      · simp only [q_u2]
        rw [l3, if_pos (nI_le (Nat.le_refl L) (by omega))]
    rcases (show g = 0 ∨ g = 1 by omega) with rfl | rfl
    · rw [if_pos (show w2 0 5 = 0 from k3)]
      try dsimp only
      rw [q_lt, tail, l3, hX]
      rfl
    · rw [if_neg (show ¬ w2 0 5 = 0 by rw [k3]; decide)]
      try dsimp only
      rw [q_lt, tail, l3, hX]
      rfl
