/-! ONE ROW A CALL OF THE LAW -/
theorem hh_0 {k L : Nat} {v : xSt} {xs : Nat → Int32} (hL : L ≤ 2048) (H : RRL k v) (hk : 4 * k + 4 ≤ L) : stp RRL k [m_law_0 v xs L (nI (4 * k)), m_law_0_xISE v xs L (nI (4 * k))] := by
  have H : RBC (10000 * k) v (sh 431 v) := H
  rcases b_arm  H with h | h
  · refine stp_0 ?_
    unfold m_law_0 m_L_arm
    exact gl_N (b := fun w => m_X9_arm w) (by omega) h
  · refine stp_1 (stp_0 ?_)
    unfold m_law_0_xISE
    exact gl_T (b := fun w => m_X9_arm w) (by decide) (by omega) h
theorem hh_1 {k L : Nat} {v : xSt} {xs : Nat → Int32} (hL : L ≤ 2048) (H : RRL k v) (hk : 4 * k + 4 ≤ L) : stp RRL k [m_law_1 v xs L (nI (4 * k)), m_law_1_xIAE v xs L (nI (4 * k)), m_law_1_xISE v xs L (nI (4 * k))] := by
  have H : RBC (10000 * k) v (sh 431 v) := H
  rcases b_load (p := xs (nI (4 * k) + (1 : Int32)).toNatClampNeg) H with h | h | h
  · refine stp_0 ?_
    unfold m_law_1 m_L_load
    simp only [q_ck (ix_1 hk hL)]
    exact gl_N (b := fun w => m_X9_load w (xs (nI (4 * k) + (1 : Int32)).toNatClampNeg)) (by omega) h
  · refine stp_1 (stp_0 ?_)
    unfold m_law_1_xIAE
    simp only [q_ck (ix_1 hk hL)]
    exact gl_T (b := fun w => m_X9_load w (xs (nI (4 * k) + (1 : Int32)).toNatClampNeg)) (by decide) (by omega) h
  · refine stp_1 (stp_1 (stp_0 ?_))
    unfold m_law_1_xISE
    simp only [q_ck (ix_1 hk hL)]
    exact gl_T (b := fun w => m_X9_load w (xs (nI (4 * k) + (1 : Int32)).toNatClampNeg)) (by decide) (by omega) h
theorem hh_2 {k L : Nat} {v : xSt} {xs : Nat → Int32} (hL : L ≤ 2048) (H : RRL k v) (hk : 4 * k + 4 ≤ L) : stp RRL k [m_law_2 v xs L (nI (4 * k))] := by
  have H : RBC (10000 * k) v (sh 431 v) := H
  refine stp_0 ?_
  unfold m_law_2
  exact gl_DN (b := fun w => m_X9_unload w) (by omega) (b_unload  H)
theorem hh_3 {k L : Nat} {v : xSt} {xs : Nat → Int32} (hL : L ≤ 2048) (H : RRL k v) (hk : 4 * k + 4 ≤ L) : stp RRL k [m_law_3 v xs L (nI (4 * k)), m_law_3_xIOB v xs L (nI (4 * k)), m_law_3_xISE v xs L (nI (4 * k))] := by
  have H : RBC (10000 * k) v (sh 431 v) := H
  rcases b_write (p := xs (nI (4 * k) + (1 : Int32)).toNatClampNeg) H with h | h | h
  · refine stp_0 ?_
    unfold m_law_3 m_L_write
    simp only [q_ck (ix_1 hk hL)]
    exact gl_N (b := fun w => m_X9_write w (xs (nI (4 * k) + (1 : Int32)).toNatClampNeg)) (by omega) h
  · refine stp_1 (stp_0 ?_)
    unfold m_law_3_xIOB
    simp only [q_ck (ix_1 hk hL)]
    exact gl_T (b := fun w => m_X9_write w (xs (nI (4 * k) + (1 : Int32)).toNatClampNeg)) (by decide) (by omega) h
  · refine stp_1 (stp_1 (stp_0 ?_))
    unfold m_law_3_xISE
    simp only [q_ck (ix_1 hk hL)]
    exact gl_T (b := fun w => m_X9_write w (xs (nI (4 * k) + (1 : Int32)).toNatClampNeg)) (by decide) (by omega) h
theorem hh_4 {k L : Nat} {v : xSt} {xs : Nat → Int32} (hL : L ≤ 2048) (H : RRL k v) (hk : 4 * k + 4 ≤ L) : stp RRL k [m_law_4 v xs L (nI (4 * k)), m_law_4_xIOB v xs L (nI (4 * k)), m_law_4_xISE v xs L (nI (4 * k))] := by
  have H : RBC (10000 * k) v (sh 431 v) := H
  rcases b_erase (p := xs (nI (4 * k) + (1 : Int32)).toNatClampNeg) H (by omega) with h | h | h
  · refine stp_0 ?_
    unfold m_law_4 m_L_erase
    simp only [q_ck (ix_1 hk hL)]
    exact gl_N (b := fun w => m_X9_erase w (xs (nI (4 * k) + (1 : Int32)).toNatClampNeg)) (by omega) h
  · refine stp_1 (stp_0 ?_)
    unfold m_law_4_xIOB
    simp only [q_ck (ix_1 hk hL)]
    exact gl_T (b := fun w => m_X9_erase w (xs (nI (4 * k) + (1 : Int32)).toNatClampNeg)) (by decide) (by omega) h
  · refine stp_1 (stp_1 (stp_0 ?_))
    unfold m_law_4_xISE
    simp only [q_ck (ix_1 hk hL)]
    exact gl_T (b := fun w => m_X9_erase w (xs (nI (4 * k) + (1 : Int32)).toNatClampNeg)) (by decide) (by omega) h
theorem hh_5 {k L : Nat} {v : xSt} {xs : Nat → Int32} (hL : L ≤ 2048) (H : RRL k v) (hk : 4 * k + 4 ≤ L) : stp RRL k [m_law_5 v xs L (nI (4 * k)), m_law_5_xIAE v xs L (nI (4 * k)), m_law_5_xISE v xs L (nI (4 * k))] := by
  have H : RBC (10000 * k) v (sh 431 v) := H
  rcases b_lock (p := xs (nI (4 * k) + (1 : Int32)).toNatClampNeg) (s := xs (nI (4 * k) + (2 : Int32)).toNatClampNeg) H with h | h | h
  · refine stp_0 ?_
    unfold m_law_5 m_L_lock
    simp only [q_ck (ix_1 hk hL), q_ck (ix_2 hk hL)]
    exact gl_N (b := fun w => m_X9_lock w (xs (nI (4 * k) + (1 : Int32)).toNatClampNeg) (xs (nI (4 * k) + (2 : Int32)).toNatClampNeg)) (by omega) h
  · refine stp_1 (stp_0 ?_)
    unfold m_law_5_xIAE
    simp only [q_ck (ix_1 hk hL), q_ck (ix_2 hk hL)]
    exact gl_T (b := fun w => m_X9_lock w (xs (nI (4 * k) + (1 : Int32)).toNatClampNeg) (xs (nI (4 * k) + (2 : Int32)).toNatClampNeg)) (by decide) (by omega) h
  · refine stp_1 (stp_1 (stp_0 ?_))
    unfold m_law_5_xISE
    simp only [q_ck (ix_1 hk hL), q_ck (ix_2 hk hL)]
    exact gl_T (b := fun w => m_X9_lock w (xs (nI (4 * k) + (1 : Int32)).toNatClampNeg) (xs (nI (4 * k) + (2 : Int32)).toNatClampNeg)) (by decide) (by omega) h
theorem hh_6 {k L : Nat} {v : xSt} {xs : Nat → Int32} (hL : L ≤ 2048) (H : RRL k v) (hk : 4 * k + 4 ≤ L) : stp RRL k [m_law_6 v xs L (nI (4 * k)), m_law_6_xISE v xs L (nI (4 * k))] := by
  have H : RBC (10000 * k) v (sh 431 v) := H
  rcases b_freeze  H with h | h
  · refine stp_0 ?_
    unfold m_law_6 m_L_freeze
    exact gl_N (b := fun w => m_X9_freeze w) (by omega) h
  · refine stp_1 (stp_0 ?_)
    unfold m_law_6_xISE
    exact gl_T (b := fun w => m_X9_freeze w) (by decide) (by omega) h
theorem hh_7 {k L : Nat} {v : xSt} {xs : Nat → Int32} (hL : L ≤ 2048) (H : RRL k v) (hk : 4 * k + 4 ≤ L) : stp RRL k [m_law_7 v xs L (nI (4 * k)), m_law_7_xISE v xs L (nI (4 * k))] := by
  have H : RBC (10000 * k) v (sh 431 v) := H
  rcases b_suspend  H with h | h
  · refine stp_0 ?_
    unfold m_law_7 m_L_suspend
    exact gl_N (b := fun w => m_X9_suspend w) (by omega) h
  · refine stp_1 (stp_0 ?_)
    unfold m_law_7_xISE
    exact gl_T (b := fun w => m_X9_suspend w) (by decide) (by omega) h
theorem hh_8 {k L : Nat} {v : xSt} {xs : Nat → Int32} (hL : L ≤ 2048) (H : RRL k v) (hk : 4 * k + 4 ≤ L) : stp RRL k [m_law_8 v xs L (nI (4 * k)), m_law_8_xISE v xs L (nI (4 * k))] := by
  have H : RBC (10000 * k) v (sh 431 v) := H
  rcases b_resume  H with h | h
  · refine stp_0 ?_
    unfold m_law_8 m_L_resume
    exact gl_N (b := fun w => m_X9_resume w) (by omega) h
  · refine stp_1 (stp_0 ?_)
    unfold m_law_8_xISE
    exact gl_T (b := fun w => m_X9_resume w) (by decide) (by omega) h
theorem hh_9 {k L : Nat} {v : xSt} {xs : Nat → Int32} (hL : L ≤ 2048) (H : RRL k v) (hk : 4 * k + 4 ≤ L) : stp RRL k [m_law_9 v xs L (nI (4 * k))] := by
  have H : RBC (10000 * k) v (sh 431 v) := H
  refine stp_0 ?_
  unfold m_law_9
  exact gl_DN (b := fun w => m_X9_cut w) (by omega) (b_cut  H)
theorem hh_10 {k L : Nat} {v : xSt} {xs : Nat → Int32} (hL : L ≤ 2048) (H : RRL k v) (hk : 4 * k + 4 ≤ L) : stp RRL k [m_law_10 v xs L (nI (4 * k)), m_law_10_xIAE v xs L (nI (4 * k)), m_law_10_xIOB v xs L (nI (4 * k)), m_law_10_xISE v xs L (nI (4 * k))] := by
  have H : RBC (10000 * k) v (sh 431 v) := H
  rcases b_post (p1 := xs (nI (4 * k) + (1 : Int32)).toNatClampNeg) (p2 := xs (nI (4 * k) + (2 : Int32)).toNatClampNeg) (p3 := xs (nI (4 * k) + (3 : Int32)).toNatClampNeg) H (by omega) with h | h | h | h
  · refine stp_0 ?_
    unfold m_law_10 m_L_post
    simp only [q_ck (ix_1 hk hL), q_ck (ix_2 hk hL), q_ck (ix_3 hk hL)]
    exact gl_N (b := fun w => m_X9_post w (xs (nI (4 * k) + (1 : Int32)).toNatClampNeg) (xs (nI (4 * k) + (2 : Int32)).toNatClampNeg) (xs (nI (4 * k) + (3 : Int32)).toNatClampNeg)) (by omega) h
  · refine stp_1 (stp_0 ?_)
    unfold m_law_10_xIAE
    simp only [q_ck (ix_1 hk hL), q_ck (ix_2 hk hL), q_ck (ix_3 hk hL)]
    exact gl_T (b := fun w => m_X9_post w (xs (nI (4 * k) + (1 : Int32)).toNatClampNeg) (xs (nI (4 * k) + (2 : Int32)).toNatClampNeg) (xs (nI (4 * k) + (3 : Int32)).toNatClampNeg)) (by decide) (by omega) h
  · refine stp_1 (stp_1 (stp_0 ?_))
    unfold m_law_10_xIOB
    simp only [q_ck (ix_1 hk hL), q_ck (ix_2 hk hL), q_ck (ix_3 hk hL)]
    exact gl_T (b := fun w => m_X9_post w (xs (nI (4 * k) + (1 : Int32)).toNatClampNeg) (xs (nI (4 * k) + (2 : Int32)).toNatClampNeg) (xs (nI (4 * k) + (3 : Int32)).toNatClampNeg)) (by decide) (by omega) h
  · refine stp_1 (stp_1 (stp_1 (stp_0 ?_)))
    unfold m_law_10_xISE
    simp only [q_ck (ix_1 hk hL), q_ck (ix_2 hk hL), q_ck (ix_3 hk hL)]
    exact gl_T (b := fun w => m_X9_post w (xs (nI (4 * k) + (1 : Int32)).toNatClampNeg) (xs (nI (4 * k) + (2 : Int32)).toNatClampNeg) (xs (nI (4 * k) + (3 : Int32)).toNatClampNeg)) (by decide) (by omega) h
theorem hh_11 {k L : Nat} {v : xSt} {xs : Nat → Int32} (hL : L ≤ 2048) (H : RRL k v) (hk : 4 * k + 4 ≤ L) : stp RRL k [m_law_11 v xs L (nI (4 * k)), m_law_11_xIOB v xs L (nI (4 * k))] := by
  have H : RBC (10000 * k) v (sh 431 v) := H
  rcases b_withdraw (p := xs (nI (4 * k) + (1 : Int32)).toNatClampNeg) H with h | h
  · refine stp_0 ?_
    unfold m_law_11 m_L_withdraw
    simp only [q_ck (ix_1 hk hL)]
    exact gl_N (b := fun w => m_X9_withdraw w (xs (nI (4 * k) + (1 : Int32)).toNatClampNeg)) (by omega) h
  · refine stp_1 (stp_0 ?_)
    unfold m_law_11_xIOB
    simp only [q_ck (ix_1 hk hL)]
    exact gl_T (b := fun w => m_X9_withdraw w (xs (nI (4 * k) + (1 : Int32)).toNatClampNeg)) (by decide) (by omega) h
theorem hh_12 {k L : Nat} {v : xSt} {xs : Nat → Int32} (hL : L ≤ 2048) (H : RRL k v) (hk : 4 * k + 4 ≤ L) : stp RRL k [m_law_12 v xs L (nI (4 * k)), m_law_12_xIAE v xs L (nI (4 * k))] := by
  have H : RBC (10000 * k) v (sh 431 v) := H
  rcases b_pass (p := xs (nI (4 * k) + (1 : Int32)).toNatClampNeg) H (by omega) with h | h
  · refine stp_0 ?_
    unfold m_law_12 m_L_pass
    simp only [q_ck (ix_1 hk hL)]
    exact gl_N (b := fun w => m_X9_pass w (xs (nI (4 * k) + (1 : Int32)).toNatClampNeg)) (by omega) h
  · refine stp_1 (stp_0 ?_)
    unfold m_law_12_xIAE
    simp only [q_ck (ix_1 hk hL)]
    exact gl_T (b := fun w => m_X9_pass w (xs (nI (4 * k) + (1 : Int32)).toNatClampNeg)) (by decide) (by omega) h
theorem hh_13 {k L : Nat} {v : xSt} {xs : Nat → Int32} (hL : L ≤ 2048) (H : RRL k v) (hk : 4 * k + 4 ≤ L) : stp RRL k [m_law_13 v xs L (nI (4 * k)), m_law_13_xIOB v xs L (nI (4 * k)), m_law_13_xIAE v xs L (nI (4 * k))] := by
  have H : RBC (10000 * k) v (sh 431 v) := H
  rcases b_set (p := xs (nI (4 * k) + (1 : Int32)).toNatClampNeg) (s := xs (nI (4 * k) + (2 : Int32)).toNatClampNeg) H with h | h | h
  · refine stp_0 ?_
    unfold m_law_13 m_L_set
    simp only [q_ck (ix_1 hk hL), q_ck (ix_2 hk hL)]
    exact gl_N (b := fun w => m_X9_set w (xs (nI (4 * k) + (1 : Int32)).toNatClampNeg) (xs (nI (4 * k) + (2 : Int32)).toNatClampNeg)) (by omega) h
  · refine stp_1 (stp_0 ?_)
    unfold m_law_13_xIOB
    simp only [q_ck (ix_1 hk hL), q_ck (ix_2 hk hL)]
    exact gl_T (b := fun w => m_X9_set w (xs (nI (4 * k) + (1 : Int32)).toNatClampNeg) (xs (nI (4 * k) + (2 : Int32)).toNatClampNeg)) (by decide) (by omega) h
  · refine stp_1 (stp_1 (stp_0 ?_))
    unfold m_law_13_xIAE
    simp only [q_ck (ix_1 hk hL), q_ck (ix_2 hk hL)]
    exact gl_T (b := fun w => m_X9_set w (xs (nI (4 * k) + (1 : Int32)).toNatClampNeg) (xs (nI (4 * k) + (2 : Int32)).toNatClampNeg)) (by decide) (by omega) h
theorem hh_14 {k L : Nat} {v : xSt} {xs : Nat → Int32} (hL : L ≤ 2048) (H : RRL k v) (hk : 4 * k + 4 ≤ L) : stp RRL k [m_law_14 v xs L (nI (4 * k)), m_law_14_xIAE v xs L (nI (4 * k)), m_law_14_xISE v xs L (nI (4 * k))] := by
  have H : RBC (10000 * k) v (sh 431 v) := H
  rcases b_append (p := xs (nI (4 * k) + (1 : Int32)).toNatClampNeg) H with h | h | h
  · refine stp_0 ?_
    unfold m_law_14 m_L_append
    simp only [q_ck (ix_1 hk hL)]
    exact gl_N (b := fun w => m_X9_append w (xs (nI (4 * k) + (1 : Int32)).toNatClampNeg)) (by omega) h
  · refine stp_1 (stp_0 ?_)
    unfold m_law_14_xIAE
    simp only [q_ck (ix_1 hk hL)]
    exact gl_T (b := fun w => m_X9_append w (xs (nI (4 * k) + (1 : Int32)).toNatClampNeg)) (by decide) (by omega) h
  · refine stp_1 (stp_1 (stp_0 ?_))
    unfold m_law_14_xISE
    simp only [q_ck (ix_1 hk hL)]
    exact gl_T (b := fun w => m_X9_append w (xs (nI (4 * k) + (1 : Int32)).toNatClampNeg)) (by decide) (by omega) h
theorem hh_15 {k L : Nat} {v : xSt} {xs : Nat → Int32} (hL : L ≤ 2048) (H : RRL k v) (hk : 4 * k + 4 ≤ L) : stp RRL k [m_law_15 v xs L (nI (4 * k))] := by
  have H : RBC (10000 * k) v (sh 431 v) := H
  refine stp_0 ?_
  unfold m_law_15
  exact gl_DN (b := fun w => m_X9_clearBuffer w) (by omega) (b_clear  H)
theorem hh_16 {k L : Nat} {v : xSt} {xs : Nat → Int32} (hL : L ≤ 2048) (H : RRL k v) (hk : 4 * k + 4 ≤ L) : stp RRL k [m_law_16 v xs L (nI (4 * k))] := by
  have H : RBC (10000 * k) v (sh 431 v) := H
  refine stp_0 ?_
  unfold m_law_16
  exact gl_DN (b := fun w => m_X9_firstError w) (by omega) (b_firstError  H)
theorem hh_17 {k L : Nat} {v : xSt} {xs : Nat → Int32} (hL : L ≤ 2048) (H : RRL k v) (hk : 4 * k + 4 ≤ L) : stp RRL k [m_law_17 v xs L (nI (4 * k)), m_law_17_xIAE v xs L (nI (4 * k))] := by
  have H : RBC (10000 * k) v (sh 431 v) := H
  rcases b_obey  H (by omega) with h | h
  · refine stp_0 ?_
    unfold m_law_17 m_L_obey
    exact gl_N (b := fun w => m_X9_obey w) (by omega) h
  · refine stp_1 (stp_0 ?_)
    unfold m_law_17_xIAE
    exact gl_T (b := fun w => m_X9_obey w) (by decide) (by omega) h
theorem hh_18 {k L : Nat} {v : xSt} {xs : Nat → Int32} (hL : L ≤ 2048) (H : RRL k v) (hk : 4 * k + 4 ≤ L) : stp RRL k [m_law_18 v xs L (nI (4 * k))] := by
  have H : RBC (10000 * k) v (sh 431 v) := H
  refine stp_0 ?_
  unfold m_law_18
  exact gl_DN (b := fun w => m_X9_keep w) (by omega) (b_keep  H)
theorem hh_19 {k L : Nat} {v : xSt} {xs : Nat → Int32} (hL : L ≤ 2048) (H : RRL k v) (hk : 4 * k + 4 ≤ L) : stp RRL k [m_law_19 v xs L (nI (4 * k)), m_law_19_xISE v xs L (nI (4 * k))] := by
  have H : RBC (10000 * k) v (sh 431 v) := H
  rcases b_goBack  H with h | h
  · refine stp_0 ?_
    unfold m_law_19 m_L_goBack
    exact gl_N (b := fun w => m_X9_goBack w) (by omega) h
  · refine stp_1 (stp_0 ?_)
    unfold m_law_19_xISE
    exact gl_T (b := fun w => m_X9_goBack w) (by decide) (by omega) h
theorem hh_20 {k L : Nat} {v : xSt} {xs : Nat → Int32} (hL : L ≤ 2048) (H : RRL k v) (hk : 4 * k + 4 ≤ L) : stp RRL k [m_law_20 v xs L (nI (4 * k)), m_law_20_xISE v xs L (nI (4 * k))] := by
  have H : RBC (10000 * k) v (sh 431 v) := H
  rcases b_undo  H with h | h
  · refine stp_0 ?_
    unfold m_law_20 m_L_undo
    exact gl_N (b := fun w => m_X9_undo w) (by omega) h
  · refine stp_1 (stp_0 ?_)
    unfold m_law_20_xISE
    exact gl_T (b := fun w => m_X9_undo w) (by decide) (by omega) h
theorem hh_21 {k L : Nat} {v : xSt} {xs : Nat → Int32} (hL : L ≤ 2048) (H : RRL k v) (hk : 4 * k + 4 ≤ L) : stp RRL k [m_law_21 v xs L (nI (4 * k)), m_law_21_xIOB v xs L (nI (4 * k)), m_law_21_xISE v xs L (nI (4 * k))] := by
  have H : RBC (10000 * k) v (sh 431 v) := H
  rcases b_read (p := xs (nI (4 * k) + (1 : Int32)).toNatClampNeg) H with h | h | h
  · refine stp_0 ?_
    unfold m_law_21 m_L_read
    simp only [q_ck (ix_1 hk hL)]
    exact gl_O (b := fun w => m_X9_read w (xs (nI (4 * k) + (1 : Int32)).toNatClampNeg)) (by omega) h
  · refine stp_1 (stp_0 ?_)
    unfold m_law_21_xIOB
    simp only [q_ck (ix_1 hk hL)]
    exact gl_T (b := fun w => m_X9_read w (xs (nI (4 * k) + (1 : Int32)).toNatClampNeg)) (by decide) (by omega) h
  · refine stp_1 (stp_1 (stp_0 ?_))
    unfold m_law_21_xISE
    simp only [q_ck (ix_1 hk hL)]
    exact gl_T (b := fun w => m_X9_read w (xs (nI (4 * k) + (1 : Int32)).toNatClampNeg)) (by decide) (by omega) h
theorem hh_22 {k L : Nat} {v : xSt} {xs : Nat → Int32} (hL : L ≤ 2048) (H : RRL k v) (hk : 4 * k + 4 ≤ L) : stp RRL k [m_law_22 v xs L (nI (4 * k)), m_law_22_xIOB v xs L (nI (4 * k)), m_law_22_xIAE v xs L (nI (4 * k))] := by
  have H : RBC (10000 * k) v (sh 431 v) := H
  rcases b_cell (p := xs (nI (4 * k) + (1 : Int32)).toNatClampNeg) (q := xs (nI (4 * k) + (2 : Int32)).toNatClampNeg) H with h | h | h
  · refine stp_0 ?_
    unfold m_law_22 m_L_cell
    simp only [q_ck (ix_1 hk hL), q_ck (ix_2 hk hL)]
    exact gl_O (b := fun w => m_X9_cell w (xs (nI (4 * k) + (1 : Int32)).toNatClampNeg) (xs (nI (4 * k) + (2 : Int32)).toNatClampNeg)) (by omega) h
  · refine stp_1 (stp_0 ?_)
    unfold m_law_22_xIOB
    simp only [q_ck (ix_1 hk hL), q_ck (ix_2 hk hL)]
    exact gl_T (b := fun w => m_X9_cell w (xs (nI (4 * k) + (1 : Int32)).toNatClampNeg) (xs (nI (4 * k) + (2 : Int32)).toNatClampNeg)) (by decide) (by omega) h
  · refine stp_1 (stp_1 (stp_0 ?_))
    unfold m_law_22_xIAE
    simp only [q_ck (ix_1 hk hL), q_ck (ix_2 hk hL)]
    exact gl_T (b := fun w => m_X9_cell w (xs (nI (4 * k) + (1 : Int32)).toNatClampNeg) (xs (nI (4 * k) + (2 : Int32)).toNatClampNeg)) (by decide) (by omega) h
theorem hh_23 {k L : Nat} {v : xSt} {xs : Nat → Int32} (hL : L ≤ 2048) (H : RRL k v) (hk : 4 * k + 4 ≤ L) : stp RRL k [m_law_23 v xs L (nI (4 * k)), m_law_23_xIOB v xs L (nI (4 * k)), m_law_23_xIAE v xs L (nI (4 * k))] := by
  have H : RBC (10000 * k) v (sh 431 v) := H
  rcases b_sector (p := xs (nI (4 * k) + (1 : Int32)).toNatClampNeg) (q := xs (nI (4 * k) + (2 : Int32)).toNatClampNeg) H (by omega) with h | h | h
  · refine stp_0 ?_
    unfold m_law_23 m_L_sector
    simp only [q_ck (ix_1 hk hL), q_ck (ix_2 hk hL)]
    exact gl_O (b := fun w => m_X9_sector w (xs (nI (4 * k) + (1 : Int32)).toNatClampNeg) (xs (nI (4 * k) + (2 : Int32)).toNatClampNeg)) (by omega) h
  · refine stp_1 (stp_0 ?_)
    unfold m_law_23_xIOB
    simp only [q_ck (ix_1 hk hL), q_ck (ix_2 hk hL)]
    exact gl_T (b := fun w => m_X9_sector w (xs (nI (4 * k) + (1 : Int32)).toNatClampNeg) (xs (nI (4 * k) + (2 : Int32)).toNatClampNeg)) (by decide) (by omega) h
  · refine stp_1 (stp_1 (stp_0 ?_))
    unfold m_law_23_xIAE
    simp only [q_ck (ix_1 hk hL), q_ck (ix_2 hk hL)]
    exact gl_T (b := fun w => m_X9_sector w (xs (nI (4 * k) + (1 : Int32)).toNatClampNeg) (xs (nI (4 * k) + (2 : Int32)).toNatClampNeg)) (by decide) (by omega) h
theorem hh_24 {k L : Nat} {v : xSt} {xs : Nat → Int32} (hL : L ≤ 2048) (H : RRL k v) (hk : 4 * k + 4 ≤ L) : stp RRL k [m_law_24 v xs L (nI (4 * k)), m_law_24_xIAE v xs L (nI (4 * k))] := by
  have H : RBC (10000 * k) v (sh 431 v) := H
  rcases b_work (p := xs (nI (4 * k) + (1 : Int32)).toNatClampNeg) (q := xs (nI (4 * k) + (2 : Int32)).toNatClampNeg) H with h | h
  · refine stp_0 ?_
    unfold m_law_24 m_L_work
    simp only [q_ck (ix_1 hk hL), q_ck (ix_2 hk hL)]
    exact gl_O (b := fun w => m_X9_work w (xs (nI (4 * k) + (1 : Int32)).toNatClampNeg) (xs (nI (4 * k) + (2 : Int32)).toNatClampNeg)) (by omega) h
  · refine stp_1 (stp_0 ?_)
    unfold m_law_24_xIAE
    simp only [q_ck (ix_1 hk hL), q_ck (ix_2 hk hL)]
    exact gl_T (b := fun w => m_X9_work w (xs (nI (4 * k) + (1 : Int32)).toNatClampNeg) (xs (nI (4 * k) + (2 : Int32)).toNatClampNeg)) (by decide) (by omega) h
theorem hh_25 {k L : Nat} {v : xSt} {xs : Nat → Int32} (hL : L ≤ 2048) (H : RRL k v) (hk : 4 * k + 4 ≤ L) : stp RRL k [m_law_25 v xs L (nI (4 * k)), m_law_25_xIOB v xs L (nI (4 * k)), m_law_25_xIAE v xs L (nI (4 * k))] := by
  have H : RBC (10000 * k) v (sh 431 v) := H
  rcases b_order (p := xs (nI (4 * k) + (1 : Int32)).toNatClampNeg) (q := xs (nI (4 * k) + (2 : Int32)).toNatClampNeg) H with h | h | h
  · refine stp_0 ?_
    unfold m_law_25 m_L_order
    simp only [q_ck (ix_1 hk hL), q_ck (ix_2 hk hL)]
    exact gl_O (b := fun w => m_X9_order w (xs (nI (4 * k) + (1 : Int32)).toNatClampNeg) (xs (nI (4 * k) + (2 : Int32)).toNatClampNeg)) (by omega) h
  · refine stp_1 (stp_0 ?_)
    unfold m_law_25_xIOB
    simp only [q_ck (ix_1 hk hL), q_ck (ix_2 hk hL)]
    exact gl_T (b := fun w => m_X9_order w (xs (nI (4 * k) + (1 : Int32)).toNatClampNeg) (xs (nI (4 * k) + (2 : Int32)).toNatClampNeg)) (by decide) (by omega) h
  · refine stp_1 (stp_1 (stp_0 ?_))
    unfold m_law_25_xIAE
    simp only [q_ck (ix_1 hk hL), q_ck (ix_2 hk hL)]
    exact gl_T (b := fun w => m_X9_order w (xs (nI (4 * k) + (1 : Int32)).toNatClampNeg) (xs (nI (4 * k) + (2 : Int32)).toNatClampNeg)) (by decide) (by omega) h
theorem hh_26 {k L : Nat} {v : xSt} {xs : Nat → Int32} (hL : L ≤ 2048) (H : RRL k v) (hk : 4 * k + 4 ≤ L) : stp RRL k [m_law_26 v xs L (nI (4 * k)), m_law_26_xIAE v xs L (nI (4 * k))] := by
  have H : RBC (10000 * k) v (sh 431 v) := H
  rcases b_count (p := xs (nI (4 * k) + (1 : Int32)).toNatClampNeg) H with h | h
  · refine stp_0 ?_
    unfold m_law_26 m_L_count
    simp only [q_ck (ix_1 hk hL)]
    exact gl_O (b := fun w => m_X9_count w (xs (nI (4 * k) + (1 : Int32)).toNatClampNeg)) (by omega) h
  · refine stp_1 (stp_0 ?_)
    unfold m_law_26_xIAE
    simp only [q_ck (ix_1 hk hL)]
    exact gl_T (b := fun w => m_X9_count w (xs (nI (4 * k) + (1 : Int32)).toNatClampNeg)) (by decide) (by omega) h
theorem hh_27 {k L : Nat} {v : xSt} {xs : Nat → Int32} (hL : L ≤ 2048) (H : RRL k v) (hk : 4 * k + 4 ≤ L) : stp RRL k [m_law_27 v xs L (nI (4 * k)), m_law_27_xIOB v xs L (nI (4 * k))] := by
  have H : RBC (10000 * k) v (sh 431 v) := H
  rcases b_setting (p := xs (nI (4 * k) + (1 : Int32)).toNatClampNeg) H with h | h
  · refine stp_0 ?_
    unfold m_law_27 m_L_setting
    simp only [q_ck (ix_1 hk hL)]
    exact gl_N (b := fun w => m_X9_setting w (xs (nI (4 * k) + (1 : Int32)).toNatClampNeg)) (by omega) h
  · refine stp_1 (stp_0 ?_)
    unfold m_law_27_xIOB
    simp only [q_ck (ix_1 hk hL)]
    exact gl_T (b := fun w => m_X9_setting w (xs (nI (4 * k) + (1 : Int32)).toNatClampNeg)) (by decide) (by omega) h
theorem hh_28 {k L : Nat} {v : xSt} {xs : Nat → Int32} (hL : L ≤ 2048) (H : RRL k v) (hk : 4 * k + 4 ≤ L) : stp RRL k [m_law_28 v xs L (nI (4 * k)), m_law_28_xIAE v xs L (nI (4 * k)), m_law_28_xIOB v xs L (nI (4 * k))] := by
  have H : RBC (10000 * k) v (sh 431 v) := H
  rcases b_why (k := xs (nI (4 * k) + (1 : Int32)).toNatClampNeg) (p := xs (nI (4 * k) + (2 : Int32)).toNatClampNeg) H with h | h | h
  · refine stp_0 ?_
    unfold m_law_28 m_L_why
    simp only [q_ck (ix_1 hk hL), q_ck (ix_2 hk hL)]
    exact gl_O (b := fun w => m_X9_why w (xs (nI (4 * k) + (1 : Int32)).toNatClampNeg) (xs (nI (4 * k) + (2 : Int32)).toNatClampNeg)) (by omega) h
  · refine stp_1 (stp_0 ?_)
    unfold m_law_28_xIAE
    simp only [q_ck (ix_1 hk hL), q_ck (ix_2 hk hL)]
    exact gl_T (b := fun w => m_X9_why w (xs (nI (4 * k) + (1 : Int32)).toNatClampNeg) (xs (nI (4 * k) + (2 : Int32)).toNatClampNeg)) (by decide) (by omega) h
  · refine stp_1 (stp_1 (stp_0 ?_))
    unfold m_law_28_xIOB
    simp only [q_ck (ix_1 hk hL), q_ck (ix_2 hk hL)]
    exact gl_T (b := fun w => m_X9_why w (xs (nI (4 * k) + (1 : Int32)).toNatClampNeg) (xs (nI (4 * k) + (2 : Int32)).toNatClampNeg)) (by decide) (by omega) h
theorem hh_29 {k L : Nat} {v : xSt} {xs : Nat → Int32} (hL : L ≤ 2048) (H : RRL k v) (hk : 4 * k + 4 ≤ L) : stp RRL k [m_law_29 v xs L (nI (4 * k)), m_law_29_xIOB v xs L (nI (4 * k))] := by
  have H : RBC (10000 * k) v (sh 431 v) := H
  rcases b_misses (p := xs (nI (4 * k) + (1 : Int32)).toNatClampNeg) H with h | h
  · refine stp_0 ?_
    unfold m_law_29 m_L_misses
    simp only [q_ck (ix_1 hk hL)]
    exact gl_O (b := fun w => m_X9_misses w (xs (nI (4 * k) + (1 : Int32)).toNatClampNeg)) (by omega) h
  · refine stp_1 (stp_0 ?_)
    unfold m_law_29_xIOB
    simp only [q_ck (ix_1 hk hL)]
    exact gl_T (b := fun w => m_X9_misses w (xs (nI (4 * k) + (1 : Int32)).toNatClampNeg)) (by decide) (by omega) h
theorem hh_30 {k L : Nat} {v : xSt} {xs : Nat → Int32} (hL : L ≤ 2048) (H : RRL k v) (hk : 4 * k + 4 ≤ L) : stp RRL k [m_law_30 v xs L (nI (4 * k))] := by
  have H : RBC (10000 * k) v (sh 431 v) := H
  refine stp_0 ?_
  unfold m_law_30
  exact gl_DO (b := fun w => m_X9_fits w) (by omega) (b_fits  H)
theorem hh_31 {k L : Nat} {v : xSt} {xs : Nat → Int32} (hL : L ≤ 2048) (H : RRL k v) (hk : 4 * k + 4 ≤ L) : stp RRL k [m_law_31 v xs L (nI (4 * k))] := by
  have H : RBC (10000 * k) v (sh 431 v) := H
  refine stp_0 ?_
  unfold m_law_31
  exact gl_DN (b := fun w => m_X9_freeIn w) (by omega) (b_freeIn  H (by omega))
theorem hh_32 {k L : Nat} {v : xSt} {xs : Nat → Int32} (hL : L ≤ 2048) (H : RRL k v) (hk : 4 * k + 4 ≤ L) : stp RRL k [m_law_32 v xs L (nI (4 * k))] := by
  have H : RBC (10000 * k) v (sh 431 v) := H
  refine stp_0 ?_
  unfold m_law_32
  exact gl_DO (b := fun w => m_X9_leastWorn w) (by omega) (b_least  H)
theorem hh_33 {k L : Nat} {v : xSt} {xs : Nat → Int32} (hL : L ≤ 2048) (H : RRL k v) (hk : 4 * k + 4 ≤ L) : stp RRL k [m_law_33 v xs L (nI (4 * k))] := by
  have H : RBC (10000 * k) v (sh 431 v) := H
  refine stp_0 ?_
  unfold m_law_33
  exact gl_DN (b := fun w => m_X9_commonest w) (by omega) (b_commonest  H)
theorem hh_34 {k L : Nat} {v : xSt} {xs : Nat → Int32} (hL : L ≤ 2048) (H : RRL k v) (hk : 4 * k + 4 ≤ L) : stp RRL k [m_law_34 v xs L (nI (4 * k))] := by
  have H : RBC (10000 * k) v (sh 431 v) := H
  obtain ⟨n, w', n1, e1, e2, e3, e4⟩ := b_onesShare H
  refine stp_0 ⟨pu 431 8 v w', ?_, gl_R e4 (by omega) (fun j hj => rfl)⟩
  unfold m_law_34
  rw [e1, q_ob, q_lt, e2, q_ob, q_lt]
  dsimp only
  rw [q_lt, if_pos (xn64_c (shr_t n n1).1)]
theorem hh_35 {k L : Nat} {v : xSt} {xs : Nat → Int32} (hL : L ≤ 2048) (H : RRL k v) (hk : 4 * k + 4 ≤ L) : stp RRL k [m_law_35 v xs L (nI (4 * k))] := by
  have H : RBC (10000 * k) v (sh 431 v) := H
  obtain ⟨n, w', n1, e1, e2, e3, e4⟩ := b_meanWear H (by omega)
  have hx := wr_x n (by omega)
  refine stp_0 ⟨pu 431 8 v w', ?_, gl_R e4 (by omega) (fun j hj => rfl)⟩
  unfold m_law_35
  rw [e1, q_ob, q_ck hx, q_lt, e2, q_ob, q_lt]
  dsimp only
  rw [q_ck hx, q_lt, if_pos (xn64_c hx)]
theorem hh_36 {k L : Nat} {v : xSt} {xs : Nat → Int32} (hL : L ≤ 2048) (H : RRL k v) (hk : 4 * k + 4 ≤ L) : stp RRL k [m_law_36 v xs L (nI (4 * k))] := by
  have H : RBC (10000 * k) v (sh 431 v) := H
  obtain ⟨z, v', w', e1, e2, e3, e4⟩ := b_digest H (by omega)
  refine stp_0 ⟨pu 431 8 (pu 0 430 v v') w', ?_, gl_R e4 (by omega) (fun j hj => ?_)⟩
  · unfold m_law_36
    rw [e1, q_ob, q_lt]
    dsimp only
    rw [gl_sh2, e2, q_ob, q_lt]
    dsimp only
    rw [gl_l]
  · rw [pu_i (by omega) (by omega), Nat.sub_zero]
