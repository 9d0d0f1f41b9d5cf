def m_X6_become (v : xSt) : Option xSt := ob (m_X0_become (ct 4 (sh 1 v) (sh 48 v))) (fun r2 => lt (pu 48 4 (pu 1 4 v r2) (sh 4 r2)) (fun v3 => ob (m_X2_become (ct 1 (sh 5 v3) (sh 52 v3))) (fun r5 => lt (pu 52 1 (pu 5 1 v3 r5) (sh 1 r5)) (fun v6 => ob (m_X4_become (ct 2 (sh 6 v6) (sh 53 v6))) (fun r8 => lt (pu 53 2 (pu 6 2 v6 r8) (sh 2 r8)) (fun v9 => ob (m_X7_become (ct 3 (sh 8 v9) (sh 55 v9))) (fun r11 => lt (pu 55 3 (pu 8 3 v9 r11) (sh 3 r11)) (fun v12 => ob (m_X7_become (ct 3 (sh 11 v12) (sh 58 v12))) (fun r14 => lt (pu 58 3 (pu 11 3 v12 r14) (sh 3 r14)) (fun v15 => ob (m_X1_become (ct 32 (sh 14 v15) (sh 61 v15))) (fun r17 => lt (pu 61 32 (pu 14 32 v15 r17) (sh 32 r17)) (fun v18 => ck (0 ≤ (if (5 : Int32) < (5 : Int32) then (5 : Int32) else (5 : Int32)) ∧ (if (5 : Int32) < (5 : Int32) then (5 : Int32) else (5 : Int32)).toNatClampNeg ≤ 5 ∧ (if (5 : Int32) < (5 : Int32) then (5 : Int32) else (5 : Int32)).toNatClampNeg ≤ 5) (lt (va_up v18 46 (va_cpy (v18 93) (v18 46) 0 0 (if (5 : Int32) < (5 : Int32) then (5 : Int32) else (5 : Int32)).toNatClampNeg)) (fun v20 => ck ((v20 47 7) = 0 ∨ (v20 47 7) = 1) (lt (st2 v20 0 7 (v20 47 7)) (fun v22 => lt (st2 v22 0 8 (v22 47 8)) (fun v23 => lt (st2 v23 0 9 (v23 47 9)) (fun v24 => lt (st2 v24 0 10 (v24 47 10)) (fun v25 => lt (st2 v25 0 11 (v25 47 11)) (fun v26 => lt (st2 v26 0 12 (v26 47 12)) (fun v27 => some v27)))))))))))))))))))))
set_option maxHeartbeats 4000000 in
set_option maxRecDepth 100000 in
theorem c_X6_become (l : Launch) (G : xGl) (q : Nat → Nat) (v : xSt) {z : xSt} (hf : m_X6_become v = some z) : mRW l yX6_become (wM yX6_become cX6_become 2 none) { frames := 4, cells := 0, slots := 0, locals := 126 } G ((e2 47 (eState G) (eState G))) 94 q v [.ref (q 0), .ref (q 47)] qV z := by
  refine xRW (cc := cX6_become) (maxL := 2) (ret := none) (by decide) rfl (Nat.le_of_ble_eq_true rfl) ?_
  intro p e s m below meth c ls A hC hr hlk h hl
  have hx := hC.1
  have hb := hC.2.1
  have hl : lv_has ls 2 [(0, .ref (q 0)), (1, .ref (q 47))] := hl
  unfold m_X6_become at hf
  obtain ⟨H, hH⟩ : ∃ H, H = s.heap := ⟨_, rfl⟩
  obtain ⟨locs, hlo⟩ : ∃ x : List Loc, x = [] := ⟨_, rfl⟩
  have h : hg G ((e2 47 (eState G) (eState G))) 94 q v A s H locs := by rw [hH, hlo]; exact h
  rw [← hlo, ← hH]
  clear hH hlo
  refine lv_aload_n hx hb dX6_become_0 rfl (lv_at hl 0 rfl) ?_
  refine xget hC h.o (C := RX6) (T := TX6) (N := 13) (wM_us uw_X6) 0 (Nat.le_of_ble_eq_true rfl) eStateState_0 rfl 0 (by decide) (wM_in fl_X6_12) rfl dX6_become_1 ?_
  refine lv_aload_n hx hb dX6_become_4 rfl (lv_at hl 1 rfl) ?_
  refine xget hC h.o (C := RX6) (T := TX6) (N := 13) (wM_us uw_X6) 47 (Nat.le_of_ble_eq_true rfl) eStateState_47 rfl 0 (by decide) (wM_in fl_X6_12) rfl dX6_become_5 ?_
  obtain ⟨r2, hy1, hf⟩ := ob_e hf
  refine xv2 h 1 4 48 4 (x2E1 sStateState_1 locCells) (x2E2 sStateState_48) (Nat.le_of_ble_eq_true rfl) (Nat.le_of_ble_eq_true rfl) (by omega) (va_runV (As := [.ref (q 48)]) (rest := []) hC (c_X0_become l G (ct 4 (sh 1 q) (sh 48 q)) (ct 4 (sh 1 v) (sh 48 v)) hy1 H.size) (xcwV hC lk_X6_81 in_X0 co_X0_become im_X0_become se_X0_become rfl rfl dd_X0_become ⟨Nat.le_of_ble_eq_true rfl, Nat.le_of_ble_eq_true rfl⟩) (preV2 h 1 4 48 4 (x2E1 sStateState_1 locCells) (x2E2 sStateState_48) (Nat.le_of_ble_eq_true rfl) (Nat.le_of_ble_eq_true rfl) (by omega) (Nat.le_of_ble_eq_true rfl) eStateState_1 rfl [.ref (q 48)]) rfl rfl hl.1 rfl (lv_room (Nat.le_of_ble_eq_true rfl)) dX6_become_8 ⟨Nat.zero_le _, Nat.zero_le _⟩) (fun H locs h => ?_)
  obtain ⟨v3, ev3, hf⟩ := lt_e hf
  rw [← ev3] at h
  refine lv_aload_n hx hb dX6_become_11 rfl (lv_at hl 0 rfl) ?_
  refine xget hC h.o (C := RX6) (T := TX6) (N := 13) (wM_us uw_X6) 0 (Nat.le_of_ble_eq_true rfl) eStateState_0 rfl 1 (by decide) (wM_in fl_X6_21) rfl dX6_become_12 ?_
  refine lv_aload_n hx hb dX6_become_15 rfl (lv_at hl 1 rfl) ?_
  refine xget hC h.o (C := RX6) (T := TX6) (N := 13) (wM_us uw_X6) 47 (Nat.le_of_ble_eq_true rfl) eStateState_47 rfl 1 (by decide) (wM_in fl_X6_21) rfl dX6_become_16 ?_
  obtain ⟨r5, hy4, hf⟩ := ob_e hf
  refine xv2 h 5 1 52 1 (x2E1 sStateState_5 locLocks) (x2E2 sStateState_52) (Nat.le_of_ble_eq_true rfl) (Nat.le_of_ble_eq_true rfl) (by omega) (va_runV (As := [.ref (q 52)]) (rest := []) hC (c_X2_become l G (ct 1 (sh 5 q) (sh 52 q)) (ct 1 (sh 5 v3) (sh 52 v3)) hy4 H.size) (xcwV hC lk_X6_85 in_X2 co_X2_become im_X2_become se_X2_become rfl rfl dd_X2_become ⟨Nat.le_of_ble_eq_true rfl, Nat.le_of_ble_eq_true rfl⟩) (preV2 h 5 1 52 1 (x2E1 sStateState_5 locLocks) (x2E2 sStateState_52) (Nat.le_of_ble_eq_true rfl) (Nat.le_of_ble_eq_true rfl) (by omega) (Nat.le_of_ble_eq_true rfl) eStateState_5 rfl [.ref (q 52)]) rfl rfl hl.1 rfl (lv_room (Nat.le_of_ble_eq_true rfl)) dX6_become_19 ⟨Nat.zero_le _, Nat.zero_le _⟩) (fun H locs h => ?_)
  obtain ⟨v6, ev6, hf⟩ := lt_e hf
  rw [← ev6] at h
  refine lv_aload_n hx hb dX6_become_22 rfl (lv_at hl 0 rfl) ?_
  refine xget hC h.o (C := RX6) (T := TX6) (N := 13) (wM_us uw_X6) 0 (Nat.le_of_ble_eq_true rfl) eStateState_0 rfl 2 (by decide) (wM_in fl_X6_28) rfl dX6_become_23 ?_
  refine lv_aload_n hx hb dX6_become_26 rfl (lv_at hl 1 rfl) ?_
  refine xget hC h.o (C := RX6) (T := TX6) (N := 13) (wM_us uw_X6) 47 (Nat.le_of_ble_eq_true rfl) eStateState_47 rfl 2 (by decide) (wM_in fl_X6_28) rfl dX6_become_27 ?_
  obtain ⟨r8, hy7, hf⟩ := ob_e hf
  refine xv2 h 6 2 53 2 (x2E1 sStateState_6 locRow) (x2E2 sStateState_53) (Nat.le_of_ble_eq_true rfl) (Nat.le_of_ble_eq_true rfl) (by omega) (va_runV (As := [.ref (q 53)]) (rest := []) hC (c_X4_become l G (ct 2 (sh 6 q) (sh 53 q)) (ct 2 (sh 6 v6) (sh 53 v6)) hy7 H.size) (xcwV hC lk_X6_88 in_X4 co_X4_become im_X4_become se_X4_become rfl rfl dd_X4_become ⟨Nat.le_of_ble_eq_true rfl, Nat.le_of_ble_eq_true rfl⟩) (preV2 h 6 2 53 2 (x2E1 sStateState_6 locRow) (x2E2 sStateState_53) (Nat.le_of_ble_eq_true rfl) (Nat.le_of_ble_eq_true rfl) (by omega) (Nat.le_of_ble_eq_true rfl) eStateState_6 rfl [.ref (q 53)]) rfl rfl hl.1 rfl (lv_room (Nat.le_of_ble_eq_true rfl)) dX6_become_30 ⟨Nat.zero_le _, Nat.zero_le _⟩) (fun H locs h => ?_)
  obtain ⟨v9, ev9, hf⟩ := lt_e hf
  rw [← ev9] at h
  refine lv_aload_n hx hb dX6_become_33 rfl (lv_at hl 0 rfl) ?_
  refine xget hC h.o (C := RX6) (T := TX6) (N := 13) (wM_us uw_X6) 0 (Nat.le_of_ble_eq_true rfl) eStateState_0 rfl 3 (by decide) (wM_in fl_X6_35) rfl dX6_become_34 ?_
  refine lv_aload_n hx hb dX6_become_37 rfl (lv_at hl 1 rfl) ?_
  refine xget hC h.o (C := RX6) (T := TX6) (N := 13) (wM_us uw_X6) 47 (Nat.le_of_ble_eq_true rfl) eStateState_47 rfl 3 (by decide) (wM_in fl_X6_35) rfl dX6_become_38 ?_
  obtain ⟨r11, hy10, hf⟩ := ob_e hf
  refine xv2 h 8 3 55 3 (x2E1 sStateState_8 locWork) (x2E2 sStateState_55) (Nat.le_of_ble_eq_true rfl) (Nat.le_of_ble_eq_true rfl) (by omega) (va_runV (As := [.ref (q 55)]) (rest := []) hC (c_X7_become l G (ct 3 (sh 8 q) (sh 55 q)) (ct 3 (sh 8 v9) (sh 55 v9)) hy10 H.size) (xcwV hC lk_X6_91 in_X7 co_X7_become im_X7_become se_X7_become rfl rfl dd_X7_become ⟨Nat.le_of_ble_eq_true rfl, Nat.le_of_ble_eq_true rfl⟩) (preV2 h 8 3 55 3 (x2E1 sStateState_8 locWork) (x2E2 sStateState_55) (Nat.le_of_ble_eq_true rfl) (Nat.le_of_ble_eq_true rfl) (by omega) (Nat.le_of_ble_eq_true rfl) eStateState_8 rfl [.ref (q 55)]) rfl rfl hl.1 rfl (lv_room (Nat.le_of_ble_eq_true rfl)) dX6_become_41 ⟨Nat.zero_le _, Nat.zero_le _⟩) (fun H locs h => ?_)
  obtain ⟨v12, ev12, hf⟩ := lt_e hf
  rw [← ev12] at h
  refine lv_aload_n hx hb dX6_become_44 rfl (lv_at hl 0 rfl) ?_
  refine xget hC h.o (C := RX6) (T := TX6) (N := 13) (wM_us uw_X6) 0 (Nat.le_of_ble_eq_true rfl) eStateState_0 rfl 4 (by decide) (wM_in fl_X6_39) rfl dX6_become_45 ?_
  refine lv_aload_n hx hb dX6_become_48 rfl (lv_at hl 1 rfl) ?_
  refine xget hC h.o (C := RX6) (T := TX6) (N := 13) (wM_us uw_X6) 47 (Nat.le_of_ble_eq_true rfl) eStateState_47 rfl 4 (by decide) (wM_in fl_X6_39) rfl dX6_become_49 ?_
  obtain ⟨r14, hy13, hf⟩ := ob_e hf
  refine xv2 h 11 3 58 3 (x2E1 sStateState_11 locWork) (x2E2 sStateState_58) (Nat.le_of_ble_eq_true rfl) (Nat.le_of_ble_eq_true rfl) (by omega) (va_runV (As := [.ref (q 58)]) (rest := []) hC (c_X7_become l G (ct 3 (sh 11 q) (sh 58 q)) (ct 3 (sh 11 v12) (sh 58 v12)) hy13 H.size) (xcwV hC lk_X6_91 in_X7 co_X7_become im_X7_become se_X7_become rfl rfl dd_X7_become ⟨Nat.le_of_ble_eq_true rfl, Nat.le_of_ble_eq_true rfl⟩) (preV2 h 11 3 58 3 (x2E1 sStateState_11 locWork) (x2E2 sStateState_58) (Nat.le_of_ble_eq_true rfl) (Nat.le_of_ble_eq_true rfl) (by omega) (Nat.le_of_ble_eq_true rfl) eStateState_11 rfl [.ref (q 58)]) rfl rfl hl.1 rfl (lv_room (Nat.le_of_ble_eq_true rfl)) dX6_become_52 ⟨Nat.zero_le _, Nat.zero_le _⟩) (fun H locs h => ?_)
  obtain ⟨v15, ev15, hf⟩ := lt_e hf
  rw [← ev15] at h
  refine lv_aload_n hx hb dX6_become_55 rfl (lv_at hl 0 rfl) ?_
  refine xget hC h.o (C := RX6) (T := TX6) (N := 13) (wM_us uw_X6) 0 (Nat.le_of_ble_eq_true rfl) eStateState_0 rfl 5 (by decide) (wM_in fl_X6_45) rfl dX6_become_56 ?_
  refine lv_aload_n hx hb dX6_become_59 rfl (lv_at hl 1 rfl) ?_
  refine xget hC h.o (C := RX6) (T := TX6) (N := 13) (wM_us uw_X6) 47 (Nat.le_of_ble_eq_true rfl) eStateState_47 rfl 5 (by decide) (wM_in fl_X6_45) rfl dX6_become_60 ?_
  obtain ⟨r17, hy16, hf⟩ := ob_e hf
  refine xv2 h 14 32 61 32 (x2E1 sStateState_14 locLine) (x2E2 sStateState_61) (Nat.le_of_ble_eq_true rfl) (Nat.le_of_ble_eq_true rfl) (by omega) (va_runV (As := [.ref (q 61)]) (rest := []) hC (c_X1_become l G (ct 32 (sh 14 q) (sh 61 q)) (ct 32 (sh 14 v15) (sh 61 v15)) hy16 H.size) (xcwV hC lk_X6_94 in_X1 co_X1_become im_X1_become se_X1_become rfl rfl dd_X1_become ⟨Nat.le_of_ble_eq_true rfl, Nat.le_of_ble_eq_true rfl⟩) (preV2 h 14 32 61 32 (x2E1 sStateState_14 locLine) (x2E2 sStateState_61) (Nat.le_of_ble_eq_true rfl) (Nat.le_of_ble_eq_true rfl) (by omega) (Nat.le_of_ble_eq_true rfl) eStateState_14 rfl [.ref (q 61)]) rfl rfl hl.1 rfl (lv_room (Nat.le_of_ble_eq_true rfl)) dX6_become_63 ⟨Nat.zero_le _, Nat.zero_le _⟩) (fun H locs h => ?_)
  obtain ⟨v18, ev18, hf⟩ := lt_e hf
  rw [← ev18] at h
  refine lv_aload_n hx hb dX6_become_66 rfl (lv_at hl 1 rfl) ?_
  refine xget hC h.o (C := RX6) (T := TX6) (N := 13) (wM_us uw_X6) 47 (Nat.le_of_ble_eq_true rfl) eStateState_47 rfl 6 (by decide) (wM_in fl_X6_58) rfl dX6_become_67 ?_
  refine lv_iconst (v := (0 : Int32)) hx hb dX6_become_70 (by decide) ?_
  refine lv_aload_n hx hb dX6_become_71 rfl (lv_at hl 0 rfl) ?_
  refine xget hC h.o (C := RX6) (T := TX6) (N := 13) (wM_us uw_X6) 0 (Nat.le_of_ble_eq_true rfl) eStateState_0 rfl 6 (by decide) (wM_in fl_X6_58) rfl dX6_become_72 ?_
  refine lv_iconst (v := (0 : Int32)) hx hb dX6_become_75 (by decide) ?_
  refine lv_aload_n hx hb dX6_become_76 rfl (lv_at hl 0 rfl) ?_
  refine xget hC h.o (C := RX6) (T := TX6) (N := 13) (wM_us uw_X6) 0 (Nat.le_of_ble_eq_true rfl) eStateState_0 rfl 6 (by decide) (wM_in fl_X6_58) rfl dX6_become_77 ?_
  refine xalen hC h.o 0 rfl 46 (Nat.le_of_ble_eq_true rfl) eStateState_46 (z := (5 : Int32)) rfl dX6_become_80 ?_
  refine lv_aload_n hx hb dX6_become_81 rfl (lv_at hl 1 rfl) ?_
  refine xget hC h.o (C := RX6) (T := TX6) (N := 13) (wM_us uw_X6) 47 (Nat.le_of_ble_eq_true rfl) eStateState_47 rfl 6 (by decide) (wM_in fl_X6_58) rfl dX6_become_82 ?_
  refine xalen hC h.o 0 rfl 93 (Nat.le_of_ble_eq_true rfl) eStateState_93 (z := (5 : Int32)) rfl dX6_become_85 ?_
  refine va_mmin hx hb (hC.2.2.1.trans hl.1.symm) hC.2.2.2.1 (hC.2.2.2.2 _ (wM_in lkm_X6_97)) (hC.2.2.2.2 _ (wM_in st_min)) (hC.2.2.2.2 _ (wM_in in_math)) (hC.2.2.2.2 _ (wM_in co_min)) (Nat.le_of_ble_eq_true rfl) (Nat.le_of_ble_eq_true rfl) (Nat.zero_le _) (Nat.zero_le _) dX6_become_86 ?_
  obtain ⟨hn19, hf⟩ := ck_e hf
  refine xacpy hC h (hC.2.2.2.2 _ (wM_in lkc_X6_103)) (hC.2.2.2.2 _ (wM_in na_acp)) (hC.2.2.2.2 _ (wM_in st_acp)) (hC.2.2.2.2 _ (wM_in in_sys)) (hC.2.2.1.trans hl.1.symm) 93 46 (Nat.le_of_ble_eq_true rfl) (Nat.le_of_ble_eq_true rfl) eStateState_93 (fun _ => eStateState_46) hn19 (Nat.le_of_ble_eq_true rfl) (Nat.le_of_ble_eq_true rfl) dX6_become_89 (fun H locs h => ?_)
  obtain ⟨v20, ev20, hf⟩ := lt_e hf
  rw [← ev20] at h
  refine lv_aload_n hx hb dX6_become_92 rfl (lv_at hl 0 rfl) ?_
  refine lv_aload_n hx hb dX6_become_93 rfl (lv_at hl 1 rfl) ?_
  refine xget hC h.o (C := RX6) (T := TX6) (N := 13) (wM_us uw_X6) 47 (Nat.le_of_ble_eq_true rfl) eStateState_47 rfl 7 (by decide) (wM_in fl_X6_61) rfl dX6_become_94 ?_
  obtain ⟨hz21, hf⟩ := ck_e hf
  refine xput hC h (C := RX6) (T := TX6) (N := 13) (wM_us uw_X6) tyX6_ok nmX6 0 (Nat.le_of_ble_eq_true rfl) eStateState_0 rfl 7 (by decide) (wM_in fl_X6_61) rfl (ty := .boolean) (tyX6_ok 7 (by decide)) (xbit hz21) (xbitf hz21) (Nat.le_of_ble_eq_true rfl) (eStateState_0.trans rfl) dX6_become_97 (fun H locs h => ?_)
  obtain ⟨v22, ev22, hf⟩ := lt_e hf
  rw [← ev22] at h
  refine lv_aload_n hx hb dX6_become_100 rfl (lv_at hl 0 rfl) ?_
  refine lv_aload_n hx hb dX6_become_101 rfl (lv_at hl 1 rfl) ?_
  refine xget hC h.o (C := RX6) (T := TX6) (N := 13) (wM_us uw_X6) 47 (Nat.le_of_ble_eq_true rfl) eStateState_47 rfl 8 (by decide) (wM_in fl_X6_65) rfl dX6_become_102 ?_
  refine xput hC h (C := RX6) (T := TX6) (N := 13) (wM_us uw_X6) tyX6_ok nmX6 0 (Nat.le_of_ble_eq_true rfl) eStateState_0 rfl 8 (by decide) (wM_in fl_X6_65) rfl (ty := .int) (tyX6_ok 8 (by decide)) rfl rfl (Nat.le_of_ble_eq_true rfl) (eStateState_0.trans rfl) dX6_become_105 (fun H locs h => ?_)
  obtain ⟨v23, ev23, hf⟩ := lt_e hf
  rw [← ev23] at h
  refine lv_aload_n hx hb dX6_become_108 rfl (lv_at hl 0 rfl) ?_
  refine lv_aload_n hx hb dX6_become_109 rfl (lv_at hl 1 rfl) ?_
  refine xget hC h.o (C := RX6) (T := TX6) (N := 13) (wM_us uw_X6) 47 (Nat.le_of_ble_eq_true rfl) eStateState_47 rfl 9 (by decide) (wM_in fl_X6_69) rfl dX6_become_110 ?_
  refine xput hC h (C := RX6) (T := TX6) (N := 13) (wM_us uw_X6) tyX6_ok nmX6 0 (Nat.le_of_ble_eq_true rfl) eStateState_0 rfl 9 (by decide) (wM_in fl_X6_69) rfl (ty := .int) (tyX6_ok 9 (by decide)) rfl rfl (Nat.le_of_ble_eq_true rfl) (eStateState_0.trans rfl) dX6_become_113 (fun H locs h => ?_)
  obtain ⟨v24, ev24, hf⟩ := lt_e hf
  rw [← ev24] at h
  refine lv_aload_n hx hb dX6_become_116 rfl (lv_at hl 0 rfl) ?_
  refine lv_aload_n hx hb dX6_become_117 rfl (lv_at hl 1 rfl) ?_
  refine xget hC h.o (C := RX6) (T := TX6) (N := 13) (wM_us uw_X6) 47 (Nat.le_of_ble_eq_true rfl) eStateState_47 rfl 10 (by decide) (wM_in fl_X6_72) rfl dX6_become_118 ?_
  refine xput hC h (C := RX6) (T := TX6) (N := 13) (wM_us uw_X6) tyX6_ok nmX6 0 (Nat.le_of_ble_eq_true rfl) eStateState_0 rfl 10 (by decide) (wM_in fl_X6_72) rfl (ty := .int) (tyX6_ok 10 (by decide)) rfl rfl (Nat.le_of_ble_eq_true rfl) (eStateState_0.trans rfl) dX6_become_121 (fun H locs h => ?_)
  obtain ⟨v25, ev25, hf⟩ := lt_e hf
  rw [← ev25] at h
  refine lv_aload_n hx hb dX6_become_124 rfl (lv_at hl 0 rfl) ?_
  refine lv_aload_n hx hb dX6_become_125 rfl (lv_at hl 1 rfl) ?_
  refine xget hC h.o (C := RX6) (T := TX6) (N := 13) (wM_us uw_X6) 47 (Nat.le_of_ble_eq_true rfl) eStateState_47 rfl 11 (by decide) (wM_in fl_X6_75) rfl dX6_become_126 ?_
  refine xput hC h (C := RX6) (T := TX6) (N := 13) (wM_us uw_X6) tyX6_ok nmX6 0 (Nat.le_of_ble_eq_true rfl) eStateState_0 rfl 11 (by decide) (wM_in fl_X6_75) rfl (ty := .int) (tyX6_ok 11 (by decide)) rfl rfl (Nat.le_of_ble_eq_true rfl) (eStateState_0.trans rfl) dX6_become_129 (fun H locs h => ?_)
  obtain ⟨v26, ev26, hf⟩ := lt_e hf
  rw [← ev26] at h
  refine lv_aload_n hx hb dX6_become_132 rfl (lv_at hl 0 rfl) ?_
  refine lv_aload_n hx hb dX6_become_133 rfl (lv_at hl 1 rfl) ?_
  refine xget hC h.o (C := RX6) (T := TX6) (N := 13) (wM_us uw_X6) 47 (Nat.le_of_ble_eq_true rfl) eStateState_47 rfl 12 (by decide) (wM_in fl_X6_78) rfl dX6_become_134 ?_
  refine xput hC h (C := RX6) (T := TX6) (N := 13) (wM_us uw_X6) tyX6_ok nmX6 0 (Nat.le_of_ble_eq_true rfl) eStateState_0 rfl 12 (by decide) (wM_in fl_X6_78) rfl (ty := .int) (tyX6_ok 12 (by decide)) rfl rfl (Nat.le_of_ble_eq_true rfl) (eStateState_0.trans rfl) dX6_become_137 (fun H locs h => ?_)
  obtain ⟨v27, ev27, hf⟩ := lt_e hf
  rw [← ev27] at h
  have hf := sm_e hf
  exact xvret hC hr hlk h hf dX6_become_140
def m_X6_isBusy (v : xSt) : Option (Int32) := (if (v 8 0) = 0 then some (0 : Int32) else some (1 : Int32))
set_option maxHeartbeats 4000000 in
set_option maxRecDepth 100000 in
theorem c_X6_isBusy (l : Launch) (G : xGl) (q : Nat → Nat) (v : xSt) {z : (Int32)} (hf : m_X6_isBusy v = some z) : mRO l yX6_isBusy (wM yX6_isBusy cX6_isBusy 1 (some .boolean)) { frames := 0, cells := 0, slots := 0, locals := 0 } G (eState G) 47 q v [.ref (q 0)] (qZ z) := by
  refine xRO (cc := cX6_isBusy) (maxL := 1) (ret := (some .boolean)) (by decide) rfl (Nat.le_of_ble_eq_true rfl) ?_
  intro p e s m below meth c ls A hC hr hlk h hl
  have hx := hC.1
  have hb := hC.2.1
  have hl : lv_has ls 1 [(0, .ref (q 0))] := hl
  unfold m_X6_isBusy at hf
  obtain ⟨H, hH⟩ : ∃ H, H = s.heap := ⟨_, rfl⟩
  obtain ⟨locs, hlo⟩ : ∃ x : List Loc, x = [] := ⟨_, rfl⟩
  have h : ho G (eState G) 47 q v A s H locs := by rw [hH, hlo]; exact h
  rw [← hlo, ← hH]
  clear hH hlo
  refine lv_aload_n hx hb dX6_isBusy_0 rfl (lv_at hl 0 rfl) ?_
  refine xget hC h.o (C := RX6) (T := TX6) (N := 13) (wM_us uw_X6) 0 (Nat.le_of_ble_eq_true rfl) eState_0 rfl 3 (by decide) (wM_in fl_X6_35) rfl dX6_isBusy_1 ?_
  refine xget hC h.o (C := RX7) (T := TX7) (N := 9) (wM_us uw_X7) 8 (Nat.le_of_ble_eq_true rfl) eState_8 rfl 0 (by decide) (wM_in fl_X6_109) rfl dX6_isBusy_4 ?_
  refine lv_if_eq (tgt := 14) hx hb dX6_isBusy_7 (by decide) (fun c1 => ?_) (fun c1 => ?_)
  · have hf := it_t c1 hf
    refine lv_iconst (v := (0 : Int32)) hx hb dX6_isBusy_14 (by decide) ?_
    have hf := sm_e hf
    exact ozret hC hr hlk h (by rw [← hf]) (by decide) dX6_isBusy_15
  · have hf := it_f c1 hf
    refine lv_iconst (v := (1 : Int32)) hx hb dX6_isBusy_10 (by decide) ?_
    refine lv_goto (tgt := 15) hx hb dX6_isBusy_11 (by decide) ?_
    have hf := sm_e hf
    exact ozret hC hr hlk h (by rw [← hf]) (by decide) dX6_isBusy_15
def m_X6_settingOf (v : xSt) (p1 : Int32) : Option (Int32) := some (xat 5 (v 46) p1)
set_option maxHeartbeats 4000000 in
set_option maxRecDepth 100000 in
theorem c_X6_settingOf (l : Launch) (G : xGl) (q : Nat → Nat) (v : xSt) (p1 : Int32) {z : (Int32)} (hf : m_X6_settingOf v p1 = some z) : mRO l yX6_settingOf (wM yX6_settingOf cX6_settingOf 2 (some .int)) { frames := 1, cells := 0, slots := 0, locals := 21 } G (eState G) 47 q v [.ref (q 0), .int p1] (qI z) := by
  refine xRO (cc := cX6_settingOf) (maxL := 2) (ret := (some .int)) (by decide) rfl (Nat.le_of_ble_eq_true rfl) ?_
  intro p e s m below meth c ls A hC hr hlk h hl
  have hx := hC.1
  have hb := hC.2.1
  have hl : lv_has ls 2 [(0, .ref (q 0)), (1, .int p1)] := hl
  unfold m_X6_settingOf at hf
  obtain ⟨H, hH⟩ : ∃ H, H = s.heap := ⟨_, rfl⟩
  obtain ⟨locs, hlo⟩ : ∃ x : List Loc, x = [] := ⟨_, rfl⟩
  have h : ho G (eState G) 47 q v A s H locs := by rw [hH, hlo]; exact h
  rw [← hlo, ← hH]
  clear hH hlo
  refine lv_aload_n hx hb dX6_settingOf_0 rfl (lv_at hl 0 rfl) ?_
  refine xget hC h.o (C := RX6) (T := TX6) (N := 13) (wM_us uw_X6) 0 (Nat.le_of_ble_eq_true rfl) eState_0 rfl 6 (by decide) (wM_in fl_X6_58) rfl dX6_settingOf_1 ?_
  refine lv_iload_n hx hb dX6_settingOf_4 rfl (lv_at hl 1 rfl) ?_
  refine xiO h (va_runSN (As := [.ref (q 46), .int p1]) (rest := []) hC (k_X8_at l G (sh 46 q) 5 (by decide) (sh 46 v) p1 H.size) (xcwN hC (h.o.2.2.2.1 _ nw_X6_112) in_X8 co_X8_at st_X8_at rfl rfl dd_X8_at ⟨Nat.le_of_ble_eq_true rfl, Nat.le_of_ble_eq_true rfl⟩) (preSO h.o 46 1 sState_46 (Nat.le_of_ble_eq_true rfl) [.ref (q 46), .int p1]) rfl rfl hl.1 rfl (lv_room (Nat.le_of_ble_eq_true rfl)) dX6_settingOf_5 ⟨Nat.zero_le _, Nat.zero_le _⟩) (fun H locs h => ?_)
  refine lv_nm (z := (xat 5 (v 46) p1)) rfl ?_
  have hf := sm_e hf
  exact oiret hC hr hlk h (by rw [← hf]) dX6_settingOf_8
def m_X6_eraseTicks (v : xSt) (p1 : Int32) : Option (Int32) := ob (m_X6_settingOf v (1 : Int32)) (fun r2 => some (((4 : Int32) + r2) + ((xat 8 (v 4) p1) / (4 : Int32))))
set_option maxHeartbeats 4000000 in
set_option maxRecDepth 100000 in
theorem c_X6_eraseTicks (l : Launch) (G : xGl) (q : Nat → Nat) (v : xSt) (p1 : Int32) {z : (Int32)} (hf : m_X6_eraseTicks v p1 = some z) : mRO l yX6_eraseTicks (wM yX6_eraseTicks cX6_eraseTicks 2 (some .int)) { frames := 2, cells := 0, slots := 0, locals := 42 } G (eState G) 47 q v [.ref (q 0), .int p1] (qI z) := by
  refine xRO (cc := cX6_eraseTicks) (maxL := 2) (ret := (some .int)) (by decide) rfl (Nat.le_of_ble_eq_true rfl) ?_
  intro p e s m below meth c ls A hC hr hlk h hl
  have hx := hC.1
  have hb := hC.2.1
  have hl : lv_has ls 2 [(0, .ref (q 0)), (1, .int p1)] := hl
  unfold m_X6_eraseTicks at hf
  obtain ⟨H, hH⟩ : ∃ H, H = s.heap := ⟨_, rfl⟩
  obtain ⟨locs, hlo⟩ : ∃ x : List Loc, x = [] := ⟨_, rfl⟩
  have h : ho G (eState G) 47 q v A s H locs := by rw [hH, hlo]; exact h
  rw [← hlo, ← hH]
  clear hH hlo
  refine lv_iconst (v := (4 : Int32)) hx hb dX6_eraseTicks_0 (by decide) ?_
  refine lv_aload_n hx hb dX6_eraseTicks_1 rfl (lv_at hl 0 rfl) ?_
  refine lv_iconst (v := (1 : Int32)) hx hb dX6_eraseTicks_2 (by decide) ?_
  obtain ⟨r2, hy1, hf⟩ := ob_e hf
  refine xiO h (va_runV (As := [.int (1 : Int32)]) (rest := [.int (4 : Int32)]) hC (c_X6_settingOf l G q v (1 : Int32) hy1 H.size) (xcwV hC lk_X6_116 in_X6 co_X6_settingOf im_X6_settingOf se_X6_settingOf rfl rfl dd_X6_settingOf ⟨Nat.le_of_ble_eq_true rfl, Nat.le_of_ble_eq_true rfl⟩) (preVO0 h.o (Nat.le_of_ble_eq_true rfl) eState_0 rfl [.int (1 : Int32)]) rfl rfl hl.1 rfl (lv_room (Nat.le_of_ble_eq_true rfl)) dX6_eraseTicks_3 ⟨Nat.zero_le _, Nat.zero_le _⟩) (fun H locs h => ?_)
  refine lv_iadd hx hb dX6_eraseTicks_6 ?_
  refine lv_aload_n hx hb dX6_eraseTicks_7 rfl (lv_at hl 0 rfl) ?_
  refine xget hC h.o (C := RX6) (T := TX6) (N := 13) (wM_us uw_X6) 0 (Nat.le_of_ble_eq_true rfl) eState_0 rfl 0 (by decide) (wM_in fl_X6_12) rfl dX6_eraseTicks_8 ?_
  refine xget hC h.o (C := RX0) (T := TX0) (N := 4) (wM_us uw_X0) 1 (Nat.le_of_ble_eq_true rfl) eState_1 rfl 2 (by decide) (wM_in fl_X6_120) rfl dX6_eraseTicks_11 ?_
  refine lv_iload_n hx hb dX6_eraseTicks_14 rfl (lv_at hl 1 rfl) ?_
  refine xiO h (va_runSN (As := [.ref (q 4), .int p1]) (rest := [.int ((4 : Int32) + r2)]) hC (k_X8_at l G (sh 4 q) 8 (by decide) (sh 4 v) p1 H.size) (xcwN hC (h.o.2.2.2.1 _ nw_X6_112) in_X8 co_X8_at st_X8_at rfl rfl dd_X8_at ⟨Nat.le_of_ble_eq_true rfl, Nat.le_of_ble_eq_true rfl⟩) (preSO h.o 4 1 sState_4 (Nat.le_of_ble_eq_true rfl) [.ref (q 4), .int p1]) rfl rfl hl.1 rfl (lv_room (Nat.le_of_ble_eq_true rfl)) dX6_eraseTicks_15 ⟨Nat.zero_le _, Nat.zero_le _⟩) (fun H locs h => ?_)
  refine lv_nm (z := (xat 8 (v 4) p1)) rfl ?_
  refine lv_iconst (v := (4 : Int32)) hx hb dX6_eraseTicks_18 (by decide) ?_
  refine lv_idiv hx hb dX6_eraseTicks_19 (by decide) ?_
  refine lv_iadd hx hb dX6_eraseTicks_20 ?_
  have hf := sm_e hf
  exact oiret hC hr hlk h (by rw [← hf]) dX6_eraseTicks_21
def m_X6_asideAllows (v : xSt) (p1 : Int32) (p2 : Int32) : Option (Int32) := (if (v 11 0) = 0 then some (1 : Int32) else lt (fun (_ : Unit) => some (0 : Int32)) (fun j2 => (if (v 11 0) = (2 : Int32) then (if p1 = (1 : Int32) then (if (xso p1 p2) = (v 11 1) then j2 () else some (1 : Int32)) else j2 ()) else j2 ())))
set_option maxHeartbeats 4000000 in
set_option maxRecDepth 100000 in
theorem c_X6_asideAllows (l : Launch) (G : xGl) (q : Nat → Nat) (v : xSt) (p1 : Int32) (p2 : Int32) {z : (Int32)} (hf : m_X6_asideAllows v p1 p2 = some z) : mRO l yX6_asideAllows (wM yX6_asideAllows cX6_asideAllows 3 (some .boolean)) { frames := 1, cells := 0, slots := 0, locals := 21 } G (eState G) 47 q v [.ref (q 0), .int p1, .int p2] (qZ z) := by
  refine xRO (cc := cX6_asideAllows) (maxL := 3) (ret := (some .boolean)) (by decide) rfl (Nat.le_of_ble_eq_true rfl) ?_
  intro p e s m below meth c ls A hC hr hlk h hl
  have hx := hC.1
  have hb := hC.2.1
  have hl : lv_has ls 3 [(0, .ref (q 0)), (1, .int p1), (2, .int p2)] := hl
  unfold m_X6_asideAllows at hf
  obtain ⟨H, hH⟩ : ∃ H, H = s.heap := ⟨_, rfl⟩
  obtain ⟨locs, hlo⟩ : ∃ x : List Loc, x = [] := ⟨_, rfl⟩
  have h : ho G (eState G) 47 q v A s H locs := by rw [hH, hlo]; exact h
  rw [← hlo, ← hH]
  clear hH hlo
  refine lv_aload_n hx hb dX6_asideAllows_0 rfl (lv_at hl 0 rfl) ?_
  refine xget hC h.o (C := RX6) (T := TX6) (N := 13) (wM_us uw_X6) 0 (Nat.le_of_ble_eq_true rfl) eState_0 rfl 4 (by decide) (wM_in fl_X6_39) rfl dX6_asideAllows_1 ?_
  refine xget hC h.o (C := RX7) (T := TX7) (N := 9) (wM_us uw_X7) 11 (Nat.le_of_ble_eq_true rfl) eState_11 rfl 0 (by decide) (wM_in fl_X6_109) rfl dX6_asideAllows_4 ?_
  refine lv_if_ne (tgt := 12) hx hb dX6_asideAllows_7 (by decide) (fun c1 => ?_) (fun c1 => ?_)
  · have hf := it_f c1 hf
    refine lv_aload_n hx hb dX6_asideAllows_12 rfl (lv_at hl 0 rfl) ?_
    refine xget hC h.o (C := RX6) (T := TX6) (N := 13) (wM_us uw_X6) 0 (Nat.le_of_ble_eq_true rfl) eState_0 rfl 4 (by decide) (wM_in fl_X6_39) rfl dX6_asideAllows_13 ?_
    refine xget hC h.o (C := RX7) (T := TX7) (N := 9) (wM_us uw_X7) 11 (Nat.le_of_ble_eq_true rfl) eState_11 rfl 0 (by decide) (wM_in fl_X6_109) rfl dX6_asideAllows_16 ?_
    refine lv_iconst (v := (2 : Int32)) hx hb dX6_asideAllows_19 (by decide) ?_
    obtain ⟨j2, ej2, hf⟩ := lt_e hf
    have hj2 : ∀ (uu : Unit) (H : Heap) (locs : List Loc), ho G (eState G) 47 q v A s H locs → ∀ (ls : Array Slot), lv_has ls 3 [] → j2 uu = some z → W p l e { frames := 1, cells := 0, slots := 0, locals := 21 } s m [.ref (q 0), .int p1, .int p2].toArray below meth c H locs 0 0 (MQ below ((qZ z) (fun _ => True) A) [.ref (q 0), .int p1, .int p2].toArray s 0 0 A) (F0 m 47 ls []) := by
      intro uu H locs h ls hl hf
      rw [ej2] at hf
      refine lv_iconst (v := (0 : Int32)) hx hb dX6_asideAllows_47 (by decide) ?_
      have hf := sm_e hf
      exact ozret hC hr hlk h (by rw [← hf]) (by decide) dX6_asideAllows_48
    refine lv_icmp_ne (tgt := 47) hx hb dX6_asideAllows_20 (by decide) (fun c3 => ?_) (fun c3 => ?_)
    · have hf := it_f c3 hf
      exact hj2 () H locs h ls (lv_sub hl [] rfl) hf
    · have hf := it_t c3 hf
      refine lv_iload_n hx hb dX6_asideAllows_23 rfl (lv_at hl 1 rfl) ?_
      refine lv_iconst (v := (1 : Int32)) hx hb dX6_asideAllows_24 (by decide) ?_
      refine lv_icmp_ne (tgt := 47) hx hb dX6_asideAllows_25 (by decide) (fun c4 => ?_) (fun c4 => ?_)
      · have hf := it_f c4 hf
        exact hj2 () H locs h ls (lv_sub hl [] rfl) hf
      · have hf := it_t c4 hf
        refine lv_iload_n hx hb dX6_asideAllows_28 rfl (lv_at hl 1 rfl) ?_
        refine lv_iload_n hx hb dX6_asideAllows_29 rfl (lv_at hl 2 rfl) ?_
        refine xiO h (va_runSN (As := [.int p1, .int p2]) (rest := []) hC (k_X8_sectorOf l G q v p1 p2 H.size) (xcwN hC (h.o.2.2.2.1 _ nw_X6_130) in_X8 co_X8_sectorOf st_X8_sectorOf rfl rfl dd_X8_sectorOf ⟨Nat.le_of_ble_eq_true rfl, Nat.le_of_ble_eq_true rfl⟩) (preSN h.o [.int p1, .int p2]) rfl rfl hl.1 rfl (lv_room (Nat.le_of_ble_eq_true rfl)) dX6_asideAllows_30 ⟨Nat.zero_le _, Nat.zero_le _⟩) (fun H locs h => ?_)
        refine lv_aload_n hx hb dX6_asideAllows_33 rfl (lv_at hl 0 rfl) ?_
        refine xget hC h.o (C := RX6) (T := TX6) (N := 13) (wM_us uw_X6) 0 (Nat.le_of_ble_eq_true rfl) eState_0 rfl 4 (by decide) (wM_in fl_X6_39) rfl dX6_asideAllows_34 ?_
        refine xget hC h.o (C := RX7) (T := TX7) (N := 9) (wM_us uw_X7) 11 (Nat.le_of_ble_eq_true rfl) eState_11 rfl 1 (by decide) (wM_in fl_X6_144) rfl dX6_asideAllows_37 ?_
        refine lv_icmp_eq (tgt := 47) hx hb dX6_asideAllows_40 (by decide) (fun c5 => ?_) (fun c5 => ?_)
        · have hf := it_t c5 hf
          exact hj2 () H locs h ls (lv_sub hl [] rfl) hf
        · have hf := it_f c5 hf
          refine lv_iconst (v := (1 : Int32)) hx hb dX6_asideAllows_43 (by decide) ?_
          refine lv_goto (tgt := 48) hx hb dX6_asideAllows_44 (by decide) ?_
          have hf := sm_e hf
          exact ozret hC hr hlk h (by rw [← hf]) (by decide) dX6_asideAllows_48
  · have hf := it_t c1 hf
    refine lv_iconst (v := (1 : Int32)) hx hb dX6_asideAllows_10 (by decide) ?_
    have hf := sm_e hf
    exact ozret hC hr hlk h (by rw [← hf]) (by decide) dX6_asideAllows_11
def m_X6_hindrance (v : xSt) (p1 : Int32) (p2 : Int32) : Option (Int32) := ob (m_X6_isBusy v) (fun r2 => (if r2 = 0 then (if (v 0 7) = 0 then some (2 : Int32) else lt (fun (_ : Unit) => ob (m_X6_asideAllows v p1 p2) (fun r8 => (if r8 = 0 then some (4 : Int32) else lt (fun (_ : Unit) => some (0 : Int32)) (fun j11 => (if p1 = (1 : Int32) then (if (v 6 1) = 0 then some (5 : Int32) else j11 ()) else j11 ()))))) (fun j6 => (if p1 = (3 : Int32) then (if (v 5 2) = 0 then j6 () else some (3 : Int32)) else ob (m_X2_hold (sh 5 v) (xso p1 p2)) (fun r16 => (if r16 = 0 then j6 () else some (3 : Int32)))))) else some (1 : Int32)))
set_option maxHeartbeats 4000000 in
set_option maxRecDepth 100000 in
theorem c_X6_hindrance (l : Launch) (G : xGl) (q : Nat → Nat) (v : xSt) (p1 : Int32) (p2 : Int32) {z : (Int32)} (hf : m_X6_hindrance v p1 p2 = some z) : mRO l yX6_hindrance (wM yX6_hindrance cX6_hindrance 3 (some .int)) { frames := 2, cells := 0, slots := 0, locals := 43 } G (eState G) 47 q v [.ref (q 0), .int p1, .int p2] (qI z) := by
  refine xRO (cc := cX6_hindrance) (maxL := 3) (ret := (some .int)) (by decide) rfl (Nat.le_of_ble_eq_true rfl) ?_
  intro p e s m below meth c ls A hC hr hlk h hl
  have hx := hC.1
  have hb := hC.2.1
  have hl : lv_has ls 3 [(0, .ref (q 0)), (1, .int p1), (2, .int p2)] := hl
  unfold m_X6_hindrance at hf
  obtain ⟨H, hH⟩ : ∃ H, H = s.heap := ⟨_, rfl⟩
  obtain ⟨locs, hlo⟩ : ∃ x : List Loc, x = [] := ⟨_, rfl⟩
  have h : ho G (eState G) 47 q v A s H locs := by rw [hH, hlo]; exact h
  rw [← hlo, ← hH]
  clear hH hlo
  refine lv_aload_n hx hb dX6_hindrance_0 rfl (lv_at hl 0 rfl) ?_
  obtain ⟨r2, hy1, hf⟩ := ob_e hf
  refine xzO h (va_runV (As := []) (rest := []) hC (c_X6_isBusy l G q v hy1 H.size) (xcwV hC lk_X6_123 in_X6 co_X6_isBusy im_X6_isBusy se_X6_isBusy rfl rfl dd_X6_isBusy ⟨Nat.le_of_ble_eq_true rfl, Nat.le_of_ble_eq_true rfl⟩) (preVO0 h.o (Nat.le_of_ble_eq_true rfl) eState_0 rfl []) rfl rfl hl.1 rfl (lv_room (Nat.le_of_ble_eq_true rfl)) dX6_hindrance_1 ⟨Nat.zero_le _, Nat.zero_le _⟩) (fun H locs hz3 h => ?_)
  refine lv_if_eq (tgt := 9) hx hb dX6_hindrance_4 (by decide) (fun c4 => ?_) (fun c4 => ?_)
  · have hf := it_t c4 hf
    refine lv_aload_n hx hb dX6_hindrance_9 rfl (lv_at hl 0 rfl) ?_
    refine xget hC h.o (C := RX6) (T := TX6) (N := 13) (wM_us uw_X6) 0 (Nat.le_of_ble_eq_true rfl) eState_0 rfl 7 (by decide) (wM_in fl_X6_61) rfl dX6_hindrance_10 ?_
    refine lv_if_ne (tgt := 18) hx hb dX6_hindrance_13 (by decide) (fun c5 => ?_) (fun c5 => ?_)
    · have hf := it_f c5 hf
      refine lv_iload_n hx hb dX6_hindrance_18 rfl (lv_at hl 1 rfl) ?_
      refine lv_iconst (v := (3 : Int32)) hx hb dX6_hindrance_19 (by decide) ?_
      obtain ⟨j6, ej6, hf⟩ := lt_e hf
      have hj6 : ∀ (uu : Unit) (H : Heap) (locs : List Loc), ho G (eState G) 47 q v A s H locs → ∀ (ls : Array Slot), lv_has ls 3 [(0, .ref (q 0)), (1, .int p1), (2, .int p2)] → j6 uu = some z → W p l e { frames := 2, cells := 0, slots := 0, locals := 43 } s m [.ref (q 0), .int p1, .int p2].toArray below meth c H locs 0 0 (MQ below ((qI z) (fun _ => True) A) [.ref (q 0), .int p1, .int p2].toArray s 0 0 A) (F0 m 53 ls []) := by
        intro uu H locs h ls hl hf
        rw [ej6] at hf
        refine lv_aload_n hx hb dX6_hindrance_53 rfl (lv_at hl 0 rfl) ?_
        refine lv_iload_n hx hb dX6_hindrance_54 rfl (lv_at hl 1 rfl) ?_
        refine lv_iload_n hx hb dX6_hindrance_55 rfl (lv_at hl 2 rfl) ?_
        obtain ⟨r8, hy7, hf⟩ := ob_e hf
        refine xzO h (va_runV (As := [.int p1, .int p2]) (rest := []) hC (c_X6_asideAllows l G q v p1 p2 hy7 H.size) (xcwV hC lk_X6_137 in_X6 co_X6_asideAllows im_X6_asideAllows se_X6_asideAllows rfl rfl dd_X6_asideAllows ⟨Nat.le_of_ble_eq_true rfl, Nat.le_of_ble_eq_true rfl⟩) (preVO0 h.o (Nat.le_of_ble_eq_true rfl) eState_0 rfl [.int p1, .int p2]) rfl rfl hl.1 rfl (lv_room (Nat.le_of_ble_eq_true rfl)) dX6_hindrance_56 ⟨Nat.zero_le _, Nat.zero_le _⟩) (fun H locs hz9 h => ?_)
        refine lv_if_ne (tgt := 64) hx hb dX6_hindrance_59 (by decide) (fun c10 => ?_) (fun c10 => ?_)
        · have hf := it_f c10 hf
          refine lv_iload_n hx hb dX6_hindrance_64 rfl (lv_at hl 1 rfl) ?_
          refine lv_iconst (v := (1 : Int32)) hx hb dX6_hindrance_65 (by decide) ?_
          obtain ⟨j11, ej11, hf⟩ := lt_e hf
          have hj11 : ∀ (uu : Unit) (H : Heap) (locs : List Loc), ho G (eState G) 47 q v A s H locs → ∀ (ls : Array Slot), lv_has ls 3 [] → j11 uu = some z → W p l e { frames := 2, cells := 0, slots := 0, locals := 43 } s m [.ref (q 0), .int p1, .int p2].toArray below meth c H locs 0 0 (MQ below ((qI z) (fun _ => True) A) [.ref (q 0), .int p1, .int p2].toArray s 0 0 A) (F0 m 83 ls []) := by
            intro uu H locs h ls hl hf
            rw [ej11] at hf
            refine lv_iconst (v := (0 : Int32)) hx hb dX6_hindrance_83 (by decide) ?_
            have hf := sm_e hf
            exact oiret hC hr hlk h (by rw [← hf]) dX6_hindrance_84
          refine lv_icmp_ne (tgt := 83) hx hb dX6_hindrance_66 (by decide) (fun c12 => ?_) (fun c12 => ?_)
          · have hf := it_f c12 hf
            exact hj11 () H locs h ls (lv_sub hl [] rfl) hf
          · have hf := it_t c12 hf
            refine lv_aload_n hx hb dX6_hindrance_69 rfl (lv_at hl 0 rfl) ?_
            refine xget hC h.o (C := RX6) (T := TX6) (N := 13) (wM_us uw_X6) 0 (Nat.le_of_ble_eq_true rfl) eState_0 rfl 2 (by decide) (wM_in fl_X6_28) rfl dX6_hindrance_70 ?_
            refine xget hC h.o (C := RX4) (T := TX4) (N := 2) (wM_us uw_X4) 6 (Nat.le_of_ble_eq_true rfl) eState_6 rfl 1 (by decide) (wM_in fl_X6_141) rfl dX6_hindrance_73 ?_
            refine lv_if_ne (tgt := 83) hx hb dX6_hindrance_76 (by decide) (fun c13 => ?_) (fun c13 => ?_)
            · have hf := it_f c13 hf
              exact hj11 () H locs h ls (lv_sub hl [] rfl) hf
            · have hf := it_t c13 hf
              refine lv_iconst (v := (5 : Int32)) hx hb dX6_hindrance_79 (by decide) ?_
              refine lv_goto (tgt := 84) hx hb dX6_hindrance_80 (by decide) ?_
              have hf := sm_e hf
              exact oiret hC hr hlk h (by rw [← hf]) dX6_hindrance_84
        · have hf := it_t c10 hf
          refine lv_iconst (v := (4 : Int32)) hx hb dX6_hindrance_62 (by decide) ?_
          have hf := sm_e hf
          exact oiret hC hr hlk h (by rw [← hf]) dX6_hindrance_63
      refine lv_icmp_ne (tgt := 36) hx hb dX6_hindrance_20 (by decide) (fun c14 => ?_) (fun c14 => ?_)
      · have hf := it_f c14 hf
        refine lv_aload_n hx hb dX6_hindrance_36 rfl (lv_at hl 0 rfl) ?_
        refine xget hC h.o (C := RX6) (T := TX6) (N := 13) (wM_us uw_X6) 0 (Nat.le_of_ble_eq_true rfl) eState_0 rfl 1 (by decide) (wM_in fl_X6_21) rfl dX6_hindrance_37 ?_
        refine lv_iload_n hx hb dX6_hindrance_40 rfl (lv_at hl 1 rfl) ?_
        refine lv_iload_n hx hb dX6_hindrance_41 rfl (lv_at hl 2 rfl) ?_
        refine xiO h (va_runSN (As := [.int p1, .int p2]) (rest := [.ref (q 5)]) hC (k_X8_sectorOf l G q v p1 p2 H.size) (xcwN hC (h.o.2.2.2.1 _ nw_X6_130) in_X8 co_X8_sectorOf st_X8_sectorOf rfl rfl dd_X8_sectorOf ⟨Nat.le_of_ble_eq_true rfl, Nat.le_of_ble_eq_true rfl⟩) (preSN h.o [.int p1, .int p2]) rfl rfl hl.1 rfl (lv_room (Nat.le_of_ble_eq_true rfl)) dX6_hindrance_42 ⟨Nat.zero_le _, Nat.zero_le _⟩) (fun H locs h => ?_)
        obtain ⟨r16, hy15, hf⟩ := ob_e hf
        refine xzO h (va_runV (As := [.int (xso p1 p2)]) (rest := []) hC (c_X2_hold l G (sh 5 q) (sh 5 v) (xso p1 p2) hy15 H.size) (xcwV hC lk_X6_133 in_X2 co_X2_hold im_X2_hold se_X2_hold rfl rfl dd_X2_hold ⟨Nat.le_of_ble_eq_true rfl, Nat.le_of_ble_eq_true rfl⟩) (preVO h.o 5 1 sState_5 (Nat.le_of_ble_eq_true rfl) (Nat.le_of_ble_eq_true rfl) eState_5 rfl [.int (xso p1 p2)]) rfl rfl hl.1 rfl (lv_room (Nat.le_of_ble_eq_true rfl)) dX6_hindrance_45 ⟨Nat.zero_le _, Nat.zero_le _⟩) (fun H locs hz17 h => ?_)
        refine lv_if_eq (tgt := 53) hx hb dX6_hindrance_48 (by decide) (fun c18 => ?_) (fun c18 => ?_)
        · have hf := it_t c18 hf
          exact hj6 () H locs h ls (lv_sub hl [0, 1, 2] rfl) hf
        · have hf := it_f c18 hf
          refine lv_iconst (v := (3 : Int32)) hx hb dX6_hindrance_51 (by decide) ?_
          have hf := sm_e hf
          exact oiret hC hr hlk h (by rw [← hf]) dX6_hindrance_52
      · have hf := it_t c14 hf
        refine lv_aload_n hx hb dX6_hindrance_23 rfl (lv_at hl 0 rfl) ?_
        refine xget hC h.o (C := RX6) (T := TX6) (N := 13) (wM_us uw_X6) 0 (Nat.le_of_ble_eq_true rfl) eState_0 rfl 1 (by decide) (wM_in fl_X6_21) rfl dX6_hindrance_24 ?_
        refine xget hC h.o (C := RX2) (T := TX2) (N := 3) (wM_us uw_X2) 5 (Nat.le_of_ble_eq_true rfl) eState_5 rfl 2 (by decide) (wM_in fl_X6_127) rfl dX6_hindrance_27 ?_
        refine lv_if_eq (tgt := 53) hx hb dX6_hindrance_30 (by decide) (fun c19 => ?_) (fun c19 => ?_)
        · have hf := it_t c19 hf
          exact hj6 () H locs h ls (lv_sub hl [0, 1, 2] rfl) hf
        · have hf := it_f c19 hf
          refine lv_goto (tgt := 51) hx hb dX6_hindrance_33 (by decide) ?_
          refine lv_iconst (v := (3 : Int32)) hx hb dX6_hindrance_51 (by decide) ?_
          have hf := sm_e hf
          exact oiret hC hr hlk h (by rw [← hf]) dX6_hindrance_52
    · have hf := it_t c5 hf
      refine lv_iconst (v := (2 : Int32)) hx hb dX6_hindrance_16 (by decide) ?_
      have hf := sm_e hf
      exact oiret hC hr hlk h (by rw [← hf]) dX6_hindrance_17
  · have hf := it_f c4 hf
    refine lv_iconst (v := (1 : Int32)) hx hb dX6_hindrance_7 (by decide) ?_
    have hf := sm_e hf
    exact oiret hC hr hlk h (by rw [← hf]) dX6_hindrance_8
def m_X6_setAside (v : xSt) (p1 : Int32) : Option xSt := ob (m_X7_become (ct 3 (sh 11 v) (sh 8 v))) (fun r2 => lt (pu 8 3 (pu 11 3 v r2) (sh 3 r2)) (fun v3 => ck (p1 = 0 ∨ p1 = 1) (lt (st2 v3 11 7 p1) (fun v5 => ob (m_X7_end (sh 8 v5)) (fun r7 => lt (pu 8 3 v5 r7) (fun v8 => lt (st2 v8 0 12 ((v8 0 12) + (1 : Int32))) (fun v9 => some v9)))))))
set_option maxHeartbeats 4000000 in
set_option maxRecDepth 100000 in
theorem c_X6_setAside (l : Launch) (G : xGl) (q : Nat → Nat) (v : xSt) (p1 : Int32) {z : xSt} (hf : m_X6_setAside v p1 = some z) : mRW l yX6_setAside (wM yX6_setAside cX6_setAside 2 none) { frames := 3, cells := 0, slots := 0, locals := 102 } G (eState G) 47 q v [.ref (q 0), .int p1] qV z := by
  refine xRW (cc := cX6_setAside) (maxL := 2) (ret := none) (by decide) rfl (Nat.le_of_ble_eq_true rfl) ?_
  intro p e s m below meth c ls A hC hr hlk h hl
  have hx := hC.1
  have hb := hC.2.1
  have hl : lv_has ls 2 [(0, .ref (q 0)), (1, .int p1)] := hl
  unfold m_X6_setAside at hf
  obtain ⟨H, hH⟩ : ∃ H, H = s.heap := ⟨_, rfl⟩
  obtain ⟨locs, hlo⟩ : ∃ x : List Loc, x = [] := ⟨_, rfl⟩
  have h : hg G (eState G) 47 q v A s H locs := by rw [hH, hlo]; exact h
  rw [← hlo, ← hH]
  clear hH hlo
  refine lv_aload_n hx hb dX6_setAside_0 rfl (lv_at hl 0 rfl) ?_
  refine xget hC h.o (C := RX6) (T := TX6) (N := 13) (wM_us uw_X6) 0 (Nat.le_of_ble_eq_true rfl) eState_0 rfl 4 (by decide) (wM_in fl_X6_39) rfl dX6_setAside_1 ?_
  refine lv_aload_n hx hb dX6_setAside_4 rfl (lv_at hl 0 rfl) ?_
  refine xget hC h.o (C := RX6) (T := TX6) (N := 13) (wM_us uw_X6) 0 (Nat.le_of_ble_eq_true rfl) eState_0 rfl 3 (by decide) (wM_in fl_X6_35) rfl dX6_setAside_5 ?_
  obtain ⟨r2, hy1, hf⟩ := ob_e hf
  refine xv2 h 11 3 8 3 (x2E1 sState_11 locWork) (x2E2 sState_8) (Nat.le_of_ble_eq_true rfl) (Nat.le_of_ble_eq_true rfl) (by omega) (va_runV (As := [.ref (q 8)]) (rest := []) hC (c_X7_become l G (ct 3 (sh 11 q) (sh 8 q)) (ct 3 (sh 11 v) (sh 8 v)) hy1 H.size) (xcwV hC lk_X6_91 in_X7 co_X7_become im_X7_become se_X7_become rfl rfl dd_X7_become ⟨Nat.le_of_ble_eq_true rfl, Nat.le_of_ble_eq_true rfl⟩) (preV2 h 11 3 8 3 (x2E1 sState_11 locWork) (x2E2 sState_8) (Nat.le_of_ble_eq_true rfl) (Nat.le_of_ble_eq_true rfl) (by omega) (Nat.le_of_ble_eq_true rfl) eState_11 rfl [.ref (q 8)]) rfl rfl hl.1 rfl (lv_room (Nat.le_of_ble_eq_true rfl)) dX6_setAside_8 ⟨Nat.zero_le _, Nat.zero_le _⟩) (fun H locs h => ?_)
  obtain ⟨v3, ev3, hf⟩ := lt_e hf
  rw [← ev3] at h
  refine lv_aload_n hx hb dX6_setAside_11 rfl (lv_at hl 0 rfl) ?_
  refine xget hC h.o (C := RX6) (T := TX6) (N := 13) (wM_us uw_X6) 0 (Nat.le_of_ble_eq_true rfl) eState_0 rfl 4 (by decide) (wM_in fl_X6_39) rfl dX6_setAside_12 ?_
  refine lv_iload_n hx hb dX6_setAside_15 rfl (lv_at hl 1 rfl) ?_
  obtain ⟨hz4, hf⟩ := ck_e hf
  refine xput hC h (C := RX7) (T := TX7) (N := 9) (wM_us uw_X7) tyX7_ok nmX7 11 (Nat.le_of_ble_eq_true rfl) eState_11 rfl 7 (by decide) (wM_in fl_X6_147) rfl (ty := .boolean) (tyX7_ok 7 (by decide)) (xbit hz4) (xbitf hz4) (Nat.le_of_ble_eq_true rfl) (eState_11.trans rfl) dX6_setAside_16 (fun H locs h => ?_)
  obtain ⟨v5, ev5, hf⟩ := lt_e hf
  rw [← ev5] at h
  refine lv_aload_n hx hb dX6_setAside_19 rfl (lv_at hl 0 rfl) ?_
  refine xget hC h.o (C := RX6) (T := TX6) (N := 13) (wM_us uw_X6) 0 (Nat.le_of_ble_eq_true rfl) eState_0 rfl 3 (by decide) (wM_in fl_X6_35) rfl dX6_setAside_20 ?_
  obtain ⟨r7, hy6, hf⟩ := ob_e hf
  refine xv1 h 8 3 sState_8 (Nat.le_of_ble_eq_true rfl) (va_runV (As := []) (rest := []) hC (c_X7_end l G (sh 8 q) (sh 8 v5) hy6 H.size) (xcwV hC lk_X6_150 in_X7 co_X7_end im_X7_end se_X7_end rfl rfl dd_X7_end ⟨Nat.le_of_ble_eq_true rfl, Nat.le_of_ble_eq_true rfl⟩) (preV1 h 8 3 sState_8 (Nat.le_of_ble_eq_true rfl) (Nat.le_of_ble_eq_true rfl) eState_8 rfl []) rfl rfl hl.1 rfl (lv_room (Nat.le_of_ble_eq_true rfl)) dX6_setAside_23 ⟨Nat.zero_le _, Nat.zero_le _⟩) (fun H locs h => ?_)
  obtain ⟨v8, ev8, hf⟩ := lt_e hf
  rw [← ev8] at h
  refine lv_aload_n hx hb dX6_setAside_26 rfl (lv_at hl 0 rfl) ?_
  refine lv_dup hx hb dX6_setAside_27 rfl ?_
  refine xget hC h.o (C := RX6) (T := TX6) (N := 13) (wM_us uw_X6) 0 (Nat.le_of_ble_eq_true rfl) eState_0 rfl 12 (by decide) (wM_in fl_X6_78) rfl dX6_setAside_28 ?_
  refine lv_iconst (v := (1 : Int32)) hx hb dX6_setAside_31 (by decide) ?_
  refine lv_iadd hx hb dX6_setAside_32 ?_
  refine xput hC h (C := RX6) (T := TX6) (N := 13) (wM_us uw_X6) tyX6_ok nmX6 0 (Nat.le_of_ble_eq_true rfl) eState_0 rfl 12 (by decide) (wM_in fl_X6_78) rfl (ty := .int) (tyX6_ok 12 (by decide)) rfl rfl (Nat.le_of_ble_eq_true rfl) (eState_0.trans rfl) dX6_setAside_33 (fun H locs h => ?_)
  obtain ⟨v9, ev9, hf⟩ := lt_e hf
  rw [← ev9] at h
  have hf := sm_e hf
  exact xvret hC hr hlk h hf dX6_setAside_36
def m_X6_letGoOn (v : xSt) : Option xSt := ob (m_X7_become (ct 3 (sh 8 v) (sh 11 v))) (fun r2 => lt (pu 11 3 (pu 8 3 v r2) (sh 3 r2)) (fun v3 => lt (st2 v3 8 7 (0 : Int32)) (fun v4 => ob (m_X7_end (sh 11 v4)) (fun r6 => lt (pu 11 3 v4 r6) (fun v7 => some v7)))))
set_option maxHeartbeats 4000000 in
set_option maxRecDepth 100000 in
theorem c_X6_letGoOn (l : Launch) (G : xGl) (q : Nat → Nat) (v : xSt) {z : xSt} (hf : m_X6_letGoOn v = some z) : mRW l yX6_letGoOn (wM yX6_letGoOn cX6_letGoOn 1 none) { frames := 3, cells := 0, slots := 0, locals := 102 } G (eState G) 47 q v [.ref (q 0)] qV z := by
  refine xRW (cc := cX6_letGoOn) (maxL := 1) (ret := none) (by decide) rfl (Nat.le_of_ble_eq_true rfl) ?_
  intro p e s m below meth c ls A hC hr hlk h hl
  have hx := hC.1
  have hb := hC.2.1
  have hl : lv_has ls 1 [(0, .ref (q 0))] := hl
  unfold m_X6_letGoOn at hf
  obtain ⟨H, hH⟩ : ∃ H, H = s.heap := ⟨_, rfl⟩
  obtain ⟨locs, hlo⟩ : ∃ x : List Loc, x = [] := ⟨_, rfl⟩
  have h : hg G (eState G) 47 q v A s H locs := by rw [hH, hlo]; exact h
  rw [← hlo, ← hH]
  clear hH hlo
  refine lv_aload_n hx hb dX6_letGoOn_0 rfl (lv_at hl 0 rfl) ?_
  refine xget hC h.o (C := RX6) (T := TX6) (N := 13) (wM_us uw_X6) 0 (Nat.le_of_ble_eq_true rfl) eState_0 rfl 3 (by decide) (wM_in fl_X6_35) rfl dX6_letGoOn_1 ?_
  refine lv_aload_n hx hb dX6_letGoOn_4 rfl (lv_at hl 0 rfl) ?_
  refine xget hC h.o (C := RX6) (T := TX6) (N := 13) (wM_us uw_X6) 0 (Nat.le_of_ble_eq_true rfl) eState_0 rfl 4 (by decide) (wM_in fl_X6_39) rfl dX6_letGoOn_5 ?_
  obtain ⟨r2, hy1, hf⟩ := ob_e hf
  refine xv2 h 8 3 11 3 (x2E1 sState_8 locWork) (x2E2 sState_11) (Nat.le_of_ble_eq_true rfl) (Nat.le_of_ble_eq_true rfl) (by omega) (va_runV (As := [.ref (q 11)]) (rest := []) hC (c_X7_become l G (ct 3 (sh 8 q) (sh 11 q)) (ct 3 (sh 8 v) (sh 11 v)) hy1 H.size) (xcwV hC lk_X6_91 in_X7 co_X7_become im_X7_become se_X7_become rfl rfl dd_X7_become ⟨Nat.le_of_ble_eq_true rfl, Nat.le_of_ble_eq_true rfl⟩) (preV2 h 8 3 11 3 (x2E1 sState_8 locWork) (x2E2 sState_11) (Nat.le_of_ble_eq_true rfl) (Nat.le_of_ble_eq_true rfl) (by omega) (Nat.le_of_ble_eq_true rfl) eState_8 rfl [.ref (q 11)]) rfl rfl hl.1 rfl (lv_room (Nat.le_of_ble_eq_true rfl)) dX6_letGoOn_8 ⟨Nat.zero_le _, Nat.zero_le _⟩) (fun H locs h => ?_)
  obtain ⟨v3, ev3, hf⟩ := lt_e hf
  rw [← ev3] at h
  refine lv_aload_n hx hb dX6_letGoOn_11 rfl (lv_at hl 0 rfl) ?_
  refine xget hC h.o (C := RX6) (T := TX6) (N := 13) (wM_us uw_X6) 0 (Nat.le_of_ble_eq_true rfl) eState_0 rfl 3 (by decide) (wM_in fl_X6_35) rfl dX6_letGoOn_12 ?_
  refine lv_iconst (v := (0 : Int32)) hx hb dX6_letGoOn_15 (by decide) ?_
  refine xput hC h (C := RX7) (T := TX7) (N := 9) (wM_us uw_X7) tyX7_ok nmX7 8 (Nat.le_of_ble_eq_true rfl) eState_8 rfl 7 (by decide) (wM_in fl_X6_147) rfl (ty := .boolean) (tyX7_ok 7 (by decide)) rfl rfl (Nat.le_of_ble_eq_true rfl) (eState_8.trans rfl) dX6_letGoOn_16 (fun H locs h => ?_)
  obtain ⟨v4, ev4, hf⟩ := lt_e hf
  rw [← ev4] at h
  refine lv_aload_n hx hb dX6_letGoOn_19 rfl (lv_at hl 0 rfl) ?_
  refine xget hC h.o (C := RX6) (T := TX6) (N := 13) (wM_us uw_X6) 0 (Nat.le_of_ble_eq_true rfl) eState_0 rfl 4 (by decide) (wM_in fl_X6_39) rfl dX6_letGoOn_20 ?_
  obtain ⟨r6, hy5, hf⟩ := ob_e hf
  refine xv1 h 11 3 sState_11 (Nat.le_of_ble_eq_true rfl) (va_runV (As := []) (rest := []) hC (c_X7_end l G (sh 11 q) (sh 11 v4) hy5 H.size) (xcwV hC lk_X6_150 in_X7 co_X7_end im_X7_end se_X7_end rfl rfl dd_X7_end ⟨Nat.le_of_ble_eq_true rfl, Nat.le_of_ble_eq_true rfl⟩) (preV1 h 11 3 sState_11 (Nat.le_of_ble_eq_true rfl) (Nat.le_of_ble_eq_true rfl) eState_11 rfl []) rfl rfl hl.1 rfl (lv_room (Nat.le_of_ble_eq_true rfl)) dX6_letGoOn_23 ⟨Nat.zero_le _, Nat.zero_le _⟩) (fun H locs h => ?_)
  obtain ⟨v7, ev7, hf⟩ := lt_e hf
  rw [← ev7] at h
  have hf := sm_e hf
  exact xvret hC hr hlk h hf dX6_letGoOn_26
def m_X6_lose_v8 (v : xSt) : Option (Int32 × xSt) := (if (v 8 0) = 0 then some ((0 : Int32), v) else lt (fun (v2 : xSt) => ob (m_X7_end (sh 8 v2)) (fun r5 => lt (pu 8 3 v2 r5) (fun v6 => some ((1 : Int32), v6)))) (fun j3 => (if (v 8 0) = (1 : Int32) then ob (m_X0_doubtPage (sh 1 v) ((v 8 1) / (8 : Int32))) (fun r13 => lt (pu 1 4 v r13) (fun v14 => j3 v14)) else (if (v 8 0) = (2 : Int32) then ob (m_X0_doubtSector (sh 1 v) (v 8 1)) (fun r10 => lt (pu 1 4 v r10) (fun v11 => j3 v11)) else j3 v))))
set_option maxHeartbeats 4000000 in
set_option maxRecDepth 100000 in
theorem c_X6_lose_v8 (l : Launch) (G : xGl) (q : Nat → Nat) (v : xSt) {z : (Int32 × xSt)} (hf : m_X6_lose_v8 v = some z) : mRW l yX6_lose (wM yX6_lose cX6_lose 2 (some .int)) { frames := 2, cells := 0, slots := 0, locals := 44 } G (eState G) 47 q v [.ref (q 0), .ref (q 8)] (qI z.1) z.2 := by
  refine xRW (cc := cX6_lose) (maxL := 2) (ret := (some .int)) (by decide) rfl (Nat.le_of_ble_eq_true rfl) ?_
  intro p e s m below meth c ls A hC hr hlk h hl
  have hx := hC.1
  have hb := hC.2.1
  have hl : lv_has ls 2 [(0, .ref (q 0)), (1, .ref (q 8))] := hl
  unfold m_X6_lose_v8 at hf
  obtain ⟨H, hH⟩ : ∃ H, H = s.heap := ⟨_, rfl⟩
  obtain ⟨locs, hlo⟩ : ∃ x : List Loc, x = [] := ⟨_, rfl⟩
  have h : hg G (eState G) 47 q v A s H locs := by rw [hH, hlo]; exact h
  rw [← hlo, ← hH]
  clear hH hlo
  refine lv_aload_n hx hb dX6_lose_0 rfl (lv_at hl 1 rfl) ?_
  refine xget hC h.o (C := RX7) (T := TX7) (N := 9) (wM_us uw_X7) 8 (Nat.le_of_ble_eq_true rfl) eState_8 rfl 0 (by decide) (wM_in fl_X6_109) rfl dX6_lose_1 ?_
  refine lv_if_ne (tgt := 9) hx hb dX6_lose_4 (by decide) (fun c1 => ?_) (fun c1 => ?_)
  · have hf := it_f c1 hf
    refine lv_aload_n hx hb dX6_lose_9 rfl (lv_at hl 1 rfl) ?_
    refine xget hC h.o (C := RX7) (T := TX7) (N := 9) (wM_us uw_X7) 8 (Nat.le_of_ble_eq_true rfl) eState_8 rfl 0 (by decide) (wM_in fl_X6_109) rfl dX6_lose_10 ?_
    refine lv_iconst (v := (1 : Int32)) hx hb dX6_lose_13 (by decide) ?_
    obtain ⟨j3, ej3, hf⟩ := lt_e hf
    have hj3 : ∀ (v2 : xSt) (H : Heap) (locs : List Loc), hg G (eState G) 47 q v2 A s H locs → ∀ (ls : Array Slot), lv_has ls 2 [(1, .ref (q 8))] → j3 v2 = some z → W p l e { frames := 2, cells := 0, slots := 0, locals := 44 } s m [.ref (q 0), .ref (q 8)].toArray below meth c H locs 0 0 (MQ below ((qI z.1) (cB G (eState G) 47 q z.2 A) A) [.ref (q 0), .ref (q 8)].toArray s 0 0 A) (F0 m 53 ls []) := by
      intro v2 H locs h ls hl hf
      rw [ej3] at hf
      refine lv_aload_n hx hb dX6_lose_53 rfl (lv_at hl 0 rfl) ?_
      obtain ⟨r5, hy4, hf⟩ := ob_e hf
      refine xv1 h 8 3 sState_8 (Nat.le_of_ble_eq_true rfl) (va_runV (As := []) (rest := []) hC (c_X7_end l G (sh 8 q) (sh 8 v2) hy4 H.size) (xcwV hC lk_X6_150 in_X7 co_X7_end im_X7_end se_X7_end rfl rfl dd_X7_end ⟨Nat.le_of_ble_eq_true rfl, Nat.le_of_ble_eq_true rfl⟩) (preV1 h 8 3 sState_8 (Nat.le_of_ble_eq_true rfl) (Nat.le_of_ble_eq_true rfl) eState_8 rfl []) rfl rfl hl.1 rfl (lv_room (Nat.le_of_ble_eq_true rfl)) dX6_lose_54 ⟨Nat.zero_le _, Nat.zero_le _⟩) (fun H locs h => ?_)
      obtain ⟨v6, ev6, hf⟩ := lt_e hf
      rw [← ev6] at h
      refine lv_iconst (v := (1 : Int32)) hx hb dX6_lose_57 (by decide) ?_
      have hf := sm_e hf
      exact xiret hC hr hlk h (by rw [← hf]) (by rw [← hf]) dX6_lose_58
    refine lv_icmp_ne (tgt := 34) hx hb dX6_lose_14 (by decide) (fun c7 => ?_) (fun c7 => ?_)
    · have hf := it_f c7 hf
      refine lv_aload_n hx hb dX6_lose_34 rfl (lv_at hl 1 rfl) ?_
      refine xget hC h.o (C := RX7) (T := TX7) (N := 9) (wM_us uw_X7) 8 (Nat.le_of_ble_eq_true rfl) eState_8 rfl 0 (by decide) (wM_in fl_X6_109) rfl dX6_lose_35 ?_
      refine lv_iconst (v := (2 : Int32)) hx hb dX6_lose_38 (by decide) ?_
      refine lv_icmp_ne (tgt := 53) hx hb dX6_lose_39 (by decide) (fun c8 => ?_) (fun c8 => ?_)
      · have hf := it_f c8 hf
        exact hj3 v H locs h ls (lv_sub hl [1] rfl) hf
      · have hf := it_t c8 hf
        refine lv_aload_n hx hb dX6_lose_42 rfl (lv_at hl 0 rfl) ?_
        refine xget hC h.o (C := RX6) (T := TX6) (N := 13) (wM_us uw_X6) 0 (Nat.le_of_ble_eq_true rfl) eState_0 rfl 0 (by decide) (wM_in fl_X6_12) rfl dX6_lose_43 ?_
        refine lv_aload_n hx hb dX6_lose_46 rfl (lv_at hl 1 rfl) ?_
        refine xget hC h.o (C := RX7) (T := TX7) (N := 9) (wM_us uw_X7) 8 (Nat.le_of_ble_eq_true rfl) eState_8 rfl 1 (by decide) (wM_in fl_X6_144) rfl dX6_lose_47 ?_
        obtain ⟨r10, hy9, hf⟩ := ob_e hf
        refine xv1 h 1 4 sState_1 (Nat.le_of_ble_eq_true rfl) (va_runV (As := [.int (v 8 1)]) (rest := []) hC (c_X0_doubtSector l G (sh 1 q) (sh 1 v) (v 8 1) hy9 H.size) (xcwV hC lk_X6_161 in_X0 co_X0_doubtSector im_X0_doubtSector se_X0_doubtSector rfl rfl dd_X0_doubtSector ⟨Nat.le_of_ble_eq_true rfl, Nat.le_of_ble_eq_true rfl⟩) (preV1 h 1 4 sState_1 (Nat.le_of_ble_eq_true rfl) (Nat.le_of_ble_eq_true rfl) eState_1 rfl [.int (v 8 1)]) rfl rfl hl.1 rfl (lv_room (Nat.le_of_ble_eq_true rfl)) dX6_lose_50 ⟨Nat.zero_le _, Nat.zero_le _⟩) (fun H locs h => ?_)
        obtain ⟨v11, ev11, hf⟩ := lt_e hf
        rw [← ev11] at h
        exact hj3 v11 H locs h ls (lv_sub hl [1] rfl) hf
    · have hf := it_t c7 hf
      refine lv_aload_n hx hb dX6_lose_17 rfl (lv_at hl 0 rfl) ?_
      refine xget hC h.o (C := RX6) (T := TX6) (N := 13) (wM_us uw_X6) 0 (Nat.le_of_ble_eq_true rfl) eState_0 rfl 0 (by decide) (wM_in fl_X6_12) rfl dX6_lose_18 ?_
      refine lv_aload_n hx hb dX6_lose_21 rfl (lv_at hl 1 rfl) ?_
      refine xget hC h.o (C := RX7) (T := TX7) (N := 9) (wM_us uw_X7) 8 (Nat.le_of_ble_eq_true rfl) eState_8 rfl 1 (by decide) (wM_in fl_X6_144) rfl dX6_lose_22 ?_
      refine lv_bipush (v := (8 : Int32)) hx hb dX6_lose_25 (by decide) ?_
      refine lv_idiv hx hb dX6_lose_27 (by decide) ?_
      obtain ⟨r13, hy12, hf⟩ := ob_e hf
      refine xv1 h 1 4 sState_1 (Nat.le_of_ble_eq_true rfl) (va_runV (As := [.int ((v 8 1) / (8 : Int32))]) (rest := []) hC (c_X0_doubtPage l G (sh 1 q) (sh 1 v) ((v 8 1) / (8 : Int32)) hy12 H.size) (xcwV hC lk_X6_157 in_X0 co_X0_doubtPage im_X0_doubtPage se_X0_doubtPage rfl rfl dd_X0_doubtPage ⟨Nat.le_of_ble_eq_true rfl, Nat.le_of_ble_eq_true rfl⟩) (preV1 h 1 4 sState_1 (Nat.le_of_ble_eq_true rfl) (Nat.le_of_ble_eq_true rfl) eState_1 rfl [.int ((v 8 1) / (8 : Int32))]) rfl rfl hl.1 rfl (lv_room (Nat.le_of_ble_eq_true rfl)) dX6_lose_28 ⟨Nat.zero_le _, Nat.zero_le _⟩) (fun H locs h => ?_)
      obtain ⟨v14, ev14, hf⟩ := lt_e hf
      rw [← ev14] at h
      refine lv_goto (tgt := 53) hx hb dX6_lose_31 (by decide) ?_
      exact hj3 v14 H locs h ls (lv_sub hl [1] rfl) hf
  · have hf := it_t c1 hf
    refine lv_iconst (v := (0 : Int32)) hx hb dX6_lose_7 (by decide) ?_
    have hf := sm_e hf
    exact xiret hC hr hlk h (by rw [← hf]) (by rw [← hf]) dX6_lose_8
def m_X6_lose_v11 (v : xSt) : Option (Int32 × xSt) := (if (v 11 0) = 0 then some ((0 : Int32), v) else lt (fun (v2 : xSt) => ob (m_X7_end (sh 11 v2)) (fun r5 => lt (pu 11 3 v2 r5) (fun v6 => some ((1 : Int32), v6)))) (fun j3 => (if (v 11 0) = (1 : Int32) then ob (m_X0_doubtPage (sh 1 v) ((v 11 1) / (8 : Int32))) (fun r13 => lt (pu 1 4 v r13) (fun v14 => j3 v14)) else (if (v 11 0) = (2 : Int32) then ob (m_X0_doubtSector (sh 1 v) (v 11 1)) (fun r10 => lt (pu 1 4 v r10) (fun v11 => j3 v11)) else j3 v))))
set_option maxHeartbeats 4000000 in
set_option maxRecDepth 100000 in
theorem c_X6_lose_v11 (l : Launch) (G : xGl) (q : Nat → Nat) (v : xSt) {z : (Int32 × xSt)} (hf : m_X6_lose_v11 v = some z) : mRW l yX6_lose (wM yX6_lose cX6_lose 2 (some .int)) { frames := 2, cells := 0, slots := 0, locals := 44 } G (eState G) 47 q v [.ref (q 0), .ref (q 11)] (qI z.1) z.2 := by
  refine xRW (cc := cX6_lose) (maxL := 2) (ret := (some .int)) (by decide) rfl (Nat.le_of_ble_eq_true rfl) ?_
  intro p e s m below meth c ls A hC hr hlk h hl
  have hx := hC.1
  have hb := hC.2.1
  have hl : lv_has ls 2 [(0, .ref (q 0)), (1, .ref (q 11))] := hl
  unfold m_X6_lose_v11 at hf
  obtain ⟨H, hH⟩ : ∃ H, H = s.heap := ⟨_, rfl⟩
  obtain ⟨locs, hlo⟩ : ∃ x : List Loc, x = [] := ⟨_, rfl⟩
  have h : hg G (eState G) 47 q v A s H locs := by rw [hH, hlo]; exact h
  rw [← hlo, ← hH]
  clear hH hlo
  refine lv_aload_n hx hb dX6_lose_0 rfl (lv_at hl 1 rfl) ?_
  refine xget hC h.o (C := RX7) (T := TX7) (N := 9) (wM_us uw_X7) 11 (Nat.le_of_ble_eq_true rfl) eState_11 rfl 0 (by decide) (wM_in fl_X6_109) rfl dX6_lose_1 ?_
  refine lv_if_ne (tgt := 9) hx hb dX6_lose_4 (by decide) (fun c1 => ?_) (fun c1 => ?_)
  · have hf := it_f c1 hf
    refine lv_aload_n hx hb dX6_lose_9 rfl (lv_at hl 1 rfl) ?_
    refine xget hC h.o (C := RX7) (T := TX7) (N := 9) (wM_us uw_X7) 11 (Nat.le_of_ble_eq_true rfl) eState_11 rfl 0 (by decide) (wM_in fl_X6_109) rfl dX6_lose_10 ?_
    refine lv_iconst (v := (1 : Int32)) hx hb dX6_lose_13 (by decide) ?_
    obtain ⟨j3, ej3, hf⟩ := lt_e hf
    have hj3 : ∀ (v2 : xSt) (H : Heap) (locs : List Loc), hg G (eState G) 47 q v2 A s H locs → ∀ (ls : Array Slot), lv_has ls 2 [(1, .ref (q 11))] → j3 v2 = some z → W p l e { frames := 2, cells := 0, slots := 0, locals := 44 } s m [.ref (q 0), .ref (q 11)].toArray below meth c H locs 0 0 (MQ below ((qI z.1) (cB G (eState G) 47 q z.2 A) A) [.ref (q 0), .ref (q 11)].toArray s 0 0 A) (F0 m 53 ls []) := by
      intro v2 H locs h ls hl hf
      rw [ej3] at hf
      refine lv_aload_n hx hb dX6_lose_53 rfl (lv_at hl 0 rfl) ?_
      obtain ⟨r5, hy4, hf⟩ := ob_e hf
      refine xv1 h 11 3 sState_11 (Nat.le_of_ble_eq_true rfl) (va_runV (As := []) (rest := []) hC (c_X7_end l G (sh 11 q) (sh 11 v2) hy4 H.size) (xcwV hC lk_X6_150 in_X7 co_X7_end im_X7_end se_X7_end rfl rfl dd_X7_end ⟨Nat.le_of_ble_eq_true rfl, Nat.le_of_ble_eq_true rfl⟩) (preV1 h 11 3 sState_11 (Nat.le_of_ble_eq_true rfl) (Nat.le_of_ble_eq_true rfl) eState_11 rfl []) rfl rfl hl.1 rfl (lv_room (Nat.le_of_ble_eq_true rfl)) dX6_lose_54 ⟨Nat.zero_le _, Nat.zero_le _⟩) (fun H locs h => ?_)
      obtain ⟨v6, ev6, hf⟩ := lt_e hf
      rw [← ev6] at h
      refine lv_iconst (v := (1 : Int32)) hx hb dX6_lose_57 (by decide) ?_
      have hf := sm_e hf
      exact xiret hC hr hlk h (by rw [← hf]) (by rw [← hf]) dX6_lose_58
    refine lv_icmp_ne (tgt := 34) hx hb dX6_lose_14 (by decide) (fun c7 => ?_) (fun c7 => ?_)
    · have hf := it_f c7 hf
      refine lv_aload_n hx hb dX6_lose_34 rfl (lv_at hl 1 rfl) ?_
      refine xget hC h.o (C := RX7) (T := TX7) (N := 9) (wM_us uw_X7) 11 (Nat.le_of_ble_eq_true rfl) eState_11 rfl 0 (by decide) (wM_in fl_X6_109) rfl dX6_lose_35 ?_
      refine lv_iconst (v := (2 : Int32)) hx hb dX6_lose_38 (by decide) ?_
      refine lv_icmp_ne (tgt := 53) hx hb dX6_lose_39 (by decide) (fun c8 => ?_) (fun c8 => ?_)
      · have hf := it_f c8 hf
        exact hj3 v H locs h ls (lv_sub hl [1] rfl) hf
      · have hf := it_t c8 hf
        refine lv_aload_n hx hb dX6_lose_42 rfl (lv_at hl 0 rfl) ?_
        refine xget hC h.o (C := RX6) (T := TX6) (N := 13) (wM_us uw_X6) 0 (Nat.le_of_ble_eq_true rfl) eState_0 rfl 0 (by decide) (wM_in fl_X6_12) rfl dX6_lose_43 ?_
        refine lv_aload_n hx hb dX6_lose_46 rfl (lv_at hl 1 rfl) ?_
        refine xget hC h.o (C := RX7) (T := TX7) (N := 9) (wM_us uw_X7) 11 (Nat.le_of_ble_eq_true rfl) eState_11 rfl 1 (by decide) (wM_in fl_X6_144) rfl dX6_lose_47 ?_
        obtain ⟨r10, hy9, hf⟩ := ob_e hf
        refine xv1 h 1 4 sState_1 (Nat.le_of_ble_eq_true rfl) (va_runV (As := [.int (v 11 1)]) (rest := []) hC (c_X0_doubtSector l G (sh 1 q) (sh 1 v) (v 11 1) hy9 H.size) (xcwV hC lk_X6_161 in_X0 co_X0_doubtSector im_X0_doubtSector se_X0_doubtSector rfl rfl dd_X0_doubtSector ⟨Nat.le_of_ble_eq_true rfl, Nat.le_of_ble_eq_true rfl⟩) (preV1 h 1 4 sState_1 (Nat.le_of_ble_eq_true rfl) (Nat.le_of_ble_eq_true rfl) eState_1 rfl [.int (v 11 1)]) rfl rfl hl.1 rfl (lv_room (Nat.le_of_ble_eq_true rfl)) dX6_lose_50 ⟨Nat.zero_le _, Nat.zero_le _⟩) (fun H locs h => ?_)
        obtain ⟨v11, ev11, hf⟩ := lt_e hf
        rw [← ev11] at h
        exact hj3 v11 H locs h ls (lv_sub hl [1] rfl) hf
    · have hf := it_t c7 hf
      refine lv_aload_n hx hb dX6_lose_17 rfl (lv_at hl 0 rfl) ?_
      refine xget hC h.o (C := RX6) (T := TX6) (N := 13) (wM_us uw_X6) 0 (Nat.le_of_ble_eq_true rfl) eState_0 rfl 0 (by decide) (wM_in fl_X6_12) rfl dX6_lose_18 ?_
      refine lv_aload_n hx hb dX6_lose_21 rfl (lv_at hl 1 rfl) ?_
      refine xget hC h.o (C := RX7) (T := TX7) (N := 9) (wM_us uw_X7) 11 (Nat.le_of_ble_eq_true rfl) eState_11 rfl 1 (by decide) (wM_in fl_X6_144) rfl dX6_lose_22 ?_
      refine lv_bipush (v := (8 : Int32)) hx hb dX6_lose_25 (by decide) ?_
      refine lv_idiv hx hb dX6_lose_27 (by decide) ?_
      obtain ⟨r13, hy12, hf⟩ := ob_e hf
      refine xv1 h 1 4 sState_1 (Nat.le_of_ble_eq_true rfl) (va_runV (As := [.int ((v 11 1) / (8 : Int32))]) (rest := []) hC (c_X0_doubtPage l G (sh 1 q) (sh 1 v) ((v 11 1) / (8 : Int32)) hy12 H.size) (xcwV hC lk_X6_157 in_X0 co_X0_doubtPage im_X0_doubtPage se_X0_doubtPage rfl rfl dd_X0_doubtPage ⟨Nat.le_of_ble_eq_true rfl, Nat.le_of_ble_eq_true rfl⟩) (preV1 h 1 4 sState_1 (Nat.le_of_ble_eq_true rfl) (Nat.le_of_ble_eq_true rfl) eState_1 rfl [.int ((v 11 1) / (8 : Int32))]) rfl rfl hl.1 rfl (lv_room (Nat.le_of_ble_eq_true rfl)) dX6_lose_28 ⟨Nat.zero_le _, Nat.zero_le _⟩) (fun H locs h => ?_)
      obtain ⟨v14, ev14, hf⟩ := lt_e hf
      rw [← ev14] at h
      refine lv_goto (tgt := 53) hx hb dX6_lose_31 (by decide) ?_
      exact hj3 v14 H locs h ls (lv_sub hl [1] rfl) hf
  · have hf := it_t c1 hf
    refine lv_iconst (v := (0 : Int32)) hx hb dX6_lose_7 (by decide) ?_
    have hf := sm_e hf
    exact xiret hC hr hlk h (by rw [← hf]) (by rw [← hf]) dX6_lose_8
def m_X6_losePower (v : xSt) : Option (Int32 × xSt) := ob (m_X6_lose_v8 v) (fun r2 => lt (r2.2) (fun v3 => ob (m_X6_lose_v11 v3) (fun r5 => lt (r5.2) (fun v6 => lt (st2 v6 0 11 ((v6 0 11) + (r2.1 + r5.1))) (fun v7 => lt (st2 v7 0 7 (0 : Int32)) (fun v8 => lt (st2 v8 5 2 (0 : Int32)) (fun v9 => lt (st2 v9 6 1 (0 : Int32)) (fun v10 => some ((r2.1 + r5.1), v10)))))))))
set_option maxHeartbeats 4000000 in
set_option maxRecDepth 100000 in
theorem c_X6_losePower (l : Launch) (G : xGl) (q : Nat → Nat) (v : xSt) {z : (Int32 × xSt)} (hf : m_X6_losePower v = some z) : mRW l yX6_losePower (wM yX6_losePower cX6_losePower 2 (some .int)) { frames := 3, cells := 0, slots := 0, locals := 65 } G (eState G) 47 q v [.ref (q 0)] (qI z.1) z.2 := by
  refine xRW (cc := cX6_losePower) (maxL := 2) (ret := (some .int)) (by decide) rfl (Nat.le_of_ble_eq_true rfl) ?_
  intro p e s m below meth c ls A hC hr hlk h hl
  have hx := hC.1
  have hb := hC.2.1
  have hl : lv_has ls 2 [(0, .ref (q 0))] := hl
  unfold m_X6_losePower at hf
  obtain ⟨H, hH⟩ : ∃ H, H = s.heap := ⟨_, rfl⟩
  obtain ⟨locs, hlo⟩ : ∃ x : List Loc, x = [] := ⟨_, rfl⟩
  have h : hg G (eState G) 47 q v A s H locs := by rw [hH, hlo]; exact h
  rw [← hlo, ← hH]
  clear hH hlo
  refine lv_aload_n hx hb dX6_losePower_0 rfl (lv_at hl 0 rfl) ?_
  refine lv_aload_n hx hb dX6_losePower_1 rfl (lv_at hl 0 rfl) ?_
  refine xget hC h.o (C := RX6) (T := TX6) (N := 13) (wM_us uw_X6) 0 (Nat.le_of_ble_eq_true rfl) eState_0 rfl 3 (by decide) (wM_in fl_X6_35) rfl dX6_losePower_2 ?_
  obtain ⟨r2, hy1, hf⟩ := ob_e hf
  refine xi0 h (va_runV (As := [.ref (q 8)]) (rest := []) hC (c_X6_lose_v8 l G q v hy1 H.size) (xcwV hC lk_X6_153 in_X6 co_X6_lose im_X6_lose se_X6_lose rfl rfl dd_X6_lose ⟨Nat.le_of_ble_eq_true rfl, Nat.le_of_ble_eq_true rfl⟩) (preV0 h (Nat.le_of_ble_eq_true rfl) eState_0 rfl [.ref (q 8)]) rfl rfl hl.1 rfl (lv_room (Nat.le_of_ble_eq_true rfl)) dX6_losePower_5 ⟨Nat.zero_le _, Nat.zero_le _⟩) (fun H locs h => ?_)
  obtain ⟨v3, ev3, hf⟩ := lt_e hf
  rw [← ev3] at h
  refine lv_aload_n hx hb dX6_losePower_8 rfl (lv_at hl 0 rfl) ?_
  refine lv_aload_n hx hb dX6_losePower_9 rfl (lv_at hl 0 rfl) ?_
  refine xget hC h.o (C := RX6) (T := TX6) (N := 13) (wM_us uw_X6) 0 (Nat.le_of_ble_eq_true rfl) eState_0 rfl 4 (by decide) (wM_in fl_X6_39) rfl dX6_losePower_10 ?_
  obtain ⟨r5, hy4, hf⟩ := ob_e hf
  refine xi0 h (va_runV (As := [.ref (q 11)]) (rest := [.int r2.1]) hC (c_X6_lose_v11 l G q v3 hy4 H.size) (xcwV hC lk_X6_153 in_X6 co_X6_lose im_X6_lose se_X6_lose rfl rfl dd_X6_lose ⟨Nat.le_of_ble_eq_true rfl, Nat.le_of_ble_eq_true rfl⟩) (preV0 h (Nat.le_of_ble_eq_true rfl) eState_0 rfl [.ref (q 11)]) rfl rfl hl.1 rfl (lv_room (Nat.le_of_ble_eq_true rfl)) dX6_losePower_13 ⟨Nat.zero_le _, Nat.zero_le _⟩) (fun H locs h => ?_)
  obtain ⟨v6, ev6, hf⟩ := lt_e hf
  rw [← ev6] at h
  refine lv_iadd hx hb dX6_losePower_16 ?_
  refine lv_istore_n (lv' := [(1, .int (r2.1 + r5.1)), (0, .ref (q 0))]) hx hb dX6_losePower_17 rfl hl (by decide) rfl (fun ls hl => ?_)
  refine lv_aload_n hx hb dX6_losePower_18 rfl (lv_at hl 1 rfl) ?_
  refine lv_dup hx hb dX6_losePower_19 rfl ?_
  refine xget hC h.o (C := RX6) (T := TX6) (N := 13) (wM_us uw_X6) 0 (Nat.le_of_ble_eq_true rfl) eState_0 rfl 11 (by decide) (wM_in fl_X6_75) rfl dX6_losePower_20 ?_
  refine lv_iload_n hx hb dX6_losePower_23 rfl (lv_at hl 0 rfl) ?_
  refine lv_iadd hx hb dX6_losePower_24 ?_
  refine xput hC h (C := RX6) (T := TX6) (N := 13) (wM_us uw_X6) tyX6_ok nmX6 0 (Nat.le_of_ble_eq_true rfl) eState_0 rfl 11 (by decide) (wM_in fl_X6_75) rfl (ty := .int) (tyX6_ok 11 (by decide)) rfl rfl (Nat.le_of_ble_eq_true rfl) (eState_0.trans rfl) dX6_losePower_25 (fun H locs h => ?_)
  obtain ⟨v7, ev7, hf⟩ := lt_e hf
  rw [← ev7] at h
  refine lv_aload_n hx hb dX6_losePower_28 rfl (lv_at hl 1 rfl) ?_
  refine lv_iconst (v := (0 : Int32)) hx hb dX6_losePower_29 (by decide) ?_
  refine xput hC h (C := RX6) (T := TX6) (N := 13) (wM_us uw_X6) tyX6_ok nmX6 0 (Nat.le_of_ble_eq_true rfl) eState_0 rfl 7 (by decide) (wM_in fl_X6_61) rfl (ty := .boolean) (tyX6_ok 7 (by decide)) rfl rfl (Nat.le_of_ble_eq_true rfl) (eState_0.trans rfl) dX6_losePower_30 (fun H locs h => ?_)
  obtain ⟨v8, ev8, hf⟩ := lt_e hf
  rw [← ev8] at h
  refine lv_aload_n hx hb dX6_losePower_33 rfl (lv_at hl 1 rfl) ?_
  refine xget hC h.o (C := RX6) (T := TX6) (N := 13) (wM_us uw_X6) 0 (Nat.le_of_ble_eq_true rfl) eState_0 rfl 1 (by decide) (wM_in fl_X6_21) rfl dX6_losePower_34 ?_
  refine lv_iconst (v := (0 : Int32)) hx hb dX6_losePower_37 (by decide) ?_
  refine xput hC h (C := RX2) (T := TX2) (N := 3) (wM_us uw_X2) tyX2_ok nmX2 5 (Nat.le_of_ble_eq_true rfl) eState_5 rfl 2 (by decide) (wM_in fl_X6_127) rfl (ty := .boolean) (tyX2_ok 2 (by decide)) rfl rfl (Nat.le_of_ble_eq_true rfl) (eState_5.trans rfl) dX6_losePower_38 (fun H locs h => ?_)
  obtain ⟨v9, ev9, hf⟩ := lt_e hf
  rw [← ev9] at h
  refine lv_aload_n hx hb dX6_losePower_41 rfl (lv_at hl 1 rfl) ?_
  refine xget hC h.o (C := RX6) (T := TX6) (N := 13) (wM_us uw_X6) 0 (Nat.le_of_ble_eq_true rfl) eState_0 rfl 2 (by decide) (wM_in fl_X6_28) rfl dX6_losePower_42 ?_
  refine lv_iconst (v := (0 : Int32)) hx hb dX6_losePower_45 (by decide) ?_
  refine xput hC h (C := RX4) (T := TX4) (N := 2) (wM_us uw_X4) tyX4_ok nmX4 6 (Nat.le_of_ble_eq_true rfl) eState_6 rfl 1 (by decide) (wM_in fl_X6_141) rfl (ty := .int) (tyX4_ok 1 (by decide)) rfl rfl (Nat.le_of_ble_eq_true rfl) (eState_6.trans rfl) dX6_losePower_46 (fun H locs h => ?_)
  obtain ⟨v10, ev10, hf⟩ := lt_e hf
  rw [← ev10] at h
  refine lv_iload_n hx hb dX6_losePower_49 rfl (lv_at hl 0 rfl) ?_
  have hf := sm_e hf
  exact xiret hC hr hlk h (by rw [← hf]) (by rw [← hf]) dX6_losePower_50
def m_X6_beginOrder (v : xSt) (p1 : Int32) : Option xSt := ob (m_X1_orderAt (sh 14 v) p1) (fun r2 => om r2 (some v) (fun k3 => ck (k3 < 10) (lt (fun (v6 : xSt) => ob (m_X1_leave (sh 14 v6) p1) (fun r9 => lt (pu 14 32 v6 r9) (fun v10 => some v10))) (fun j7 => (if (v (14 + (2 + 3 * k3)) 1) = (1 : Int32) then ob (m_X6_settingOf v (0 : Int32)) (fun r18 => ob (m_X7_startWrite (ct 3 (sh 8 v) (sh ((14 + (2 + 3 * k3)) + 1) v)) (v (14 + (2 + 3 * k3)) 2) r18 (v (14 + (2 + 3 * k3)) 3)) (fun r20 => lt (pu ((14 + (2 + 3 * k3)) + 1) 2 (pu 8 3 v r20) (sh 3 r20)) (fun v21 => j7 v21))) else ob (m_X6_eraseTicks v (v (14 + (2 + 3 * k3)) 2)) (fun r13 => ob (m_X7_start (sh 8 v) (2 : Int32) (v (14 + (2 + 3 * k3)) 2) r13 (v (14 + (2 + 3 * k3)) 3)) (fun r15 => lt (pu 8 3 v r15) (fun v16 => j7 v16))))))))
set_option maxHeartbeats 4000000 in
set_option maxRecDepth 100000 in
theorem c_X6_beginOrder (l : Launch) (G : xGl) (q : Nat → Nat) (v : xSt) (p1 : Int32) {z : xSt} (hf : m_X6_beginOrder v p1 = some z) : mRW l yX6_beginOrder (wM yX6_beginOrder cX6_beginOrder 3 none) { frames := 3, cells := 0, slots := 0, locals := 105 } G (eState G) 47 q v [.ref (q 0), .int p1] qV z := by
  refine xRW (cc := cX6_beginOrder) (maxL := 3) (ret := none) (by decide) rfl (Nat.le_of_ble_eq_true rfl) ?_
  intro p e s m below meth c ls A hC hr hlk h hl
  have hx := hC.1
  have hb := hC.2.1
  have hl : lv_has ls 3 [(0, .ref (q 0)), (1, .int p1)] := hl
  unfold m_X6_beginOrder at hf
  obtain ⟨H, hH⟩ : ∃ H, H = s.heap := ⟨_, rfl⟩
  obtain ⟨locs, hlo⟩ : ∃ x : List Loc, x = [] := ⟨_, rfl⟩
  have h : hg G (eState G) 47 q v A s H locs := by rw [hH, hlo]; exact h
  rw [← hlo, ← hH]
  clear hH hlo
  refine lv_aload_n hx hb dX6_beginOrder_0 rfl (lv_at hl 0 rfl) ?_
  refine xget hC h.o (C := RX6) (T := TX6) (N := 13) (wM_us uw_X6) 0 (Nat.le_of_ble_eq_true rfl) eState_0 rfl 5 (by decide) (wM_in fl_X6_45) rfl dX6_beginOrder_1 ?_
  refine lv_iload_n hx hb dX6_beginOrder_4 rfl (lv_at hl 1 rfl) ?_
  obtain ⟨r2, hy1, hf⟩ := ob_e hf
  refine xqG h (va_runV (As := [.int p1]) (rest := []) hC (c_X1_orderAt l G (sh 14 q) (sh 14 v) p1 hy1 H.size) (xcwV hC lk_X6_203 in_X1 co_X1_orderAt im_X1_orderAt se_X1_orderAt rfl rfl dd_X1_orderAt ⟨Nat.le_of_ble_eq_true rfl, Nat.le_of_ble_eq_true rfl⟩) (preVO h.o 14 32 sState_14 (Nat.le_of_ble_eq_true rfl) (Nat.le_of_ble_eq_true rfl) eState_14 rfl [.int p1]) rfl rfl hl.1 rfl (lv_room (Nat.le_of_ble_eq_true rfl)) dX6_beginOrder_5 ⟨Nat.zero_le _, Nat.zero_le _⟩) (fun H locs h => ?_)
  rcases omm hf with ⟨ho5, gho5⟩ | ⟨k3, ho5, gho5⟩
  · subst ho5
    replace hf := gho5
    refine lv_astore_nN (lv' := [(2, .null), (0, .ref (q 0)), (1, .int p1)]) hx hb dX6_beginOrder_8 rfl hl (by decide) rfl (fun ls hl => ?_)
    refine lv_aload_nN hx hb dX6_beginOrder_9 rfl (lv_at hl 0 rfl) ?_
    refine lv_ifnonnullN hx hb dX6_beginOrder_10 ?_
    have hf := sm_e hf
    exact xvret hC hr hlk h hf dX6_beginOrder_13
  · subst ho5
    obtain ⟨hk4, hf⟩ := ck_e gho5
    refine lv_astore_n (lv' := [(2, .ref (q (14 + (2 + 3 * k3)))), (0, .ref (q 0)), (1, .int p1)]) hx hb dX6_beginOrder_8 rfl hl (by decide) rfl (fun ls hl => ?_)
    refine lv_aload_n hx hb dX6_beginOrder_9 rfl (lv_at hl 0 rfl) ?_
    refine lv_ifnonnull (tgt := 14) hx hb dX6_beginOrder_10 (by decide) ?_
    refine lv_aload_n hx hb dX6_beginOrder_14 rfl (lv_at hl 0 rfl) ?_
    refine xget hC h.o (C := RX3) (T := TX3) (N := 6) (wM_us uw_X3) (14 + (2 + 3 * k3)) (by omega) (eState_ord hk4) rfl 1 (by decide) (wM_in fl_X6_214) rfl dX6_beginOrder_15 ?_
    refine lv_iconst (v := (1 : Int32)) hx hb dX6_beginOrder_18 (by decide) ?_
    obtain ⟨j7, ej7, hf⟩ := lt_e hf
    have hj7 : ∀ (v6 : xSt) (H : Heap) (locs : List Loc), hg G (eState G) 47 q v6 A s H locs → ∀ (ls : Array Slot), lv_has ls 3 [(0, .ref (q 0)), (1, .int p1)] → j7 v6 = some z → W p l e { frames := 3, cells := 0, slots := 0, locals := 105 } s m [.ref (q 0), .int p1].toArray below meth c H locs 0 0 (MQ below (qV (cB G (eState G) 47 q z A) A) [.ref (q 0), .int p1].toArray s 0 0 A) (F0 m 73 ls []) := by
      intro v6 H locs h ls hl hf
      rw [ej7] at hf
      refine lv_aload_n hx hb dX6_beginOrder_73 rfl (lv_at hl 0 rfl) ?_
      refine xget hC h.o (C := RX6) (T := TX6) (N := 13) (wM_us uw_X6) 0 (Nat.le_of_ble_eq_true rfl) eState_0 rfl 5 (by decide) (wM_in fl_X6_45) rfl dX6_beginOrder_74 ?_
      refine lv_iload_n hx hb dX6_beginOrder_77 rfl (lv_at hl 1 rfl) ?_
      obtain ⟨r9, hy8, hf⟩ := ob_e hf
      refine xv1 h 14 32 sState_14 (Nat.le_of_ble_eq_true rfl) (va_runV (As := [.int p1]) (rest := []) hC (c_X1_leave l G (sh 14 q) (sh 14 v6) p1 hy8 H.size) (xcwV hC lk_X6_230 in_X1 co_X1_leave im_X1_leave se_X1_leave rfl rfl dd_X1_leave ⟨Nat.le_of_ble_eq_true rfl, Nat.le_of_ble_eq_true rfl⟩) (preV1 h 14 32 sState_14 (Nat.le_of_ble_eq_true rfl) (Nat.le_of_ble_eq_true rfl) eState_14 rfl [.int p1]) rfl rfl hl.1 rfl (lv_room (Nat.le_of_ble_eq_true rfl)) dX6_beginOrder_78 ⟨Nat.zero_le _, Nat.zero_le _⟩) (fun H locs h => ?_)
      obtain ⟨v10, ev10, hf⟩ := lt_e hf
      rw [← ev10] at h
      have hf := sm_e hf
      exact xvret hC hr hlk h hf dX6_beginOrder_81
    refine lv_icmp_ne (tgt := 49) hx hb dX6_beginOrder_19 (by decide) (fun c11 => ?_) (fun c11 => ?_)
    · have hf := it_f c11 hf
      refine lv_aload_n hx hb dX6_beginOrder_49 rfl (lv_at hl 1 rfl) ?_
      refine xget hC h.o (C := RX6) (T := TX6) (N := 13) (wM_us uw_X6) 0 (Nat.le_of_ble_eq_true rfl) eState_0 rfl 3 (by decide) (wM_in fl_X6_35) rfl dX6_beginOrder_50 ?_
      refine lv_iconst (v := (2 : Int32)) hx hb dX6_beginOrder_53 (by decide) ?_
      refine lv_aload_n hx hb dX6_beginOrder_54 rfl (lv_at hl 0 rfl) ?_
      refine xget hC h.o (C := RX3) (T := TX3) (N := 6) (wM_us uw_X3) (14 + (2 + 3 * k3)) (by omega) (eState_ord hk4) rfl 2 (by decide) (wM_in fl_X6_215) rfl dX6_beginOrder_55 ?_
      refine lv_aload_n hx hb dX6_beginOrder_58 rfl (lv_at hl 1 rfl) ?_
      refine lv_aload_n hx hb dX6_beginOrder_59 rfl (lv_at hl 0 rfl) ?_
      refine xget hC h.o (C := RX3) (T := TX3) (N := 6) (wM_us uw_X3) (14 + (2 + 3 * k3)) (by omega) (eState_ord hk4) rfl 2 (by decide) (wM_in fl_X6_215) rfl dX6_beginOrder_60 ?_
      obtain ⟨r13, hy12, hf⟩ := ob_e hf
      refine xiG h (va_runV (As := [.int (v (14 + (2 + 3 * k3)) 2)]) (rest := [.int (v (14 + (2 + 3 * k3)) 2), .int (2 : Int32), .ref (q 8)]) hC (c_X6_eraseTicks l G q v (v (14 + (2 + 3 * k3)) 2) hy12 H.size) (xcwV hC lk_X6_223 in_X6 co_X6_eraseTicks im_X6_eraseTicks se_X6_eraseTicks rfl rfl dd_X6_eraseTicks ⟨Nat.le_of_ble_eq_true rfl, Nat.le_of_ble_eq_true rfl⟩) (preVO0 h.o (Nat.le_of_ble_eq_true rfl) eState_0 rfl [.int (v (14 + (2 + 3 * k3)) 2)]) rfl rfl hl.1 rfl (lv_room (Nat.le_of_ble_eq_true rfl)) dX6_beginOrder_63 ⟨Nat.zero_le _, Nat.zero_le _⟩) (fun H locs h => ?_)
      refine lv_aload_n hx hb dX6_beginOrder_66 rfl (lv_at hl 0 rfl) ?_
      refine xget hC h.o (C := RX3) (T := TX3) (N := 6) (wM_us uw_X3) (14 + (2 + 3 * k3)) (by omega) (eState_ord hk4) rfl 3 (by decide) (wM_in fl_X6_211) rfl dX6_beginOrder_67 ?_
      obtain ⟨r15, hy14, hf⟩ := ob_e hf
      refine xv1 h 8 3 sState_8 (Nat.le_of_ble_eq_true rfl) (va_runV (As := [.int (2 : Int32), .int (v (14 + (2 + 3 * k3)) 2), .int r13, .int (v (14 + (2 + 3 * k3)) 3)]) (rest := []) hC (c_X7_start l G (sh 8 q) (sh 8 v) (2 : Int32) (v (14 + (2 + 3 * k3)) 2) r13 (v (14 + (2 + 3 * k3)) 3) hy14 H.size) (xcwV hC lk_X6_226 in_X7 co_X7_start im_X7_start se_X7_start rfl rfl dd_X7_start ⟨Nat.le_of_ble_eq_true rfl, Nat.le_of_ble_eq_true rfl⟩) (preV1 h 8 3 sState_8 (Nat.le_of_ble_eq_true rfl) (Nat.le_of_ble_eq_true rfl) eState_8 rfl [.int (2 : Int32), .int (v (14 + (2 + 3 * k3)) 2), .int r13, .int (v (14 + (2 + 3 * k3)) 3)]) rfl rfl hl.1 rfl (lv_room (Nat.le_of_ble_eq_true rfl)) dX6_beginOrder_70 ⟨Nat.zero_le _, Nat.zero_le _⟩) (fun H locs h => ?_)
      obtain ⟨v16, ev16, hf⟩ := lt_e hf
      rw [← ev16] at h
      exact hj7 v16 H locs h ls (lv_sub hl [1, 2] rfl) hf
    · have hf := it_t c11 hf
      refine lv_aload_n hx hb dX6_beginOrder_22 rfl (lv_at hl 1 rfl) ?_
      refine xget hC h.o (C := RX6) (T := TX6) (N := 13) (wM_us uw_X6) 0 (Nat.le_of_ble_eq_true rfl) eState_0 rfl 3 (by decide) (wM_in fl_X6_35) rfl dX6_beginOrder_23 ?_
      refine lv_aload_n hx hb dX6_beginOrder_26 rfl (lv_at hl 0 rfl) ?_
      refine xget hC h.o (C := RX3) (T := TX3) (N := 6) (wM_us uw_X3) (14 + (2 + 3 * k3)) (by omega) (eState_ord hk4) rfl 2 (by decide) (wM_in fl_X6_215) rfl dX6_beginOrder_27 ?_
      refine lv_aload_n hx hb dX6_beginOrder_30 rfl (lv_at hl 0 rfl) ?_
      refine xget hC h.o (C := RX3) (T := TX3) (N := 6) (wM_us uw_X3) (14 + (2 + 3 * k3)) (by omega) (eState_ord hk4) rfl 5 (by decide) (wM_in fl_X6_216) rfl dX6_beginOrder_31 ?_
      refine lv_aload_n hx hb dX6_beginOrder_34 rfl (lv_at hl 1 rfl) ?_
      refine lv_iconst (v := (0 : Int32)) hx hb dX6_beginOrder_35 (by decide) ?_
      obtain ⟨r18, hy17, hf⟩ := ob_e hf
      refine xiG h (va_runV (As := [.int (0 : Int32)]) (rest := [.ref (q ((14 + (2 + 3 * k3)) + 1)), .int (v (14 + (2 + 3 * k3)) 2), .ref (q 8)]) hC (c_X6_settingOf l G q v (0 : Int32) hy17 H.size) (xcwV hC lk_X6_116 in_X6 co_X6_settingOf im_X6_settingOf se_X6_settingOf rfl rfl dd_X6_settingOf ⟨Nat.le_of_ble_eq_true rfl, Nat.le_of_ble_eq_true rfl⟩) (preVO0 h.o (Nat.le_of_ble_eq_true rfl) eState_0 rfl [.int (0 : Int32)]) rfl rfl hl.1 rfl (lv_room (Nat.le_of_ble_eq_true rfl)) dX6_beginOrder_36 ⟨Nat.zero_le _, Nat.zero_le _⟩) (fun H locs h => ?_)
      refine lv_aload_n hx hb dX6_beginOrder_39 rfl (lv_at hl 0 rfl) ?_
      refine xget hC h.o (C := RX3) (T := TX3) (N := 6) (wM_us uw_X3) (14 + (2 + 3 * k3)) (by omega) (eState_ord hk4) rfl 3 (by decide) (wM_in fl_X6_211) rfl dX6_beginOrder_40 ?_
      obtain ⟨r20, hy19, hf⟩ := ob_e hf
      refine xv2 h 8 3 ((14 + (2 + 3 * k3)) + 1) 2 (x2E1 sState_8 locWork) (x2E2 (sState_ordr hk4)) (Nat.le_of_ble_eq_true rfl) (by omega) (by omega) (va_runV (As := [.int (v (14 + (2 + 3 * k3)) 2), .ref (q ((14 + (2 + 3 * k3)) + 1)), .int r18, .int (v (14 + (2 + 3 * k3)) 3)]) (rest := []) hC (c_X7_startWrite l G (ct 3 (sh 8 q) (sh ((14 + (2 + 3 * k3)) + 1) q)) (ct 3 (sh 8 v) (sh ((14 + (2 + 3 * k3)) + 1) v)) (v (14 + (2 + 3 * k3)) 2) r18 (v (14 + (2 + 3 * k3)) 3) hy19 H.size) (xcwV hC lk_X6_219 in_X7 co_X7_startWrite im_X7_startWrite se_X7_startWrite rfl rfl dd_X7_startWrite ⟨Nat.le_of_ble_eq_true rfl, Nat.le_of_ble_eq_true rfl⟩) (preV2 h 8 3 ((14 + (2 + 3 * k3)) + 1) 2 (x2E1 sState_8 locWork) (x2E2 (sState_ordr hk4)) (Nat.le_of_ble_eq_true rfl) (by omega) (by omega) (Nat.le_of_ble_eq_true rfl) eState_8 rfl [.int (v (14 + (2 + 3 * k3)) 2), .ref (q ((14 + (2 + 3 * k3)) + 1)), .int r18, .int (v (14 + (2 + 3 * k3)) 3)]) rfl rfl hl.1 rfl (lv_room (Nat.le_of_ble_eq_true rfl)) dX6_beginOrder_43 ⟨Nat.zero_le _, Nat.zero_le _⟩) (fun H locs h => ?_)
      obtain ⟨v21, ev21, hf⟩ := lt_e hf
      rw [← ev21] at h
      refine lv_goto (tgt := 73) hx hb dX6_beginOrder_46 (by decide) ?_
      exact hj7 v21 H locs h ls (lv_sub hl [1, 2] rfl) hf
def m_X6_isOpen (v : xSt) (o1 : Option Nat) : Option (Int32) := om o1 (lt (fun (_ : Unit) => some (0 : Int32)) (fun j4 => j4 ())) (fun k1 => ck (k1 < 10) (lt (fun (_ : Unit) => some (0 : Int32)) (fun j5 => ob (m_X2_hold (sh 5 v) (xso (v (14 + (2 + 3 * k1)) 1) (v (14 + (2 + 3 * k1)) 2))) (fun r7 => (if r7 = 0 then some (1 : Int32) else j5 ())))))
set_option maxHeartbeats 4000000 in
set_option maxRecDepth 100000 in
theorem c_X6_isOpen (l : Launch) (G : xGl) (q : Nat → Nat) (v : xSt) (o1 : Option Nat) {z : (Int32)} (hf : m_X6_isOpen v o1 = some z) : mRO l yX6_isOpen (wM yX6_isOpen cX6_isOpen 2 (some .boolean)) { frames := 1, cells := 0, slots := 0, locals := 22 } G (eState G) 47 q v [.ref (q 0), va_rf (o1.map (fun k => q (14 + (2 + 3 * k))))] (qZ z) := by
  refine xRO (cc := cX6_isOpen) (maxL := 2) (ret := (some .boolean)) (by decide) rfl (by cases o1 <;> exact Nat.le_of_ble_eq_true rfl) ?_
  intro p e s m below meth c ls A hC hr hlk h hl
  have hx := hC.1
  have hb := hC.2.1
  have hl : lv_has ls 2 [(0, .ref (q 0)), (1, va_rf (o1.map (fun k => q (14 + (2 + 3 * k)))))] := hl
  unfold m_X6_isOpen at hf
  obtain ⟨H, hH⟩ : ∃ H, H = s.heap := ⟨_, rfl⟩
  obtain ⟨locs, hlo⟩ : ∃ x : List Loc, x = [] := ⟨_, rfl⟩
  have h : ho G (eState G) 47 q v A s H locs := by rw [hH, hlo]; exact h
  rw [← hlo, ← hH]
  clear hH hlo
  rcases omm hf with ⟨ho3, gho3⟩ | ⟨k1, ho3, gho3⟩
  · replace hf := gho3
    have hl : lv_has ls 2 [(0, .ref (q 0)), (1, .null)] := by rw [ho3] at hl; exact hl
    refine lv_aload_nN hx hb dX6_isOpen_0 rfl (lv_at hl 1 rfl) ?_
    obtain ⟨j4, ej4, hf⟩ := lt_e hf
    have hj4 : ∀ (uu : Unit) (H : Heap) (locs : List Loc), ho G (eState G) 47 q v A s H locs → ∀ (ls : Array Slot), lv_has ls 2 [] → j4 uu = some z → W p l e { frames := 1, cells := 0, slots := 0, locals := 22 } s m [.ref (q 0), va_rf (o1.map (fun k => q (14 + (2 + 3 * k))))].toArray below meth c H locs 0 0 (MQ below ((qZ z) (fun _ => True) A) [.ref (q 0), va_rf (o1.map (fun k => q (14 + (2 + 3 * k))))].toArray s 0 0 A) (F0 m 29 ls []) := by
      intro uu H locs h ls hl hf
      rw [ej4] at hf
      refine lv_iconst (v := (0 : Int32)) hx hb dX6_isOpen_29 (by decide) ?_
      have hf := sm_e hf
      exact ozret hC hr hlk h (by rw [← hf]) (by decide) dX6_isOpen_30
    refine lv_ifnullN (tgt := 29) hx hb dX6_isOpen_1 (by decide) ?_
    exact hj4 () H locs h ls (lv_sub hl [] rfl) hf
  · obtain ⟨hk2, hf⟩ := ck_e gho3
    have hl : lv_has ls 2 [(0, .ref (q 0)), (1, .ref (q (14 + (2 + 3 * k1))))] := by rw [ho3] at hl; exact hl
    refine lv_aload_n hx hb dX6_isOpen_0 rfl (lv_at hl 1 rfl) ?_
    obtain ⟨j5, ej5, hf⟩ := lt_e hf
    have hj5 : ∀ (uu : Unit) (H : Heap) (locs : List Loc), ho G (eState G) 47 q v A s H locs → ∀ (ls : Array Slot), lv_has ls 2 [] → j5 uu = some z → W p l e { frames := 1, cells := 0, slots := 0, locals := 22 } s m [.ref (q 0), va_rf (o1.map (fun k => q (14 + (2 + 3 * k))))].toArray below meth c H locs 0 0 (MQ below ((qZ z) (fun _ => True) A) [.ref (q 0), va_rf (o1.map (fun k => q (14 + (2 + 3 * k))))].toArray s 0 0 A) (F0 m 29 ls []) := by
      intro uu H locs h ls hl hf
      rw [ej5] at hf
      refine lv_iconst (v := (0 : Int32)) hx hb dX6_isOpen_29 (by decide) ?_
      have hf := sm_e hf
      exact ozret hC hr hlk h (by rw [← hf]) (by decide) dX6_isOpen_30
    refine lv_ifnull hx hb dX6_isOpen_1 ?_
    refine lv_aload_n hx hb dX6_isOpen_4 rfl (lv_at hl 0 rfl) ?_
    refine xget hC h.o (C := RX6) (T := TX6) (N := 13) (wM_us uw_X6) 0 (Nat.le_of_ble_eq_true rfl) eState_0 rfl 1 (by decide) (wM_in fl_X6_21) rfl dX6_isOpen_5 ?_
    refine lv_aload_n hx hb dX6_isOpen_8 rfl (lv_at hl 1 rfl) ?_
    refine xget hC h.o (C := RX3) (T := TX3) (N := 6) (wM_us uw_X3) (14 + (2 + 3 * k1)) (by omega) (eState_ord hk2) rfl 1 (by decide) (wM_in fl_X6_214) rfl dX6_isOpen_9 ?_
    refine lv_aload_n hx hb dX6_isOpen_12 rfl (lv_at hl 1 rfl) ?_
    refine xget hC h.o (C := RX3) (T := TX3) (N := 6) (wM_us uw_X3) (14 + (2 + 3 * k1)) (by omega) (eState_ord hk2) rfl 2 (by decide) (wM_in fl_X6_215) rfl dX6_isOpen_13 ?_
    refine xiO h (va_runSN (As := [.int (v (14 + (2 + 3 * k1)) 1), .int (v (14 + (2 + 3 * k1)) 2)]) (rest := [.ref (q 5)]) hC (k_X8_sectorOf l G q v (v (14 + (2 + 3 * k1)) 1) (v (14 + (2 + 3 * k1)) 2) H.size) (xcwN hC (h.o.2.2.2.1 _ nw_X6_130) in_X8 co_X8_sectorOf st_X8_sectorOf rfl rfl dd_X8_sectorOf ⟨Nat.le_of_ble_eq_true rfl, Nat.le_of_ble_eq_true rfl⟩) (preSN h.o [.int (v (14 + (2 + 3 * k1)) 1), .int (v (14 + (2 + 3 * k1)) 2)]) rfl rfl hl.1 rfl (lv_room (Nat.le_of_ble_eq_true rfl)) dX6_isOpen_16 ⟨Nat.zero_le _, Nat.zero_le _⟩) (fun H locs h => ?_)
    obtain ⟨r7, hy6, hf⟩ := ob_e hf
    refine xzO h (va_runV (As := [.int (xso (v (14 + (2 + 3 * k1)) 1) (v (14 + (2 + 3 * k1)) 2))]) (rest := []) hC (c_X2_hold l G (sh 5 q) (sh 5 v) (xso (v (14 + (2 + 3 * k1)) 1) (v (14 + (2 + 3 * k1)) 2)) hy6 H.size) (xcwV hC lk_X6_133 in_X2 co_X2_hold im_X2_hold se_X2_hold rfl rfl dd_X2_hold ⟨Nat.le_of_ble_eq_true rfl, Nat.le_of_ble_eq_true rfl⟩) (preVO h.o 5 1 sState_5 (Nat.le_of_ble_eq_true rfl) (Nat.le_of_ble_eq_true rfl) eState_5 rfl [.int (xso (v (14 + (2 + 3 * k1)) 1) (v (14 + (2 + 3 * k1)) 2))]) rfl rfl hl.1 rfl (lv_room (Nat.le_of_ble_eq_true rfl)) dX6_isOpen_19 ⟨Nat.zero_le _, Nat.zero_le _⟩) (fun H locs hz8 h => ?_)
    refine lv_if_ne (tgt := 29) hx hb dX6_isOpen_22 (by decide) (fun c9 => ?_) (fun c9 => ?_)
    · have hf := it_f c9 hf
      exact hj5 () H locs h ls (lv_sub hl [] rfl) hf
    · have hf := it_t c9 hf
      refine lv_iconst (v := (1 : Int32)) hx hb dX6_isOpen_25 (by decide) ?_
      refine lv_goto (tgt := 30) hx hb dX6_isOpen_26 (by decide) ?_
      have hf := sm_e hf
      exact ozret hC hr hlk h (by rw [← hf]) (by decide) dX6_isOpen_30
def m_X6_foremost (v : xSt) : Option (Int32) := lp (fun (rec2 : Int32 → Option (Int32)) => un1 (fun (a1 : Int32) => (if (v 14 1) ≤ a1 then some (-1 : Int32) else ob (m_X1_orderAt (sh 14 v) a1) (fun r5 => om r5 (ob (m_X6_isOpen v (none : Option Nat)) (fun r10 => (if r10 = 0 then rec2 (a1 + 1) else some a1))) (fun k6 => ck (k6 < 10) (ob (m_X6_isOpen v (some k6)) (fun r14 => (if r14 = 0 then rec2 (a1 + 1) else some a1)))))))) xF (0 : Int32)
set_option maxHeartbeats 4000000 in
set_option maxRecDepth 100000 in
theorem c_X6_foremost (l : Launch) (G : xGl) (q : Nat → Nat) (v : xSt) {z : (Int32)} (hf : m_X6_foremost v = some z) : mRO l yX6_foremost (wM yX6_foremost cX6_foremost 2 (some .int)) { frames := 2, cells := 0, slots := 0, locals := 43 } G (eState G) 47 q v [.ref (q 0)] (qI z) := by
  refine xRO (cc := cX6_foremost) (maxL := 2) (ret := (some .int)) (by decide) rfl (Nat.le_of_ble_eq_true rfl) ?_
  intro p e s m below meth c ls A hC hr hlk h hl
  have hx := hC.1
  have hb := hC.2.1
  have hl : lv_has ls 2 [(0, .ref (q 0))] := hl
  unfold m_X6_foremost at hf
  obtain ⟨H, hH⟩ : ∃ H, H = s.heap := ⟨_, rfl⟩
  obtain ⟨locs, hlo⟩ : ∃ x : List Loc, x = [] := ⟨_, rfl⟩
  have h : ho G (eState G) 47 q v A s H locs := by rw [hH, hlo]; exact h
  rw [← hlo, ← hH]
  clear hH hlo
  refine lv_iconst (v := (0 : Int32)) hx hb dX6_foremost_0 (by decide) ?_
  refine lv_istore_n (lv' := [(1, .int (0 : Int32)), (0, .ref (q 0))]) hx hb dX6_foremost_1 rfl hl (by decide) rfl (fun ls hl => ?_)
  refine lp_i (z := z) (P := fun (pp : Int32) => ∀ (H : Heap) (locs : List Loc), ho G (eState G) 47 q v A s H locs → ∀ (ls : Array Slot), lv_has ls 2 [(0, .ref (q 0)), (1, .int pp)] → W p l e { frames := 2, cells := 0, slots := 0, locals := 43 } s m [.ref (q 0)].toArray below meth c H locs 0 0 (MQ below ((qI z) (fun _ => True) A) [.ref (q 0)].toArray s 0 0 A) (F0 m 2 ls [])) ?_ _ _ hf H locs h ls (lv_sub hl [1, 0] rfl)
  intro rec2 hrec2 pp hf H locs h ls hl
  obtain ⟨a1, hpp⟩ : ∃ y, y = pp := ⟨_, rfl⟩
  subst hpp
  have h : ho G (eState G) 47 q v A s H locs := h
  have hl : lv_has ls 2 [(0, .ref (q 0)), (1, .int a1)] := hl
  have hf := un1_e hf
  refine lv_iload_n hx hb dX6_foremost_2 rfl (lv_at hl 1 rfl) ?_
  refine lv_aload_n hx hb dX6_foremost_3 rfl (lv_at hl 0 rfl) ?_
  refine xget hC h.o (C := RX6) (T := TX6) (N := 13) (wM_us uw_X6) 0 (Nat.le_of_ble_eq_true rfl) eState_0 rfl 5 (by decide) (wM_in fl_X6_45) rfl dX6_foremost_4 ?_
  refine xget hC h.o (C := RX1) (T := TX1) (N := 3) (wM_us uw_X1) 14 (Nat.le_of_ble_eq_true rfl) eState_14 rfl 1 (by decide) (wM_in fl_X6_202) rfl dX6_foremost_7 ?_
  refine lv_icmp_ge (tgt := 36) hx hb dX6_foremost_10 (by decide) (fun c3 => ?_) (fun c3 => ?_)
  · have hf := it_t c3 hf
    refine lv_iconst (v := (-1 : Int32)) hx hb dX6_foremost_36 (by decide) ?_
    have hf := sm_e hf
    exact oiret hC hr hlk h (by rw [← hf]) dX6_foremost_37
  · have hf := it_f c3 hf
    refine lv_aload_n hx hb dX6_foremost_13 rfl (lv_at hl 0 rfl) ?_
    refine lv_aload_n hx hb dX6_foremost_14 rfl (lv_at hl 0 rfl) ?_
    refine xget hC h.o (C := RX6) (T := TX6) (N := 13) (wM_us uw_X6) 0 (Nat.le_of_ble_eq_true rfl) eState_0 rfl 5 (by decide) (wM_in fl_X6_45) rfl dX6_foremost_15 ?_
    refine lv_iload_n hx hb dX6_foremost_18 rfl (lv_at hl 1 rfl) ?_
    obtain ⟨r5, hy4, hf⟩ := ob_e hf
    refine xqO h (va_runV (As := [.int a1]) (rest := [.ref (q 0)]) hC (c_X1_orderAt l G (sh 14 q) (sh 14 v) a1 hy4 H.size) (xcwV hC lk_X6_203 in_X1 co_X1_orderAt im_X1_orderAt se_X1_orderAt rfl rfl dd_X1_orderAt ⟨Nat.le_of_ble_eq_true rfl, Nat.le_of_ble_eq_true rfl⟩) (preVO h.o 14 32 sState_14 (Nat.le_of_ble_eq_true rfl) (Nat.le_of_ble_eq_true rfl) eState_14 rfl [.int a1]) rfl rfl hl.1 rfl (lv_room (Nat.le_of_ble_eq_true rfl)) dX6_foremost_19 ⟨Nat.zero_le _, Nat.zero_le _⟩) (fun H locs h => ?_)
    rcases omm hf with ⟨ho8, gho8⟩ | ⟨k6, ho8, gho8⟩
    · subst ho8
      replace hf := gho8
      obtain ⟨r10, hy9, hf⟩ := ob_e hf
      refine xzO h (va_runV (As := [.null]) (rest := []) hC (c_X6_isOpen l G q v (none : Option Nat) hy9 H.size) (xcwV hC lk_X6_207 in_X6 co_X6_isOpen im_X6_isOpen se_X6_isOpen rfl rfl dd_X6_isOpen ⟨Nat.le_of_ble_eq_true rfl, Nat.le_of_ble_eq_true rfl⟩) (preVO0 h.o (Nat.le_of_ble_eq_true rfl) eState_0 rfl [.null]) rfl rfl hl.1 rfl (lv_room (Nat.le_of_ble_eq_true rfl)) dX6_foremost_22 ⟨Nat.zero_le _, Nat.zero_le _⟩) (fun H locs hz11 h => ?_)
      refine lv_if_eq (tgt := 30) hx hb dX6_foremost_25 (by decide) (fun c12 => ?_) (fun c12 => ?_)
      · have hf := it_t c12 hf
        refine lv_iinc (v := (a1 + 1)) (lv' := [(1, .int (a1 + 1)), (0, .ref (q 0))]) hx hb dX6_foremost_30 hl (k := 1) rfl rfl (by decide) rfl (fun ls hl => ?_)
        refine lv_goto (tgt := 2) hx hb dX6_foremost_33 (by decide) ?_
        exact hrec2 (a1 + 1) hf H locs h ls (lv_sub hl [1, 0] rfl)
      · have hf := it_f c12 hf
        refine lv_iload_n hx hb dX6_foremost_28 rfl (lv_at hl 1 rfl) ?_
        have hf := sm_e hf
        exact oiret hC hr hlk h (by rw [← hf]) dX6_foremost_29
    · subst ho8
      obtain ⟨hk7, hf⟩ := ck_e gho8
      obtain ⟨r14, hy13, hf⟩ := ob_e hf
      refine xzO h (va_runV (As := [.ref (q (14 + (2 + 3 * k6)))]) (rest := []) hC (c_X6_isOpen l G q v (some k6) hy13 H.size) (xcwV hC lk_X6_207 in_X6 co_X6_isOpen im_X6_isOpen se_X6_isOpen rfl rfl dd_X6_isOpen ⟨Nat.le_of_ble_eq_true rfl, Nat.le_of_ble_eq_true rfl⟩) (preVO0 h.o (Nat.le_of_ble_eq_true rfl) eState_0 rfl [.ref (q (14 + (2 + 3 * k6)))]) rfl rfl hl.1 rfl (lv_room (Nat.le_of_ble_eq_true rfl)) dX6_foremost_22 ⟨Nat.zero_le _, Nat.zero_le _⟩) (fun H locs hz15 h => ?_)
      refine lv_if_eq (tgt := 30) hx hb dX6_foremost_25 (by decide) (fun c16 => ?_) (fun c16 => ?_)
      · have hf := it_t c16 hf
        refine lv_iinc (v := (a1 + 1)) (lv' := [(1, .int (a1 + 1)), (0, .ref (q 0))]) hx hb dX6_foremost_30 hl (k := 1) rfl rfl (by decide) rfl (fun ls hl => ?_)
        refine lv_goto (tgt := 2) hx hb dX6_foremost_33 (by decide) ?_
        exact hrec2 (a1 + 1) hf H locs h ls (lv_sub hl [1, 0] rfl)
      · have hf := it_f c16 hf
        refine lv_iload_n hx hb dX6_foremost_28 rfl (lv_at hl 1 rfl) ?_
        have hf := sm_e hf
        exact oiret hC hr hlk h (by rw [← hf]) dX6_foremost_29
def m_X6_foremostPressing_v8 (v : xSt) : Option (Int32) := ob (m_X6_settingOf v (4 : Int32)) (fun r2 => lp (fun (rec4 : Int32 → Option (Int32)) => un1 (fun (a3 : Int32) => (if (v 14 1) ≤ a3 then some (-1 : Int32) else ob (m_X1_orderAt (sh 14 v) a3) (fun r7 => om r7 (lt (fun (_ : Unit) => rec4 (a3 + 1)) (fun j11 => j11 ())) (fun k8 => ck (k8 < 10) (lt (fun (_ : Unit) => rec4 (a3 + 1)) (fun j12 => (if (v (14 + (2 + 3 * k8)) 3) < ((v 8 6) + r2) then j12 () else (if (v (14 + (2 + 3 * k8)) 1) = (1 : Int32) then (if (xso (1 : Int32) (v (14 + (2 + 3 * k8)) 2)) = (v 8 1) then j12 () else ob (m_X6_isOpen v (some k8)) (fun r17 => (if r17 = 0 then j12 () else some a3))) else j12 ()))))))))) xF (0 : Int32))
set_option maxHeartbeats 4000000 in
set_option maxRecDepth 100000 in
theorem c_X6_foremostPressing_v8 (l : Launch) (G : xGl) (q : Nat → Nat) (v : xSt) {z : (Int32)} (hf : m_X6_foremostPressing_v8 v = some z) : mRO l yX6_foremostPressing (wM yX6_foremostPressing cX6_foremostPressing 5 (some .int)) { frames := 2, cells := 0, slots := 0, locals := 43 } G (eState G) 47 q v [.ref (q 0), .ref (q 8)] (qI z) := by
  refine xRO (cc := cX6_foremostPressing) (maxL := 5) (ret := (some .int)) (by decide) rfl (Nat.le_of_ble_eq_true rfl) ?_
  intro p e s m below meth c ls A hC hr hlk h hl
  have hx := hC.1
  have hb := hC.2.1
  have hl : lv_has ls 5 [(0, .ref (q 0)), (1, .ref (q 8))] := hl
  unfold m_X6_foremostPressing_v8 at hf
  obtain ⟨H, hH⟩ : ∃ H, H = s.heap := ⟨_, rfl⟩
  obtain ⟨locs, hlo⟩ : ∃ x : List Loc, x = [] := ⟨_, rfl⟩
  have h : ho G (eState G) 47 q v A s H locs := by rw [hH, hlo]; exact h
  rw [← hlo, ← hH]
  clear hH hlo
  refine lv_aload_n hx hb dX6_foremostPressing_0 rfl (lv_at hl 1 rfl) ?_
  refine xget hC h.o (C := RX7) (T := TX7) (N := 9) (wM_us uw_X7) 8 (Nat.le_of_ble_eq_true rfl) eState_8 rfl 6 (by decide) (wM_in fl_X6_186) rfl dX6_foremostPressing_1 ?_
  refine lv_aload_n hx hb dX6_foremostPressing_4 rfl (lv_at hl 0 rfl) ?_
  refine lv_iconst (v := (4 : Int32)) hx hb dX6_foremostPressing_5 (by decide) ?_
  obtain ⟨r2, hy1, hf⟩ := ob_e hf
  refine xiO h (va_runV (As := [.int (4 : Int32)]) (rest := [.int (v 8 6)]) hC (c_X6_settingOf l G q v (4 : Int32) hy1 H.size) (xcwV hC lk_X6_116 in_X6 co_X6_settingOf im_X6_settingOf se_X6_settingOf rfl rfl dd_X6_settingOf ⟨Nat.le_of_ble_eq_true rfl, Nat.le_of_ble_eq_true rfl⟩) (preVO0 h.o (Nat.le_of_ble_eq_true rfl) eState_0 rfl [.int (4 : Int32)]) rfl rfl hl.1 rfl (lv_room (Nat.le_of_ble_eq_true rfl)) dX6_foremostPressing_6 ⟨Nat.zero_le _, Nat.zero_le _⟩) (fun H locs h => ?_)
  refine lv_iadd hx hb dX6_foremostPressing_9 ?_
  refine lv_istore_n (lv' := [(2, .int ((v 8 6) + r2)), (0, .ref (q 0)), (1, .ref (q 8))]) hx hb dX6_foremostPressing_10 rfl hl (by decide) rfl (fun ls hl => ?_)
  refine lv_iconst (v := (0 : Int32)) hx hb dX6_foremostPressing_11 (by decide) ?_
  refine lv_istore_n (lv' := [(3, .int (0 : Int32)), (2, .int ((v 8 6) + r2)), (0, .ref (q 0)), (1, .ref (q 8))]) hx hb dX6_foremostPressing_12 rfl hl (by decide) rfl (fun ls hl => ?_)
  refine lp_i (z := z) (P := fun (pp : Int32) => ∀ (H : Heap) (locs : List Loc), ho G (eState G) 47 q v A s H locs → ∀ (ls : Array Slot), lv_has ls 5 [(0, .ref (q 0)), (1, .ref (q 8)), (2, .int ((v 8 6) + r2)), (3, .int pp)] → W p l e { frames := 2, cells := 0, slots := 0, locals := 43 } s m [.ref (q 0), .ref (q 8)].toArray below meth c H locs 0 0 (MQ below ((qI z) (fun _ => True) A) [.ref (q 0), .ref (q 8)].toArray s 0 0 A) (F0 m 13 ls [])) ?_ _ _ hf H locs h ls (lv_sub hl [2, 3, 1, 0] rfl)
  intro rec4 hrec4 pp hf H locs h ls hl
  obtain ⟨a3, hpp⟩ : ∃ y, y = pp := ⟨_, rfl⟩
  subst hpp
  have h : ho G (eState G) 47 q v A s H locs := h
  have hl : lv_has ls 5 [(0, .ref (q 0)), (1, .ref (q 8)), (2, .int ((v 8 6) + r2)), (3, .int a3)] := hl
  have hf := un1_e hf
  refine lv_iload_n hx hb dX6_foremostPressing_13 rfl (lv_at hl 3 rfl) ?_
  refine lv_aload_n hx hb dX6_foremostPressing_14 rfl (lv_at hl 0 rfl) ?_
  refine xget hC h.o (C := RX6) (T := TX6) (N := 13) (wM_us uw_X6) 0 (Nat.le_of_ble_eq_true rfl) eState_0 rfl 5 (by decide) (wM_in fl_X6_45) rfl dX6_foremostPressing_15 ?_
  refine xget hC h.o (C := RX1) (T := TX1) (N := 3) (wM_us uw_X1) 14 (Nat.le_of_ble_eq_true rfl) eState_14 rfl 1 (by decide) (wM_in fl_X6_202) rfl dX6_foremostPressing_18 ?_
  refine lv_icmp_ge (tgt := 90) hx hb dX6_foremostPressing_21 (by decide) (fun c5 => ?_) (fun c5 => ?_)
  · have hf := it_t c5 hf
    refine lv_iconst (v := (-1 : Int32)) hx hb dX6_foremostPressing_90 (by decide) ?_
    have hf := sm_e hf
    exact oiret hC hr hlk h (by rw [← hf]) dX6_foremostPressing_91
  · have hf := it_f c5 hf
    refine lv_aload_n hx hb dX6_foremostPressing_24 rfl (lv_at hl 0 rfl) ?_
    refine xget hC h.o (C := RX6) (T := TX6) (N := 13) (wM_us uw_X6) 0 (Nat.le_of_ble_eq_true rfl) eState_0 rfl 5 (by decide) (wM_in fl_X6_45) rfl dX6_foremostPressing_25 ?_
    refine lv_iload_n hx hb dX6_foremostPressing_28 rfl (lv_at hl 3 rfl) ?_
    obtain ⟨r7, hy6, hf⟩ := ob_e hf
    refine xqO h (va_runV (As := [.int a3]) (rest := []) hC (c_X1_orderAt l G (sh 14 q) (sh 14 v) a3 hy6 H.size) (xcwV hC lk_X6_203 in_X1 co_X1_orderAt im_X1_orderAt se_X1_orderAt rfl rfl dd_X1_orderAt ⟨Nat.le_of_ble_eq_true rfl, Nat.le_of_ble_eq_true rfl⟩) (preVO h.o 14 32 sState_14 (Nat.le_of_ble_eq_true rfl) (Nat.le_of_ble_eq_true rfl) eState_14 rfl [.int a3]) rfl rfl hl.1 rfl (lv_room (Nat.le_of_ble_eq_true rfl)) dX6_foremostPressing_29 ⟨Nat.zero_le _, Nat.zero_le _⟩) (fun H locs h => ?_)
    rcases omm hf with ⟨ho10, gho10⟩ | ⟨k8, ho10, gho10⟩
    · subst ho10
      replace hf := gho10
      refine lv_astoreN (lv' := [(4, .null), (0, .ref (q 0)), (1, .ref (q 8)), (2, .int ((v 8 6) + r2)), (3, .int a3)]) hx hb dX6_foremostPressing_32 hl (by decide) rfl (fun ls hl => ?_)
      refine lv_aloadN hx hb dX6_foremostPressing_34 (lv_at hl 0 rfl) ?_
      obtain ⟨j11, ej11, hf⟩ := lt_e hf
      have hj11 : ∀ (uu : Unit) (H : Heap) (locs : List Loc), ho G (eState G) 47 q v A s H locs → ∀ (ls : Array Slot), lv_has ls 5 [(0, .ref (q 0)), (1, .ref (q 8)), (2, .int ((v 8 6) + r2)), (3, .int a3)] → j11 uu = some z → W p l e { frames := 2, cells := 0, slots := 0, locals := 43 } s m [.ref (q 0), .ref (q 8)].toArray below meth c H locs 0 0 (MQ below ((qI z) (fun _ => True) A) [.ref (q 0), .ref (q 8)].toArray s 0 0 A) (F0 m 84 ls []) := by
        intro uu H locs h ls hl hf
        rw [ej11] at hf
        refine lv_iinc (v := (a3 + 1)) (lv' := [(3, .int (a3 + 1)), (0, .ref (q 0)), (1, .ref (q 8)), (2, .int ((v 8 6) + r2))]) hx hb dX6_foremostPressing_84 hl (k := 3) rfl rfl (by decide) rfl (fun ls hl => ?_)
        refine lv_goto (tgt := 13) hx hb dX6_foremostPressing_87 (by decide) ?_
        exact hrec4 (a3 + 1) hf H locs h ls (lv_sub hl [1, 2, 3, 0] rfl)
      refine lv_ifnullN (tgt := 84) hx hb dX6_foremostPressing_36 (by decide) ?_
      exact hj11 () H locs h ls (lv_sub hl [1, 2, 3, 4] rfl) hf
    · subst ho10
      obtain ⟨hk9, hf⟩ := ck_e gho10
      refine lv_astore (lv' := [(4, .ref (q (14 + (2 + 3 * k8)))), (0, .ref (q 0)), (1, .ref (q 8)), (2, .int ((v 8 6) + r2)), (3, .int a3)]) hx hb dX6_foremostPressing_32 hl (by decide) rfl (fun ls hl => ?_)
      refine lv_aload hx hb dX6_foremostPressing_34 (lv_at hl 0 rfl) ?_
      obtain ⟨j12, ej12, hf⟩ := lt_e hf
      have hj12 : ∀ (uu : Unit) (H : Heap) (locs : List Loc), ho G (eState G) 47 q v A s H locs → ∀ (ls : Array Slot), lv_has ls 5 [(0, .ref (q 0)), (1, .ref (q 8)), (2, .int ((v 8 6) + r2)), (3, .int a3)] → j12 uu = some z → W p l e { frames := 2, cells := 0, slots := 0, locals := 43 } s m [.ref (q 0), .ref (q 8)].toArray below meth c H locs 0 0 (MQ below ((qI z) (fun _ => True) A) [.ref (q 0), .ref (q 8)].toArray s 0 0 A) (F0 m 84 ls []) := by
        intro uu H locs h ls hl hf
        rw [ej12] at hf
        refine lv_iinc (v := (a3 + 1)) (lv' := [(3, .int (a3 + 1)), (0, .ref (q 0)), (1, .ref (q 8)), (2, .int ((v 8 6) + r2))]) hx hb dX6_foremostPressing_84 hl (k := 3) rfl rfl (by decide) rfl (fun ls hl => ?_)
        refine lv_goto (tgt := 13) hx hb dX6_foremostPressing_87 (by decide) ?_
        exact hrec4 (a3 + 1) hf H locs h ls (lv_sub hl [1, 2, 3, 0] rfl)
      refine lv_ifnull hx hb dX6_foremostPressing_36 ?_
      refine lv_aload hx hb dX6_foremostPressing_39 (lv_at hl 0 rfl) ?_
      refine xget hC h.o (C := RX3) (T := TX3) (N := 6) (wM_us uw_X3) (14 + (2 + 3 * k8)) (by omega) (eState_ord hk9) rfl 3 (by decide) (wM_in fl_X6_211) rfl dX6_foremostPressing_41 ?_
      refine lv_iload_n hx hb dX6_foremostPressing_44 rfl (lv_at hl 3 rfl) ?_
      refine lv_icmp_lt (tgt := 84) hx hb dX6_foremostPressing_45 (by decide) (fun c13 => ?_) (fun c13 => ?_)
      · have hf := it_t c13 hf
        exact hj12 () H locs h ls (lv_sub hl [1, 2, 3, 4] rfl) hf
      · have hf := it_f c13 hf
        refine lv_aload hx hb dX6_foremostPressing_48 (lv_at hl 0 rfl) ?_
        refine xget hC h.o (C := RX3) (T := TX3) (N := 6) (wM_us uw_X3) (14 + (2 + 3 * k8)) (by omega) (eState_ord hk9) rfl 1 (by decide) (wM_in fl_X6_214) rfl dX6_foremostPressing_50 ?_
        refine lv_iconst (v := (1 : Int32)) hx hb dX6_foremostPressing_53 (by decide) ?_
        refine lv_icmp_ne (tgt := 84) hx hb dX6_foremostPressing_54 (by decide) (fun c14 => ?_) (fun c14 => ?_)
        · have hf := it_f c14 hf
          exact hj12 () H locs h ls (lv_sub hl [1, 2, 3, 4] rfl) hf
        · have hf := it_t c14 hf
          refine lv_iconst (v := (1 : Int32)) hx hb dX6_foremostPressing_57 (by decide) ?_
          refine lv_aload hx hb dX6_foremostPressing_58 (lv_at hl 0 rfl) ?_
          refine xget hC h.o (C := RX3) (T := TX3) (N := 6) (wM_us uw_X3) (14 + (2 + 3 * k8)) (by omega) (eState_ord hk9) rfl 2 (by decide) (wM_in fl_X6_215) rfl dX6_foremostPressing_60 ?_
          refine xiO h (va_runSN (As := [.int (1 : Int32), .int (v (14 + (2 + 3 * k8)) 2)]) (rest := []) hC (k_X8_sectorOf l G q v (1 : Int32) (v (14 + (2 + 3 * k8)) 2) H.size) (xcwN hC (h.o.2.2.2.1 _ nw_X6_130) in_X8 co_X8_sectorOf st_X8_sectorOf rfl rfl dd_X8_sectorOf ⟨Nat.le_of_ble_eq_true rfl, Nat.le_of_ble_eq_true rfl⟩) (preSN h.o [.int (1 : Int32), .int (v (14 + (2 + 3 * k8)) 2)]) rfl rfl hl.1 rfl (lv_room (Nat.le_of_ble_eq_true rfl)) dX6_foremostPressing_63 ⟨Nat.zero_le _, Nat.zero_le _⟩) (fun H locs h => ?_)
          refine lv_aload_n hx hb dX6_foremostPressing_66 rfl (lv_at hl 2 rfl) ?_
          refine xget hC h.o (C := RX7) (T := TX7) (N := 9) (wM_us uw_X7) 8 (Nat.le_of_ble_eq_true rfl) eState_8 rfl 1 (by decide) (wM_in fl_X6_144) rfl dX6_foremostPressing_67 ?_
          refine lv_icmp_eq (tgt := 84) hx hb dX6_foremostPressing_70 (by decide) (fun c15 => ?_) (fun c15 => ?_)
          · have hf := it_t c15 hf
            exact hj12 () H locs h ls (lv_sub hl [1, 2, 3, 4] rfl) hf
          · have hf := it_f c15 hf
            refine lv_aload_n hx hb dX6_foremostPressing_73 rfl (lv_at hl 1 rfl) ?_
            refine lv_aload hx hb dX6_foremostPressing_74 (lv_at hl 0 rfl) ?_
            obtain ⟨r17, hy16, hf⟩ := ob_e hf
            refine xzO h (va_runV (As := [.ref (q (14 + (2 + 3 * k8)))]) (rest := []) hC (c_X6_isOpen l G q v (some k8) hy16 H.size) (xcwV hC lk_X6_207 in_X6 co_X6_isOpen im_X6_isOpen se_X6_isOpen rfl rfl dd_X6_isOpen ⟨Nat.le_of_ble_eq_true rfl, Nat.le_of_ble_eq_true rfl⟩) (preVO0 h.o (Nat.le_of_ble_eq_true rfl) eState_0 rfl [.ref (q (14 + (2 + 3 * k8)))]) rfl rfl hl.1 rfl (lv_room (Nat.le_of_ble_eq_true rfl)) dX6_foremostPressing_76 ⟨Nat.zero_le _, Nat.zero_le _⟩) (fun H locs hz18 h => ?_)
            refine lv_if_eq (tgt := 84) hx hb dX6_foremostPressing_79 (by decide) (fun c19 => ?_) (fun c19 => ?_)
            · have hf := it_t c19 hf
              exact hj12 () H locs h ls (lv_sub hl [1, 2, 3, 4] rfl) hf
            · have hf := it_f c19 hf
              refine lv_iload_n hx hb dX6_foremostPressing_82 rfl (lv_at hl 4 rfl) ?_
              have hf := sm_e hf
              exact oiret hC hr hlk h (by rw [← hf]) dX6_foremostPressing_83
def m_X6_foremostPressing_v11 (v : xSt) : Option (Int32) := ob (m_X6_settingOf v (4 : Int32)) (fun r2 => lp (fun (rec4 : Int32 → Option (Int32)) => un1 (fun (a3 : Int32) => (if (v 14 1) ≤ a3 then some (-1 : Int32) else ob (m_X1_orderAt (sh 14 v) a3) (fun r7 => om r7 (lt (fun (_ : Unit) => rec4 (a3 + 1)) (fun j11 => j11 ())) (fun k8 => ck (k8 < 10) (lt (fun (_ : Unit) => rec4 (a3 + 1)) (fun j12 => (if (v (14 + (2 + 3 * k8)) 3) < ((v 11 6) + r2) then j12 () else (if (v (14 + (2 + 3 * k8)) 1) = (1 : Int32) then (if (xso (1 : Int32) (v (14 + (2 + 3 * k8)) 2)) = (v 11 1) then j12 () else ob (m_X6_isOpen v (some k8)) (fun r17 => (if r17 = 0 then j12 () else some a3))) else j12 ()))))))))) xF (0 : Int32))
set_option maxHeartbeats 4000000 in
set_option maxRecDepth 100000 in
theorem c_X6_foremostPressing_v11 (l : Launch) (G : xGl) (q : Nat → Nat) (v : xSt) {z : (Int32)} (hf : m_X6_foremostPressing_v11 v = some z) : mRO l yX6_foremostPressing (wM yX6_foremostPressing cX6_foremostPressing 5 (some .int)) { frames := 2, cells := 0, slots := 0, locals := 43 } G (eState G) 47 q v [.ref (q 0), .ref (q 11)] (qI z) := by
  refine xRO (cc := cX6_foremostPressing) (maxL := 5) (ret := (some .int)) (by decide) rfl (Nat.le_of_ble_eq_true rfl) ?_
  intro p e s m below meth c ls A hC hr hlk h hl
  have hx := hC.1
  have hb := hC.2.1
  have hl : lv_has ls 5 [(0, .ref (q 0)), (1, .ref (q 11))] := hl
  unfold m_X6_foremostPressing_v11 at hf
  obtain ⟨H, hH⟩ : ∃ H, H = s.heap := ⟨_, rfl⟩
  obtain ⟨locs, hlo⟩ : ∃ x : List Loc, x = [] := ⟨_, rfl⟩
  have h : ho G (eState G) 47 q v A s H locs := by rw [hH, hlo]; exact h
  rw [← hlo, ← hH]
  clear hH hlo
  refine lv_aload_n hx hb dX6_foremostPressing_0 rfl (lv_at hl 1 rfl) ?_
  refine xget hC h.o (C := RX7) (T := TX7) (N := 9) (wM_us uw_X7) 11 (Nat.le_of_ble_eq_true rfl) eState_11 rfl 6 (by decide) (wM_in fl_X6_186) rfl dX6_foremostPressing_1 ?_
  refine lv_aload_n hx hb dX6_foremostPressing_4 rfl (lv_at hl 0 rfl) ?_
  refine lv_iconst (v := (4 : Int32)) hx hb dX6_foremostPressing_5 (by decide) ?_
  obtain ⟨r2, hy1, hf⟩ := ob_e hf
  refine xiO h (va_runV (As := [.int (4 : Int32)]) (rest := [.int (v 11 6)]) hC (c_X6_settingOf l G q v (4 : Int32) hy1 H.size) (xcwV hC lk_X6_116 in_X6 co_X6_settingOf im_X6_settingOf se_X6_settingOf rfl rfl dd_X6_settingOf ⟨Nat.le_of_ble_eq_true rfl, Nat.le_of_ble_eq_true rfl⟩) (preVO0 h.o (Nat.le_of_ble_eq_true rfl) eState_0 rfl [.int (4 : Int32)]) rfl rfl hl.1 rfl (lv_room (Nat.le_of_ble_eq_true rfl)) dX6_foremostPressing_6 ⟨Nat.zero_le _, Nat.zero_le _⟩) (fun H locs h => ?_)
  refine lv_iadd hx hb dX6_foremostPressing_9 ?_
  refine lv_istore_n (lv' := [(2, .int ((v 11 6) + r2)), (0, .ref (q 0)), (1, .ref (q 11))]) hx hb dX6_foremostPressing_10 rfl hl (by decide) rfl (fun ls hl => ?_)
  refine lv_iconst (v := (0 : Int32)) hx hb dX6_foremostPressing_11 (by decide) ?_
  refine lv_istore_n (lv' := [(3, .int (0 : Int32)), (2, .int ((v 11 6) + r2)), (0, .ref (q 0)), (1, .ref (q 11))]) hx hb dX6_foremostPressing_12 rfl hl (by decide) rfl (fun ls hl => ?_)
  refine lp_i (z := z) (P := fun (pp : Int32) => ∀ (H : Heap) (locs : List Loc), ho G (eState G) 47 q v A s H locs → ∀ (ls : Array Slot), lv_has ls 5 [(0, .ref (q 0)), (1, .ref (q 11)), (2, .int ((v 11 6) + r2)), (3, .int pp)] → W p l e { frames := 2, cells := 0, slots := 0, locals := 43 } s m [.ref (q 0), .ref (q 11)].toArray below meth c H locs 0 0 (MQ below ((qI z) (fun _ => True) A) [.ref (q 0), .ref (q 11)].toArray s 0 0 A) (F0 m 13 ls [])) ?_ _ _ hf H locs h ls (lv_sub hl [2, 3, 1, 0] rfl)
  intro rec4 hrec4 pp hf H locs h ls hl
  obtain ⟨a3, hpp⟩ : ∃ y, y = pp := ⟨_, rfl⟩
  subst hpp
  have h : ho G (eState G) 47 q v A s H locs := h
  have hl : lv_has ls 5 [(0, .ref (q 0)), (1, .ref (q 11)), (2, .int ((v 11 6) + r2)), (3, .int a3)] := hl
  have hf := un1_e hf
  refine lv_iload_n hx hb dX6_foremostPressing_13 rfl (lv_at hl 3 rfl) ?_
  refine lv_aload_n hx hb dX6_foremostPressing_14 rfl (lv_at hl 0 rfl) ?_
  refine xget hC h.o (C := RX6) (T := TX6) (N := 13) (wM_us uw_X6) 0 (Nat.le_of_ble_eq_true rfl) eState_0 rfl 5 (by decide) (wM_in fl_X6_45) rfl dX6_foremostPressing_15 ?_
  refine xget hC h.o (C := RX1) (T := TX1) (N := 3) (wM_us uw_X1) 14 (Nat.le_of_ble_eq_true rfl) eState_14 rfl 1 (by decide) (wM_in fl_X6_202) rfl dX6_foremostPressing_18 ?_
  refine lv_icmp_ge (tgt := 90) hx hb dX6_foremostPressing_21 (by decide) (fun c5 => ?_) (fun c5 => ?_)
  · have hf := it_t c5 hf
    refine lv_iconst (v := (-1 : Int32)) hx hb dX6_foremostPressing_90 (by decide) ?_
    have hf := sm_e hf
    exact oiret hC hr hlk h (by rw [← hf]) dX6_foremostPressing_91
  · have hf := it_f c5 hf
    refine lv_aload_n hx hb dX6_foremostPressing_24 rfl (lv_at hl 0 rfl) ?_
    refine xget hC h.o (C := RX6) (T := TX6) (N := 13) (wM_us uw_X6) 0 (Nat.le_of_ble_eq_true rfl) eState_0 rfl 5 (by decide) (wM_in fl_X6_45) rfl dX6_foremostPressing_25 ?_
    refine lv_iload_n hx hb dX6_foremostPressing_28 rfl (lv_at hl 3 rfl) ?_
    obtain ⟨r7, hy6, hf⟩ := ob_e hf
    refine xqO h (va_runV (As := [.int a3]) (rest := []) hC (c_X1_orderAt l G (sh 14 q) (sh 14 v) a3 hy6 H.size) (xcwV hC lk_X6_203 in_X1 co_X1_orderAt im_X1_orderAt se_X1_orderAt rfl rfl dd_X1_orderAt ⟨Nat.le_of_ble_eq_true rfl, Nat.le_of_ble_eq_true rfl⟩) (preVO h.o 14 32 sState_14 (Nat.le_of_ble_eq_true rfl) (Nat.le_of_ble_eq_true rfl) eState_14 rfl [.int a3]) rfl rfl hl.1 rfl (lv_room (Nat.le_of_ble_eq_true rfl)) dX6_foremostPressing_29 ⟨Nat.zero_le _, Nat.zero_le _⟩) (fun H locs h => ?_)
    rcases omm hf with ⟨ho10, gho10⟩ | ⟨k8, ho10, gho10⟩
    · subst ho10
      replace hf := gho10
      refine lv_astoreN (lv' := [(4, .null), (0, .ref (q 0)), (1, .ref (q 11)), (2, .int ((v 11 6) + r2)), (3, .int a3)]) hx hb dX6_foremostPressing_32 hl (by decide) rfl (fun ls hl => ?_)
      refine lv_aloadN hx hb dX6_foremostPressing_34 (lv_at hl 0 rfl) ?_
      obtain ⟨j11, ej11, hf⟩ := lt_e hf
      have hj11 : ∀ (uu : Unit) (H : Heap) (locs : List Loc), ho G (eState G) 47 q v A s H locs → ∀ (ls : Array Slot), lv_has ls 5 [(0, .ref (q 0)), (1, .ref (q 11)), (2, .int ((v 11 6) + r2)), (3, .int a3)] → j11 uu = some z → W p l e { frames := 2, cells := 0, slots := 0, locals := 43 } s m [.ref (q 0), .ref (q 11)].toArray below meth c H locs 0 0 (MQ below ((qI z) (fun _ => True) A) [.ref (q 0), .ref (q 11)].toArray s 0 0 A) (F0 m 84 ls []) := by
        intro uu H locs h ls hl hf
        rw [ej11] at hf
        refine lv_iinc (v := (a3 + 1)) (lv' := [(3, .int (a3 + 1)), (0, .ref (q 0)), (1, .ref (q 11)), (2, .int ((v 11 6) + r2))]) hx hb dX6_foremostPressing_84 hl (k := 3) rfl rfl (by decide) rfl (fun ls hl => ?_)
        refine lv_goto (tgt := 13) hx hb dX6_foremostPressing_87 (by decide) ?_
        exact hrec4 (a3 + 1) hf H locs h ls (lv_sub hl [1, 2, 3, 0] rfl)
      refine lv_ifnullN (tgt := 84) hx hb dX6_foremostPressing_36 (by decide) ?_
      exact hj11 () H locs h ls (lv_sub hl [1, 2, 3, 4] rfl) hf
    · subst ho10
      obtain ⟨hk9, hf⟩ := ck_e gho10
      refine lv_astore (lv' := [(4, .ref (q (14 + (2 + 3 * k8)))), (0, .ref (q 0)), (1, .ref (q 11)), (2, .int ((v 11 6) + r2)), (3, .int a3)]) hx hb dX6_foremostPressing_32 hl (by decide) rfl (fun ls hl => ?_)
      refine lv_aload hx hb dX6_foremostPressing_34 (lv_at hl 0 rfl) ?_
      obtain ⟨j12, ej12, hf⟩ := lt_e hf
      have hj12 : ∀ (uu : Unit) (H : Heap) (locs : List Loc), ho G (eState G) 47 q v A s H locs → ∀ (ls : Array Slot), lv_has ls 5 [(0, .ref (q 0)), (1, .ref (q 11)), (2, .int ((v 11 6) + r2)), (3, .int a3)] → j12 uu = some z → W p l e { frames := 2, cells := 0, slots := 0, locals := 43 } s m [.ref (q 0), .ref (q 11)].toArray below meth c H locs 0 0 (MQ below ((qI z) (fun _ => True) A) [.ref (q 0), .ref (q 11)].toArray s 0 0 A) (F0 m 84 ls []) := by
        intro uu H locs h ls hl hf
        rw [ej12] at hf
        refine lv_iinc (v := (a3 + 1)) (lv' := [(3, .int (a3 + 1)), (0, .ref (q 0)), (1, .ref (q 11)), (2, .int ((v 11 6) + r2))]) hx hb dX6_foremostPressing_84 hl (k := 3) rfl rfl (by decide) rfl (fun ls hl => ?_)
        refine lv_goto (tgt := 13) hx hb dX6_foremostPressing_87 (by decide) ?_
        exact hrec4 (a3 + 1) hf H locs h ls (lv_sub hl [1, 2, 3, 0] rfl)
      refine lv_ifnull hx hb dX6_foremostPressing_36 ?_
      refine lv_aload hx hb dX6_foremostPressing_39 (lv_at hl 0 rfl) ?_
      refine xget hC h.o (C := RX3) (T := TX3) (N := 6) (wM_us uw_X3) (14 + (2 + 3 * k8)) (by omega) (eState_ord hk9) rfl 3 (by decide) (wM_in fl_X6_211) rfl dX6_foremostPressing_41 ?_
      refine lv_iload_n hx hb dX6_foremostPressing_44 rfl (lv_at hl 3 rfl) ?_
      refine lv_icmp_lt (tgt := 84) hx hb dX6_foremostPressing_45 (by decide) (fun c13 => ?_) (fun c13 => ?_)
      · have hf := it_t c13 hf
        exact hj12 () H locs h ls (lv_sub hl [1, 2, 3, 4] rfl) hf
      · have hf := it_f c13 hf
        refine lv_aload hx hb dX6_foremostPressing_48 (lv_at hl 0 rfl) ?_
        refine xget hC h.o (C := RX3) (T := TX3) (N := 6) (wM_us uw_X3) (14 + (2 + 3 * k8)) (by omega) (eState_ord hk9) rfl 1 (by decide) (wM_in fl_X6_214) rfl dX6_foremostPressing_50 ?_
        refine lv_iconst (v := (1 : Int32)) hx hb dX6_foremostPressing_53 (by decide) ?_
        refine lv_icmp_ne (tgt := 84) hx hb dX6_foremostPressing_54 (by decide) (fun c14 => ?_) (fun c14 => ?_)
        · have hf := it_f c14 hf
          exact hj12 () H locs h ls (lv_sub hl [1, 2, 3, 4] rfl) hf
        · have hf := it_t c14 hf
          refine lv_iconst (v := (1 : Int32)) hx hb dX6_foremostPressing_57 (by decide) ?_
          refine lv_aload hx hb dX6_foremostPressing_58 (lv_at hl 0 rfl) ?_
          refine xget hC h.o (C := RX3) (T := TX3) (N := 6) (wM_us uw_X3) (14 + (2 + 3 * k8)) (by omega) (eState_ord hk9) rfl 2 (by decide) (wM_in fl_X6_215) rfl dX6_foremostPressing_60 ?_
          refine xiO h (va_runSN (As := [.int (1 : Int32), .int (v (14 + (2 + 3 * k8)) 2)]) (rest := []) hC (k_X8_sectorOf l G q v (1 : Int32) (v (14 + (2 + 3 * k8)) 2) H.size) (xcwN hC (h.o.2.2.2.1 _ nw_X6_130) in_X8 co_X8_sectorOf st_X8_sectorOf rfl rfl dd_X8_sectorOf ⟨Nat.le_of_ble_eq_true rfl, Nat.le_of_ble_eq_true rfl⟩) (preSN h.o [.int (1 : Int32), .int (v (14 + (2 + 3 * k8)) 2)]) rfl rfl hl.1 rfl (lv_room (Nat.le_of_ble_eq_true rfl)) dX6_foremostPressing_63 ⟨Nat.zero_le _, Nat.zero_le _⟩) (fun H locs h => ?_)
          refine lv_aload_n hx hb dX6_foremostPressing_66 rfl (lv_at hl 2 rfl) ?_
          refine xget hC h.o (C := RX7) (T := TX7) (N := 9) (wM_us uw_X7) 11 (Nat.le_of_ble_eq_true rfl) eState_11 rfl 1 (by decide) (wM_in fl_X6_144) rfl dX6_foremostPressing_67 ?_
          refine lv_icmp_eq (tgt := 84) hx hb dX6_foremostPressing_70 (by decide) (fun c15 => ?_) (fun c15 => ?_)
          · have hf := it_t c15 hf
            exact hj12 () H locs h ls (lv_sub hl [1, 2, 3, 4] rfl) hf
          · have hf := it_f c15 hf
            refine lv_aload_n hx hb dX6_foremostPressing_73 rfl (lv_at hl 1 rfl) ?_
            refine lv_aload hx hb dX6_foremostPressing_74 (lv_at hl 0 rfl) ?_
            obtain ⟨r17, hy16, hf⟩ := ob_e hf
            refine xzO h (va_runV (As := [.ref (q (14 + (2 + 3 * k8)))]) (rest := []) hC (c_X6_isOpen l G q v (some k8) hy16 H.size) (xcwV hC lk_X6_207 in_X6 co_X6_isOpen im_X6_isOpen se_X6_isOpen rfl rfl dd_X6_isOpen ⟨Nat.le_of_ble_eq_true rfl, Nat.le_of_ble_eq_true rfl⟩) (preVO0 h.o (Nat.le_of_ble_eq_true rfl) eState_0 rfl [.ref (q (14 + (2 + 3 * k8)))]) rfl rfl hl.1 rfl (lv_room (Nat.le_of_ble_eq_true rfl)) dX6_foremostPressing_76 ⟨Nat.zero_le _, Nat.zero_le _⟩) (fun H locs hz18 h => ?_)
            refine lv_if_eq (tgt := 84) hx hb dX6_foremostPressing_79 (by decide) (fun c19 => ?_) (fun c19 => ?_)
            · have hf := it_t c19 hf
              exact hj12 () H locs h ls (lv_sub hl [1, 2, 3, 4] rfl) hf
            · have hf := it_f c19 hf
              refine lv_iload_n hx hb dX6_foremostPressing_82 rfl (lv_at hl 4 rfl) ?_
              have hf := sm_e hf
              exact oiret hC hr hlk h (by rw [← hf]) dX6_foremostPressing_83
def m_X6_clerkChooses (v : xSt) : Option (Int32 × xSt) := ob (m_X6_isBusy v) (fun r2 => (if r2 = 0 then (if (v 11 0) = 0 then ob (m_X6_foremost v) (fun r16 => some (r16, v)) else lt (fun (t6 : Int32) => (if (v 11 7) = 0 then some (t6, v) else (if t6 = (-1 : Int32) then ob (m_X6_letGoOn v) (fun r11 => some (t6, r11)) else some (t6, v)))) (fun j7 => (if (v 11 7) = 0 then j7 (-1 : Int32) else ob (m_X6_foremostPressing_v11 v) (fun r14 => j7 r14)))) else lt (fun (t17 : Int32) => lt (fun (t19 : Int32) => (if t19 = (-1 : Int32) then some (t19, v) else ob (m_X6_setAside v (1 : Int32)) (fun r23 => some (t19, r23)))) (fun j20 => (if t17 = 0 then j20 (-1 : Int32) else ob (m_X6_foremostPressing_v8 v) (fun r26 => j20 r26)))) (fun j18 => lt (fun (_ : Unit) => j18 (0 : Int32)) (fun j27 => (if (v 8 0) = (2 : Int32) then (if (v 8 6) = (-1 : Int32) then j27 () else (if (v 11 0) = 0 then j18 (1 : Int32) else j27 ())) else j27 ())))))
set_option maxHeartbeats 4000000 in
set_option maxRecDepth 100000 in
theorem c_X6_clerkChooses (l : Launch) (G : xGl) (q : Nat → Nat) (v : xSt) {z : (Int32 × xSt)} (hf : m_X6_clerkChooses v = some z) : mRW l yX6_clerkChooses (wM yX6_clerkChooses cX6_clerkChooses 3 (some .int)) { frames := 4, cells := 0, slots := 0, locals := 123 } G (eState G) 47 q v [.ref (q 0)] (qI z.1) z.2 := by
  refine xRW (cc := cX6_clerkChooses) (maxL := 3) (ret := (some .int)) (by decide) rfl (Nat.le_of_ble_eq_true rfl) ?_
  intro p e s m below meth c ls A hC hr hlk h hl
  have hx := hC.1
  have hb := hC.2.1
  have hl : lv_has ls 3 [(0, .ref (q 0))] := hl
  unfold m_X6_clerkChooses at hf
  obtain ⟨H, hH⟩ : ∃ H, H = s.heap := ⟨_, rfl⟩
  obtain ⟨locs, hlo⟩ : ∃ x : List Loc, x = [] := ⟨_, rfl⟩
  have h : hg G (eState G) 47 q v A s H locs := by rw [hH, hlo]; exact h
  rw [← hlo, ← hH]
  clear hH hlo
  refine lv_aload_n hx hb dX6_clerkChooses_0 rfl (lv_at hl 0 rfl) ?_
  obtain ⟨r2, hy1, hf⟩ := ob_e hf
  refine xzG h (va_runV (As := []) (rest := []) hC (c_X6_isBusy l G q v hy1 H.size) (xcwV hC lk_X6_123 in_X6 co_X6_isBusy im_X6_isBusy se_X6_isBusy rfl rfl dd_X6_isBusy ⟨Nat.le_of_ble_eq_true rfl, Nat.le_of_ble_eq_true rfl⟩) (preVO0 h.o (Nat.le_of_ble_eq_true rfl) eState_0 rfl []) rfl rfl hl.1 rfl (lv_room (Nat.le_of_ble_eq_true rfl)) dX6_clerkChooses_1 ⟨Nat.zero_le _, Nat.zero_le _⟩) (fun H locs hz3 h => ?_)
  refine lv_if_eq (tgt := 74) hx hb dX6_clerkChooses_4 (by decide) (fun c4 => ?_) (fun c4 => ?_)
  · have hf := it_t c4 hf
    refine lv_aload_n hx hb dX6_clerkChooses_74 rfl (lv_at hl 0 rfl) ?_
    refine xget hC h.o (C := RX6) (T := TX6) (N := 13) (wM_us uw_X6) 0 (Nat.le_of_ble_eq_true rfl) eState_0 rfl 4 (by decide) (wM_in fl_X6_39) rfl dX6_clerkChooses_75 ?_
    refine xget hC h.o (C := RX7) (T := TX7) (N := 9) (wM_us uw_X7) 11 (Nat.le_of_ble_eq_true rfl) eState_11 rfl 0 (by decide) (wM_in fl_X6_109) rfl dX6_clerkChooses_78 ?_
    refine lv_if_ne (tgt := 89) hx hb dX6_clerkChooses_81 (by decide) (fun c5 => ?_) (fun c5 => ?_)
    · have hf := it_f c5 hf
      refine lv_aload_n hx hb dX6_clerkChooses_89 rfl (lv_at hl 0 rfl) ?_
      refine xget hC h.o (C := RX6) (T := TX6) (N := 13) (wM_us uw_X6) 0 (Nat.le_of_ble_eq_true rfl) eState_0 rfl 4 (by decide) (wM_in fl_X6_39) rfl dX6_clerkChooses_90 ?_
      refine xget hC h.o (C := RX7) (T := TX7) (N := 9) (wM_us uw_X7) 11 (Nat.le_of_ble_eq_true rfl) eState_11 rfl 7 (by decide) (wM_in fl_X6_147) rfl dX6_clerkChooses_93 ?_
      obtain ⟨j7, ej7, hf⟩ := lt_e hf
      have hj7 : ∀ (t6 : Int32) (H : Heap) (locs : List Loc), hg G (eState G) 47 q v A s H locs → ∀ (ls : Array Slot), lv_has ls 3 [(0, .ref (q 0))] → j7 t6 = some z → W p l e { frames := 4, cells := 0, slots := 0, locals := 123 } s m [.ref (q 0)].toArray below meth c H locs 0 0 (MQ below ((qI z.1) (cB G (eState G) 47 q z.2 A) A) [.ref (q 0)].toArray s 0 0 A) (F0 m 111 ls [.int t6]) := by
        intro t6 H locs h ls hl hf
        rw [ej7] at hf
        refine lv_istore_n (lv' := [(1, .int t6), (0, .ref (q 0))]) hx hb dX6_clerkChooses_111 rfl hl (by decide) rfl (fun ls hl => ?_)
        refine lv_aload_n hx hb dX6_clerkChooses_112 rfl (lv_at hl 1 rfl) ?_
        refine xget hC h.o (C := RX6) (T := TX6) (N := 13) (wM_us uw_X6) 0 (Nat.le_of_ble_eq_true rfl) eState_0 rfl 4 (by decide) (wM_in fl_X6_39) rfl dX6_clerkChooses_113 ?_
        refine xget hC h.o (C := RX7) (T := TX7) (N := 9) (wM_us uw_X7) 11 (Nat.le_of_ble_eq_true rfl) eState_11 rfl 7 (by decide) (wM_in fl_X6_147) rfl dX6_clerkChooses_116 ?_
        refine lv_if_eq (tgt := 131) hx hb dX6_clerkChooses_119 (by decide) (fun c8 => ?_) (fun c8 => ?_)
        · have hf := it_t c8 hf
          refine lv_iload_n hx hb dX6_clerkChooses_131 rfl (lv_at hl 0 rfl) ?_
          have hf := sm_e hf
          exact xiret hC hr hlk h (by rw [← hf]) (by rw [← hf]) dX6_clerkChooses_132
        · have hf := it_f c8 hf
          refine lv_iload_n hx hb dX6_clerkChooses_122 rfl (lv_at hl 0 rfl) ?_
          refine lv_iconst (v := (-1 : Int32)) hx hb dX6_clerkChooses_123 (by decide) ?_
          refine lv_icmp_ne (tgt := 131) hx hb dX6_clerkChooses_124 (by decide) (fun c9 => ?_) (fun c9 => ?_)
          · have hf := it_f c9 hf
            refine lv_iload_n hx hb dX6_clerkChooses_131 rfl (lv_at hl 0 rfl) ?_
            have hf := sm_e hf
            exact xiret hC hr hlk h (by rw [← hf]) (by rw [← hf]) dX6_clerkChooses_132
          · have hf := it_t c9 hf
            refine lv_aload_n hx hb dX6_clerkChooses_127 rfl (lv_at hl 1 rfl) ?_
            obtain ⟨r11, hy10, hf⟩ := ob_e hf
            refine xv0 h (va_runV (As := []) (rest := []) hC (c_X6_letGoOn l G q v hy10 H.size) (xcwV hC lk_X6_199 in_X6 co_X6_letGoOn im_X6_letGoOn se_X6_letGoOn rfl rfl dd_X6_letGoOn ⟨Nat.le_of_ble_eq_true rfl, Nat.le_of_ble_eq_true rfl⟩) (preV0 h (Nat.le_of_ble_eq_true rfl) eState_0 rfl []) rfl rfl hl.1 rfl (lv_room (Nat.le_of_ble_eq_true rfl)) dX6_clerkChooses_128 ⟨Nat.zero_le _, Nat.zero_le _⟩) (fun H locs h => ?_)
            refine lv_iload_n hx hb dX6_clerkChooses_131 rfl (lv_at hl 0 rfl) ?_
            have hf := sm_e hf
            exact xiret hC hr hlk h (by rw [← hf]) (by rw [← hf]) dX6_clerkChooses_132
      refine lv_if_eq (tgt := 110) hx hb dX6_clerkChooses_96 (by decide) (fun c12 => ?_) (fun c12 => ?_)
      · have hf := it_t c12 hf
        refine lv_iconst (v := (-1 : Int32)) hx hb dX6_clerkChooses_110 (by decide) ?_
        exact hj7 (-1 : Int32) H locs h ls (lv_sub hl [0] rfl) hf
      · have hf := it_f c12 hf
        refine lv_aload_n hx hb dX6_clerkChooses_99 rfl (lv_at hl 0 rfl) ?_
        refine lv_aload_n hx hb dX6_clerkChooses_100 rfl (lv_at hl 0 rfl) ?_
        refine xget hC h.o (C := RX6) (T := TX6) (N := 13) (wM_us uw_X6) 0 (Nat.le_of_ble_eq_true rfl) eState_0 rfl 4 (by decide) (wM_in fl_X6_39) rfl dX6_clerkChooses_101 ?_
        obtain ⟨r14, hy13, hf⟩ := ob_e hf
        refine xiG h (va_runV (As := [.ref (q 11)]) (rest := []) hC (c_X6_foremostPressing_v11 l G q v hy13 H.size) (xcwV hC lk_X6_189 in_X6 co_X6_foremostPressing im_X6_foremostPressing se_X6_foremostPressing rfl rfl dd_X6_foremostPressing ⟨Nat.le_of_ble_eq_true rfl, Nat.le_of_ble_eq_true rfl⟩) (preVO0 h.o (Nat.le_of_ble_eq_true rfl) eState_0 rfl [.ref (q 11)]) rfl rfl hl.1 rfl (lv_room (Nat.le_of_ble_eq_true rfl)) dX6_clerkChooses_104 ⟨Nat.zero_le _, Nat.zero_le _⟩) (fun H locs h => ?_)
        refine lv_goto (tgt := 111) hx hb dX6_clerkChooses_107 (by decide) ?_
        exact hj7 r14 H locs h ls (lv_sub hl [0] rfl) hf
    · have hf := it_t c5 hf
      refine lv_aload_n hx hb dX6_clerkChooses_84 rfl (lv_at hl 0 rfl) ?_
      obtain ⟨r16, hy15, hf⟩ := ob_e hf
      refine xiG h (va_runV (As := []) (rest := []) hC (c_X6_foremost l G q v hy15 H.size) (xcwV hC lk_X6_196 in_X6 co_X6_foremost im_X6_foremost se_X6_foremost rfl rfl dd_X6_foremost ⟨Nat.le_of_ble_eq_true rfl, Nat.le_of_ble_eq_true rfl⟩) (preVO0 h.o (Nat.le_of_ble_eq_true rfl) eState_0 rfl []) rfl rfl hl.1 rfl (lv_room (Nat.le_of_ble_eq_true rfl)) dX6_clerkChooses_85 ⟨Nat.zero_le _, Nat.zero_le _⟩) (fun H locs h => ?_)
      have hf := sm_e hf
      exact xiret hC hr hlk h (by rw [← hf]) (by rw [← hf]) dX6_clerkChooses_88
  · have hf := it_f c4 hf
    refine lv_aload_n hx hb dX6_clerkChooses_7 rfl (lv_at hl 0 rfl) ?_
    refine xget hC h.o (C := RX6) (T := TX6) (N := 13) (wM_us uw_X6) 0 (Nat.le_of_ble_eq_true rfl) eState_0 rfl 3 (by decide) (wM_in fl_X6_35) rfl dX6_clerkChooses_8 ?_
    refine xget hC h.o (C := RX7) (T := TX7) (N := 9) (wM_us uw_X7) 8 (Nat.le_of_ble_eq_true rfl) eState_8 rfl 0 (by decide) (wM_in fl_X6_109) rfl dX6_clerkChooses_11 ?_
    refine lv_iconst (v := (2 : Int32)) hx hb dX6_clerkChooses_14 (by decide) ?_
    obtain ⟨j18, ej18, hf⟩ := lt_e hf
    have hj18 : ∀ (t17 : Int32) (H : Heap) (locs : List Loc), hg G (eState G) 47 q v A s H locs → ∀ (ls : Array Slot), lv_has ls 3 [(0, .ref (q 0))] → j18 t17 = some z → W p l e { frames := 4, cells := 0, slots := 0, locals := 123 } s m [.ref (q 0)].toArray below meth c H locs 0 0 (MQ below ((qI z.1) (cB G (eState G) 47 q z.2 A) A) [.ref (q 0)].toArray s 0 0 A) (F0 m 44 ls [.int t17]) := by
      intro t17 H locs h ls hl hf
      rw [ej18] at hf
      refine lv_istore_n (lv' := [(1, .int t17), (0, .ref (q 0))]) hx hb dX6_clerkChooses_44 rfl hl (by decide) rfl (fun ls hl => ?_)
      refine lv_iload_n hx hb dX6_clerkChooses_45 rfl (lv_at hl 0 rfl) ?_
      obtain ⟨j20, ej20, hf⟩ := lt_e hf
      have hj20 : ∀ (t19 : Int32) (H : Heap) (locs : List Loc), hg G (eState G) 47 q v A s H locs → ∀ (ls : Array Slot), lv_has ls 3 [(0, .ref (q 0))] → j20 t19 = some z → W p l e { frames := 4, cells := 0, slots := 0, locals := 123 } s m [.ref (q 0)].toArray below meth c H locs 0 0 (MQ below ((qI z.1) (cB G (eState G) 47 q z.2 A) A) [.ref (q 0)].toArray s 0 0 A) (F0 m 61 ls [.int t19]) := by
        intro t19 H locs h ls hl hf
        rw [ej20] at hf
        refine lv_istore_n (lv' := [(2, .int t19), (0, .ref (q 0))]) hx hb dX6_clerkChooses_61 rfl hl (by decide) rfl (fun ls hl => ?_)
        refine lv_iload_n hx hb dX6_clerkChooses_62 rfl (lv_at hl 0 rfl) ?_
        refine lv_iconst (v := (-1 : Int32)) hx hb dX6_clerkChooses_63 (by decide) ?_
        refine lv_icmp_eq (tgt := 72) hx hb dX6_clerkChooses_64 (by decide) (fun c21 => ?_) (fun c21 => ?_)
        · have hf := it_t c21 hf
          refine lv_iload_n hx hb dX6_clerkChooses_72 rfl (lv_at hl 0 rfl) ?_
          have hf := sm_e hf
          exact xiret hC hr hlk h (by rw [← hf]) (by rw [← hf]) dX6_clerkChooses_73
        · have hf := it_f c21 hf
          refine lv_aload_n hx hb dX6_clerkChooses_67 rfl (lv_at hl 1 rfl) ?_
          refine lv_iconst (v := (1 : Int32)) hx hb dX6_clerkChooses_68 (by decide) ?_
          obtain ⟨r23, hy22, hf⟩ := ob_e hf
          refine xv0 h (va_runV (As := [.int (1 : Int32)]) (rest := []) hC (c_X6_setAside l G q v (1 : Int32) hy22 H.size) (xcwV hC lk_X6_192 in_X6 co_X6_setAside im_X6_setAside se_X6_setAside rfl rfl dd_X6_setAside ⟨Nat.le_of_ble_eq_true rfl, Nat.le_of_ble_eq_true rfl⟩) (preV0 h (Nat.le_of_ble_eq_true rfl) eState_0 rfl [.int (1 : Int32)]) rfl rfl hl.1 rfl (lv_room (Nat.le_of_ble_eq_true rfl)) dX6_clerkChooses_69 ⟨Nat.zero_le _, Nat.zero_le _⟩) (fun H locs h => ?_)
          refine lv_iload_n hx hb dX6_clerkChooses_72 rfl (lv_at hl 0 rfl) ?_
          have hf := sm_e hf
          exact xiret hC hr hlk h (by rw [← hf]) (by rw [← hf]) dX6_clerkChooses_73
      refine lv_if_eq (tgt := 60) hx hb dX6_clerkChooses_46 (by decide) (fun c24 => ?_) (fun c24 => ?_)
      · have hf := it_t c24 hf
        refine lv_iconst (v := (-1 : Int32)) hx hb dX6_clerkChooses_60 (by decide) ?_
        exact hj20 (-1 : Int32) H locs h ls (lv_sub hl [1] rfl) hf
      · have hf := it_f c24 hf
        refine lv_aload_n hx hb dX6_clerkChooses_49 rfl (lv_at hl 1 rfl) ?_
        refine lv_aload_n hx hb dX6_clerkChooses_50 rfl (lv_at hl 1 rfl) ?_
        refine xget hC h.o (C := RX6) (T := TX6) (N := 13) (wM_us uw_X6) 0 (Nat.le_of_ble_eq_true rfl) eState_0 rfl 3 (by decide) (wM_in fl_X6_35) rfl dX6_clerkChooses_51 ?_
        obtain ⟨r26, hy25, hf⟩ := ob_e hf
        refine xiG h (va_runV (As := [.ref (q 8)]) (rest := []) hC (c_X6_foremostPressing_v8 l G q v hy25 H.size) (xcwV hC lk_X6_189 in_X6 co_X6_foremostPressing im_X6_foremostPressing se_X6_foremostPressing rfl rfl dd_X6_foremostPressing ⟨Nat.le_of_ble_eq_true rfl, Nat.le_of_ble_eq_true rfl⟩) (preVO0 h.o (Nat.le_of_ble_eq_true rfl) eState_0 rfl [.ref (q 8)]) rfl rfl hl.1 rfl (lv_room (Nat.le_of_ble_eq_true rfl)) dX6_clerkChooses_54 ⟨Nat.zero_le _, Nat.zero_le _⟩) (fun H locs h => ?_)
        refine lv_goto (tgt := 61) hx hb dX6_clerkChooses_57 (by decide) ?_
        exact hj20 r26 H locs h ls (lv_sub hl [1] rfl) hf
    obtain ⟨j27, ej27, hf⟩ := lt_e hf
    have hj27 : ∀ (uu : Unit) (H : Heap) (locs : List Loc), hg G (eState G) 47 q v A s H locs → ∀ (ls : Array Slot), lv_has ls 3 [(0, .ref (q 0))] → j27 uu = some z → W p l e { frames := 4, cells := 0, slots := 0, locals := 123 } s m [.ref (q 0)].toArray below meth c H locs 0 0 (MQ below ((qI z.1) (cB G (eState G) 47 q z.2 A) A) [.ref (q 0)].toArray s 0 0 A) (F0 m 43 ls []) := by
      intro uu H locs h ls hl hf
      rw [ej27] at hf
      refine lv_iconst (v := (0 : Int32)) hx hb dX6_clerkChooses_43 (by decide) ?_
      exact hj18 (0 : Int32) H locs h ls (lv_sub hl [0] rfl) hf
    refine lv_icmp_ne (tgt := 43) hx hb dX6_clerkChooses_15 (by decide) (fun c28 => ?_) (fun c28 => ?_)
    · have hf := it_f c28 hf
      exact hj27 () H locs h ls (lv_sub hl [0] rfl) hf
    · have hf := it_t c28 hf
      refine lv_aload_n hx hb dX6_clerkChooses_18 rfl (lv_at hl 0 rfl) ?_
      refine xget hC h.o (C := RX6) (T := TX6) (N := 13) (wM_us uw_X6) 0 (Nat.le_of_ble_eq_true rfl) eState_0 rfl 3 (by decide) (wM_in fl_X6_35) rfl dX6_clerkChooses_19 ?_
      refine xget hC h.o (C := RX7) (T := TX7) (N := 9) (wM_us uw_X7) 8 (Nat.le_of_ble_eq_true rfl) eState_8 rfl 6 (by decide) (wM_in fl_X6_186) rfl dX6_clerkChooses_22 ?_
      refine lv_iconst (v := (-1 : Int32)) hx hb dX6_clerkChooses_25 (by decide) ?_
      refine lv_icmp_eq (tgt := 43) hx hb dX6_clerkChooses_26 (by decide) (fun c29 => ?_) (fun c29 => ?_)
      · have hf := it_t c29 hf
        exact hj27 () H locs h ls (lv_sub hl [0] rfl) hf
      · have hf := it_f c29 hf
        refine lv_aload_n hx hb dX6_clerkChooses_29 rfl (lv_at hl 0 rfl) ?_
        refine xget hC h.o (C := RX6) (T := TX6) (N := 13) (wM_us uw_X6) 0 (Nat.le_of_ble_eq_true rfl) eState_0 rfl 4 (by decide) (wM_in fl_X6_39) rfl dX6_clerkChooses_30 ?_
        refine xget hC h.o (C := RX7) (T := TX7) (N := 9) (wM_us uw_X7) 11 (Nat.le_of_ble_eq_true rfl) eState_11 rfl 0 (by decide) (wM_in fl_X6_109) rfl dX6_clerkChooses_33 ?_
        refine lv_if_ne (tgt := 43) hx hb dX6_clerkChooses_36 (by decide) (fun c30 => ?_) (fun c30 => ?_)
        · have hf := it_f c30 hf
          exact hj27 () H locs h ls (lv_sub hl [0] rfl) hf
        · have hf := it_t c30 hf
          refine lv_iconst (v := (1 : Int32)) hx hb dX6_clerkChooses_39 (by decide) ?_
          refine lv_goto (tgt := 44) hx hb dX6_clerkChooses_40 (by decide) ?_
          exact hj18 (1 : Int32) H locs h ls (lv_sub hl [0] rfl) hf
def m_X6_endWork (v : xSt) : Option xSt := lt (fun (v1 : xSt) => ob (m_X7_end (sh 8 v1)) (fun r4 => lt (pu 8 3 v1 r4) (fun v5 => some v5))) (fun j2 => (if (v 8 0) = (1 : Int32) then lt (st2 v 0 9 ((v 0 9) + (1 : Int32))) (fun v15 => j2 v15) else (if (v 8 0) = (2 : Int32) then ob (m_X6_settingOf v (2 : Int32)) (fun r11 => ob (m_X0_endErase (sh 1 v) (v 8 1) r11) (fun r13 => lt (pu 1 4 v r13) (fun v14 => j2 v14))) else lt (st2 v 5 0 (v 8 1)) (fun v8 => lt (st2 v8 5 1 (v8 8 2)) (fun v9 => j2 v9)))))
set_option maxHeartbeats 4000000 in
set_option maxRecDepth 100000 in
theorem c_X6_endWork (l : Launch) (G : xGl) (q : Nat → Nat) (v : xSt) {z : xSt} (hf : m_X6_endWork v = some z) : mRW l yX6_endWork (wM yX6_endWork cX6_endWork 1 none) { frames := 2, cells := 0, slots := 0, locals := 48 } G (eState G) 47 q v [.ref (q 0)] qV z := by
  refine xRW (cc := cX6_endWork) (maxL := 1) (ret := none) (by decide) rfl (Nat.le_of_ble_eq_true rfl) ?_
  intro p e s m below meth c ls A hC hr hlk h hl
  have hx := hC.1
  have hb := hC.2.1
  have hl : lv_has ls 1 [(0, .ref (q 0))] := hl
  unfold m_X6_endWork at hf
  obtain ⟨H, hH⟩ : ∃ H, H = s.heap := ⟨_, rfl⟩
  obtain ⟨locs, hlo⟩ : ∃ x : List Loc, x = [] := ⟨_, rfl⟩
  have h : hg G (eState G) 47 q v A s H locs := by rw [hH, hlo]; exact h
  rw [← hlo, ← hH]
  clear hH hlo
  refine lv_aload_n hx hb dX6_endWork_0 rfl (lv_at hl 0 rfl) ?_
  refine xget hC h.o (C := RX6) (T := TX6) (N := 13) (wM_us uw_X6) 0 (Nat.le_of_ble_eq_true rfl) eState_0 rfl 3 (by decide) (wM_in fl_X6_35) rfl dX6_endWork_1 ?_
  refine xget hC h.o (C := RX7) (T := TX7) (N := 9) (wM_us uw_X7) 8 (Nat.le_of_ble_eq_true rfl) eState_8 rfl 0 (by decide) (wM_in fl_X6_109) rfl dX6_endWork_4 ?_
  refine lv_iconst (v := (1 : Int32)) hx hb dX6_endWork_7 (by decide) ?_
  obtain ⟨j2, ej2, hf⟩ := lt_e hf
  have hj2 : ∀ (v1 : xSt) (H : Heap) (locs : List Loc), hg G (eState G) 47 q v1 A s H locs → ∀ (ls : Array Slot), lv_has ls 1 [(0, .ref (q 0))] → j2 v1 = some z → W p l e { frames := 2, cells := 0, slots := 0, locals := 48 } s m [.ref (q 0)].toArray below meth c H locs 0 0 (MQ below (qV (cB G (eState G) 47 q z A) A) [.ref (q 0)].toArray s 0 0 A) (F0 m 85 ls []) := by
    intro v1 H locs h ls hl hf
    rw [ej2] at hf
    refine lv_aload_n hx hb dX6_endWork_85 rfl (lv_at hl 0 rfl) ?_
    refine xget hC h.o (C := RX6) (T := TX6) (N := 13) (wM_us uw_X6) 0 (Nat.le_of_ble_eq_true rfl) eState_0 rfl 3 (by decide) (wM_in fl_X6_35) rfl dX6_endWork_86 ?_
    obtain ⟨r4, hy3, hf⟩ := ob_e hf
    refine xv1 h 8 3 sState_8 (Nat.le_of_ble_eq_true rfl) (va_runV (As := []) (rest := []) hC (c_X7_end l G (sh 8 q) (sh 8 v1) hy3 H.size) (xcwV hC lk_X6_150 in_X7 co_X7_end im_X7_end se_X7_end rfl rfl dd_X7_end ⟨Nat.le_of_ble_eq_true rfl, Nat.le_of_ble_eq_true rfl⟩) (preV1 h 8 3 sState_8 (Nat.le_of_ble_eq_true rfl) (Nat.le_of_ble_eq_true rfl) eState_8 rfl []) rfl rfl hl.1 rfl (lv_room (Nat.le_of_ble_eq_true rfl)) dX6_endWork_89 ⟨Nat.zero_le _, Nat.zero_le _⟩) (fun H locs h => ?_)
    obtain ⟨v5, ev5, hf⟩ := lt_e hf
    rw [← ev5] at h
    have hf := sm_e hf
    exact xvret hC hr hlk h hf dX6_endWork_92
  refine lv_icmp_ne (tgt := 24) hx hb dX6_endWork_8 (by decide) (fun c6 => ?_) (fun c6 => ?_)
  · have hf := it_f c6 hf
    refine lv_aload_n hx hb dX6_endWork_24 rfl (lv_at hl 0 rfl) ?_
    refine xget hC h.o (C := RX6) (T := TX6) (N := 13) (wM_us uw_X6) 0 (Nat.le_of_ble_eq_true rfl) eState_0 rfl 3 (by decide) (wM_in fl_X6_35) rfl dX6_endWork_25 ?_
    refine xget hC h.o (C := RX7) (T := TX7) (N := 9) (wM_us uw_X7) 8 (Nat.le_of_ble_eq_true rfl) eState_8 rfl 0 (by decide) (wM_in fl_X6_109) rfl dX6_endWork_28 ?_
    refine lv_iconst (v := (2 : Int32)) hx hb dX6_endWork_31 (by decide) ?_
    refine lv_icmp_ne (tgt := 57) hx hb dX6_endWork_32 (by decide) (fun c7 => ?_) (fun c7 => ?_)
    · have hf := it_f c7 hf
      refine lv_aload_n hx hb dX6_endWork_57 rfl (lv_at hl 0 rfl) ?_
      refine xget hC h.o (C := RX6) (T := TX6) (N := 13) (wM_us uw_X6) 0 (Nat.le_of_ble_eq_true rfl) eState_0 rfl 1 (by decide) (wM_in fl_X6_21) rfl dX6_endWork_58 ?_
      refine lv_aload_n hx hb dX6_endWork_61 rfl (lv_at hl 0 rfl) ?_
      refine xget hC h.o (C := RX6) (T := TX6) (N := 13) (wM_us uw_X6) 0 (Nat.le_of_ble_eq_true rfl) eState_0 rfl 3 (by decide) (wM_in fl_X6_35) rfl dX6_endWork_62 ?_
      refine xget hC h.o (C := RX7) (T := TX7) (N := 9) (wM_us uw_X7) 8 (Nat.le_of_ble_eq_true rfl) eState_8 rfl 1 (by decide) (wM_in fl_X6_144) rfl dX6_endWork_65 ?_
      refine xput hC h (C := RX2) (T := TX2) (N := 3) (wM_us uw_X2) tyX2_ok nmX2 5 (Nat.le_of_ble_eq_true rfl) eState_5 rfl 0 (by decide) (wM_in fl_X6_250) rfl (ty := .int) (tyX2_ok 0 (by decide)) rfl rfl (Nat.le_of_ble_eq_true rfl) (eState_5.trans rfl) dX6_endWork_68 (fun H locs h => ?_)
      obtain ⟨v8, ev8, hf⟩ := lt_e hf
      rw [← ev8] at h
      refine lv_aload_n hx hb dX6_endWork_71 rfl (lv_at hl 0 rfl) ?_
      refine xget hC h.o (C := RX6) (T := TX6) (N := 13) (wM_us uw_X6) 0 (Nat.le_of_ble_eq_true rfl) eState_0 rfl 1 (by decide) (wM_in fl_X6_21) rfl dX6_endWork_72 ?_
      refine lv_aload_n hx hb dX6_endWork_75 rfl (lv_at hl 0 rfl) ?_
      refine xget hC h.o (C := RX6) (T := TX6) (N := 13) (wM_us uw_X6) 0 (Nat.le_of_ble_eq_true rfl) eState_0 rfl 3 (by decide) (wM_in fl_X6_35) rfl dX6_endWork_76 ?_
      refine xget hC h.o (C := RX7) (T := TX7) (N := 9) (wM_us uw_X7) 8 (Nat.le_of_ble_eq_true rfl) eState_8 rfl 2 (by decide) (wM_in fl_X6_253) rfl dX6_endWork_79 ?_
      refine xput hC h (C := RX2) (T := TX2) (N := 3) (wM_us uw_X2) tyX2_ok nmX2 5 (Nat.le_of_ble_eq_true rfl) eState_5 rfl 1 (by decide) (wM_in fl_X6_256) rfl (ty := .int) (tyX2_ok 1 (by decide)) rfl rfl (Nat.le_of_ble_eq_true rfl) (eState_5.trans rfl) dX6_endWork_82 (fun H locs h => ?_)
      obtain ⟨v9, ev9, hf⟩ := lt_e hf
      rw [← ev9] at h
      exact hj2 v9 H locs h ls (lv_sub hl [0] rfl) hf
    · have hf := it_t c7 hf
      refine lv_aload_n hx hb dX6_endWork_35 rfl (lv_at hl 0 rfl) ?_
      refine xget hC h.o (C := RX6) (T := TX6) (N := 13) (wM_us uw_X6) 0 (Nat.le_of_ble_eq_true rfl) eState_0 rfl 0 (by decide) (wM_in fl_X6_12) rfl dX6_endWork_36 ?_
      refine lv_aload_n hx hb dX6_endWork_39 rfl (lv_at hl 0 rfl) ?_
      refine xget hC h.o (C := RX6) (T := TX6) (N := 13) (wM_us uw_X6) 0 (Nat.le_of_ble_eq_true rfl) eState_0 rfl 3 (by decide) (wM_in fl_X6_35) rfl dX6_endWork_40 ?_
      refine xget hC h.o (C := RX7) (T := TX7) (N := 9) (wM_us uw_X7) 8 (Nat.le_of_ble_eq_true rfl) eState_8 rfl 1 (by decide) (wM_in fl_X6_144) rfl dX6_endWork_43 ?_
      refine lv_aload_n hx hb dX6_endWork_46 rfl (lv_at hl 0 rfl) ?_
      refine lv_iconst (v := (2 : Int32)) hx hb dX6_endWork_47 (by decide) ?_
      obtain ⟨r11, hy10, hf⟩ := ob_e hf
      refine xiG h (va_runV (As := [.int (2 : Int32)]) (rest := [.int (v 8 1), .ref (q 1)]) hC (c_X6_settingOf l G q v (2 : Int32) hy10 H.size) (xcwV hC lk_X6_116 in_X6 co_X6_settingOf im_X6_settingOf se_X6_settingOf rfl rfl dd_X6_settingOf ⟨Nat.le_of_ble_eq_true rfl, Nat.le_of_ble_eq_true rfl⟩) (preVO0 h.o (Nat.le_of_ble_eq_true rfl) eState_0 rfl [.int (2 : Int32)]) rfl rfl hl.1 rfl (lv_room (Nat.le_of_ble_eq_true rfl)) dX6_endWork_48 ⟨Nat.zero_le _, Nat.zero_le _⟩) (fun H locs h => ?_)
      obtain ⟨r13, hy12, hf⟩ := ob_e hf
      refine xv1 h 1 4 sState_1 (Nat.le_of_ble_eq_true rfl) (va_runV (As := [.int (v 8 1), .int r11]) (rest := []) hC (c_X0_endErase l G (sh 1 q) (sh 1 v) (v 8 1) r11 hy12 H.size) (xcwV hC lk_X6_246 in_X0 co_X0_endErase im_X0_endErase se_X0_endErase rfl rfl dd_X0_endErase ⟨Nat.le_of_ble_eq_true rfl, Nat.le_of_ble_eq_true rfl⟩) (preV1 h 1 4 sState_1 (Nat.le_of_ble_eq_true rfl) (Nat.le_of_ble_eq_true rfl) eState_1 rfl [.int (v 8 1), .int r11]) rfl rfl hl.1 rfl (lv_room (Nat.le_of_ble_eq_true rfl)) dX6_endWork_51 ⟨Nat.zero_le _, Nat.zero_le _⟩) (fun H locs h => ?_)
      obtain ⟨v14, ev14, hf⟩ := lt_e hf
      rw [← ev14] at h
      refine lv_goto (tgt := 85) hx hb dX6_endWork_54 (by decide) ?_
      exact hj2 v14 H locs h ls (lv_sub hl [0] rfl) hf
  · have hf := it_t c6 hf
    refine lv_aload_n hx hb dX6_endWork_11 rfl (lv_at hl 0 rfl) ?_
    refine lv_dup hx hb dX6_endWork_12 rfl ?_
    refine xget hC h.o (C := RX6) (T := TX6) (N := 13) (wM_us uw_X6) 0 (Nat.le_of_ble_eq_true rfl) eState_0 rfl 9 (by decide) (wM_in fl_X6_69) rfl dX6_endWork_13 ?_
    refine lv_iconst (v := (1 : Int32)) hx hb dX6_endWork_16 (by decide) ?_
    refine lv_iadd hx hb dX6_endWork_17 ?_
    refine xput hC h (C := RX6) (T := TX6) (N := 13) (wM_us uw_X6) tyX6_ok nmX6 0 (Nat.le_of_ble_eq_true rfl) eState_0 rfl 9 (by decide) (wM_in fl_X6_69) rfl (ty := .int) (tyX6_ok 9 (by decide)) rfl rfl (Nat.le_of_ble_eq_true rfl) (eState_0.trans rfl) dX6_endWork_18 (fun H locs h => ?_)
    obtain ⟨v15, ev15, hf⟩ := lt_e hf
    rw [← ev15] at h
    refine lv_goto (tgt := 85) hx hb dX6_endWork_21 (by decide) ?_
    exact hj2 v15 H locs h ls (lv_sub hl [0] rfl) hf
def m_X6_goOnWriting (v : xSt) : Option xSt := (if (v 8 3) ≤ 0 then some v else ck (¬ (v 8 3) = 0) ((if ((v 8 5) - (v 8 5) / (v 8 3) * (v 8 3)) = 0 then ck (¬ (v 8 3) = 0) (ob (m_X4_valueFor (sh 9 v) (((v 8 5) / (v 8 3)) - (1 : Int32))) (fun r6 => ob (m_X0_fall (sh 1 v) (xrp (v 8 1) (((v 8 5) / (v 8 3)) - (1 : Int32))) r6) (fun r8 => lt (pu 1 4 v r8.2) (fun v9 => lt (st2 v9 0 10 ((v 0 10) + r8.1)) (fun v10 => some v10))))) else some v)))
set_option maxHeartbeats 4000000 in
set_option maxRecDepth 100000 in
theorem c_X6_goOnWriting (l : Launch) (G : xGl) (q : Nat → Nat) (v : xSt) {z : xSt} (hf : m_X6_goOnWriting v = some z) : mRW l yX6_goOnWriting (wM yX6_goOnWriting cX6_goOnWriting 3 none) { frames := 2, cells := 0, slots := 0, locals := 46 } G (eState G) 47 q v [.ref (q 0)] qV z := by
  refine xRW (cc := cX6_goOnWriting) (maxL := 3) (ret := none) (by decide) rfl (Nat.le_of_ble_eq_true rfl) ?_
  intro p e s m below meth c ls A hC hr hlk h hl
  have hx := hC.1
  have hb := hC.2.1
  have hl : lv_has ls 3 [(0, .ref (q 0))] := hl
  unfold m_X6_goOnWriting at hf
  obtain ⟨H, hH⟩ : ∃ H, H = s.heap := ⟨_, rfl⟩
  obtain ⟨locs, hlo⟩ : ∃ x : List Loc, x = [] := ⟨_, rfl⟩
  have h : hg G (eState G) 47 q v A s H locs := by rw [hH, hlo]; exact h
  rw [← hlo, ← hH]
  clear hH hlo
  refine lv_aload_n hx hb dX6_goOnWriting_0 rfl (lv_at hl 0 rfl) ?_
  refine xget hC h.o (C := RX6) (T := TX6) (N := 13) (wM_us uw_X6) 0 (Nat.le_of_ble_eq_true rfl) eState_0 rfl 3 (by decide) (wM_in fl_X6_35) rfl dX6_goOnWriting_1 ?_
  refine xget hC h.o (C := RX7) (T := TX7) (N := 9) (wM_us uw_X7) 8 (Nat.le_of_ble_eq_true rfl) eState_8 rfl 3 (by decide) (wM_in fl_X6_233) rfl dX6_goOnWriting_4 ?_
  refine lv_istore_n (lv' := [(1, .int (v 8 3)), (0, .ref (q 0))]) hx hb dX6_goOnWriting_7 rfl hl (by decide) rfl (fun ls hl => ?_)
  refine lv_iload_n hx hb dX6_goOnWriting_8 rfl (lv_at hl 0 rfl) ?_
  refine lv_if_le (tgt := 74) hx hb dX6_goOnWriting_9 (by decide) (fun c1 => ?_) (fun c1 => ?_)
  · have hf := it_t c1 hf
    have hf := sm_e hf
    exact xvret hC hr hlk h hf dX6_goOnWriting_74
  · have hf := it_f c1 hf
    refine lv_aload_n hx hb dX6_goOnWriting_12 rfl (lv_at hl 1 rfl) ?_
    refine xget hC h.o (C := RX6) (T := TX6) (N := 13) (wM_us uw_X6) 0 (Nat.le_of_ble_eq_true rfl) eState_0 rfl 3 (by decide) (wM_in fl_X6_35) rfl dX6_goOnWriting_13 ?_
    refine xget hC h.o (C := RX7) (T := TX7) (N := 9) (wM_us uw_X7) 8 (Nat.le_of_ble_eq_true rfl) eState_8 rfl 5 (by decide) (wM_in fl_X6_171) rfl dX6_goOnWriting_16 ?_
    refine lv_iload_n hx hb dX6_goOnWriting_19 rfl (lv_at hl 0 rfl) ?_
    obtain ⟨hn2, hf⟩ := ck_e hf
    refine lv_irem hx hb dX6_goOnWriting_20 hn2 ?_
    refine lv_if_ne (tgt := 74) hx hb dX6_goOnWriting_21 (by decide) (fun c3 => ?_) (fun c3 => ?_)
    · have hf := it_f c3 hf
      have hf := sm_e hf
      exact xvret hC hr hlk h hf dX6_goOnWriting_74
    · have hf := it_t c3 hf
      refine lv_aload_n hx hb dX6_goOnWriting_24 rfl (lv_at hl 1 rfl) ?_
      refine xget hC h.o (C := RX6) (T := TX6) (N := 13) (wM_us uw_X6) 0 (Nat.le_of_ble_eq_true rfl) eState_0 rfl 3 (by decide) (wM_in fl_X6_35) rfl dX6_goOnWriting_25 ?_
      refine xget hC h.o (C := RX7) (T := TX7) (N := 9) (wM_us uw_X7) 8 (Nat.le_of_ble_eq_true rfl) eState_8 rfl 5 (by decide) (wM_in fl_X6_171) rfl dX6_goOnWriting_28 ?_
      refine lv_iload_n hx hb dX6_goOnWriting_31 rfl (lv_at hl 0 rfl) ?_
      obtain ⟨hn4, hf⟩ := ck_e hf
      refine lv_idiv hx hb dX6_goOnWriting_32 hn4 ?_
      refine lv_iconst (v := (1 : Int32)) hx hb dX6_goOnWriting_33 (by decide) ?_
      refine lv_isub hx hb dX6_goOnWriting_34 ?_
      refine lv_istore_n (lv' := [(2, .int (((v 8 5) / (v 8 3)) - (1 : Int32))), (1, .int (v 8 3)), (0, .ref (q 0))]) hx hb dX6_goOnWriting_35 rfl hl (by decide) rfl (fun ls hl => ?_)
      refine lv_aload_n hx hb dX6_goOnWriting_36 rfl (lv_at hl 2 rfl) ?_
      refine lv_dup hx hb dX6_goOnWriting_37 rfl ?_
      refine xget hC h.o (C := RX6) (T := TX6) (N := 13) (wM_us uw_X6) 0 (Nat.le_of_ble_eq_true rfl) eState_0 rfl 10 (by decide) (wM_in fl_X6_72) rfl dX6_goOnWriting_38 ?_
      refine lv_aload_n hx hb dX6_goOnWriting_41 rfl (lv_at hl 2 rfl) ?_
      refine xget hC h.o (C := RX6) (T := TX6) (N := 13) (wM_us uw_X6) 0 (Nat.le_of_ble_eq_true rfl) eState_0 rfl 0 (by decide) (wM_in fl_X6_12) rfl dX6_goOnWriting_42 ?_
      refine lv_aload_n hx hb dX6_goOnWriting_45 rfl (lv_at hl 2 rfl) ?_
      refine xget hC h.o (C := RX6) (T := TX6) (N := 13) (wM_us uw_X6) 0 (Nat.le_of_ble_eq_true rfl) eState_0 rfl 3 (by decide) (wM_in fl_X6_35) rfl dX6_goOnWriting_46 ?_
      refine xget hC h.o (C := RX7) (T := TX7) (N := 9) (wM_us uw_X7) 8 (Nat.le_of_ble_eq_true rfl) eState_8 rfl 1 (by decide) (wM_in fl_X6_144) rfl dX6_goOnWriting_49 ?_
      refine lv_iload_n hx hb dX6_goOnWriting_52 rfl (lv_at hl 0 rfl) ?_
      refine xiG h (va_runSN (As := [.int (v 8 1), .int (((v 8 5) / (v 8 3)) - (1 : Int32))]) (rest := [.ref (q 1), .int (v 0 10), .ref (q 0)]) hC (k_X8_roundPage l G q v (v 8 1) (((v 8 5) / (v 8 3)) - (1 : Int32)) H.size) (xcwN hC (h.o.2.2.2.1 _ nw_X6_236) in_X8 co_X8_roundPage st_X8_roundPage rfl rfl dd_X8_roundPage ⟨Nat.le_of_ble_eq_true rfl, Nat.le_of_ble_eq_true rfl⟩) (preSN h.o [.int (v 8 1), .int (((v 8 5) / (v 8 3)) - (1 : Int32))]) rfl rfl hl.1 rfl (lv_room (Nat.le_of_ble_eq_true rfl)) dX6_goOnWriting_53 ⟨Nat.zero_le _, Nat.zero_le _⟩) (fun H locs h => ?_)
      refine lv_aload_n hx hb dX6_goOnWriting_56 rfl (lv_at hl 2 rfl) ?_
      refine xget hC h.o (C := RX6) (T := TX6) (N := 13) (wM_us uw_X6) 0 (Nat.le_of_ble_eq_true rfl) eState_0 rfl 3 (by decide) (wM_in fl_X6_35) rfl dX6_goOnWriting_57 ?_
      refine xget hC h.o (C := RX7) (T := TX7) (N := 9) (wM_us uw_X7) 8 (Nat.le_of_ble_eq_true rfl) eState_8 rfl 8 (by decide) (wM_in fl_X6_239) rfl dX6_goOnWriting_60 ?_
      refine lv_iload_n hx hb dX6_goOnWriting_63 rfl (lv_at hl 0 rfl) ?_
      obtain ⟨r6, hy5, hf⟩ := ob_e hf
      refine xiG h (va_runV (As := [.int (((v 8 5) / (v 8 3)) - (1 : Int32))]) (rest := [.int (xrp (v 8 1) (((v 8 5) / (v 8 3)) - (1 : Int32))), .ref (q 1), .int (v 0 10), .ref (q 0)]) hC (c_X4_valueFor l G (sh 9 q) (sh 9 v) (((v 8 5) / (v 8 3)) - (1 : Int32)) hy5 H.size) (xcwV hC lk_X6_240 in_X4 co_X4_valueFor im_X4_valueFor se_X4_valueFor rfl rfl dd_X4_valueFor ⟨Nat.le_of_ble_eq_true rfl, Nat.le_of_ble_eq_true rfl⟩) (preVO h.o 9 2 sState_9 (Nat.le_of_ble_eq_true rfl) (Nat.le_of_ble_eq_true rfl) eState_9 rfl [.int (((v 8 5) / (v 8 3)) - (1 : Int32))]) rfl rfl hl.1 rfl (lv_room (Nat.le_of_ble_eq_true rfl)) dX6_goOnWriting_64 ⟨Nat.zero_le _, Nat.zero_le _⟩) (fun H locs h => ?_)
      obtain ⟨r8, hy7, hf⟩ := ob_e hf
      refine xi1 h 1 4 sState_1 (Nat.le_of_ble_eq_true rfl) (va_runV (As := [.int (xrp (v 8 1) (((v 8 5) / (v 8 3)) - (1 : Int32))), .int r6]) (rest := [.int (v 0 10), .ref (q 0)]) hC (c_X0_fall l G (sh 1 q) (sh 1 v) (xrp (v 8 1) (((v 8 5) / (v 8 3)) - (1 : Int32))) r6 hy7 H.size) (xcwV hC lk_X6_243 in_X0 co_X0_fall im_X0_fall se_X0_fall rfl rfl dd_X0_fall ⟨Nat.le_of_ble_eq_true rfl, Nat.le_of_ble_eq_true rfl⟩) (preV1 h 1 4 sState_1 (Nat.le_of_ble_eq_true rfl) (Nat.le_of_ble_eq_true rfl) eState_1 rfl [.int (xrp (v 8 1) (((v 8 5) / (v 8 3)) - (1 : Int32))), .int r6]) rfl rfl hl.1 rfl (lv_room (Nat.le_of_ble_eq_true rfl)) dX6_goOnWriting_67 ⟨Nat.zero_le _, Nat.zero_le _⟩) (fun H locs h => ?_)
      obtain ⟨v9, ev9, hf⟩ := lt_e hf
      rw [← ev9] at h
      refine lv_iadd hx hb dX6_goOnWriting_70 ?_
      refine xput hC h (C := RX6) (T := TX6) (N := 13) (wM_us uw_X6) tyX6_ok nmX6 0 (Nat.le_of_ble_eq_true rfl) eState_0 rfl 10 (by decide) (wM_in fl_X6_72) rfl (ty := .int) (tyX6_ok 10 (by decide)) rfl rfl (Nat.le_of_ble_eq_true rfl) (eState_0.trans rfl) dX6_goOnWriting_71 (fun H locs h => ?_)
      obtain ⟨v10, ev10, hf⟩ := lt_e hf
      rw [← ev10] at h
      have hf := sm_e hf
      exact xvret hC hr hlk h hf dX6_goOnWriting_74
def m_X6_tick (v : xSt) : Option (Int32 × xSt) := ob (m_X6_clerkChooses v) (fun r2 => lt (r2.2) (fun v3 => lt (fun (v4 : xSt) => lt (st2 v4 0 8 ((v4 0 8) + (1 : Int32))) (fun v6 => ob (m_X6_isBusy v6) (fun r8 => (if r8 = 0 then some ((0 : Int32), v6) else lt (st2 v6 8 5 ((v6 8 5) + (1 : Int32))) (fun v11 => lt (fun (v12 : xSt) => ob (m_X7_left (sh 8 v12)) (fun r15 => (if 0 < r15 then some ((1 : Int32), v12) else ob (m_X6_endWork v12) (fun r18 => some ((1 : Int32), r18))))) (fun j13 => (if (v11 8 0) = (1 : Int32) then ob (m_X6_goOnWriting v11) (fun r27 => j13 r27) else (if (v11 8 0) = (2 : Int32) then (if (4 : Int32) < (v11 8 5) then j13 v11 else ob (m_X0_fallWholly (sh 1 v11) ((((v11 8 1) * (4 : Int32)) + (v11 8 5)) - (1 : Int32))) (fun r23 => lt (pu 1 4 v11 r23.2) (fun v24 => lt (st2 v24 0 10 ((v11 0 10) + r23.1)) (fun v25 => j13 v25)))) else j13 v11)))))))) (fun j5 => (if r2.1 = (-1 : Int32) then j5 v3 else ob (m_X6_beginOrder v3 r2.1) (fun r30 => j5 r30)))))
set_option maxHeartbeats 4000000 in
set_option maxRecDepth 100000 in
theorem c_X6_tick (l : Launch) (G : xGl) (q : Nat → Nat) (v : xSt) {z : (Int32 × xSt)} (hf : m_X6_tick v = some z) : mRW l yX6_tick (wM yX6_tick cX6_tick 2 (some .boolean)) { frames := 5, cells := 0, slots := 0, locals := 145 } G (eState G) 47 q v [.ref (q 0)] (qZ z.1) z.2 := by
  refine xRW (cc := cX6_tick) (maxL := 2) (ret := (some .boolean)) (by decide) rfl (Nat.le_of_ble_eq_true rfl) ?_
  intro p e s m below meth c ls A hC hr hlk h hl
  have hx := hC.1
  have hb := hC.2.1
  have hl : lv_has ls 2 [(0, .ref (q 0))] := hl
  unfold m_X6_tick at hf
  obtain ⟨H, hH⟩ : ∃ H, H = s.heap := ⟨_, rfl⟩
  obtain ⟨locs, hlo⟩ : ∃ x : List Loc, x = [] := ⟨_, rfl⟩
  have h : hg G (eState G) 47 q v A s H locs := by rw [hH, hlo]; exact h
  rw [← hlo, ← hH]
  clear hH hlo
  refine lv_aload_n hx hb dX6_tick_0 rfl (lv_at hl 0 rfl) ?_
  obtain ⟨r2, hy1, hf⟩ := ob_e hf
  refine xi0 h (va_runV (As := []) (rest := []) hC (c_X6_clerkChooses l G q v hy1 H.size) (xcwV hC lk_X6_164 in_X6 co_X6_clerkChooses im_X6_clerkChooses se_X6_clerkChooses rfl rfl dd_X6_clerkChooses ⟨Nat.le_of_ble_eq_true rfl, Nat.le_of_ble_eq_true rfl⟩) (preV0 h (Nat.le_of_ble_eq_true rfl) eState_0 rfl []) rfl rfl hl.1 rfl (lv_room (Nat.le_of_ble_eq_true rfl)) dX6_tick_1 ⟨Nat.zero_le _, Nat.zero_le _⟩) (fun H locs h => ?_)
  obtain ⟨v3, ev3, hf⟩ := lt_e hf
  rw [← ev3] at h
  refine lv_istore_n (lv' := [(1, .int r2.1), (0, .ref (q 0))]) hx hb dX6_tick_4 rfl hl (by decide) rfl (fun ls hl => ?_)
  refine lv_iload_n hx hb dX6_tick_5 rfl (lv_at hl 0 rfl) ?_
  refine lv_iconst (v := (-1 : Int32)) hx hb dX6_tick_6 (by decide) ?_
  obtain ⟨j5, ej5, hf⟩ := lt_e hf
  have hj5 : ∀ (v4 : xSt) (H : Heap) (locs : List Loc), hg G (eState G) 47 q v4 A s H locs → ∀ (ls : Array Slot), lv_has ls 2 [(0, .ref (q 0))] → j5 v4 = some z → W p l e { frames := 5, cells := 0, slots := 0, locals := 145 } s m [.ref (q 0)].toArray below meth c H locs 0 0 (MQ below ((qZ z.1) (cB G (eState G) 47 q z.2 A) A) [.ref (q 0)].toArray s 0 0 A) (F0 m 15 ls []) := by
    intro v4 H locs h ls hl hf
    rw [ej5] at hf
    refine lv_aload_n hx hb dX6_tick_15 rfl (lv_at hl 0 rfl) ?_
    refine lv_dup hx hb dX6_tick_16 rfl ?_
    refine xget hC h.o (C := RX6) (T := TX6) (N := 13) (wM_us uw_X6) 0 (Nat.le_of_ble_eq_true rfl) eState_0 rfl 8 (by decide) (wM_in fl_X6_65) rfl dX6_tick_17 ?_
    refine lv_iconst (v := (1 : Int32)) hx hb dX6_tick_20 (by decide) ?_
    refine lv_iadd hx hb dX6_tick_21 ?_
    refine xput hC h (C := RX6) (T := TX6) (N := 13) (wM_us uw_X6) tyX6_ok nmX6 0 (Nat.le_of_ble_eq_true rfl) eState_0 rfl 8 (by decide) (wM_in fl_X6_65) rfl (ty := .int) (tyX6_ok 8 (by decide)) rfl rfl (Nat.le_of_ble_eq_true rfl) (eState_0.trans rfl) dX6_tick_22 (fun H locs h => ?_)
    obtain ⟨v6, ev6, hf⟩ := lt_e hf
    rw [← ev6] at h
    refine lv_aload_n hx hb dX6_tick_25 rfl (lv_at hl 0 rfl) ?_
    obtain ⟨r8, hy7, hf⟩ := ob_e hf
    refine xzG h (va_runV (As := []) (rest := []) hC (c_X6_isBusy l G q v6 hy7 H.size) (xcwV hC lk_X6_123 in_X6 co_X6_isBusy im_X6_isBusy se_X6_isBusy rfl rfl dd_X6_isBusy ⟨Nat.le_of_ble_eq_true rfl, Nat.le_of_ble_eq_true rfl⟩) (preVO0 h.o (Nat.le_of_ble_eq_true rfl) eState_0 rfl []) rfl rfl hl.1 rfl (lv_room (Nat.le_of_ble_eq_true rfl)) dX6_tick_26 ⟨Nat.zero_le _, Nat.zero_le _⟩) (fun H locs hz9 h => ?_)
    refine lv_if_ne (tgt := 34) hx hb dX6_tick_29 (by decide) (fun c10 => ?_) (fun c10 => ?_)
    · have hf := it_f c10 hf
      refine lv_aload_n hx hb dX6_tick_34 rfl (lv_at hl 0 rfl) ?_
      refine xget hC h.o (C := RX6) (T := TX6) (N := 13) (wM_us uw_X6) 0 (Nat.le_of_ble_eq_true rfl) eState_0 rfl 3 (by decide) (wM_in fl_X6_35) rfl dX6_tick_35 ?_
      refine lv_dup hx hb dX6_tick_38 rfl ?_
      refine xget hC h.o (C := RX7) (T := TX7) (N := 9) (wM_us uw_X7) 8 (Nat.le_of_ble_eq_true rfl) eState_8 rfl 5 (by decide) (wM_in fl_X6_171) rfl dX6_tick_39 ?_
      refine lv_iconst (v := (1 : Int32)) hx hb dX6_tick_42 (by decide) ?_
      refine lv_iadd hx hb dX6_tick_43 ?_
      refine xput hC h (C := RX7) (T := TX7) (N := 9) (wM_us uw_X7) tyX7_ok nmX7 8 (Nat.le_of_ble_eq_true rfl) eState_8 rfl 5 (by decide) (wM_in fl_X6_171) rfl (ty := .int) (tyX7_ok 5 (by decide)) rfl rfl (Nat.le_of_ble_eq_true rfl) (eState_8.trans rfl) dX6_tick_44 (fun H locs h => ?_)
      obtain ⟨v11, ev11, hf⟩ := lt_e hf
      rw [← ev11] at h
      refine lv_aload_n hx hb dX6_tick_47 rfl (lv_at hl 0 rfl) ?_
      refine xget hC h.o (C := RX6) (T := TX6) (N := 13) (wM_us uw_X6) 0 (Nat.le_of_ble_eq_true rfl) eState_0 rfl 3 (by decide) (wM_in fl_X6_35) rfl dX6_tick_48 ?_
      refine xget hC h.o (C := RX7) (T := TX7) (N := 9) (wM_us uw_X7) 8 (Nat.le_of_ble_eq_true rfl) eState_8 rfl 0 (by decide) (wM_in fl_X6_109) rfl dX6_tick_51 ?_
      refine lv_iconst (v := (1 : Int32)) hx hb dX6_tick_54 (by decide) ?_
      obtain ⟨j13, ej13, hf⟩ := lt_e hf
      have hj13 : ∀ (v12 : xSt) (H : Heap) (locs : List Loc), hg G (eState G) 47 q v12 A s H locs → ∀ (ls : Array Slot), lv_has ls 2 [(0, .ref (q 0))] → j13 v12 = some z → W p l e { frames := 5, cells := 0, slots := 0, locals := 145 } s m [.ref (q 0)].toArray below meth c H locs 0 0 (MQ below ((qZ z.1) (cB G (eState G) 47 q z.2 A) A) [.ref (q 0)].toArray s 0 0 A) (F0 m 122 ls []) := by
        intro v12 H locs h ls hl hf
        rw [ej13] at hf
        refine lv_aload_n hx hb dX6_tick_122 rfl (lv_at hl 0 rfl) ?_
        refine xget hC h.o (C := RX6) (T := TX6) (N := 13) (wM_us uw_X6) 0 (Nat.le_of_ble_eq_true rfl) eState_0 rfl 3 (by decide) (wM_in fl_X6_35) rfl dX6_tick_123 ?_
        obtain ⟨r15, hy14, hf⟩ := ob_e hf
        refine xiG h (va_runV (As := []) (rest := []) hC (c_X7_left l G (sh 8 q) (sh 8 v12) hy14 H.size) (xcwV hC lk_X6_180 in_X7 co_X7_left im_X7_left se_X7_left rfl rfl dd_X7_left ⟨Nat.le_of_ble_eq_true rfl, Nat.le_of_ble_eq_true rfl⟩) (preVO h.o 8 3 sState_8 (Nat.le_of_ble_eq_true rfl) (Nat.le_of_ble_eq_true rfl) eState_8 rfl []) rfl rfl hl.1 rfl (lv_room (Nat.le_of_ble_eq_true rfl)) dX6_tick_126 ⟨Nat.zero_le _, Nat.zero_le _⟩) (fun H locs h => ?_)
        refine lv_if_gt (tgt := 136) hx hb dX6_tick_129 (by decide) (fun c16 => ?_) (fun c16 => ?_)
        · have hf := it_t c16 hf
          refine lv_iconst (v := (1 : Int32)) hx hb dX6_tick_136 (by decide) ?_
          have hf := sm_e hf
          exact xzret hC hr hlk h (by rw [← hf]) (by decide) (by rw [← hf]) dX6_tick_137
        · have hf := it_f c16 hf
          refine lv_aload_n hx hb dX6_tick_132 rfl (lv_at hl 0 rfl) ?_
          obtain ⟨r18, hy17, hf⟩ := ob_e hf
          refine xv0 h (va_runV (As := []) (rest := []) hC (c_X6_endWork l G q v12 hy17 H.size) (xcwV hC lk_X6_183 in_X6 co_X6_endWork im_X6_endWork se_X6_endWork rfl rfl dd_X6_endWork ⟨Nat.le_of_ble_eq_true rfl, Nat.le_of_ble_eq_true rfl⟩) (preV0 h (Nat.le_of_ble_eq_true rfl) eState_0 rfl []) rfl rfl hl.1 rfl (lv_room (Nat.le_of_ble_eq_true rfl)) dX6_tick_133 ⟨Nat.zero_le _, Nat.zero_le _⟩) (fun H locs h => ?_)
          refine lv_iconst (v := (1 : Int32)) hx hb dX6_tick_136 (by decide) ?_
          have hf := sm_e hf
          exact xzret hC hr hlk h (by rw [← hf]) (by decide) (by rw [← hf]) dX6_tick_137
      refine lv_icmp_ne (tgt := 65) hx hb dX6_tick_55 (by decide) (fun c19 => ?_) (fun c19 => ?_)
      · have hf := it_f c19 hf
        refine lv_aload_n hx hb dX6_tick_65 rfl (lv_at hl 0 rfl) ?_
        refine xget hC h.o (C := RX6) (T := TX6) (N := 13) (wM_us uw_X6) 0 (Nat.le_of_ble_eq_true rfl) eState_0 rfl 3 (by decide) (wM_in fl_X6_35) rfl dX6_tick_66 ?_
        refine xget hC h.o (C := RX7) (T := TX7) (N := 9) (wM_us uw_X7) 8 (Nat.le_of_ble_eq_true rfl) eState_8 rfl 0 (by decide) (wM_in fl_X6_109) rfl dX6_tick_69 ?_
        refine lv_iconst (v := (2 : Int32)) hx hb dX6_tick_72 (by decide) ?_
        refine lv_icmp_ne (tgt := 122) hx hb dX6_tick_73 (by decide) (fun c20 => ?_) (fun c20 => ?_)
        · have hf := it_f c20 hf
          exact hj13 v11 H locs h ls (lv_sub hl [0] rfl) hf
        · have hf := it_t c20 hf
          refine lv_aload_n hx hb dX6_tick_76 rfl (lv_at hl 0 rfl) ?_
          refine xget hC h.o (C := RX6) (T := TX6) (N := 13) (wM_us uw_X6) 0 (Nat.le_of_ble_eq_true rfl) eState_0 rfl 3 (by decide) (wM_in fl_X6_35) rfl dX6_tick_77 ?_
          refine xget hC h.o (C := RX7) (T := TX7) (N := 9) (wM_us uw_X7) 8 (Nat.le_of_ble_eq_true rfl) eState_8 rfl 5 (by decide) (wM_in fl_X6_171) rfl dX6_tick_80 ?_
          refine lv_iconst (v := (4 : Int32)) hx hb dX6_tick_83 (by decide) ?_
          refine lv_icmp_gt (tgt := 122) hx hb dX6_tick_84 (by decide) (fun c21 => ?_) (fun c21 => ?_)
          · have hf := it_t c21 hf
            exact hj13 v11 H locs h ls (lv_sub hl [0] rfl) hf
          · have hf := it_f c21 hf
            refine lv_aload_n hx hb dX6_tick_87 rfl (lv_at hl 0 rfl) ?_
            refine lv_dup hx hb dX6_tick_88 rfl ?_
            refine xget hC h.o (C := RX6) (T := TX6) (N := 13) (wM_us uw_X6) 0 (Nat.le_of_ble_eq_true rfl) eState_0 rfl 10 (by decide) (wM_in fl_X6_72) rfl dX6_tick_89 ?_
            refine lv_aload_n hx hb dX6_tick_92 rfl (lv_at hl 0 rfl) ?_
            refine xget hC h.o (C := RX6) (T := TX6) (N := 13) (wM_us uw_X6) 0 (Nat.le_of_ble_eq_true rfl) eState_0 rfl 0 (by decide) (wM_in fl_X6_12) rfl dX6_tick_93 ?_
            refine lv_aload_n hx hb dX6_tick_96 rfl (lv_at hl 0 rfl) ?_
            refine xget hC h.o (C := RX6) (T := TX6) (N := 13) (wM_us uw_X6) 0 (Nat.le_of_ble_eq_true rfl) eState_0 rfl 3 (by decide) (wM_in fl_X6_35) rfl dX6_tick_97 ?_
            refine xget hC h.o (C := RX7) (T := TX7) (N := 9) (wM_us uw_X7) 8 (Nat.le_of_ble_eq_true rfl) eState_8 rfl 1 (by decide) (wM_in fl_X6_144) rfl dX6_tick_100 ?_
            refine lv_iconst (v := (4 : Int32)) hx hb dX6_tick_103 (by decide) ?_
            refine lv_imul hx hb dX6_tick_104 ?_
            refine lv_aload_n hx hb dX6_tick_105 rfl (lv_at hl 0 rfl) ?_
            refine xget hC h.o (C := RX6) (T := TX6) (N := 13) (wM_us uw_X6) 0 (Nat.le_of_ble_eq_true rfl) eState_0 rfl 3 (by decide) (wM_in fl_X6_35) rfl dX6_tick_106 ?_
            refine xget hC h.o (C := RX7) (T := TX7) (N := 9) (wM_us uw_X7) 8 (Nat.le_of_ble_eq_true rfl) eState_8 rfl 5 (by decide) (wM_in fl_X6_171) rfl dX6_tick_109 ?_
            refine lv_iadd hx hb dX6_tick_112 ?_
            refine lv_iconst (v := (1 : Int32)) hx hb dX6_tick_113 (by decide) ?_
            refine lv_isub hx hb dX6_tick_114 ?_
            obtain ⟨r23, hy22, hf⟩ := ob_e hf
            refine xi1 h 1 4 sState_1 (Nat.le_of_ble_eq_true rfl) (va_runV (As := [.int ((((v11 8 1) * (4 : Int32)) + (v11 8 5)) - (1 : Int32))]) (rest := [.int (v11 0 10), .ref (q 0)]) hC (c_X0_fallWholly l G (sh 1 q) (sh 1 v11) ((((v11 8 1) * (4 : Int32)) + (v11 8 5)) - (1 : Int32)) hy22 H.size) (xcwV hC lk_X6_177 in_X0 co_X0_fallWholly im_X0_fallWholly se_X0_fallWholly rfl rfl dd_X0_fallWholly ⟨Nat.le_of_ble_eq_true rfl, Nat.le_of_ble_eq_true rfl⟩) (preV1 h 1 4 sState_1 (Nat.le_of_ble_eq_true rfl) (Nat.le_of_ble_eq_true rfl) eState_1 rfl [.int ((((v11 8 1) * (4 : Int32)) + (v11 8 5)) - (1 : Int32))]) rfl rfl hl.1 rfl (lv_room (Nat.le_of_ble_eq_true rfl)) dX6_tick_115 ⟨Nat.zero_le _, Nat.zero_le _⟩) (fun H locs h => ?_)
            obtain ⟨v24, ev24, hf⟩ := lt_e hf
            rw [← ev24] at h
            refine lv_iadd hx hb dX6_tick_118 ?_
            refine xput hC h (C := RX6) (T := TX6) (N := 13) (wM_us uw_X6) tyX6_ok nmX6 0 (Nat.le_of_ble_eq_true rfl) eState_0 rfl 10 (by decide) (wM_in fl_X6_72) rfl (ty := .int) (tyX6_ok 10 (by decide)) rfl rfl (Nat.le_of_ble_eq_true rfl) (eState_0.trans rfl) dX6_tick_119 (fun H locs h => ?_)
            obtain ⟨v25, ev25, hf⟩ := lt_e hf
            rw [← ev25] at h
            exact hj13 v25 H locs h ls (lv_sub hl [0] rfl) hf
      · have hf := it_t c19 hf
        refine lv_aload_n hx hb dX6_tick_58 rfl (lv_at hl 0 rfl) ?_
        obtain ⟨r27, hy26, hf⟩ := ob_e hf
        refine xv0 h (va_runV (As := []) (rest := []) hC (c_X6_goOnWriting l G q v11 hy26 H.size) (xcwV hC lk_X6_174 in_X6 co_X6_goOnWriting im_X6_goOnWriting se_X6_goOnWriting rfl rfl dd_X6_goOnWriting ⟨Nat.le_of_ble_eq_true rfl, Nat.le_of_ble_eq_true rfl⟩) (preV0 h (Nat.le_of_ble_eq_true rfl) eState_0 rfl []) rfl rfl hl.1 rfl (lv_room (Nat.le_of_ble_eq_true rfl)) dX6_tick_59 ⟨Nat.zero_le _, Nat.zero_le _⟩) (fun H locs h => ?_)
        refine lv_goto (tgt := 122) hx hb dX6_tick_62 (by decide) ?_
        exact hj13 r27 H locs h ls (lv_sub hl [0] rfl) hf
    · have hf := it_t c10 hf
      refine lv_iconst (v := (0 : Int32)) hx hb dX6_tick_32 (by decide) ?_
      have hf := sm_e hf
      exact xzret hC hr hlk h (by rw [← hf]) (by decide) (by rw [← hf]) dX6_tick_33
  refine lv_icmp_eq (tgt := 15) hx hb dX6_tick_7 (by decide) (fun c28 => ?_) (fun c28 => ?_)
  · have hf := it_t c28 hf
    exact hj5 v3 H locs h ls (lv_sub hl [1] rfl) hf
  · have hf := it_f c28 hf
    refine lv_aload_n hx hb dX6_tick_10 rfl (lv_at hl 1 rfl) ?_
    refine lv_iload_n hx hb dX6_tick_11 rfl (lv_at hl 0 rfl) ?_
    obtain ⟨r30, hy29, hf⟩ := ob_e hf
    refine xv0 h (va_runV (As := [.int r2.1]) (rest := []) hC (c_X6_beginOrder l G q v3 r2.1 hy29 H.size) (xcwV hC lk_X6_168 in_X6 co_X6_beginOrder im_X6_beginOrder se_X6_beginOrder rfl rfl dd_X6_beginOrder ⟨Nat.le_of_ble_eq_true rfl, Nat.le_of_ble_eq_true rfl⟩) (preV0 h (Nat.le_of_ble_eq_true rfl) eState_0 rfl [.int r2.1]) rfl rfl hl.1 rfl (lv_room (Nat.le_of_ble_eq_true rfl)) dX6_tick_12 ⟨Nat.zero_le _, Nat.zero_le _⟩) (fun H locs h => ?_)
    exact hj5 r30 H locs h ls (lv_sub hl [1] rfl) hf
def m_X6_isFree (v : xSt) : Option (Int32) := lt (fun (t1 : Int32) => ob (m_X6_isBusy v) (fun r4 => lt (fun (_ : Unit) => some (0 : Int32)) (fun j6 => (if r4 = 0 then (if t1 = 0 then ob (m_X6_foremost v) (fun r10 => (if r10 = (-1 : Int32) then some (1 : Int32) else j6 ())) else j6 ()) else j6 ())))) (fun j2 => lt (fun (_ : Unit) => j2 (0 : Int32)) (fun j12 => (if (v 11 0) = 0 then j12 () else (if (v 11 7) = 0 then j12 () else j2 (1 : Int32)))))
set_option maxHeartbeats 4000000 in
set_option maxRecDepth 100000 in
theorem c_X6_isFree (l : Launch) (G : xGl) (q : Nat → Nat) (v : xSt) {z : (Int32)} (hf : m_X6_isFree v = some z) : mRO l yX6_isFree (wM yX6_isFree cX6_isFree 2 (some .boolean)) { frames := 3, cells := 0, slots := 0, locals := 64 } G (eState G) 47 q v [.ref (q 0)] (qZ z) := by
  refine xRO (cc := cX6_isFree) (maxL := 2) (ret := (some .boolean)) (by decide) rfl (Nat.le_of_ble_eq_true rfl) ?_
  intro p e s m below meth c ls A hC hr hlk h hl
  have hx := hC.1
  have hb := hC.2.1
  have hl : lv_has ls 2 [(0, .ref (q 0))] := hl
  unfold m_X6_isFree at hf
  obtain ⟨H, hH⟩ : ∃ H, H = s.heap := ⟨_, rfl⟩
  obtain ⟨locs, hlo⟩ : ∃ x : List Loc, x = [] := ⟨_, rfl⟩
  have h : ho G (eState G) 47 q v A s H locs := by rw [hH, hlo]; exact h
  rw [← hlo, ← hH]
  clear hH hlo
  refine lv_aload_n hx hb dX6_isFree_0 rfl (lv_at hl 0 rfl) ?_
  refine xget hC h.o (C := RX6) (T := TX6) (N := 13) (wM_us uw_X6) 0 (Nat.le_of_ble_eq_true rfl) eState_0 rfl 4 (by decide) (wM_in fl_X6_39) rfl dX6_isFree_1 ?_
  refine xget hC h.o (C := RX7) (T := TX7) (N := 9) (wM_us uw_X7) 11 (Nat.le_of_ble_eq_true rfl) eState_11 rfl 0 (by decide) (wM_in fl_X6_109) rfl dX6_isFree_4 ?_
  obtain ⟨j2, ej2, hf⟩ := lt_e hf
  have hj2 : ∀ (t1 : Int32) (H : Heap) (locs : List Loc), ho G (eState G) 47 q v A s H locs → ∀ (ls : Array Slot), lv_has ls 2 [(0, .ref (q 0))] → j2 t1 = some z → W p l e { frames := 3, cells := 0, slots := 0, locals := 64 } s m [.ref (q 0)].toArray below meth c H locs 0 0 (MQ below ((qZ z) (fun _ => True) A) [.ref (q 0)].toArray s 0 0 A) (F0 m 25 ls [.int t1]) := by
    intro t1 H locs h ls hl hf
    rw [ej2] at hf
    refine lv_istore_n (lv' := [(1, .int t1), (0, .ref (q 0))]) hx hb dX6_isFree_25 rfl hl (by decide) rfl (fun ls hl => ?_)
    refine lv_aload_n hx hb dX6_isFree_26 rfl (lv_at hl 1 rfl) ?_
    obtain ⟨r4, hy3, hf⟩ := ob_e hf
    refine xzO h (va_runV (As := []) (rest := []) hC (c_X6_isBusy l G q v hy3 H.size) (xcwV hC lk_X6_123 in_X6 co_X6_isBusy im_X6_isBusy se_X6_isBusy rfl rfl dd_X6_isBusy ⟨Nat.le_of_ble_eq_true rfl, Nat.le_of_ble_eq_true rfl⟩) (preVO0 h.o (Nat.le_of_ble_eq_true rfl) eState_0 rfl []) rfl rfl hl.1 rfl (lv_room (Nat.le_of_ble_eq_true rfl)) dX6_isFree_27 ⟨Nat.zero_le _, Nat.zero_le _⟩) (fun H locs hz5 h => ?_)
    obtain ⟨j6, ej6, hf⟩ := lt_e hf
    have hj6 : ∀ (uu : Unit) (H : Heap) (locs : List Loc), ho G (eState G) 47 q v A s H locs → ∀ (ls : Array Slot), lv_has ls 2 [] → j6 uu = some z → W p l e { frames := 3, cells := 0, slots := 0, locals := 64 } s m [.ref (q 0)].toArray below meth c H locs 0 0 (MQ below ((qZ z) (fun _ => True) A) [.ref (q 0)].toArray s 0 0 A) (F0 m 49 ls []) := by
      intro uu H locs h ls hl hf
      rw [ej6] at hf
      refine lv_iconst (v := (0 : Int32)) hx hb dX6_isFree_49 (by decide) ?_
      have hf := sm_e hf
      exact ozret hC hr hlk h (by rw [← hf]) (by decide) dX6_isFree_50
    refine lv_if_ne (tgt := 49) hx hb dX6_isFree_30 (by decide) (fun c7 => ?_) (fun c7 => ?_)
    · have hf := it_f c7 hf
      exact hj6 () H locs h ls (lv_sub hl [] rfl) hf
    · have hf := it_t c7 hf
      refine lv_iload_n hx hb dX6_isFree_33 rfl (lv_at hl 0 rfl) ?_
      refine lv_if_ne (tgt := 49) hx hb dX6_isFree_34 (by decide) (fun c8 => ?_) (fun c8 => ?_)
      · have hf := it_f c8 hf
        exact hj6 () H locs h ls (lv_sub hl [] rfl) hf
      · have hf := it_t c8 hf
        refine lv_aload_n hx hb dX6_isFree_37 rfl (lv_at hl 1 rfl) ?_
        obtain ⟨r10, hy9, hf⟩ := ob_e hf
        refine xiO h (va_runV (As := []) (rest := []) hC (c_X6_foremost l G q v hy9 H.size) (xcwV hC lk_X6_196 in_X6 co_X6_foremost im_X6_foremost se_X6_foremost rfl rfl dd_X6_foremost ⟨Nat.le_of_ble_eq_true rfl, Nat.le_of_ble_eq_true rfl⟩) (preVO0 h.o (Nat.le_of_ble_eq_true rfl) eState_0 rfl []) rfl rfl hl.1 rfl (lv_room (Nat.le_of_ble_eq_true rfl)) dX6_isFree_38 ⟨Nat.zero_le _, Nat.zero_le _⟩) (fun H locs h => ?_)
        refine lv_iconst (v := (-1 : Int32)) hx hb dX6_isFree_41 (by decide) ?_
        refine lv_icmp_ne (tgt := 49) hx hb dX6_isFree_42 (by decide) (fun c11 => ?_) (fun c11 => ?_)
        · have hf := it_f c11 hf
          exact hj6 () H locs h ls (lv_sub hl [] rfl) hf
        · have hf := it_t c11 hf
          refine lv_iconst (v := (1 : Int32)) hx hb dX6_isFree_45 (by decide) ?_
          refine lv_goto (tgt := 50) hx hb dX6_isFree_46 (by decide) ?_
          have hf := sm_e hf
          exact ozret hC hr hlk h (by rw [← hf]) (by decide) dX6_isFree_50
  obtain ⟨j12, ej12, hf⟩ := lt_e hf
  have hj12 : ∀ (uu : Unit) (H : Heap) (locs : List Loc), ho G (eState G) 47 q v A s H locs → ∀ (ls : Array Slot), lv_has ls 2 [(0, .ref (q 0))] → j12 uu = some z → W p l e { frames := 3, cells := 0, slots := 0, locals := 64 } s m [.ref (q 0)].toArray below meth c H locs 0 0 (MQ below ((qZ z) (fun _ => True) A) [.ref (q 0)].toArray s 0 0 A) (F0 m 24 ls []) := by
    intro uu H locs h ls hl hf
    rw [ej12] at hf
    refine lv_iconst (v := (0 : Int32)) hx hb dX6_isFree_24 (by decide) ?_
    exact hj2 (0 : Int32) H locs h ls (lv_sub hl [0] rfl) hf
  refine lv_if_eq (tgt := 24) hx hb dX6_isFree_7 (by decide) (fun c13 => ?_) (fun c13 => ?_)
  · have hf := it_t c13 hf
    exact hj12 () H locs h ls (lv_sub hl [0] rfl) hf
  · have hf := it_f c13 hf
    refine lv_aload_n hx hb dX6_isFree_10 rfl (lv_at hl 0 rfl) ?_
    refine xget hC h.o (C := RX6) (T := TX6) (N := 13) (wM_us uw_X6) 0 (Nat.le_of_ble_eq_true rfl) eState_0 rfl 4 (by decide) (wM_in fl_X6_39) rfl dX6_isFree_11 ?_
    refine xget hC h.o (C := RX7) (T := TX7) (N := 9) (wM_us uw_X7) 11 (Nat.le_of_ble_eq_true rfl) eState_11 rfl 7 (by decide) (wM_in fl_X6_147) rfl dX6_isFree_14 ?_
    refine lv_if_eq (tgt := 24) hx hb dX6_isFree_17 (by decide) (fun c14 => ?_) (fun c14 => ?_)
    · have hf := it_t c14 hf
      exact hj12 () H locs h ls (lv_sub hl [0] rfl) hf
    · have hf := it_f c14 hf
      refine lv_iconst (v := (1 : Int32)) hx hb dX6_isFree_20 (by decide) ?_
      refine lv_goto (tgt := 25) hx hb dX6_isFree_21 (by decide) ?_
      exact hj2 (1 : Int32) H locs h ls (lv_sub hl [0] rfl) hf
def m_X6_missesAt (v : xSt) (p1 : Int32) : Option (Int32) := ob (m_X4_span (sh 6 v)) (fun r2 => lp (fun (rec5 : Int32 × Int32 → Option (Int32)) => un2 (fun (a3 : Int32) (a4 : Int32) => (if r2 ≤ a4 then some a3 else ob (m_X4_valueFor (sh 6 v) a4) (fun r8 => lt (fun (a9 : Int32) => rec5 (a9, (a4 + 1))) (fun j10 => (if ((xat 256 (v 2) (xrp p1 a4)) &&& r8) = r8 then j10 a3 else j10 (a3 + 1))))))) xF ((0 : Int32), (0 : Int32)))
set_option maxHeartbeats 4000000 in
set_option maxRecDepth 100000 in
theorem c_X6_missesAt (l : Launch) (G : xGl) (q : Nat → Nat) (v : xSt) (p1 : Int32) {z : (Int32)} (hf : m_X6_missesAt v p1 = some z) : mRO l yX6_missesAt (wM yX6_missesAt cX6_missesAt 6 (some .int)) { frames := 2, cells := 0, slots := 0, locals := 50 } G (eState G) 47 q v [.ref (q 0), .int p1] (qI z) := by
  refine xRO (cc := cX6_missesAt) (maxL := 6) (ret := (some .int)) (by decide) rfl (Nat.le_of_ble_eq_true rfl) ?_
  intro p e s m below meth c ls A hC hr hlk h hl
  have hx := hC.1
  have hb := hC.2.1
  have hl : lv_has ls 6 [(0, .ref (q 0)), (1, .int p1)] := hl
  unfold m_X6_missesAt at hf
  obtain ⟨H, hH⟩ : ∃ H, H = s.heap := ⟨_, rfl⟩
  obtain ⟨locs, hlo⟩ : ∃ x : List Loc, x = [] := ⟨_, rfl⟩
  have h : ho G (eState G) 47 q v A s H locs := by rw [hH, hlo]; exact h
  rw [← hlo, ← hH]
  clear hH hlo
  refine lv_iconst (v := (0 : Int32)) hx hb dX6_missesAt_0 (by decide) ?_
  refine lv_istore_n (lv' := [(2, .int (0 : Int32)), (0, .ref (q 0)), (1, .int p1)]) hx hb dX6_missesAt_1 rfl hl (by decide) rfl (fun ls hl => ?_)
  refine lv_aload_n hx hb dX6_missesAt_2 rfl (lv_at hl 1 rfl) ?_
  refine xget hC h.o (C := RX6) (T := TX6) (N := 13) (wM_us uw_X6) 0 (Nat.le_of_ble_eq_true rfl) eState_0 rfl 2 (by decide) (wM_in fl_X6_28) rfl dX6_missesAt_3 ?_
  obtain ⟨r2, hy1, hf⟩ := ob_e hf
  refine xiO h (va_runV (As := []) (rest := []) hC (c_X4_span l G (sh 6 q) (sh 6 v) hy1 H.size) (xcwV hC lk_X6_257 in_X4 co_X4_span im_X4_span se_X4_span rfl rfl dd_X4_span ⟨Nat.le_of_ble_eq_true rfl, Nat.le_of_ble_eq_true rfl⟩) (preVO h.o 6 2 sState_6 (Nat.le_of_ble_eq_true rfl) (Nat.le_of_ble_eq_true rfl) eState_6 rfl []) rfl rfl hl.1 rfl (lv_room (Nat.le_of_ble_eq_true rfl)) dX6_missesAt_6 ⟨Nat.zero_le _, Nat.zero_le _⟩) (fun H locs h => ?_)
  refine lv_istore_n (lv' := [(3, .int r2), (2, .int (0 : Int32)), (0, .ref (q 0)), (1, .int p1)]) hx hb dX6_missesAt_9 rfl hl (by decide) rfl (fun ls hl => ?_)
  refine lv_iconst (v := (0 : Int32)) hx hb dX6_missesAt_10 (by decide) ?_
  refine lv_istore (lv' := [(4, .int (0 : Int32)), (3, .int r2), (2, .int (0 : Int32)), (0, .ref (q 0)), (1, .int p1)]) hx hb dX6_missesAt_11 hl (by decide) rfl (fun ls hl => ?_)
  refine lp_i (z := z) (P := fun (pp : Int32 × Int32) => ∀ (H : Heap) (locs : List Loc), ho G (eState G) 47 q v A s H locs → ∀ (ls : Array Slot), lv_has ls 6 [(0, .ref (q 0)), (1, .int p1), (2, .int pp.1), (3, .int r2), (4, .int pp.2)] → W p l e { frames := 2, cells := 0, slots := 0, locals := 50 } s m [.ref (q 0), .int p1].toArray below meth c H locs 0 0 (MQ below ((qI z) (fun _ => True) A) [.ref (q 0), .int p1].toArray s 0 0 A) (F0 m 13 ls [])) ?_ _ _ hf H locs h ls (lv_sub hl [3, 4, 2, 1, 0] rfl)
  intro rec5 hrec5 pp hf H locs h ls hl
  obtain ⟨a3, a4⟩ := pp
  have h : ho G (eState G) 47 q v A s H locs := h
  have hl : lv_has ls 6 [(0, .ref (q 0)), (1, .int p1), (2, .int a3), (3, .int r2), (4, .int a4)] := hl
  have hf := un2_e hf
  refine lv_iload hx hb dX6_missesAt_13 (lv_at hl 4 rfl) ?_
  refine lv_iload_n hx hb dX6_missesAt_15 rfl (lv_at hl 3 rfl) ?_
  refine lv_icmp_ge (tgt := 63) hx hb dX6_missesAt_16 (by decide) (fun c6 => ?_) (fun c6 => ?_)
  · have hf := it_t c6 hf
    refine lv_iload_n hx hb dX6_missesAt_63 rfl (lv_at hl 2 rfl) ?_
    have hf := sm_e hf
    exact oiret hC hr hlk h (by rw [← hf]) dX6_missesAt_64
  · have hf := it_f c6 hf
    refine lv_aload_n hx hb dX6_missesAt_19 rfl (lv_at hl 0 rfl) ?_
    refine xget hC h.o (C := RX6) (T := TX6) (N := 13) (wM_us uw_X6) 0 (Nat.le_of_ble_eq_true rfl) eState_0 rfl 2 (by decide) (wM_in fl_X6_28) rfl dX6_missesAt_20 ?_
    refine lv_iload hx hb dX6_missesAt_23 (lv_at hl 4 rfl) ?_
    obtain ⟨r8, hy7, hf⟩ := ob_e hf
    refine xiO h (va_runV (As := [.int a4]) (rest := []) hC (c_X4_valueFor l G (sh 6 q) (sh 6 v) a4 hy7 H.size) (xcwV hC lk_X6_240 in_X4 co_X4_valueFor im_X4_valueFor se_X4_valueFor rfl rfl dd_X4_valueFor ⟨Nat.le_of_ble_eq_true rfl, Nat.le_of_ble_eq_true rfl⟩) (preVO h.o 6 2 sState_6 (Nat.le_of_ble_eq_true rfl) (Nat.le_of_ble_eq_true rfl) eState_6 rfl [.int a4]) rfl rfl hl.1 rfl (lv_room (Nat.le_of_ble_eq_true rfl)) dX6_missesAt_25 ⟨Nat.zero_le _, Nat.zero_le _⟩) (fun H locs h => ?_)
    refine lv_istore (lv' := [(5, .int r8), (0, .ref (q 0)), (1, .int p1), (2, .int a3), (3, .int r2), (4, .int a4)]) hx hb dX6_missesAt_28 hl (by decide) rfl (fun ls hl => ?_)
    refine lv_aload_n hx hb dX6_missesAt_30 rfl (lv_at hl 1 rfl) ?_
    refine xget hC h.o (C := RX6) (T := TX6) (N := 13) (wM_us uw_X6) 0 (Nat.le_of_ble_eq_true rfl) eState_0 rfl 0 (by decide) (wM_in fl_X6_12) rfl dX6_missesAt_31 ?_
    refine xget hC h.o (C := RX0) (T := TX0) (N := 4) (wM_us uw_X0) 1 (Nat.le_of_ble_eq_true rfl) eState_1 rfl 0 (by decide) (wM_in fl_X6_260) rfl dX6_missesAt_34 ?_
    refine lv_iload_n hx hb dX6_missesAt_37 rfl (lv_at hl 2 rfl) ?_
    refine lv_iload hx hb dX6_missesAt_38 (lv_at hl 5 rfl) ?_
    refine xiO h (va_runSN (As := [.int p1, .int a4]) (rest := [.ref (q 2)]) hC (k_X8_roundPage l G q v p1 a4 H.size) (xcwN hC (h.o.2.2.2.1 _ nw_X6_236) in_X8 co_X8_roundPage st_X8_roundPage rfl rfl dd_X8_roundPage ⟨Nat.le_of_ble_eq_true rfl, Nat.le_of_ble_eq_true rfl⟩) (preSN h.o [.int p1, .int a4]) rfl rfl hl.1 rfl (lv_room (Nat.le_of_ble_eq_true rfl)) dX6_missesAt_40 ⟨Nat.zero_le _, Nat.zero_le _⟩) (fun H locs h => ?_)
    refine xiO h (va_runSN (As := [.ref (q 2), .int (xrp p1 a4)]) (rest := []) hC (k_X8_at l G (sh 2 q) 256 (by decide) (sh 2 v) (xrp p1 a4) H.size) (xcwN hC (h.o.2.2.2.1 _ nw_X6_112) in_X8 co_X8_at st_X8_at rfl rfl dd_X8_at ⟨Nat.le_of_ble_eq_true rfl, Nat.le_of_ble_eq_true rfl⟩) (preSO h.o 2 1 sState_2 (Nat.le_of_ble_eq_true rfl) [.ref (q 2), .int (xrp p1 a4)]) rfl rfl hl.1 rfl (lv_room (Nat.le_of_ble_eq_true rfl)) dX6_missesAt_43 ⟨Nat.zero_le _, Nat.zero_le _⟩) (fun H locs h => ?_)
    refine lv_nm (z := (xat 256 (v 2) (xrp p1 a4))) rfl ?_
    refine lv_iload hx hb dX6_missesAt_46 (lv_at hl 0 rfl) ?_
    refine lv_iand hx hb dX6_missesAt_48 ?_
    refine lv_iload hx hb dX6_missesAt_49 (lv_at hl 0 rfl) ?_
    obtain ⟨j10, ej10, hf⟩ := lt_e hf
    have hj10 : ∀ (a9 : Int32) (H : Heap) (locs : List Loc), ho G (eState G) 47 q v A s H locs → ∀ (ls : Array Slot), lv_has ls 6 [(0, .ref (q 0)), (1, .int p1), (2, .int a9), (3, .int r2), (4, .int a4)] → j10 a9 = some z → W p l e { frames := 2, cells := 0, slots := 0, locals := 50 } s m [.ref (q 0), .int p1].toArray below meth c H locs 0 0 (MQ below ((qI z) (fun _ => True) A) [.ref (q 0), .int p1].toArray s 0 0 A) (F0 m 57 ls []) := by
      intro a9 H locs h ls hl hf
      rw [ej10] at hf
      refine lv_iinc (v := (a4 + 1)) (lv' := [(4, .int (a4 + 1)), (0, .ref (q 0)), (1, .int p1), (2, .int a9), (3, .int r2)]) hx hb dX6_missesAt_57 hl (k := 4) rfl rfl (by decide) rfl (fun ls hl => ?_)
      refine lv_goto (tgt := 13) hx hb dX6_missesAt_60 (by decide) ?_
      exact hrec5 (a9, (a4 + 1)) hf H locs h ls (lv_sub hl [1, 2, 3, 4, 0] rfl)
    refine lv_icmp_eq (tgt := 57) hx hb dX6_missesAt_51 (by decide) (fun c11 => ?_) (fun c11 => ?_)
    · have hf := it_t c11 hf
      exact hj10 a3 H locs h ls (lv_sub hl [1, 2, 3, 4, 5] rfl) hf
    · have hf := it_f c11 hf
      refine lv_iinc (v := (a3 + 1)) (lv' := [(2, .int (a3 + 1)), (5, .int r8), (0, .ref (q 0)), (1, .int p1), (3, .int r2), (4, .int a4)]) hx hb dX6_missesAt_54 hl (k := 3) rfl rfl (by decide) rfl (fun ls hl => ?_)
      exact hj10 (a3 + 1) H locs h ls (lv_sub hl [2, 3, 0, 4, 5] rfl) hf
