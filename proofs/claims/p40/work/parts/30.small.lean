def m_X0_become (v : xSt) : Option xSt := ck (0 ≤ (if (256 : Int32) < (256 : Int32) then (256 : Int32) else (256 : Int32)) ∧ (if (256 : Int32) < (256 : Int32) then (256 : Int32) else (256 : Int32)).toNatClampNeg ≤ 256 ∧ (if (256 : Int32) < (256 : Int32) then (256 : Int32) else (256 : Int32)).toNatClampNeg ≤ 256) (lt (va_up v 1 (va_cpy (v 5) (v 1) 0 0 (if (256 : Int32) < (256 : Int32) then (256 : Int32) else (256 : Int32)).toNatClampNeg)) (fun v2 => ck (0 ≤ (if (256 : Int32) < (256 : Int32) then (256 : Int32) else (256 : Int32)) ∧ (if (256 : Int32) < (256 : Int32) then (256 : Int32) else (256 : Int32)).toNatClampNeg ≤ 256 ∧ (if (256 : Int32) < (256 : Int32) then (256 : Int32) else (256 : Int32)).toNatClampNeg ≤ 256) (lt (va_up v2 2 (va_cpy (v2 6) (v2 2) 0 0 (if (256 : Int32) < (256 : Int32) then (256 : Int32) else (256 : Int32)).toNatClampNeg)) (fun v4 => ck (0 ≤ (if (8 : Int32) < (8 : Int32) then (8 : Int32) else (8 : Int32)) ∧ (if (8 : Int32) < (8 : Int32) then (8 : Int32) else (8 : Int32)).toNatClampNeg ≤ 8 ∧ (if (8 : Int32) < (8 : Int32) then (8 : Int32) else (8 : Int32)).toNatClampNeg ≤ 8) (lt (va_up v4 3 (va_cpy (v4 7) (v4 3) 0 0 (if (8 : Int32) < (8 : Int32) then (8 : Int32) else (8 : Int32)).toNatClampNeg)) (fun v6 => lt (st2 v6 0 3 (v6 4 3)) (fun v7 => some v7)))))))
set_option maxHeartbeats 4000000 in
set_option maxRecDepth 100000 in
theorem c_X0_become (l : Launch) (G : xGl) (q : Nat → Nat) (v : xSt) {z : xSt} (hf : m_X0_become v = some z) : mRW l yX0_become (wM yX0_become cX0_become 2 none) { frames := 1, cells := 0, slots := 0, locals := 60 } G ((e2 4 (eCells G) (eCells G))) 8 q v [.ref (q 0), .ref (q 4)] qV z := by
  refine xRW (cc := cX0_become) (maxL := 2) (ret := none) (by decide) rfl (Nat.le_of_ble_eq_true rfl) ?_
  intro p e s m below meth c ls A hC hr hlk h hl
  have hx := hC.1
  have hb := hC.2.1
  have hl : lv_has ls 2 [(0, .ref (q 0)), (1, .ref (q 4))] := hl
  unfold m_X0_become at hf
  obtain ⟨H, hH⟩ : ∃ H, H = s.heap := ⟨_, rfl⟩
  obtain ⟨locs, hlo⟩ : ∃ x : List Loc, x = [] := ⟨_, rfl⟩
  have h : hg G ((e2 4 (eCells G) (eCells G))) 8 q v A s H locs := by rw [hH, hlo]; exact h
  rw [← hlo, ← hH]
  clear hH hlo
  refine lv_aload_n hx hb dX0_become_0 rfl (lv_at hl 1 rfl) ?_
  refine xget hC h.o (C := RX0) (T := TX0) (N := 4) (wM_us uw_X0) 4 (Nat.le_of_ble_eq_true rfl) eCellsCells_4 rfl 0 (by decide) (wM_in fl_X0_9) rfl dX0_become_1 ?_
  refine lv_iconst (v := (0 : Int32)) hx hb dX0_become_4 (by decide) ?_
  refine lv_aload_n hx hb dX0_become_5 rfl (lv_at hl 0 rfl) ?_
  refine xget hC h.o (C := RX0) (T := TX0) (N := 4) (wM_us uw_X0) 0 (Nat.le_of_ble_eq_true rfl) eCellsCells_0 rfl 0 (by decide) (wM_in fl_X0_9) rfl dX0_become_6 ?_
  refine lv_iconst (v := (0 : Int32)) hx hb dX0_become_9 (by decide) ?_
  refine lv_aload_n hx hb dX0_become_10 rfl (lv_at hl 0 rfl) ?_
  refine xget hC h.o (C := RX0) (T := TX0) (N := 4) (wM_us uw_X0) 0 (Nat.le_of_ble_eq_true rfl) eCellsCells_0 rfl 0 (by decide) (wM_in fl_X0_9) rfl dX0_become_11 ?_
  refine xalen hC h.o 0 rfl 1 (Nat.le_of_ble_eq_true rfl) eCellsCells_1 (z := (256 : Int32)) rfl dX0_become_14 ?_
  refine lv_aload_n hx hb dX0_become_15 rfl (lv_at hl 1 rfl) ?_
  refine xget hC h.o (C := RX0) (T := TX0) (N := 4) (wM_us uw_X0) 4 (Nat.le_of_ble_eq_true rfl) eCellsCells_4 rfl 0 (by decide) (wM_in fl_X0_9) rfl dX0_become_16 ?_
  refine xalen hC h.o 0 rfl 5 (Nat.le_of_ble_eq_true rfl) eCellsCells_5 (z := (256 : Int32)) rfl dX0_become_19 ?_
  refine va_mmin hx hb (hC.2.2.1.trans hl.1.symm) hC.2.2.2.1 (hC.2.2.2.2 _ (wM_in lkm_X0_31)) (hC.2.2.2.2 _ (wM_in st_min)) (hC.2.2.2.2 _ (wM_in in_math)) (hC.2.2.2.2 _ (wM_in co_min)) (Nat.le_of_ble_eq_true rfl) (Nat.le_of_ble_eq_true rfl) (Nat.zero_le _) (Nat.zero_le _) dX0_become_20 ?_
  obtain ⟨hn1, hf⟩ := ck_e hf
  refine xacpy hC h (hC.2.2.2.2 _ (wM_in lkc_X0_37)) (hC.2.2.2.2 _ (wM_in na_acp)) (hC.2.2.2.2 _ (wM_in st_acp)) (hC.2.2.2.2 _ (wM_in in_sys)) (hC.2.2.1.trans hl.1.symm) 5 1 (Nat.le_of_ble_eq_true rfl) (Nat.le_of_ble_eq_true rfl) eCellsCells_5 (fun _ => eCellsCells_1) hn1 (Nat.le_of_ble_eq_true rfl) (Nat.le_of_ble_eq_true rfl) dX0_become_23 (fun H locs h => ?_)
  obtain ⟨v2, ev2, hf⟩ := lt_e hf
  rw [← ev2] at h
  refine lv_aload_n hx hb dX0_become_26 rfl (lv_at hl 1 rfl) ?_
  refine xget hC h.o (C := RX0) (T := TX0) (N := 4) (wM_us uw_X0) 4 (Nat.le_of_ble_eq_true rfl) eCellsCells_4 rfl 1 (by decide) (wM_in fl_X0_15) rfl dX0_become_27 ?_
  refine lv_iconst (v := (0 : Int32)) hx hb dX0_become_30 (by decide) ?_
  refine lv_aload_n hx hb dX0_become_31 rfl (lv_at hl 0 rfl) ?_
  refine xget hC h.o (C := RX0) (T := TX0) (N := 4) (wM_us uw_X0) 0 (Nat.le_of_ble_eq_true rfl) eCellsCells_0 rfl 1 (by decide) (wM_in fl_X0_15) rfl dX0_become_32 ?_
  refine lv_iconst (v := (0 : Int32)) hx hb dX0_become_35 (by decide) ?_
  refine lv_aload_n hx hb dX0_become_36 rfl (lv_at hl 0 rfl) ?_
  refine xget hC h.o (C := RX0) (T := TX0) (N := 4) (wM_us uw_X0) 0 (Nat.le_of_ble_eq_true rfl) eCellsCells_0 rfl 1 (by decide) (wM_in fl_X0_15) rfl dX0_become_37 ?_
  refine xalen hC h.o 0 rfl 2 (Nat.le_of_ble_eq_true rfl) eCellsCells_2 (z := (256 : Int32)) rfl dX0_become_40 ?_
  refine lv_aload_n hx hb dX0_become_41 rfl (lv_at hl 1 rfl) ?_
  refine xget hC h.o (C := RX0) (T := TX0) (N := 4) (wM_us uw_X0) 4 (Nat.le_of_ble_eq_true rfl) eCellsCells_4 rfl 1 (by decide) (wM_in fl_X0_15) rfl dX0_become_42 ?_
  refine xalen hC h.o 0 rfl 6 (Nat.le_of_ble_eq_true rfl) eCellsCells_6 (z := (256 : Int32)) rfl dX0_become_45 ?_
  refine va_mmin hx hb (hC.2.2.1.trans hl.1.symm) hC.2.2.2.1 (hC.2.2.2.2 _ (wM_in lkm_X0_31)) (hC.2.2.2.2 _ (wM_in st_min)) (hC.2.2.2.2 _ (wM_in in_math)) (hC.2.2.2.2 _ (wM_in co_min)) (Nat.le_of_ble_eq_true rfl) (Nat.le_of_ble_eq_true rfl) (Nat.zero_le _) (Nat.zero_le _) dX0_become_46 ?_
  obtain ⟨hn3, hf⟩ := ck_e hf
  refine xacpy hC h (hC.2.2.2.2 _ (wM_in lkc_X0_37)) (hC.2.2.2.2 _ (wM_in na_acp)) (hC.2.2.2.2 _ (wM_in st_acp)) (hC.2.2.2.2 _ (wM_in in_sys)) (hC.2.2.1.trans hl.1.symm) 6 2 (Nat.le_of_ble_eq_true rfl) (Nat.le_of_ble_eq_true rfl) eCellsCells_6 (fun _ => eCellsCells_2) hn3 (Nat.le_of_ble_eq_true rfl) (Nat.le_of_ble_eq_true rfl) dX0_become_49 (fun H locs h => ?_)
  obtain ⟨v4, ev4, hf⟩ := lt_e hf
  rw [← ev4] at h
  refine lv_aload_n hx hb dX0_become_52 rfl (lv_at hl 1 rfl) ?_
  refine xget hC h.o (C := RX0) (T := TX0) (N := 4) (wM_us uw_X0) 4 (Nat.le_of_ble_eq_true rfl) eCellsCells_4 rfl 2 (by decide) (wM_in fl_X0_18) rfl dX0_become_53 ?_
  refine lv_iconst (v := (0 : Int32)) hx hb dX0_become_56 (by decide) ?_
  refine lv_aload_n hx hb dX0_become_57 rfl (lv_at hl 0 rfl) ?_
  refine xget hC h.o (C := RX0) (T := TX0) (N := 4) (wM_us uw_X0) 0 (Nat.le_of_ble_eq_true rfl) eCellsCells_0 rfl 2 (by decide) (wM_in fl_X0_18) rfl dX0_become_58 ?_
  refine lv_iconst (v := (0 : Int32)) hx hb dX0_become_61 (by decide) ?_
  refine lv_aload_n hx hb dX0_become_62 rfl (lv_at hl 0 rfl) ?_
  refine xget hC h.o (C := RX0) (T := TX0) (N := 4) (wM_us uw_X0) 0 (Nat.le_of_ble_eq_true rfl) eCellsCells_0 rfl 2 (by decide) (wM_in fl_X0_18) rfl dX0_become_63 ?_
  refine xalen hC h.o 0 rfl 3 (Nat.le_of_ble_eq_true rfl) eCellsCells_3 (z := (8 : Int32)) rfl dX0_become_66 ?_
  refine lv_aload_n hx hb dX0_become_67 rfl (lv_at hl 1 rfl) ?_
  refine xget hC h.o (C := RX0) (T := TX0) (N := 4) (wM_us uw_X0) 4 (Nat.le_of_ble_eq_true rfl) eCellsCells_4 rfl 2 (by decide) (wM_in fl_X0_18) rfl dX0_become_68 ?_
  refine xalen hC h.o 0 rfl 7 (Nat.le_of_ble_eq_true rfl) eCellsCells_7 (z := (8 : Int32)) rfl dX0_become_71 ?_
  refine va_mmin hx hb (hC.2.2.1.trans hl.1.symm) hC.2.2.2.1 (hC.2.2.2.2 _ (wM_in lkm_X0_31)) (hC.2.2.2.2 _ (wM_in st_min)) (hC.2.2.2.2 _ (wM_in in_math)) (hC.2.2.2.2 _ (wM_in co_min)) (Nat.le_of_ble_eq_true rfl) (Nat.le_of_ble_eq_true rfl) (Nat.zero_le _) (Nat.zero_le _) dX0_become_72 ?_
  obtain ⟨hn5, hf⟩ := ck_e hf
  refine xacpy hC h (hC.2.2.2.2 _ (wM_in lkc_X0_37)) (hC.2.2.2.2 _ (wM_in na_acp)) (hC.2.2.2.2 _ (wM_in st_acp)) (hC.2.2.2.2 _ (wM_in in_sys)) (hC.2.2.1.trans hl.1.symm) 7 3 (Nat.le_of_ble_eq_true rfl) (Nat.le_of_ble_eq_true rfl) eCellsCells_7 (fun _ => eCellsCells_3) hn5 (Nat.le_of_ble_eq_true rfl) (Nat.le_of_ble_eq_true rfl) dX0_become_75 (fun H locs h => ?_)
  obtain ⟨v6, ev6, hf⟩ := lt_e hf
  rw [← ev6] at h
  refine lv_aload_n hx hb dX0_become_78 rfl (lv_at hl 0 rfl) ?_
  refine lv_aload_n hx hb dX0_become_79 rfl (lv_at hl 1 rfl) ?_
  refine xget hC h.o (C := RX0) (T := TX0) (N := 4) (wM_us uw_X0) 4 (Nat.le_of_ble_eq_true rfl) eCellsCells_4 rfl 3 (by decide) (wM_in fl_X0_21) rfl dX0_become_80 ?_
  refine xput hC h (C := RX0) (T := TX0) (N := 4) (wM_us uw_X0) tyX0_ok nmX0 0 (Nat.le_of_ble_eq_true rfl) eCellsCells_0 rfl 3 (by decide) (wM_in fl_X0_21) rfl (ty := .int) (tyX0_ok 3 (by decide)) rfl rfl (Nat.le_of_ble_eq_true rfl) (eCellsCells_0.trans rfl) dX0_become_83 (fun H locs h => ?_)
  obtain ⟨v7, ev7, hf⟩ := lt_e hf
  rw [← ev7] at h
  have hf := sm_e hf
  exact xvret hC hr hlk h hf dX0_become_86
def m_X0_fall (v : xSt) (p1 : Int32) (p2 : Int32) : Option (Int32 × xSt) := lt (va_up v 1 (xpt 256 (v 1) p1 ((xat 256 (v 1) p1) &&& p2))) (fun v1 => some (((xbc (xat 256 (v 1) p1)) - (xbc ((xat 256 (v 1) p1) &&& p2))), v1))
set_option maxHeartbeats 4000000 in
set_option maxRecDepth 100000 in
theorem c_X0_fall (l : Launch) (G : xGl) (q : Nat → Nat) (v : xSt) (p1 : Int32) (p2 : Int32) {z : (Int32 × xSt)} (hf : m_X0_fall v p1 p2 = some z) : mRW l yX0_fall (wM yX0_fall cX0_fall 5 (some .int)) { frames := 1, cells := 0, slots := 0, locals := 22 } G (eCells G) 4 q v [.ref (q 0), .int p1, .int p2] (qI z.1) z.2 := by
  refine xRW (cc := cX0_fall) (maxL := 5) (ret := (some .int)) (by decide) rfl (Nat.le_of_ble_eq_true rfl) ?_
  intro p e s m below meth c ls A hC hr hlk h hl
  have hx := hC.1
  have hb := hC.2.1
  have hl : lv_has ls 5 [(0, .ref (q 0)), (1, .int p1), (2, .int p2)] := hl
  unfold m_X0_fall at hf
  obtain ⟨H, hH⟩ : ∃ H, H = s.heap := ⟨_, rfl⟩
  obtain ⟨locs, hlo⟩ : ∃ x : List Loc, x = [] := ⟨_, rfl⟩
  have h : hg G (eCells G) 4 q v A s H locs := by rw [hH, hlo]; exact h
  rw [← hlo, ← hH]
  clear hH hlo
  refine lv_aload_n hx hb dX0_fall_0 rfl (lv_at hl 0 rfl) ?_
  refine xget hC h.o (C := RX0) (T := TX0) (N := 4) (wM_us uw_X0) 0 (Nat.le_of_ble_eq_true rfl) eCells_0 rfl 0 (by decide) (wM_in fl_X0_9) rfl dX0_fall_1 ?_
  refine lv_iload_n hx hb dX0_fall_4 rfl (lv_at hl 1 rfl) ?_
  refine xiG h (va_runSN (As := [.ref (q 1), .int p1]) (rest := []) hC (k_X8_at l G (sh 1 q) 256 (by decide) (sh 1 v) p1 H.size) (xcwN hC (h.o.2.2.2.1 _ nw_X0_43) in_X8 co_X8_at st_X8_at rfl rfl dd_X8_at ⟨Nat.le_of_ble_eq_true rfl, Nat.le_of_ble_eq_true rfl⟩) (preSO h.o 1 1 sCells_1 (Nat.le_of_ble_eq_true rfl) [.ref (q 1), .int p1]) rfl rfl hl.1 rfl (lv_room (Nat.le_of_ble_eq_true rfl)) dX0_fall_5 ⟨Nat.zero_le _, Nat.zero_le _⟩) (fun H locs h => ?_)
  refine lv_nm (z := (xat 256 (v 1) p1)) rfl ?_
  refine lv_istore_n (lv' := [(3, .int (xat 256 (v 1) p1)), (0, .ref (q 0)), (1, .int p1), (2, .int p2)]) hx hb dX0_fall_8 rfl hl (by decide) rfl (fun ls hl => ?_)
  refine lv_iload_n hx hb dX0_fall_9 rfl (lv_at hl 0 rfl) ?_
  refine lv_iload_n hx hb dX0_fall_10 rfl (lv_at hl 3 rfl) ?_
  refine lv_iand hx hb dX0_fall_11 ?_
  refine lv_istore (lv' := [(4, .int ((xat 256 (v 1) p1) &&& p2)), (3, .int (xat 256 (v 1) p1)), (0, .ref (q 0)), (1, .int p1), (2, .int p2)]) hx hb dX0_fall_12 hl (by decide) rfl (fun ls hl => ?_)
  refine lv_aload_n hx hb dX0_fall_14 rfl (lv_at hl 2 rfl) ?_
  refine xget hC h.o (C := RX0) (T := TX0) (N := 4) (wM_us uw_X0) 0 (Nat.le_of_ble_eq_true rfl) eCells_0 rfl 0 (by decide) (wM_in fl_X0_9) rfl dX0_fall_15 ?_
  refine lv_iload_n hx hb dX0_fall_18 rfl (lv_at hl 3 rfl) ?_
  refine lv_iload hx hb dX0_fall_19 (lv_at hl 0 rfl) ?_
  refine xv1 h 1 1 sCells_1 (Nat.le_of_ble_eq_true rfl) (va_runSN (As := [.ref (q 1), .int p1, .int ((xat 256 (v 1) p1) &&& p2)]) (rest := []) hC (k_X8_put l G (sh 1 q) 256 (by decide) (sh 1 v) p1 ((xat 256 (v 1) p1) &&& p2) H.size) (xcwN hC (h.o.2.2.2.1 _ nw_X0_47) in_X8 co_X8_put st_X8_put rfl rfl dd_X8_put ⟨Nat.le_of_ble_eq_true rfl, Nat.le_of_ble_eq_true rfl⟩) (preS1 h 1 1 sCells_1 (Nat.le_of_ble_eq_true rfl) [.ref (q 1), .int p1, .int ((xat 256 (v 1) p1) &&& p2)]) rfl rfl hl.1 rfl (lv_room (Nat.le_of_ble_eq_true rfl)) dX0_fall_21 ⟨Nat.zero_le _, Nat.zero_le _⟩) (fun H locs h => ?_)
  obtain ⟨v1, ev1, hf⟩ := lt_e hf
  rw [pu_one (f := (xpt 256 (v 1) p1 ((xat 256 (v 1) p1) &&& p2))) rfl, ← ev1] at h
  refine lv_iload_n hx hb dX0_fall_24 rfl (lv_at hl 1 rfl) ?_
  refine xiG h (va_runS (As := [.int (xat 256 (v 1) p1)]) (rest := []) hC (k_J6_bitCount_0f7a4 l G q v1 (xat 256 (v 1) p1) H.size) (xcwS hC lk_X0_51 in_J6 co_J6_bitCount_0f7a4 st_J6_bitCount_0f7a4 rfl rfl dd_J6_bitCount_0f7a4 ⟨Nat.le_of_ble_eq_true rfl, Nat.le_of_ble_eq_true rfl⟩) (preSN h.o [.int (xat 256 (v 1) p1)]) rfl rfl hl.1 rfl (lv_room (Nat.le_of_ble_eq_true rfl)) dX0_fall_25 ⟨Nat.zero_le _, Nat.zero_le _⟩) (fun H locs h => ?_)
  refine lv_iload hx hb dX0_fall_28 (lv_at hl 0 rfl) ?_
  refine xiG h (va_runS (As := [.int ((xat 256 (v 1) p1) &&& p2)]) (rest := [.int (xbc (xat 256 (v 1) p1))]) hC (k_J6_bitCount_0f7a4 l G q v1 ((xat 256 (v 1) p1) &&& p2) H.size) (xcwS hC lk_X0_51 in_J6 co_J6_bitCount_0f7a4 st_J6_bitCount_0f7a4 rfl rfl dd_J6_bitCount_0f7a4 ⟨Nat.le_of_ble_eq_true rfl, Nat.le_of_ble_eq_true rfl⟩) (preSN h.o [.int ((xat 256 (v 1) p1) &&& p2)]) rfl rfl hl.1 rfl (lv_room (Nat.le_of_ble_eq_true rfl)) dX0_fall_30 ⟨Nat.zero_le _, Nat.zero_le _⟩) (fun H locs h => ?_)
  refine lv_isub hx hb dX0_fall_33 ?_
  have hf := sm_e hf
  exact xiret hC hr hlk h (by rw [← hf]) (by rw [← hf]) dX0_fall_34
def m_X0_fallWholly (v : xSt) (p1 : Int32) : Option (Int32 × xSt) := lp (fun (rec4 : Int32 × Int32 × xSt → Option (Int32 × xSt)) => un3 (fun (a1 : Int32) (a2 : Int32) (v3 : xSt) => (if (8 : Int32) ≤ a2 then some (a1, v3) else ob (m_X0_fall v3 ((p1 * (8 : Int32)) + a2) (0 : Int32)) (fun r7 => lt (r7.2) (fun v8 => rec4 ((a1 + r7.1), (a2 + 1), v8)))))) xF ((0 : Int32), (0 : Int32), v)
set_option maxHeartbeats 4000000 in
set_option maxRecDepth 100000 in
theorem c_X0_fallWholly (l : Launch) (G : xGl) (q : Nat → Nat) (v : xSt) (p1 : Int32) {z : (Int32 × xSt)} (hf : m_X0_fallWholly v p1 = some z) : mRW l yX0_fallWholly (wM yX0_fallWholly cX0_fallWholly 4 (some .int)) { frames := 2, cells := 0, slots := 0, locals := 46 } G (eCells G) 4 q v [.ref (q 0), .int p1] (qI z.1) z.2 := by
  refine xRW (cc := cX0_fallWholly) (maxL := 4) (ret := (some .int)) (by decide) rfl (Nat.le_of_ble_eq_true rfl) ?_
  intro p e s m below meth c ls A hC hr hlk h hl
  have hx := hC.1
  have hb := hC.2.1
  have hl : lv_has ls 4 [(0, .ref (q 0)), (1, .int p1)] := hl
  unfold m_X0_fallWholly at hf
  obtain ⟨H, hH⟩ : ∃ H, H = s.heap := ⟨_, rfl⟩
  obtain ⟨locs, hlo⟩ : ∃ x : List Loc, x = [] := ⟨_, rfl⟩
  have h : hg G (eCells G) 4 q v A s H locs := by rw [hH, hlo]; exact h
  rw [← hlo, ← hH]
  clear hH hlo
  refine lv_iconst (v := (0 : Int32)) hx hb dX0_fallWholly_0 (by decide) ?_
  refine lv_istore_n (lv' := [(2, .int (0 : Int32)), (0, .ref (q 0)), (1, .int p1)]) hx hb dX0_fallWholly_1 rfl hl (by decide) rfl (fun ls hl => ?_)
  refine lv_iconst (v := (0 : Int32)) hx hb dX0_fallWholly_2 (by decide) ?_
  refine lv_istore_n (lv' := [(3, .int (0 : Int32)), (2, .int (0 : Int32)), (0, .ref (q 0)), (1, .int p1)]) hx hb dX0_fallWholly_3 rfl hl (by decide) rfl (fun ls hl => ?_)
  refine lp_i (z := z) (P := fun (pp : Int32 × Int32 × xSt) => ∀ (H : Heap) (locs : List Loc), hg G (eCells G) 4 q pp.2.2 A s H locs → ∀ (ls : Array Slot), lv_has ls 4 [(0, .ref (q 0)), (1, .int p1), (2, .int pp.1), (3, .int pp.2.1)] → W p l e { frames := 2, cells := 0, slots := 0, locals := 46 } s m [.ref (q 0), .int p1].toArray below meth c H locs 0 0 (MQ below ((qI z.1) (cB G (eCells G) 4 q z.2 A) A) [.ref (q 0), .int p1].toArray s 0 0 A) (F0 m 4 ls [])) ?_ _ _ hf H locs h ls (lv_sub hl [2, 3, 1, 0] rfl)
  intro rec4 hrec4 pp hf H locs h ls hl
  obtain ⟨a1, a2, v3⟩ := pp
  have h : hg G (eCells G) 4 q v3 A s H locs := h
  have hl : lv_has ls 4 [(0, .ref (q 0)), (1, .int p1), (2, .int a1), (3, .int a2)] := hl
  have hf := un3_e hf
  refine lv_iload_n hx hb dX0_fallWholly_4 rfl (lv_at hl 3 rfl) ?_
  refine lv_bipush (v := (8 : Int32)) hx hb dX0_fallWholly_5 (by decide) ?_
  refine lv_icmp_ge (tgt := 30) hx hb dX0_fallWholly_7 (by decide) (fun c5 => ?_) (fun c5 => ?_)
  · have hf := it_t c5 hf
    refine lv_iload_n hx hb dX0_fallWholly_30 rfl (lv_at hl 2 rfl) ?_
    have hf := sm_e hf
    exact xiret hC hr hlk h (by rw [← hf]) (by rw [← hf]) dX0_fallWholly_31
  · have hf := it_f c5 hf
    refine lv_iload_n hx hb dX0_fallWholly_10 rfl (lv_at hl 2 rfl) ?_
    refine lv_aload_n hx hb dX0_fallWholly_11 rfl (lv_at hl 0 rfl) ?_
    refine lv_iload_n hx hb dX0_fallWholly_12 rfl (lv_at hl 1 rfl) ?_
    refine lv_bipush (v := (8 : Int32)) hx hb dX0_fallWholly_13 (by decide) ?_
    refine lv_imul hx hb dX0_fallWholly_15 ?_
    refine lv_iload_n hx hb dX0_fallWholly_16 rfl (lv_at hl 3 rfl) ?_
    refine lv_iadd hx hb dX0_fallWholly_17 ?_
    refine lv_iconst (v := (0 : Int32)) hx hb dX0_fallWholly_18 (by decide) ?_
    obtain ⟨r7, hy6, hf⟩ := ob_e hf
    refine xi0 h (va_runV (As := [.int ((p1 * (8 : Int32)) + a2), .int (0 : Int32)]) (rest := [.int a1]) hC (c_X0_fall l G q v3 ((p1 * (8 : Int32)) + a2) (0 : Int32) hy6 H.size) (xcwV hC lk_X0_57 in_X0 co_X0_fall im_X0_fall se_X0_fall rfl rfl dd_X0_fall ⟨Nat.le_of_ble_eq_true rfl, Nat.le_of_ble_eq_true rfl⟩) (preV0 h (Nat.le_of_ble_eq_true rfl) eCells_0 rfl [.int ((p1 * (8 : Int32)) + a2), .int (0 : Int32)]) rfl rfl hl.1 rfl (lv_room (Nat.le_of_ble_eq_true rfl)) dX0_fallWholly_19 ⟨Nat.zero_le _, Nat.zero_le _⟩) (fun H locs h => ?_)
    obtain ⟨v8, ev8, hf⟩ := lt_e hf
    rw [← ev8] at h
    refine lv_iadd hx hb dX0_fallWholly_22 ?_
    refine lv_istore_n (lv' := [(2, .int (a1 + r7.1)), (0, .ref (q 0)), (1, .int p1), (3, .int a2)]) hx hb dX0_fallWholly_23 rfl hl (by decide) rfl (fun ls hl => ?_)
    refine lv_iinc (v := (a2 + 1)) (lv' := [(3, .int (a2 + 1)), (2, .int (a1 + r7.1)), (0, .ref (q 0)), (1, .int p1)]) hx hb dX0_fallWholly_24 hl (k := 3) rfl rfl (by decide) rfl (fun ls hl => ?_)
    refine lv_goto (tgt := 4) hx hb dX0_fallWholly_27 (by decide) ?_
    exact hrec4 ((a1 + r7.1), (a2 + 1), v8) hf H locs h ls (lv_sub hl [2, 3, 1, 0] rfl)
def m_X0_endErase (v : xSt) (p1 : Int32) (p2 : Int32) : Option xSt := lp (fun (rec3 : Int32 × xSt → Option xSt) => un2 (fun (a1 : Int32) (v2 : xSt) => (if ((p1 * (32 : Int32)) + (32 : Int32)) ≤ a1 then lt (st2 v2 0 3 ((v2 0 3) &&& ((xpg p1) ^^^ (-1 : Int32)))) (fun v5 => lt (va_up v5 3 (xpt 8 (v5 3) p1 ((xat 8 (v5 3) p1) + (1 : Int32)))) (fun v6 => (if ((xat 8 (v5 3) p1) + (1 : Int32)) ≤ p2 then some v6 else lt (((p1 * (32 : Int32)) + (((xat 8 (v5 3) p1) + (1 : Int32)) - ((xat 8 (v5 3) p1) + (1 : Int32)) / (32 : Int32) * (32 : Int32)))) (fun x8 => lt (((1 : Int32) <<< ((((xat 8 (v5 3) p1) + (1 : Int32)) - ((xat 8 (v5 3) p1) + (1 : Int32)) / (8 : Int32) * (8 : Int32)) &&& 31))) (fun x9 => lt (va_up v6 2 (xpt 256 (v6 2) x8 ((xat 256 (v6 2) x8) ||| x9))) (fun v10 => lt (va_up v10 1 (xpt 256 (v10 1) x8 ((xat 256 (v10 1) x8) &&& (x9 ^^^ (-1 : Int32))))) (fun v11 => some v11))))))) else lt (va_up v2 1 (xpt 256 (v2 1) a1 ((255 : Int32) &&& ((xat 256 (v2 2) a1) ^^^ (-1 : Int32))))) (fun v12 => rec3 ((a1 + 1), v12))))) xF ((p1 * (32 : Int32)), v)
set_option maxHeartbeats 4000000 in
set_option maxRecDepth 100000 in
theorem c_X0_endErase (l : Launch) (G : xGl) (q : Nat → Nat) (v : xSt) (p1 : Int32) (p2 : Int32) {z : xSt} (hf : m_X0_endErase v p1 p2 = some z) : mRW l yX0_endErase (wM yX0_endErase cX0_endErase 7 none) { frames := 1, cells := 0, slots := 0, locals := 22 } G (eCells G) 4 q v [.ref (q 0), .int p1, .int p2] qV z := by
  refine xRW (cc := cX0_endErase) (maxL := 7) (ret := none) (by decide) rfl (Nat.le_of_ble_eq_true rfl) ?_
  intro p e s m below meth c ls A hC hr hlk h hl
  have hx := hC.1
  have hb := hC.2.1
  have hl : lv_has ls 7 [(0, .ref (q 0)), (1, .int p1), (2, .int p2)] := hl
  unfold m_X0_endErase at hf
  obtain ⟨H, hH⟩ : ∃ H, H = s.heap := ⟨_, rfl⟩
  obtain ⟨locs, hlo⟩ : ∃ x : List Loc, x = [] := ⟨_, rfl⟩
  have h : hg G (eCells G) 4 q v A s H locs := by rw [hH, hlo]; exact h
  rw [← hlo, ← hH]
  clear hH hlo
  refine lv_iload_n hx hb dX0_endErase_0 rfl (lv_at hl 1 rfl) ?_
  refine lv_bipush (v := (32 : Int32)) hx hb dX0_endErase_1 (by decide) ?_
  refine lv_imul hx hb dX0_endErase_3 ?_
  refine lv_istore_n (lv' := [(3, .int (p1 * (32 : Int32))), (0, .ref (q 0)), (1, .int p1), (2, .int p2)]) hx hb dX0_endErase_4 rfl hl (by decide) rfl (fun ls hl => ?_)
  refine lv_iload_n hx hb dX0_endErase_5 rfl (lv_at hl 0 rfl) ?_
  refine lv_istore (lv' := [(4, .int (p1 * (32 : Int32))), (3, .int (p1 * (32 : Int32))), (0, .ref (q 0)), (1, .int p1), (2, .int p2)]) hx hb dX0_endErase_6 hl (by decide) rfl (fun ls hl => ?_)
  refine lp_i (z := z) (P := fun (pp : Int32 × xSt) => ∀ (H : Heap) (locs : List Loc), hg G (eCells G) 4 q pp.2 A s H locs → ∀ (ls : Array Slot), lv_has ls 7 [(0, .ref (q 0)), (1, .int p1), (2, .int p2), (3, .int (p1 * (32 : Int32))), (4, .int pp.1)] → W p l e { frames := 1, cells := 0, slots := 0, locals := 22 } s m [.ref (q 0), .int p1, .int p2].toArray below meth c H locs 0 0 (MQ below (qV (cB G (eCells G) 4 q z A) A) [.ref (q 0), .int p1, .int p2].toArray s 0 0 A) (F0 m 8 ls [])) ?_ _ _ hf H locs h ls (lv_sub hl [2, 3, 4, 1, 0] rfl)
  intro rec3 hrec3 pp hf H locs h ls hl
  obtain ⟨a1, v2⟩ := pp
  have h : hg G (eCells G) 4 q v2 A s H locs := h
  have hl : lv_has ls 7 [(0, .ref (q 0)), (1, .int p1), (2, .int p2), (3, .int (p1 * (32 : Int32))), (4, .int a1)] := hl
  have hf := un2_e hf
  refine lv_iload hx hb dX0_endErase_8 (lv_at hl 4 rfl) ?_
  refine lv_iload_n hx hb dX0_endErase_10 rfl (lv_at hl 3 rfl) ?_
  refine lv_bipush (v := (32 : Int32)) hx hb dX0_endErase_11 (by decide) ?_
  refine lv_iadd hx hb dX0_endErase_13 ?_
  refine lv_icmp_ge (tgt := 47) hx hb dX0_endErase_14 (by decide) (fun c4 => ?_) (fun c4 => ?_)
  · have hf := it_t c4 hf
    refine lv_aload_n hx hb dX0_endErase_47 rfl (lv_at hl 0 rfl) ?_
    refine lv_dup hx hb dX0_endErase_48 rfl ?_
    refine xget hC h.o (C := RX0) (T := TX0) (N := 4) (wM_us uw_X0) 0 (Nat.le_of_ble_eq_true rfl) eCells_0 rfl 3 (by decide) (wM_in fl_X0_21) rfl dX0_endErase_49 ?_
    refine lv_iload_n hx hb dX0_endErase_52 rfl (lv_at hl 1 rfl) ?_
    refine xiG h (va_runS (As := [.int p1]) (rest := [.int (v2 0 3), .ref (q 0)]) hC (k_X0_pagesOf l G q v2 p1 H.size) (xcwS hC lk_X0_60 in_X0 co_X0_pagesOf st_X0_pagesOf rfl rfl dd_X0_pagesOf ⟨Nat.le_of_ble_eq_true rfl, Nat.le_of_ble_eq_true rfl⟩) (preSN h.o [.int p1]) rfl rfl hl.1 rfl (lv_room (Nat.le_of_ble_eq_true rfl)) dX0_endErase_53 ⟨Nat.zero_le _, Nat.zero_le _⟩) (fun H locs h => ?_)
    refine lv_iconst (v := (-1 : Int32)) hx hb dX0_endErase_56 (by decide) ?_
    refine lv_ixor hx hb dX0_endErase_57 ?_
    refine lv_iand hx hb dX0_endErase_58 ?_
    refine xput hC h (C := RX0) (T := TX0) (N := 4) (wM_us uw_X0) tyX0_ok nmX0 0 (Nat.le_of_ble_eq_true rfl) eCells_0 rfl 3 (by decide) (wM_in fl_X0_21) rfl (ty := .int) (tyX0_ok 3 (by decide)) rfl rfl (Nat.le_of_ble_eq_true rfl) (eCells_0.trans rfl) dX0_endErase_59 (fun H locs h => ?_)
    obtain ⟨v5, ev5, hf⟩ := lt_e hf
    rw [← ev5] at h
    refine lv_aload_n hx hb dX0_endErase_62 rfl (lv_at hl 0 rfl) ?_
    refine xget hC h.o (C := RX0) (T := TX0) (N := 4) (wM_us uw_X0) 0 (Nat.le_of_ble_eq_true rfl) eCells_0 rfl 2 (by decide) (wM_in fl_X0_18) rfl dX0_endErase_63 ?_
    refine lv_iload_n hx hb dX0_endErase_66 rfl (lv_at hl 1 rfl) ?_
    refine xiG h (va_runSN (As := [.ref (q 3), .int p1]) (rest := []) hC (k_X8_at l G (sh 3 q) 8 (by decide) (sh 3 v5) p1 H.size) (xcwN hC (h.o.2.2.2.1 _ nw_X0_43) in_X8 co_X8_at st_X8_at rfl rfl dd_X8_at ⟨Nat.le_of_ble_eq_true rfl, Nat.le_of_ble_eq_true rfl⟩) (preSO h.o 3 1 sCells_3 (Nat.le_of_ble_eq_true rfl) [.ref (q 3), .int p1]) rfl rfl hl.1 rfl (lv_room (Nat.le_of_ble_eq_true rfl)) dX0_endErase_67 ⟨Nat.zero_le _, Nat.zero_le _⟩) (fun H locs h => ?_)
    refine lv_nm (z := (xat 8 (v5 3) p1)) rfl ?_
    refine lv_iconst (v := (1 : Int32)) hx hb dX0_endErase_70 (by decide) ?_
    refine lv_iadd hx hb dX0_endErase_71 ?_
    refine lv_istore (lv' := [(4, .int ((xat 8 (v5 3) p1) + (1 : Int32))), (0, .ref (q 0)), (1, .int p1), (2, .int p2), (3, .int (p1 * (32 : Int32)))]) hx hb dX0_endErase_72 hl (by decide) rfl (fun ls hl => ?_)
    refine lv_aload_n hx hb dX0_endErase_74 rfl (lv_at hl 1 rfl) ?_
    refine xget hC h.o (C := RX0) (T := TX0) (N := 4) (wM_us uw_X0) 0 (Nat.le_of_ble_eq_true rfl) eCells_0 rfl 2 (by decide) (wM_in fl_X0_18) rfl dX0_endErase_75 ?_
    refine lv_iload_n hx hb dX0_endErase_78 rfl (lv_at hl 2 rfl) ?_
    refine lv_iload hx hb dX0_endErase_79 (lv_at hl 0 rfl) ?_
    refine xv1 h 3 1 sCells_3 (Nat.le_of_ble_eq_true rfl) (va_runSN (As := [.ref (q 3), .int p1, .int ((xat 8 (v5 3) p1) + (1 : Int32))]) (rest := []) hC (k_X8_put l G (sh 3 q) 8 (by decide) (sh 3 v5) p1 ((xat 8 (v5 3) p1) + (1 : Int32)) H.size) (xcwN hC (h.o.2.2.2.1 _ nw_X0_47) in_X8 co_X8_put st_X8_put rfl rfl dd_X8_put ⟨Nat.le_of_ble_eq_true rfl, Nat.le_of_ble_eq_true rfl⟩) (preS1 h 3 1 sCells_3 (Nat.le_of_ble_eq_true rfl) [.ref (q 3), .int p1, .int ((xat 8 (v5 3) p1) + (1 : Int32))]) rfl rfl hl.1 rfl (lv_room (Nat.le_of_ble_eq_true rfl)) dX0_endErase_81 ⟨Nat.zero_le _, Nat.zero_le _⟩) (fun H locs h => ?_)
    obtain ⟨v6, ev6, hf⟩ := lt_e hf
    rw [pu_one (f := (xpt 8 (v5 3) p1 ((xat 8 (v5 3) p1) + (1 : Int32)))) rfl, ← ev6] at h
    refine lv_iload hx hb dX0_endErase_84 (lv_at hl 0 rfl) ?_
    refine lv_iload_n hx hb dX0_endErase_86 rfl (lv_at hl 3 rfl) ?_
    refine lv_icmp_le (tgt := 152) hx hb dX0_endErase_87 (by decide) (fun c7 => ?_) (fun c7 => ?_)
    · have hf := it_t c7 hf
      have hf := sm_e hf
      exact xvret hC hr hlk h hf dX0_endErase_152
    · have hf := it_f c7 hf
      refine lv_iload_n hx hb dX0_endErase_90 rfl (lv_at hl 4 rfl) ?_
      refine lv_iload hx hb dX0_endErase_91 (lv_at hl 0 rfl) ?_
      refine lv_bipush (v := (32 : Int32)) hx hb dX0_endErase_93 (by decide) ?_
      refine lv_irem hx hb dX0_endErase_95 (by decide) ?_
      refine lv_iadd hx hb dX0_endErase_96 ?_
      obtain ⟨x8, ex8, hf⟩ := lt_e hf
      refine lv_nm ex8 ?_
      refine lv_istore (lv' := [(5, .int x8), (4, .int ((xat 8 (v5 3) p1) + (1 : Int32))), (0, .ref (q 0)), (1, .int p1), (2, .int p2), (3, .int (p1 * (32 : Int32)))]) hx hb dX0_endErase_97 hl (by decide) rfl (fun ls hl => ?_)
      refine lv_iconst (v := (1 : Int32)) hx hb dX0_endErase_99 (by decide) ?_
      refine lv_iload hx hb dX0_endErase_100 (lv_at hl 1 rfl) ?_
      refine lv_bipush (v := (8 : Int32)) hx hb dX0_endErase_102 (by decide) ?_
      refine lv_irem hx hb dX0_endErase_104 (by decide) ?_
      refine lv_ishl hx hb dX0_endErase_105 ?_
      obtain ⟨x9, ex9, hf⟩ := lt_e hf
      refine lv_nm ex9 ?_
      refine lv_istore (lv' := [(6, .int x9), (5, .int x8), (4, .int ((xat 8 (v5 3) p1) + (1 : Int32))), (0, .ref (q 0)), (1, .int p1), (2, .int p2), (3, .int (p1 * (32 : Int32)))]) hx hb dX0_endErase_106 hl (by decide) rfl (fun ls hl => ?_)
      refine lv_aload_n hx hb dX0_endErase_108 rfl (lv_at hl 3 rfl) ?_
      refine xget hC h.o (C := RX0) (T := TX0) (N := 4) (wM_us uw_X0) 0 (Nat.le_of_ble_eq_true rfl) eCells_0 rfl 1 (by decide) (wM_in fl_X0_15) rfl dX0_endErase_109 ?_
      refine lv_iload hx hb dX0_endErase_112 (lv_at hl 1 rfl) ?_
      refine lv_aload_n hx hb dX0_endErase_114 rfl (lv_at hl 3 rfl) ?_
      refine xget hC h.o (C := RX0) (T := TX0) (N := 4) (wM_us uw_X0) 0 (Nat.le_of_ble_eq_true rfl) eCells_0 rfl 1 (by decide) (wM_in fl_X0_15) rfl dX0_endErase_115 ?_
      refine lv_iload hx hb dX0_endErase_118 (lv_at hl 1 rfl) ?_
      refine xiG h (va_runSN (As := [.ref (q 2), .int x8]) (rest := [.int x8, .ref (q 2)]) hC (k_X8_at l G (sh 2 q) 256 (by decide) (sh 2 v6) x8 H.size) (xcwN hC (h.o.2.2.2.1 _ nw_X0_43) in_X8 co_X8_at st_X8_at rfl rfl dd_X8_at ⟨Nat.le_of_ble_eq_true rfl, Nat.le_of_ble_eq_true rfl⟩) (preSO h.o 2 1 sCells_2 (Nat.le_of_ble_eq_true rfl) [.ref (q 2), .int x8]) rfl rfl hl.1 rfl (lv_room (Nat.le_of_ble_eq_true rfl)) dX0_endErase_120 ⟨Nat.zero_le _, Nat.zero_le _⟩) (fun H locs h => ?_)
      refine lv_nm (z := (xat 256 (v6 2) x8)) rfl ?_
      refine lv_iload hx hb dX0_endErase_123 (lv_at hl 0 rfl) ?_
      refine lv_ior hx hb dX0_endErase_125 ?_
      refine xv1 h 2 1 sCells_2 (Nat.le_of_ble_eq_true rfl) (va_runSN (As := [.ref (q 2), .int x8, .int ((xat 256 (v6 2) x8) ||| x9)]) (rest := []) hC (k_X8_put l G (sh 2 q) 256 (by decide) (sh 2 v6) x8 ((xat 256 (v6 2) x8) ||| x9) H.size) (xcwN hC (h.o.2.2.2.1 _ nw_X0_47) in_X8 co_X8_put st_X8_put rfl rfl dd_X8_put ⟨Nat.le_of_ble_eq_true rfl, Nat.le_of_ble_eq_true rfl⟩) (preS1 h 2 1 sCells_2 (Nat.le_of_ble_eq_true rfl) [.ref (q 2), .int x8, .int ((xat 256 (v6 2) x8) ||| x9)]) rfl rfl hl.1 rfl (lv_room (Nat.le_of_ble_eq_true rfl)) dX0_endErase_126 ⟨Nat.zero_le _, Nat.zero_le _⟩) (fun H locs h => ?_)
      obtain ⟨v10, ev10, hf⟩ := lt_e hf
      rw [pu_one (f := (xpt 256 (v6 2) x8 ((xat 256 (v6 2) x8) ||| x9))) rfl, ← ev10] at h
      refine lv_aload_n hx hb dX0_endErase_129 rfl (lv_at hl 3 rfl) ?_
      refine xget hC h.o (C := RX0) (T := TX0) (N := 4) (wM_us uw_X0) 0 (Nat.le_of_ble_eq_true rfl) eCells_0 rfl 0 (by decide) (wM_in fl_X0_9) rfl dX0_endErase_130 ?_
      refine lv_iload hx hb dX0_endErase_133 (lv_at hl 1 rfl) ?_
      refine lv_aload_n hx hb dX0_endErase_135 rfl (lv_at hl 3 rfl) ?_
      refine xget hC h.o (C := RX0) (T := TX0) (N := 4) (wM_us uw_X0) 0 (Nat.le_of_ble_eq_true rfl) eCells_0 rfl 0 (by decide) (wM_in fl_X0_9) rfl dX0_endErase_136 ?_
      refine lv_iload hx hb dX0_endErase_139 (lv_at hl 1 rfl) ?_
      refine xiG h (va_runSN (As := [.ref (q 1), .int x8]) (rest := [.int x8, .ref (q 1)]) hC (k_X8_at l G (sh 1 q) 256 (by decide) (sh 1 v10) x8 H.size) (xcwN hC (h.o.2.2.2.1 _ nw_X0_43) in_X8 co_X8_at st_X8_at rfl rfl dd_X8_at ⟨Nat.le_of_ble_eq_true rfl, Nat.le_of_ble_eq_true rfl⟩) (preSO h.o 1 1 sCells_1 (Nat.le_of_ble_eq_true rfl) [.ref (q 1), .int x8]) rfl rfl hl.1 rfl (lv_room (Nat.le_of_ble_eq_true rfl)) dX0_endErase_141 ⟨Nat.zero_le _, Nat.zero_le _⟩) (fun H locs h => ?_)
      refine lv_nm (z := (xat 256 (v10 1) x8)) rfl ?_
      refine lv_iload hx hb dX0_endErase_144 (lv_at hl 0 rfl) ?_
      refine lv_iconst (v := (-1 : Int32)) hx hb dX0_endErase_146 (by decide) ?_
      refine lv_ixor hx hb dX0_endErase_147 ?_
      refine lv_iand hx hb dX0_endErase_148 ?_
      refine xv1 h 1 1 sCells_1 (Nat.le_of_ble_eq_true rfl) (va_runSN (As := [.ref (q 1), .int x8, .int ((xat 256 (v10 1) x8) &&& (x9 ^^^ (-1 : Int32)))]) (rest := []) hC (k_X8_put l G (sh 1 q) 256 (by decide) (sh 1 v10) x8 ((xat 256 (v10 1) x8) &&& (x9 ^^^ (-1 : Int32))) H.size) (xcwN hC (h.o.2.2.2.1 _ nw_X0_47) in_X8 co_X8_put st_X8_put rfl rfl dd_X8_put ⟨Nat.le_of_ble_eq_true rfl, Nat.le_of_ble_eq_true rfl⟩) (preS1 h 1 1 sCells_1 (Nat.le_of_ble_eq_true rfl) [.ref (q 1), .int x8, .int ((xat 256 (v10 1) x8) &&& (x9 ^^^ (-1 : Int32)))]) rfl rfl hl.1 rfl (lv_room (Nat.le_of_ble_eq_true rfl)) dX0_endErase_149 ⟨Nat.zero_le _, Nat.zero_le _⟩) (fun H locs h => ?_)
      obtain ⟨v11, ev11, hf⟩ := lt_e hf
      rw [pu_one (f := (xpt 256 (v10 1) x8 ((xat 256 (v10 1) x8) &&& (x9 ^^^ (-1 : Int32))))) rfl, ← ev11] at h
      have hf := sm_e hf
      exact xvret hC hr hlk h hf dX0_endErase_152
  · have hf := it_f c4 hf
    refine lv_aload_n hx hb dX0_endErase_17 rfl (lv_at hl 0 rfl) ?_
    refine xget hC h.o (C := RX0) (T := TX0) (N := 4) (wM_us uw_X0) 0 (Nat.le_of_ble_eq_true rfl) eCells_0 rfl 0 (by decide) (wM_in fl_X0_9) rfl dX0_endErase_18 ?_
    refine lv_iload hx hb dX0_endErase_21 (lv_at hl 4 rfl) ?_
    refine lv_sipush (v := (255 : Int32)) hx hb dX0_endErase_23 (by decide) ?_
    refine lv_aload_n hx hb dX0_endErase_26 rfl (lv_at hl 0 rfl) ?_
    refine xget hC h.o (C := RX0) (T := TX0) (N := 4) (wM_us uw_X0) 0 (Nat.le_of_ble_eq_true rfl) eCells_0 rfl 1 (by decide) (wM_in fl_X0_15) rfl dX0_endErase_27 ?_
    refine lv_iload hx hb dX0_endErase_30 (lv_at hl 4 rfl) ?_
    refine xiG h (va_runSN (As := [.ref (q 2), .int a1]) (rest := [.int (255 : Int32), .int a1, .ref (q 1)]) hC (k_X8_at l G (sh 2 q) 256 (by decide) (sh 2 v2) a1 H.size) (xcwN hC (h.o.2.2.2.1 _ nw_X0_43) in_X8 co_X8_at st_X8_at rfl rfl dd_X8_at ⟨Nat.le_of_ble_eq_true rfl, Nat.le_of_ble_eq_true rfl⟩) (preSO h.o 2 1 sCells_2 (Nat.le_of_ble_eq_true rfl) [.ref (q 2), .int a1]) rfl rfl hl.1 rfl (lv_room (Nat.le_of_ble_eq_true rfl)) dX0_endErase_32 ⟨Nat.zero_le _, Nat.zero_le _⟩) (fun H locs h => ?_)
    refine lv_nm (z := (xat 256 (v2 2) a1)) rfl ?_
    refine lv_iconst (v := (-1 : Int32)) hx hb dX0_endErase_35 (by decide) ?_
    refine lv_ixor hx hb dX0_endErase_36 ?_
    refine lv_iand hx hb dX0_endErase_37 ?_
    refine xv1 h 1 1 sCells_1 (Nat.le_of_ble_eq_true rfl) (va_runSN (As := [.ref (q 1), .int a1, .int ((255 : Int32) &&& ((xat 256 (v2 2) a1) ^^^ (-1 : Int32)))]) (rest := []) hC (k_X8_put l G (sh 1 q) 256 (by decide) (sh 1 v2) a1 ((255 : Int32) &&& ((xat 256 (v2 2) a1) ^^^ (-1 : Int32))) H.size) (xcwN hC (h.o.2.2.2.1 _ nw_X0_47) in_X8 co_X8_put st_X8_put rfl rfl dd_X8_put ⟨Nat.le_of_ble_eq_true rfl, Nat.le_of_ble_eq_true rfl⟩) (preS1 h 1 1 sCells_1 (Nat.le_of_ble_eq_true rfl) [.ref (q 1), .int a1, .int ((255 : Int32) &&& ((xat 256 (v2 2) a1) ^^^ (-1 : Int32)))]) rfl rfl hl.1 rfl (lv_room (Nat.le_of_ble_eq_true rfl)) dX0_endErase_38 ⟨Nat.zero_le _, Nat.zero_le _⟩) (fun H locs h => ?_)
    obtain ⟨v12, ev12, hf⟩ := lt_e hf
    rw [pu_one (f := (xpt 256 (v2 1) a1 ((255 : Int32) &&& ((xat 256 (v2 2) a1) ^^^ (-1 : Int32))))) rfl, ← ev12] at h
    refine lv_iinc (v := (a1 + 1)) (lv' := [(4, .int (a1 + 1)), (0, .ref (q 0)), (1, .int p1), (2, .int p2), (3, .int (p1 * (32 : Int32)))]) hx hb dX0_endErase_41 hl (k := 4) rfl rfl (by decide) rfl (fun ls hl => ?_)
    refine lv_goto (tgt := 8) hx hb dX0_endErase_44 (by decide) ?_
    exact hrec3 ((a1 + 1), v12) hf H locs h ls (lv_sub hl [1, 2, 3, 4, 0] rfl)
def m_X0_doubtPage (v : xSt) (p1 : Int32) : Option xSt := lt (st2 v 0 3 ((v 0 3) ||| ((1 : Int32) <<< (p1 &&& 31)))) (fun v1 => some v1)
set_option maxHeartbeats 4000000 in
set_option maxRecDepth 100000 in
theorem c_X0_doubtPage (l : Launch) (G : xGl) (q : Nat → Nat) (v : xSt) (p1 : Int32) {z : xSt} (hf : m_X0_doubtPage v p1 = some z) : mRW l yX0_doubtPage (wM yX0_doubtPage cX0_doubtPage 2 none) { frames := 0, cells := 0, slots := 0, locals := 0 } G (eCells G) 4 q v [.ref (q 0), .int p1] qV z := by
  refine xRW (cc := cX0_doubtPage) (maxL := 2) (ret := none) (by decide) rfl (Nat.le_of_ble_eq_true rfl) ?_
  intro p e s m below meth c ls A hC hr hlk h hl
  have hx := hC.1
  have hb := hC.2.1
  have hl : lv_has ls 2 [(0, .ref (q 0)), (1, .int p1)] := hl
  unfold m_X0_doubtPage at hf
  obtain ⟨H, hH⟩ : ∃ H, H = s.heap := ⟨_, rfl⟩
  obtain ⟨locs, hlo⟩ : ∃ x : List Loc, x = [] := ⟨_, rfl⟩
  have h : hg G (eCells G) 4 q v A s H locs := by rw [hH, hlo]; exact h
  rw [← hlo, ← hH]
  clear hH hlo
  refine lv_aload_n hx hb dX0_doubtPage_0 rfl (lv_at hl 0 rfl) ?_
  refine lv_dup hx hb dX0_doubtPage_1 rfl ?_
  refine xget hC h.o (C := RX0) (T := TX0) (N := 4) (wM_us uw_X0) 0 (Nat.le_of_ble_eq_true rfl) eCells_0 rfl 3 (by decide) (wM_in fl_X0_21) rfl dX0_doubtPage_2 ?_
  refine lv_iconst (v := (1 : Int32)) hx hb dX0_doubtPage_5 (by decide) ?_
  refine lv_iload_n hx hb dX0_doubtPage_6 rfl (lv_at hl 1 rfl) ?_
  refine lv_ishl hx hb dX0_doubtPage_7 ?_
  refine lv_ior hx hb dX0_doubtPage_8 ?_
  refine xput hC h (C := RX0) (T := TX0) (N := 4) (wM_us uw_X0) tyX0_ok nmX0 0 (Nat.le_of_ble_eq_true rfl) eCells_0 rfl 3 (by decide) (wM_in fl_X0_21) rfl (ty := .int) (tyX0_ok 3 (by decide)) rfl rfl (Nat.le_of_ble_eq_true rfl) (eCells_0.trans rfl) dX0_doubtPage_9 (fun H locs h => ?_)
  obtain ⟨v1, ev1, hf⟩ := lt_e hf
  rw [← ev1] at h
  have hf := sm_e hf
  exact xvret hC hr hlk h hf dX0_doubtPage_12
def m_X0_doubtSector (v : xSt) (p1 : Int32) : Option xSt := lt (st2 v 0 3 ((v 0 3) ||| (xpg p1))) (fun v1 => some v1)
set_option maxHeartbeats 4000000 in
set_option maxRecDepth 100000 in
theorem c_X0_doubtSector (l : Launch) (G : xGl) (q : Nat → Nat) (v : xSt) (p1 : Int32) {z : xSt} (hf : m_X0_doubtSector v p1 = some z) : mRW l yX0_doubtSector (wM yX0_doubtSector cX0_doubtSector 2 none) { frames := 1, cells := 0, slots := 0, locals := 20 } G (eCells G) 4 q v [.ref (q 0), .int p1] qV z := by
  refine xRW (cc := cX0_doubtSector) (maxL := 2) (ret := none) (by decide) rfl (Nat.le_of_ble_eq_true rfl) ?_
  intro p e s m below meth c ls A hC hr hlk h hl
  have hx := hC.1
  have hb := hC.2.1
  have hl : lv_has ls 2 [(0, .ref (q 0)), (1, .int p1)] := hl
  unfold m_X0_doubtSector at hf
  obtain ⟨H, hH⟩ : ∃ H, H = s.heap := ⟨_, rfl⟩
  obtain ⟨locs, hlo⟩ : ∃ x : List Loc, x = [] := ⟨_, rfl⟩
  have h : hg G (eCells G) 4 q v A s H locs := by rw [hH, hlo]; exact h
  rw [← hlo, ← hH]
  clear hH hlo
  refine lv_aload_n hx hb dX0_doubtSector_0 rfl (lv_at hl 0 rfl) ?_
  refine lv_dup hx hb dX0_doubtSector_1 rfl ?_
  refine xget hC h.o (C := RX0) (T := TX0) (N := 4) (wM_us uw_X0) 0 (Nat.le_of_ble_eq_true rfl) eCells_0 rfl 3 (by decide) (wM_in fl_X0_21) rfl dX0_doubtSector_2 ?_
  refine lv_iload_n hx hb dX0_doubtSector_5 rfl (lv_at hl 1 rfl) ?_
  refine xiG h (va_runS (As := [.int p1]) (rest := [.int (v 0 3), .ref (q 0)]) hC (k_X0_pagesOf l G q v p1 H.size) (xcwS hC lk_X0_60 in_X0 co_X0_pagesOf st_X0_pagesOf rfl rfl dd_X0_pagesOf ⟨Nat.le_of_ble_eq_true rfl, Nat.le_of_ble_eq_true rfl⟩) (preSN h.o [.int p1]) rfl rfl hl.1 rfl (lv_room (Nat.le_of_ble_eq_true rfl)) dX0_doubtSector_6 ⟨Nat.zero_le _, Nat.zero_le _⟩) (fun H locs h => ?_)
  refine lv_ior hx hb dX0_doubtSector_9 ?_
  refine xput hC h (C := RX0) (T := TX0) (N := 4) (wM_us uw_X0) tyX0_ok nmX0 0 (Nat.le_of_ble_eq_true rfl) eCells_0 rfl 3 (by decide) (wM_in fl_X0_21) rfl (ty := .int) (tyX0_ok 3 (by decide)) rfl rfl (Nat.le_of_ble_eq_true rfl) (eCells_0.trans rfl) dX0_doubtSector_10 (fun H locs h => ?_)
  obtain ⟨v1, ev1, hf⟩ := lt_e hf
  rw [← ev1] at h
  have hf := sm_e hf
  exact xvret hC hr hlk h hf dX0_doubtSector_13
def m_X0_isUnsure (v : xSt) (p1 : Int32) : Option (Int32) := (if ((((v 0 3)).toUInt32 >>> ((p1).toUInt32 &&& Int32.toUInt32 31)).toInt32 &&& (1 : Int32)) = (1 : Int32) then some (1 : Int32) else some (0 : Int32))
set_option maxHeartbeats 4000000 in
set_option maxRecDepth 100000 in
theorem c_X0_isUnsure (l : Launch) (G : xGl) (q : Nat → Nat) (v : xSt) (p1 : Int32) {z : (Int32)} (hf : m_X0_isUnsure v p1 = some z) : mRO l yX0_isUnsure (wM yX0_isUnsure cX0_isUnsure 2 (some .boolean)) { frames := 0, cells := 0, slots := 0, locals := 0 } G (eCells G) 4 q v [.ref (q 0), .int p1] (qZ z) := by
  refine xRO (cc := cX0_isUnsure) (maxL := 2) (ret := (some .boolean)) (by decide) rfl (Nat.le_of_ble_eq_true rfl) ?_
  intro p e s m below meth c ls A hC hr hlk h hl
  have hx := hC.1
  have hb := hC.2.1
  have hl : lv_has ls 2 [(0, .ref (q 0)), (1, .int p1)] := hl
  unfold m_X0_isUnsure at hf
  obtain ⟨H, hH⟩ : ∃ H, H = s.heap := ⟨_, rfl⟩
  obtain ⟨locs, hlo⟩ : ∃ x : List Loc, x = [] := ⟨_, rfl⟩
  have h : ho G (eCells G) 4 q v A s H locs := by rw [hH, hlo]; exact h
  rw [← hlo, ← hH]
  clear hH hlo
  refine lv_aload_n hx hb dX0_isUnsure_0 rfl (lv_at hl 0 rfl) ?_
  refine xget hC h.o (C := RX0) (T := TX0) (N := 4) (wM_us uw_X0) 0 (Nat.le_of_ble_eq_true rfl) eCells_0 rfl 3 (by decide) (wM_in fl_X0_21) rfl dX0_isUnsure_1 ?_
  refine lv_iload_n hx hb dX0_isUnsure_4 rfl (lv_at hl 1 rfl) ?_
  refine lv_iushr hx hb dX0_isUnsure_5 rfl ?_
  refine lv_iconst (v := (1 : Int32)) hx hb dX0_isUnsure_6 (by decide) ?_
  refine lv_iand hx hb dX0_isUnsure_7 ?_
  refine lv_iconst (v := (1 : Int32)) hx hb dX0_isUnsure_8 (by decide) ?_
  refine lv_icmp_ne (tgt := 16) hx hb dX0_isUnsure_9 (by decide) (fun c1 => ?_) (fun c1 => ?_)
  · have hf := it_f c1 hf
    refine lv_iconst (v := (0 : Int32)) hx hb dX0_isUnsure_16 (by decide) ?_
    have hf := sm_e hf
    exact ozret hC hr hlk h (by rw [← hf]) (by decide) dX0_isUnsure_17
  · have hf := it_t c1 hf
    refine lv_iconst (v := (1 : Int32)) hx hb dX0_isUnsure_12 (by decide) ?_
    refine lv_goto (tgt := 17) hx hb dX0_isUnsure_13 (by decide) ?_
    have hf := sm_e hf
    exact ozret hC hr hlk h (by rw [← hf]) (by decide) dX0_isUnsure_17
def m_X0_unsurePages (v : xSt) (p1 : Int32) : Option (Int32) := some (xbc ((v 0 3) &&& (xpg p1)))
set_option maxHeartbeats 4000000 in
set_option maxRecDepth 100000 in
theorem c_X0_unsurePages (l : Launch) (G : xGl) (q : Nat → Nat) (v : xSt) (p1 : Int32) {z : (Int32)} (hf : m_X0_unsurePages v p1 = some z) : mRO l yX0_unsurePages (wM yX0_unsurePages cX0_unsurePages 2 (some .int)) { frames := 1, cells := 0, slots := 0, locals := 20 } G (eCells G) 4 q v [.ref (q 0), .int p1] (qI z) := by
  refine xRO (cc := cX0_unsurePages) (maxL := 2) (ret := (some .int)) (by decide) rfl (Nat.le_of_ble_eq_true rfl) ?_
  intro p e s m below meth c ls A hC hr hlk h hl
  have hx := hC.1
  have hb := hC.2.1
  have hl : lv_has ls 2 [(0, .ref (q 0)), (1, .int p1)] := hl
  unfold m_X0_unsurePages at hf
  obtain ⟨H, hH⟩ : ∃ H, H = s.heap := ⟨_, rfl⟩
  obtain ⟨locs, hlo⟩ : ∃ x : List Loc, x = [] := ⟨_, rfl⟩
  have h : ho G (eCells G) 4 q v A s H locs := by rw [hH, hlo]; exact h
  rw [← hlo, ← hH]
  clear hH hlo
  refine lv_aload_n hx hb dX0_unsurePages_0 rfl (lv_at hl 0 rfl) ?_
  refine xget hC h.o (C := RX0) (T := TX0) (N := 4) (wM_us uw_X0) 0 (Nat.le_of_ble_eq_true rfl) eCells_0 rfl 3 (by decide) (wM_in fl_X0_21) rfl dX0_unsurePages_1 ?_
  refine lv_iload_n hx hb dX0_unsurePages_4 rfl (lv_at hl 1 rfl) ?_
  refine xiO h (va_runS (As := [.int p1]) (rest := [.int (v 0 3)]) hC (k_X0_pagesOf l G q v p1 H.size) (xcwS hC lk_X0_60 in_X0 co_X0_pagesOf st_X0_pagesOf rfl rfl dd_X0_pagesOf ⟨Nat.le_of_ble_eq_true rfl, Nat.le_of_ble_eq_true rfl⟩) (preSN h.o [.int p1]) rfl rfl hl.1 rfl (lv_room (Nat.le_of_ble_eq_true rfl)) dX0_unsurePages_5 ⟨Nat.zero_le _, Nat.zero_le _⟩) (fun H locs h => ?_)
  refine lv_iand hx hb dX0_unsurePages_8 ?_
  refine xiO h (va_runS (As := [.int ((v 0 3) &&& (xpg p1))]) (rest := []) hC (k_J6_bitCount_0f7a4 l G q v ((v 0 3) &&& (xpg p1)) H.size) (xcwS hC lk_X0_51 in_J6 co_J6_bitCount_0f7a4 st_J6_bitCount_0f7a4 rfl rfl dd_J6_bitCount_0f7a4 ⟨Nat.le_of_ble_eq_true rfl, Nat.le_of_ble_eq_true rfl⟩) (preSN h.o [.int ((v 0 3) &&& (xpg p1))]) rfl rfl hl.1 rfl (lv_room (Nat.le_of_ble_eq_true rfl)) dX0_unsurePages_9 ⟨Nat.zero_le _, Nat.zero_le _⟩) (fun H locs h => ?_)
  have hf := sm_e hf
  exact oiret hC hr hlk h (by rw [← hf]) dX0_unsurePages_12
def m_X0_ones (v : xSt) (p1 : Int32) (p2 : Int32) : Option (Int32) := lp (fun (rec3 : Int32 × Int32 → Option (Int32)) => un2 (fun (a1 : Int32) (a2 : Int32) => (if (p1 + p2) ≤ a2 then some a1 else rec3 ((a1 + (xbc (xat 256 (v 1) a2))), (a2 + 1))))) xF ((0 : Int32), p1)
set_option maxHeartbeats 4000000 in
set_option maxRecDepth 100000 in
theorem c_X0_ones (l : Launch) (G : xGl) (q : Nat → Nat) (v : xSt) (p1 : Int32) (p2 : Int32) {z : (Int32)} (hf : m_X0_ones v p1 p2 = some z) : mRO l yX0_ones (wM yX0_ones cX0_ones 5 (some .int)) { frames := 1, cells := 0, slots := 0, locals := 21 } G (eCells G) 4 q v [.ref (q 0), .int p1, .int p2] (qI z) := by
  refine xRO (cc := cX0_ones) (maxL := 5) (ret := (some .int)) (by decide) rfl (Nat.le_of_ble_eq_true rfl) ?_
  intro p e s m below meth c ls A hC hr hlk h hl
  have hx := hC.1
  have hb := hC.2.1
  have hl : lv_has ls 5 [(0, .ref (q 0)), (1, .int p1), (2, .int p2)] := hl
  unfold m_X0_ones at hf
  obtain ⟨H, hH⟩ : ∃ H, H = s.heap := ⟨_, rfl⟩
  obtain ⟨locs, hlo⟩ : ∃ x : List Loc, x = [] := ⟨_, rfl⟩
  have h : ho G (eCells G) 4 q v A s H locs := by rw [hH, hlo]; exact h
  rw [← hlo, ← hH]
  clear hH hlo
  refine lv_iconst (v := (0 : Int32)) hx hb dX0_ones_0 (by decide) ?_
  refine lv_istore_n (lv' := [(3, .int (0 : Int32)), (0, .ref (q 0)), (1, .int p1), (2, .int p2)]) hx hb dX0_ones_1 rfl hl (by decide) rfl (fun ls hl => ?_)
  refine lv_iload_n hx hb dX0_ones_2 rfl (lv_at hl 2 rfl) ?_
  refine lv_istore (lv' := [(4, .int p1), (3, .int (0 : Int32)), (0, .ref (q 0)), (1, .int p1), (2, .int p2)]) hx hb dX0_ones_3 hl (by decide) rfl (fun ls hl => ?_)
  refine lp_i (z := z) (P := fun (pp : Int32 × Int32) => ∀ (H : Heap) (locs : List Loc), ho G (eCells G) 4 q v A s H locs → ∀ (ls : Array Slot), lv_has ls 5 [(0, .ref (q 0)), (1, .int p1), (2, .int p2), (3, .int pp.1), (4, .int pp.2)] → W p l e { frames := 1, cells := 0, slots := 0, locals := 21 } s m [.ref (q 0), .int p1, .int p2].toArray below meth c H locs 0 0 (MQ below ((qI z) (fun _ => True) A) [.ref (q 0), .int p1, .int p2].toArray s 0 0 A) (F0 m 5 ls [])) ?_ _ _ hf H locs h ls (lv_sub hl [2, 3, 4, 1, 0] rfl)
  intro rec3 hrec3 pp hf H locs h ls hl
  obtain ⟨a1, a2⟩ := pp
  have h : ho G (eCells G) 4 q v A s H locs := h
  have hl : lv_has ls 5 [(0, .ref (q 0)), (1, .int p1), (2, .int p2), (3, .int a1), (4, .int a2)] := hl
  have hf := un2_e hf
  refine lv_iload hx hb dX0_ones_5 (lv_at hl 4 rfl) ?_
  refine lv_iload_n hx hb dX0_ones_7 rfl (lv_at hl 1 rfl) ?_
  refine lv_iload_n hx hb dX0_ones_8 rfl (lv_at hl 2 rfl) ?_
  refine lv_iadd hx hb dX0_ones_9 ?_
  refine lv_icmp_ge (tgt := 34) hx hb dX0_ones_10 (by decide) (fun c4 => ?_) (fun c4 => ?_)
  · have hf := it_t c4 hf
    refine lv_iload_n hx hb dX0_ones_34 rfl (lv_at hl 3 rfl) ?_
    have hf := sm_e hf
    exact oiret hC hr hlk h (by rw [← hf]) dX0_ones_35
  · have hf := it_f c4 hf
    refine lv_iload_n hx hb dX0_ones_13 rfl (lv_at hl 3 rfl) ?_
    refine lv_aload_n hx hb dX0_ones_14 rfl (lv_at hl 0 rfl) ?_
    refine xget hC h.o (C := RX0) (T := TX0) (N := 4) (wM_us uw_X0) 0 (Nat.le_of_ble_eq_true rfl) eCells_0 rfl 0 (by decide) (wM_in fl_X0_9) rfl dX0_ones_15 ?_
    refine lv_iload hx hb dX0_ones_18 (lv_at hl 4 rfl) ?_
    refine xiO h (va_runSN (As := [.ref (q 1), .int a2]) (rest := [.int a1]) hC (k_X8_at l G (sh 1 q) 256 (by decide) (sh 1 v) a2 H.size) (xcwN hC (h.o.2.2.2.1 _ nw_X0_43) in_X8 co_X8_at st_X8_at rfl rfl dd_X8_at ⟨Nat.le_of_ble_eq_true rfl, Nat.le_of_ble_eq_true rfl⟩) (preSO h.o 1 1 sCells_1 (Nat.le_of_ble_eq_true rfl) [.ref (q 1), .int a2]) rfl rfl hl.1 rfl (lv_room (Nat.le_of_ble_eq_true rfl)) dX0_ones_20 ⟨Nat.zero_le _, Nat.zero_le _⟩) (fun H locs h => ?_)
    refine lv_nm (z := (xat 256 (v 1) a2)) rfl ?_
    refine xiO h (va_runS (As := [.int (xat 256 (v 1) a2)]) (rest := [.int a1]) hC (k_J6_bitCount_0f7a4 l G q v (xat 256 (v 1) a2) H.size) (xcwS hC lk_X0_51 in_J6 co_J6_bitCount_0f7a4 st_J6_bitCount_0f7a4 rfl rfl dd_J6_bitCount_0f7a4 ⟨Nat.le_of_ble_eq_true rfl, Nat.le_of_ble_eq_true rfl⟩) (preSN h.o [.int (xat 256 (v 1) a2)]) rfl rfl hl.1 rfl (lv_room (Nat.le_of_ble_eq_true rfl)) dX0_ones_23 ⟨Nat.zero_le _, Nat.zero_le _⟩) (fun H locs h => ?_)
    refine lv_iadd hx hb dX0_ones_26 ?_
    refine lv_istore_n (lv' := [(3, .int (a1 + (xbc (xat 256 (v 1) a2)))), (0, .ref (q 0)), (1, .int p1), (2, .int p2), (4, .int a2)]) hx hb dX0_ones_27 rfl hl (by decide) rfl (fun ls hl => ?_)
    refine lv_iinc (v := (a2 + 1)) (lv' := [(4, .int (a2 + 1)), (3, .int (a1 + (xbc (xat 256 (v 1) a2)))), (0, .ref (q 0)), (1, .int p1), (2, .int p2)]) hx hb dX0_ones_28 hl (k := 4) rfl rfl (by decide) rfl (fun ls hl => ?_)
    refine lv_goto (tgt := 5) hx hb dX0_ones_31 (by decide) ?_
    exact hrec3 ((a1 + (xbc (xat 256 (v 1) a2))), (a2 + 1)) hf H locs h ls (lv_sub hl [2, 3, 4, 1, 0] rfl)
def m_X0_fallenPages (v : xSt) (p1 : Int32) : Option (Int32) := lp (fun (rec3 : Int32 × Int32 → Option (Int32)) => un2 (fun (a1 : Int32) (a2 : Int32) => (if ((p1 + (1 : Int32)) * (4 : Int32)) ≤ a2 then some a1 else ob (m_X0_ones v (a2 * (8 : Int32)) (8 : Int32)) (fun r6 => lt (fun (a7 : Int32) => rec3 (a7, (a2 + 1))) (fun j8 => (if (64 : Int32) ≤ r6 then j8 a1 else j8 (a1 + 1))))))) xF ((0 : Int32), (p1 * (4 : Int32)))
set_option maxHeartbeats 4000000 in
set_option maxRecDepth 100000 in
theorem c_X0_fallenPages (l : Launch) (G : xGl) (q : Nat → Nat) (v : xSt) (p1 : Int32) {z : (Int32)} (hf : m_X0_fallenPages v p1 = some z) : mRO l yX0_fallenPages (wM yX0_fallenPages cX0_fallenPages 4 (some .int)) { frames := 2, cells := 0, slots := 0, locals := 45 } G (eCells G) 4 q v [.ref (q 0), .int p1] (qI z) := by
  refine xRO (cc := cX0_fallenPages) (maxL := 4) (ret := (some .int)) (by decide) rfl (Nat.le_of_ble_eq_true rfl) ?_
  intro p e s m below meth c ls A hC hr hlk h hl
  have hx := hC.1
  have hb := hC.2.1
  have hl : lv_has ls 4 [(0, .ref (q 0)), (1, .int p1)] := hl
  unfold m_X0_fallenPages at hf
  obtain ⟨H, hH⟩ : ∃ H, H = s.heap := ⟨_, rfl⟩
  obtain ⟨locs, hlo⟩ : ∃ x : List Loc, x = [] := ⟨_, rfl⟩
  have h : ho G (eCells G) 4 q v A s H locs := by rw [hH, hlo]; exact h
  rw [← hlo, ← hH]
  clear hH hlo
  refine lv_iconst (v := (0 : Int32)) hx hb dX0_fallenPages_0 (by decide) ?_
  refine lv_istore_n (lv' := [(2, .int (0 : Int32)), (0, .ref (q 0)), (1, .int p1)]) hx hb dX0_fallenPages_1 rfl hl (by decide) rfl (fun ls hl => ?_)
  refine lv_iload_n hx hb dX0_fallenPages_2 rfl (lv_at hl 2 rfl) ?_
  refine lv_iconst (v := (4 : Int32)) hx hb dX0_fallenPages_3 (by decide) ?_
  refine lv_imul hx hb dX0_fallenPages_4 ?_
  refine lv_istore_n (lv' := [(3, .int (p1 * (4 : Int32))), (2, .int (0 : Int32)), (0, .ref (q 0)), (1, .int p1)]) hx hb dX0_fallenPages_5 rfl hl (by decide) rfl (fun ls hl => ?_)
  refine lp_i (z := z) (P := fun (pp : Int32 × Int32) => ∀ (H : Heap) (locs : List Loc), ho G (eCells G) 4 q v A s H locs → ∀ (ls : Array Slot), lv_has ls 4 [(0, .ref (q 0)), (1, .int p1), (2, .int pp.1), (3, .int pp.2)] → W p l e { frames := 2, cells := 0, slots := 0, locals := 45 } s m [.ref (q 0), .int p1].toArray below meth c H locs 0 0 (MQ below ((qI z) (fun _ => True) A) [.ref (q 0), .int p1].toArray s 0 0 A) (F0 m 6 ls [])) ?_ _ _ hf H locs h ls (lv_sub hl [2, 3, 1, 0] rfl)
  intro rec3 hrec3 pp hf H locs h ls hl
  obtain ⟨a1, a2⟩ := pp
  have h : ho G (eCells G) 4 q v A s H locs := h
  have hl : lv_has ls 4 [(0, .ref (q 0)), (1, .int p1), (2, .int a1), (3, .int a2)] := hl
  have hf := un2_e hf
  refine lv_iload_n hx hb dX0_fallenPages_6 rfl (lv_at hl 3 rfl) ?_
  refine lv_iload_n hx hb dX0_fallenPages_7 rfl (lv_at hl 1 rfl) ?_
  refine lv_iconst (v := (1 : Int32)) hx hb dX0_fallenPages_8 (by decide) ?_
  refine lv_iadd hx hb dX0_fallenPages_9 ?_
  refine lv_iconst (v := (4 : Int32)) hx hb dX0_fallenPages_10 (by decide) ?_
  refine lv_imul hx hb dX0_fallenPages_11 ?_
  refine lv_icmp_ge (tgt := 39) hx hb dX0_fallenPages_12 (by decide) (fun c4 => ?_) (fun c4 => ?_)
  · have hf := it_t c4 hf
    refine lv_iload_n hx hb dX0_fallenPages_39 rfl (lv_at hl 2 rfl) ?_
    have hf := sm_e hf
    exact oiret hC hr hlk h (by rw [← hf]) dX0_fallenPages_40
  · have hf := it_f c4 hf
    refine lv_aload_n hx hb dX0_fallenPages_15 rfl (lv_at hl 0 rfl) ?_
    refine lv_iload_n hx hb dX0_fallenPages_16 rfl (lv_at hl 3 rfl) ?_
    refine lv_bipush (v := (8 : Int32)) hx hb dX0_fallenPages_17 (by decide) ?_
    refine lv_imul hx hb dX0_fallenPages_19 ?_
    refine lv_bipush (v := (8 : Int32)) hx hb dX0_fallenPages_20 (by decide) ?_
    obtain ⟨r6, hy5, hf⟩ := ob_e hf
    refine xiO h (va_runV (As := [.int (a2 * (8 : Int32)), .int (8 : Int32)]) (rest := []) hC (c_X0_ones l G q v (a2 * (8 : Int32)) (8 : Int32) hy5 H.size) (xcwV hC lk_X0_63 in_X0 co_X0_ones im_X0_ones se_X0_ones rfl rfl dd_X0_ones ⟨Nat.le_of_ble_eq_true rfl, Nat.le_of_ble_eq_true rfl⟩) (preVO0 h.o (Nat.le_of_ble_eq_true rfl) eCells_0 rfl [.int (a2 * (8 : Int32)), .int (8 : Int32)]) rfl rfl hl.1 rfl (lv_room (Nat.le_of_ble_eq_true rfl)) dX0_fallenPages_22 ⟨Nat.zero_le _, Nat.zero_le _⟩) (fun H locs h => ?_)
    refine lv_bipush (v := (64 : Int32)) hx hb dX0_fallenPages_25 (by decide) ?_
    obtain ⟨j8, ej8, hf⟩ := lt_e hf
    have hj8 : ∀ (a7 : Int32) (H : Heap) (locs : List Loc), ho G (eCells G) 4 q v A s H locs → ∀ (ls : Array Slot), lv_has ls 4 [(0, .ref (q 0)), (1, .int p1), (2, .int a7), (3, .int a2)] → j8 a7 = some z → W p l e { frames := 2, cells := 0, slots := 0, locals := 45 } s m [.ref (q 0), .int p1].toArray below meth c H locs 0 0 (MQ below ((qI z) (fun _ => True) A) [.ref (q 0), .int p1].toArray s 0 0 A) (F0 m 33 ls []) := by
      intro a7 H locs h ls hl hf
      rw [ej8] at hf
      refine lv_iinc (v := (a2 + 1)) (lv' := [(3, .int (a2 + 1)), (0, .ref (q 0)), (1, .int p1), (2, .int a7)]) hx hb dX0_fallenPages_33 hl (k := 3) rfl rfl (by decide) rfl (fun ls hl => ?_)
      refine lv_goto (tgt := 6) hx hb dX0_fallenPages_36 (by decide) ?_
      exact hrec3 (a7, (a2 + 1)) hf H locs h ls (lv_sub hl [1, 2, 3, 0] rfl)
    refine lv_icmp_ge (tgt := 33) hx hb dX0_fallenPages_27 (by decide) (fun c9 => ?_) (fun c9 => ?_)
    · have hf := it_t c9 hf
      exact hj8 a1 H locs h ls (lv_sub hl [0, 1, 2, 3] rfl) hf
    · have hf := it_f c9 hf
      refine lv_iinc (v := (a1 + 1)) (lv' := [(2, .int (a1 + 1)), (0, .ref (q 0)), (1, .int p1), (3, .int a2)]) hx hb dX0_fallenPages_30 hl (k := 2) rfl rfl (by decide) rfl (fun ls hl => ?_)
      exact hj8 (a1 + 1) H locs h ls (lv_sub hl [1, 2, 0, 3] rfl) hf
def m_X0_stuckBits (v : xSt) : Option (Int32) := lp (fun (rec3 : Int32 × Int32 → Option (Int32)) => un2 (fun (a1 : Int32) (a2 : Int32) => (if (256 : Int32) ≤ a2 then some a1 else ck (¬ (a2 < 0 ∨ 256 ≤ a2.toNatClampNeg)) (rec3 ((a1 + (xbc (v 2 a2.toNatClampNeg))), (a2 + 1)))))) xF ((0 : Int32), (0 : Int32))
set_option maxHeartbeats 4000000 in
set_option maxRecDepth 100000 in
theorem c_X0_stuckBits (l : Launch) (G : xGl) (q : Nat → Nat) (v : xSt) {z : (Int32)} (hf : m_X0_stuckBits v = some z) : mRO l yX0_stuckBits (wM yX0_stuckBits cX0_stuckBits 3 (some .int)) { frames := 1, cells := 0, slots := 0, locals := 20 } G (eCells G) 4 q v [.ref (q 0)] (qI z) := by
  refine xRO (cc := cX0_stuckBits) (maxL := 3) (ret := (some .int)) (by decide) rfl (Nat.le_of_ble_eq_true rfl) ?_
  intro p e s m below meth c ls A hC hr hlk h hl
  have hx := hC.1
  have hb := hC.2.1
  have hl : lv_has ls 3 [(0, .ref (q 0))] := hl
  unfold m_X0_stuckBits at hf
  obtain ⟨H, hH⟩ : ∃ H, H = s.heap := ⟨_, rfl⟩
  obtain ⟨locs, hlo⟩ : ∃ x : List Loc, x = [] := ⟨_, rfl⟩
  have h : ho G (eCells G) 4 q v A s H locs := by rw [hH, hlo]; exact h
  rw [← hlo, ← hH]
  clear hH hlo
  refine lv_iconst (v := (0 : Int32)) hx hb dX0_stuckBits_0 (by decide) ?_
  refine lv_istore_n (lv' := [(1, .int (0 : Int32)), (0, .ref (q 0))]) hx hb dX0_stuckBits_1 rfl hl (by decide) rfl (fun ls hl => ?_)
  refine lv_iconst (v := (0 : Int32)) hx hb dX0_stuckBits_2 (by decide) ?_
  refine lv_istore_n (lv' := [(2, .int (0 : Int32)), (1, .int (0 : Int32)), (0, .ref (q 0))]) hx hb dX0_stuckBits_3 rfl hl (by decide) rfl (fun ls hl => ?_)
  refine lp_i (z := z) (P := fun (pp : Int32 × Int32) => ∀ (H : Heap) (locs : List Loc), ho G (eCells G) 4 q v A s H locs → ∀ (ls : Array Slot), lv_has ls 3 [(0, .ref (q 0)), (1, .int pp.1), (2, .int pp.2)] → W p l e { frames := 1, cells := 0, slots := 0, locals := 20 } s m [.ref (q 0)].toArray below meth c H locs 0 0 (MQ below ((qI z) (fun _ => True) A) [.ref (q 0)].toArray s 0 0 A) (F0 m 4 ls [])) ?_ _ _ hf H locs h ls (lv_sub hl [2, 1, 0] rfl)
  intro rec3 hrec3 pp hf H locs h ls hl
  obtain ⟨a1, a2⟩ := pp
  have h : ho G (eCells G) 4 q v A s H locs := h
  have hl : lv_has ls 3 [(0, .ref (q 0)), (1, .int a1), (2, .int a2)] := hl
  have hf := un2_e hf
  refine lv_iload_n hx hb dX0_stuckBits_4 rfl (lv_at hl 2 rfl) ?_
  refine lv_aload_n hx hb dX0_stuckBits_5 rfl (lv_at hl 0 rfl) ?_
  refine xget hC h.o (C := RX0) (T := TX0) (N := 4) (wM_us uw_X0) 0 (Nat.le_of_ble_eq_true rfl) eCells_0 rfl 1 (by decide) (wM_in fl_X0_15) rfl dX0_stuckBits_6 ?_
  refine xalen hC h.o 0 rfl 2 (Nat.le_of_ble_eq_true rfl) eCells_2 (z := (256 : Int32)) rfl dX0_stuckBits_9 ?_
  refine lv_icmp_ge (tgt := 31) hx hb dX0_stuckBits_10 (by decide) (fun c4 => ?_) (fun c4 => ?_)
  · have hf := it_t c4 hf
    refine lv_iload_n hx hb dX0_stuckBits_31 rfl (lv_at hl 1 rfl) ?_
    have hf := sm_e hf
    exact oiret hC hr hlk h (by rw [← hf]) dX0_stuckBits_32
  · have hf := it_f c4 hf
    refine lv_iload_n hx hb dX0_stuckBits_13 rfl (lv_at hl 1 rfl) ?_
    refine lv_aload_n hx hb dX0_stuckBits_14 rfl (lv_at hl 0 rfl) ?_
    refine xget hC h.o (C := RX0) (T := TX0) (N := 4) (wM_us uw_X0) 0 (Nat.le_of_ble_eq_true rfl) eCells_0 rfl 1 (by decide) (wM_in fl_X0_15) rfl dX0_stuckBits_15 ?_
    refine lv_iload_n hx hb dX0_stuckBits_18 rfl (lv_at hl 2 rfl) ?_
    obtain ⟨hi5, hf⟩ := ck_e hf
    refine xiald hC h.o 2 (Nat.le_of_ble_eq_true rfl) eCells_2 hi5 dX0_stuckBits_19 ?_
    refine xiO h (va_runS (As := [.int (v 2 a2.toNatClampNeg)]) (rest := [.int a1]) hC (k_J6_bitCount_0f7a4 l G q v (v 2 a2.toNatClampNeg) H.size) (xcwS hC lk_X0_51 in_J6 co_J6_bitCount_0f7a4 st_J6_bitCount_0f7a4 rfl rfl dd_J6_bitCount_0f7a4 ⟨Nat.le_of_ble_eq_true rfl, Nat.le_of_ble_eq_true rfl⟩) (preSN h.o [.int (v 2 a2.toNatClampNeg)]) rfl rfl hl.1 rfl (lv_room (Nat.le_of_ble_eq_true rfl)) dX0_stuckBits_20 ⟨Nat.zero_le _, Nat.zero_le _⟩) (fun H locs h => ?_)
    refine lv_iadd hx hb dX0_stuckBits_23 ?_
    refine lv_istore_n (lv' := [(1, .int (a1 + (xbc (v 2 a2.toNatClampNeg)))), (0, .ref (q 0)), (2, .int a2)]) hx hb dX0_stuckBits_24 rfl hl (by decide) rfl (fun ls hl => ?_)
    refine lv_iinc (v := (a2 + 1)) (lv' := [(2, .int (a2 + 1)), (1, .int (a1 + (xbc (v 2 a2.toNatClampNeg)))), (0, .ref (q 0))]) hx hb dX0_stuckBits_25 hl (k := 2) rfl rfl (by decide) rfl (fun ls hl => ?_)
    refine lv_goto (tgt := 4) hx hb dX0_stuckBits_28 (by decide) ?_
    exact hrec3 ((a1 + (xbc (v 2 a2.toNatClampNeg))), (a2 + 1)) hf H locs h ls (lv_sub hl [2, 1, 0] rfl)
def m_X0_allErasures (v : xSt) : Option (Int32) := lp (fun (rec3 : Int32 × Int32 → Option (Int32)) => un2 (fun (a1 : Int32) (a2 : Int32) => (if (8 : Int32) ≤ a2 then some a1 else ck (¬ (a2 < 0 ∨ 8 ≤ a2.toNatClampNeg)) (rec3 ((a1 + (v 3 a2.toNatClampNeg)), (a2 + 1)))))) xF ((0 : Int32), (0 : Int32))
set_option maxHeartbeats 4000000 in
set_option maxRecDepth 100000 in
theorem c_X0_allErasures (l : Launch) (G : xGl) (q : Nat → Nat) (v : xSt) {z : (Int32)} (hf : m_X0_allErasures v = some z) : mRO l yX0_allErasures (wM yX0_allErasures cX0_allErasures 3 (some .int)) { frames := 0, cells := 0, slots := 0, locals := 0 } G (eCells G) 4 q v [.ref (q 0)] (qI z) := by
  refine xRO (cc := cX0_allErasures) (maxL := 3) (ret := (some .int)) (by decide) rfl (Nat.le_of_ble_eq_true rfl) ?_
  intro p e s m below meth c ls A hC hr hlk h hl
  have hx := hC.1
  have hb := hC.2.1
  have hl : lv_has ls 3 [(0, .ref (q 0))] := hl
  unfold m_X0_allErasures at hf
  obtain ⟨H, hH⟩ : ∃ H, H = s.heap := ⟨_, rfl⟩
  obtain ⟨locs, hlo⟩ : ∃ x : List Loc, x = [] := ⟨_, rfl⟩
  have h : ho G (eCells G) 4 q v A s H locs := by rw [hH, hlo]; exact h
  rw [← hlo, ← hH]
  clear hH hlo
  refine lv_iconst (v := (0 : Int32)) hx hb dX0_allErasures_0 (by decide) ?_
  refine lv_istore_n (lv' := [(1, .int (0 : Int32)), (0, .ref (q 0))]) hx hb dX0_allErasures_1 rfl hl (by decide) rfl (fun ls hl => ?_)
  refine lv_iconst (v := (0 : Int32)) hx hb dX0_allErasures_2 (by decide) ?_
  refine lv_istore_n (lv' := [(2, .int (0 : Int32)), (1, .int (0 : Int32)), (0, .ref (q 0))]) hx hb dX0_allErasures_3 rfl hl (by decide) rfl (fun ls hl => ?_)
  refine lp_i (z := z) (P := fun (pp : Int32 × Int32) => ∀ (H : Heap) (locs : List Loc), ho G (eCells G) 4 q v A s H locs → ∀ (ls : Array Slot), lv_has ls 3 [(0, .ref (q 0)), (1, .int pp.1), (2, .int pp.2)] → W p l e { frames := 0, cells := 0, slots := 0, locals := 0 } s m [.ref (q 0)].toArray below meth c H locs 0 0 (MQ below ((qI z) (fun _ => True) A) [.ref (q 0)].toArray s 0 0 A) (F0 m 4 ls [])) ?_ _ _ hf H locs h ls (lv_sub hl [2, 1, 0] rfl)
  intro rec3 hrec3 pp hf H locs h ls hl
  obtain ⟨a1, a2⟩ := pp
  have h : ho G (eCells G) 4 q v A s H locs := h
  have hl : lv_has ls 3 [(0, .ref (q 0)), (1, .int a1), (2, .int a2)] := hl
  have hf := un2_e hf
  refine lv_iload_n hx hb dX0_allErasures_4 rfl (lv_at hl 2 rfl) ?_
  refine lv_aload_n hx hb dX0_allErasures_5 rfl (lv_at hl 0 rfl) ?_
  refine xget hC h.o (C := RX0) (T := TX0) (N := 4) (wM_us uw_X0) 0 (Nat.le_of_ble_eq_true rfl) eCells_0 rfl 2 (by decide) (wM_in fl_X0_18) rfl dX0_allErasures_6 ?_
  refine xalen hC h.o 0 rfl 3 (Nat.le_of_ble_eq_true rfl) eCells_3 (z := (8 : Int32)) rfl dX0_allErasures_9 ?_
  refine lv_icmp_ge (tgt := 28) hx hb dX0_allErasures_10 (by decide) (fun c4 => ?_) (fun c4 => ?_)
  · have hf := it_t c4 hf
    refine lv_iload_n hx hb dX0_allErasures_28 rfl (lv_at hl 1 rfl) ?_
    have hf := sm_e hf
    exact oiret hC hr hlk h (by rw [← hf]) dX0_allErasures_29
  · have hf := it_f c4 hf
    refine lv_iload_n hx hb dX0_allErasures_13 rfl (lv_at hl 1 rfl) ?_
    refine lv_aload_n hx hb dX0_allErasures_14 rfl (lv_at hl 0 rfl) ?_
    refine xget hC h.o (C := RX0) (T := TX0) (N := 4) (wM_us uw_X0) 0 (Nat.le_of_ble_eq_true rfl) eCells_0 rfl 2 (by decide) (wM_in fl_X0_18) rfl dX0_allErasures_15 ?_
    refine lv_iload_n hx hb dX0_allErasures_18 rfl (lv_at hl 2 rfl) ?_
    obtain ⟨hi5, hf⟩ := ck_e hf
    refine xiald hC h.o 3 (Nat.le_of_ble_eq_true rfl) eCells_3 hi5 dX0_allErasures_19 ?_
    refine lv_iadd hx hb dX0_allErasures_20 ?_
    refine lv_istore_n (lv' := [(1, .int (a1 + (v 3 a2.toNatClampNeg))), (0, .ref (q 0)), (2, .int a2)]) hx hb dX0_allErasures_21 rfl hl (by decide) rfl (fun ls hl => ?_)
    refine lv_iinc (v := (a2 + 1)) (lv' := [(2, .int (a2 + 1)), (1, .int (a1 + (v 3 a2.toNatClampNeg))), (0, .ref (q 0))]) hx hb dX0_allErasures_22 hl (k := 2) rfl rfl (by decide) rfl (fun ls hl => ?_)
    refine lv_goto (tgt := 4) hx hb dX0_allErasures_25 (by decide) ?_
    exact hrec3 ((a1 + (v 3 a2.toNatClampNeg)), (a2 + 1)) hf H locs h ls (lv_sub hl [2, 1, 0] rfl)
def m_X1_isFull (v : xSt) : Option (Int32) := (if (v 0 1) < (10 : Int32) then some (0 : Int32) else some (1 : Int32))
set_option maxHeartbeats 4000000 in
set_option maxRecDepth 100000 in
theorem c_X1_isFull (l : Launch) (G : xGl) (q : Nat → Nat) (v : xSt) {z : (Int32)} (hf : m_X1_isFull v = some z) : mRO l yX1_isFull (wM yX1_isFull cX1_isFull 1 (some .boolean)) { frames := 0, cells := 0, slots := 0, locals := 0 } G (eLine G) 32 q v [.ref (q 0)] (qZ z) := by
  refine xRO (cc := cX1_isFull) (maxL := 1) (ret := (some .boolean)) (by decide) rfl (Nat.le_of_ble_eq_true rfl) ?_
  intro p e s m below meth c ls A hC hr hlk h hl
  have hx := hC.1
  have hb := hC.2.1
  have hl : lv_has ls 1 [(0, .ref (q 0))] := hl
  unfold m_X1_isFull at hf
  obtain ⟨H, hH⟩ : ∃ H, H = s.heap := ⟨_, rfl⟩
  obtain ⟨locs, hlo⟩ : ∃ x : List Loc, x = [] := ⟨_, rfl⟩
  have h : ho G (eLine G) 32 q v A s H locs := by rw [hH, hlo]; exact h
  rw [← hlo, ← hH]
  clear hH hlo
  refine lv_aload_n hx hb dX1_isFull_0 rfl (lv_at hl 0 rfl) ?_
  refine xget hC h.o (C := RX1) (T := TX1) (N := 3) (wM_us uw_X1) 0 (Nat.le_of_ble_eq_true rfl) eLine_0 rfl 1 (by decide) (wM_in fl_X1_17) rfl dX1_isFull_1 ?_
  refine lv_aload_n hx hb dX1_isFull_4 rfl (lv_at hl 0 rfl) ?_
  refine xget hC h.o (C := RX1) (T := TX1) (N := 3) (wM_us uw_X1) 0 (Nat.le_of_ble_eq_true rfl) eLine_0 rfl 0 (by decide) (wM_in fl_X1_11) rfl dX1_isFull_5 ?_
  refine xalen hC h.o 2 rfl 1 (Nat.le_of_ble_eq_true rfl) eLine_1 (z := (10 : Int32)) rfl dX1_isFull_8 ?_
  refine lv_icmp_lt (tgt := 16) hx hb dX1_isFull_9 (by decide) (fun c1 => ?_) (fun c1 => ?_)
  · have hf := it_t c1 hf
    refine lv_iconst (v := (0 : Int32)) hx hb dX1_isFull_16 (by decide) ?_
    have hf := sm_e hf
    exact ozret hC hr hlk h (by rw [← hf]) (by decide) dX1_isFull_17
  · have hf := it_f c1 hf
    refine lv_iconst (v := (1 : Int32)) hx hb dX1_isFull_12 (by decide) ?_
    refine lv_goto (tgt := 17) hx hb dX1_isFull_13 (by decide) ?_
    have hf := sm_e hf
    exact ozret hC hr hlk h (by rw [← hf]) (by decide) dX1_isFull_17
def m_X1_orderAt (v : xSt) (p1 : Int32) : Option (Option Nat) := lt (fun (_ : Unit) => some (none : Option Nat)) (fun j1 => (if p1 < 0 then j1 () else (if (v 0 1) ≤ p1 then j1 () else (if (10 : Int32) ≤ p1 then j1 () else ck (¬ (p1 < 0 ∨ 10 ≤ p1.toNatClampNeg)) (lt ((v 1 p1.toNatClampNeg).toNatClampNeg) (fun k6 => ck (k6 < 10) (some (some k6))))))))
set_option maxHeartbeats 4000000 in
set_option maxRecDepth 100000 in
theorem c_X1_orderAt (l : Launch) (G : xGl) (q : Nat → Nat) (v : xSt) (p1 : Int32) {z : (Option Nat)} (hf : m_X1_orderAt v p1 = some z) : mRO l yX1_orderAt (wM yX1_orderAt cX1_orderAt 2 (some (.object "BusyChip$Order"))) { frames := 0, cells := 0, slots := 0, locals := 0 } G (eLine G) 32 q v [.ref (q 0), .int p1] (qQ ((z).map (fun k => q (2 + 3 * k)))) := by
  refine xRO (cc := cX1_orderAt) (maxL := 2) (ret := (some (.object "BusyChip$Order"))) (by decide) rfl (Nat.le_of_ble_eq_true rfl) ?_
  intro p e s m below meth c ls A hC hr hlk h hl
  have hx := hC.1
  have hb := hC.2.1
  have hl : lv_has ls 2 [(0, .ref (q 0)), (1, .int p1)] := hl
  unfold m_X1_orderAt at hf
  obtain ⟨H, hH⟩ : ∃ H, H = s.heap := ⟨_, rfl⟩
  obtain ⟨locs, hlo⟩ : ∃ x : List Loc, x = [] := ⟨_, rfl⟩
  have h : ho G (eLine G) 32 q v A s H locs := by rw [hH, hlo]; exact h
  rw [← hlo, ← hH]
  clear hH hlo
  refine lv_iload_n hx hb dX1_orderAt_0 rfl (lv_at hl 1 rfl) ?_
  obtain ⟨j1, ej1, hf⟩ := lt_e hf
  have hj1 : ∀ (uu : Unit) (H : Heap) (locs : List Loc), ho G (eLine G) 32 q v A s H locs → ∀ (ls : Array Slot), lv_has ls 2 [] → j1 uu = some z → W p l e { frames := 0, cells := 0, slots := 0, locals := 0 } s m [.ref (q 0), .int p1].toArray below meth c H locs 0 0 (MQ below ((qQ ((z).map (fun k => q (2 + 3 * k)))) (fun _ => True) A) [.ref (q 0), .int p1].toArray s 0 0 A) (F0 m 30 ls []) := by
    intro uu H locs h ls hl hf
    rw [ej1] at hf
    refine lv_null hx hb dX1_orderAt_30 ?_
    have hf := sm_e hf
    exact oqret (x := ((none : Option Nat)).map (fun k => q (2 + 3 * k))) hC hr hlk h (by rw [← hf]) dX1_orderAt_31
  refine lv_if_lt (tgt := 30) hx hb dX1_orderAt_1 (by decide) (fun c2 => ?_) (fun c2 => ?_)
  · have hf := it_t c2 hf
    exact hj1 () H locs h ls (lv_sub hl [] rfl) hf
  · have hf := it_f c2 hf
    refine lv_iload_n hx hb dX1_orderAt_4 rfl (lv_at hl 1 rfl) ?_
    refine lv_aload_n hx hb dX1_orderAt_5 rfl (lv_at hl 0 rfl) ?_
    refine xget hC h.o (C := RX1) (T := TX1) (N := 3) (wM_us uw_X1) 0 (Nat.le_of_ble_eq_true rfl) eLine_0 rfl 1 (by decide) (wM_in fl_X1_17) rfl dX1_orderAt_6 ?_
    refine lv_icmp_ge (tgt := 30) hx hb dX1_orderAt_9 (by decide) (fun c3 => ?_) (fun c3 => ?_)
    · have hf := it_t c3 hf
      exact hj1 () H locs h ls (lv_sub hl [] rfl) hf
    · have hf := it_f c3 hf
      refine lv_iload_n hx hb dX1_orderAt_12 rfl (lv_at hl 1 rfl) ?_
      refine lv_aload_n hx hb dX1_orderAt_13 rfl (lv_at hl 0 rfl) ?_
      refine xget hC h.o (C := RX1) (T := TX1) (N := 3) (wM_us uw_X1) 0 (Nat.le_of_ble_eq_true rfl) eLine_0 rfl 0 (by decide) (wM_in fl_X1_11) rfl dX1_orderAt_14 ?_
      refine xalen hC h.o 2 rfl 1 (Nat.le_of_ble_eq_true rfl) eLine_1 (z := (10 : Int32)) rfl dX1_orderAt_17 ?_
      refine lv_icmp_ge (tgt := 30) hx hb dX1_orderAt_18 (by decide) (fun c4 => ?_) (fun c4 => ?_)
      · have hf := it_t c4 hf
        exact hj1 () H locs h ls (lv_sub hl [] rfl) hf
      · have hf := it_f c4 hf
        refine lv_aload_n hx hb dX1_orderAt_21 rfl (lv_at hl 0 rfl) ?_
        refine xget hC h.o (C := RX1) (T := TX1) (N := 3) (wM_us uw_X1) 0 (Nat.le_of_ble_eq_true rfl) eLine_0 rfl 0 (by decide) (wM_in fl_X1_11) rfl dX1_orderAt_22 ?_
        refine lv_iload_n hx hb dX1_orderAt_25 rfl (lv_at hl 1 rfl) ?_
        obtain ⟨hi5, hf⟩ := ck_e hf
        obtain ⟨k6, ek6, hf⟩ := lt_e hf
        obtain ⟨hk7, hf⟩ := ck_e hf
        refine xaldo (B := fun k => (2 + 3 * k)) hC h.o 1 (Nat.le_of_ble_eq_true rfl) eLine_1 hi5 ek6 hk7 dX1_orderAt_26 ?_
        refine lv_goto (tgt := 31) hx hb dX1_orderAt_27 (by decide) ?_
        have hf := sm_e hf
        exact oqret (x := (some k6).map (fun k => q (2 + 3 * k))) hC hr hlk h (by rw [← hf]) dX1_orderAt_31
def m_X1_rankOf (v : xSt) (p1 : Int32) : Option (Int32) := lp (fun (rec2 : Int32 → Option (Int32)) => un1 (fun (a1 : Int32) => (if (v 0 1) ≤ a1 then some (-1 : Int32) else ob (m_X1_orderAt v a1) (fun r5 => om r5 (lt (fun (_ : Unit) => rec2 (a1 + 1)) (fun j9 => j9 ())) (fun k6 => ck (k6 < 10) (lt (fun (_ : Unit) => rec2 (a1 + 1)) (fun j10 => (if (v (2 + 3 * k6) 0) = p1 then some a1 else j10 ())))))))) xF (0 : Int32)
set_option maxHeartbeats 4000000 in
set_option maxRecDepth 100000 in
theorem c_X1_rankOf (l : Launch) (G : xGl) (q : Nat → Nat) (v : xSt) (p1 : Int32) {z : (Int32)} (hf : m_X1_rankOf v p1 = some z) : mRO l yX1_rankOf (wM yX1_rankOf cX1_rankOf 4 (some .int)) { frames := 1, cells := 0, slots := 0, locals := 21 } G (eLine G) 32 q v [.ref (q 0), .int p1] (qI z) := by
  refine xRO (cc := cX1_rankOf) (maxL := 4) (ret := (some .int)) (by decide) rfl (Nat.le_of_ble_eq_true rfl) ?_
  intro p e s m below meth c ls A hC hr hlk h hl
  have hx := hC.1
  have hb := hC.2.1
  have hl : lv_has ls 4 [(0, .ref (q 0)), (1, .int p1)] := hl
  unfold m_X1_rankOf at hf
  obtain ⟨H, hH⟩ : ∃ H, H = s.heap := ⟨_, rfl⟩
  obtain ⟨locs, hlo⟩ : ∃ x : List Loc, x = [] := ⟨_, rfl⟩
  have h : ho G (eLine G) 32 q v A s H locs := by rw [hH, hlo]; exact h
  rw [← hlo, ← hH]
  clear hH hlo
  refine lv_iconst (v := (0 : Int32)) hx hb dX1_rankOf_0 (by decide) ?_
  refine lv_istore_n (lv' := [(2, .int (0 : Int32)), (0, .ref (q 0)), (1, .int p1)]) hx hb dX1_rankOf_1 rfl hl (by decide) rfl (fun ls hl => ?_)
  refine lp_i (z := z) (P := fun (pp : Int32) => ∀ (H : Heap) (locs : List Loc), ho G (eLine G) 32 q v A s H locs → ∀ (ls : Array Slot), lv_has ls 4 [(0, .ref (q 0)), (1, .int p1), (2, .int pp)] → W p l e { frames := 1, cells := 0, slots := 0, locals := 21 } s m [.ref (q 0), .int p1].toArray below meth c H locs 0 0 (MQ below ((qI z) (fun _ => True) A) [.ref (q 0), .int p1].toArray s 0 0 A) (F0 m 2 ls [])) ?_ _ _ hf H locs h ls (lv_sub hl [1, 2, 0] rfl)
  intro rec2 hrec2 pp hf H locs h ls hl
  obtain ⟨a1, hpp⟩ : ∃ y, y = pp := ⟨_, rfl⟩
  subst hpp
  have h : ho G (eLine G) 32 q v A s H locs := h
  have hl : lv_has ls 4 [(0, .ref (q 0)), (1, .int p1), (2, .int a1)] := hl
  have hf := un1_e hf
  refine lv_iload_n hx hb dX1_rankOf_2 rfl (lv_at hl 2 rfl) ?_
  refine lv_aload_n hx hb dX1_rankOf_3 rfl (lv_at hl 0 rfl) ?_
  refine xget hC h.o (C := RX1) (T := TX1) (N := 3) (wM_us uw_X1) 0 (Nat.le_of_ble_eq_true rfl) eLine_0 rfl 1 (by decide) (wM_in fl_X1_17) rfl dX1_rankOf_4 ?_
  refine lv_icmp_ge (tgt := 36) hx hb dX1_rankOf_7 (by decide) (fun c3 => ?_) (fun c3 => ?_)
  · have hf := it_t c3 hf
    refine lv_iconst (v := (-1 : Int32)) hx hb dX1_rankOf_36 (by decide) ?_
    have hf := sm_e hf
    exact oiret hC hr hlk h (by rw [← hf]) dX1_rankOf_37
  · have hf := it_f c3 hf
    refine lv_aload_n hx hb dX1_rankOf_10 rfl (lv_at hl 0 rfl) ?_
    refine lv_iload_n hx hb dX1_rankOf_11 rfl (lv_at hl 2 rfl) ?_
    obtain ⟨r5, hy4, hf⟩ := ob_e hf
    refine xqO h (va_runV (As := [.int a1]) (rest := []) hC (c_X1_orderAt l G q v a1 hy4 H.size) (xcwV hC lk_X1_25 in_X1 co_X1_orderAt im_X1_orderAt se_X1_orderAt rfl rfl dd_X1_orderAt ⟨Nat.le_of_ble_eq_true rfl, Nat.le_of_ble_eq_true rfl⟩) (preVO0 h.o (Nat.le_of_ble_eq_true rfl) eLine_0 rfl [.int a1]) rfl rfl hl.1 rfl (lv_room (Nat.le_of_ble_eq_true rfl)) dX1_rankOf_12 ⟨Nat.zero_le _, Nat.zero_le _⟩) (fun H locs h => ?_)
    rcases omm hf with ⟨ho8, gho8⟩ | ⟨k6, ho8, gho8⟩
    · subst ho8
      replace hf := gho8
      refine lv_astore_nN (lv' := [(3, .null), (0, .ref (q 0)), (1, .int p1), (2, .int a1)]) hx hb dX1_rankOf_15 rfl hl (by decide) rfl (fun ls hl => ?_)
      refine lv_aload_nN hx hb dX1_rankOf_16 rfl (lv_at hl 0 rfl) ?_
      obtain ⟨j9, ej9, hf⟩ := lt_e hf
      have hj9 : ∀ (uu : Unit) (H : Heap) (locs : List Loc), ho G (eLine G) 32 q v A s H locs → ∀ (ls : Array Slot), lv_has ls 4 [(0, .ref (q 0)), (1, .int p1), (2, .int a1)] → j9 uu = some z → W p l e { frames := 1, cells := 0, slots := 0, locals := 21 } s m [.ref (q 0), .int p1].toArray below meth c H locs 0 0 (MQ below ((qI z) (fun _ => True) A) [.ref (q 0), .int p1].toArray s 0 0 A) (F0 m 30 ls []) := by
        intro uu H locs h ls hl hf
        rw [ej9] at hf
        refine lv_iinc (v := (a1 + 1)) (lv' := [(2, .int (a1 + 1)), (0, .ref (q 0)), (1, .int p1)]) hx hb dX1_rankOf_30 hl (k := 2) rfl rfl (by decide) rfl (fun ls hl => ?_)
        refine lv_goto (tgt := 2) hx hb dX1_rankOf_33 (by decide) ?_
        exact hrec2 (a1 + 1) hf H locs h ls (lv_sub hl [1, 2, 0] rfl)
      refine lv_ifnullN (tgt := 30) hx hb dX1_rankOf_17 (by decide) ?_
      exact hj9 () H locs h ls (lv_sub hl [1, 2, 3] rfl) hf
    · subst ho8
      obtain ⟨hk7, hf⟩ := ck_e gho8
      refine lv_astore_n (lv' := [(3, .ref (q (2 + 3 * k6))), (0, .ref (q 0)), (1, .int p1), (2, .int a1)]) hx hb dX1_rankOf_15 rfl hl (by decide) rfl (fun ls hl => ?_)
      refine lv_aload_n hx hb dX1_rankOf_16 rfl (lv_at hl 0 rfl) ?_
      obtain ⟨j10, ej10, hf⟩ := lt_e hf
      have hj10 : ∀ (uu : Unit) (H : Heap) (locs : List Loc), ho G (eLine G) 32 q v A s H locs → ∀ (ls : Array Slot), lv_has ls 4 [(0, .ref (q 0)), (1, .int p1), (2, .int a1)] → j10 uu = some z → W p l e { frames := 1, cells := 0, slots := 0, locals := 21 } s m [.ref (q 0), .int p1].toArray below meth c H locs 0 0 (MQ below ((qI z) (fun _ => True) A) [.ref (q 0), .int p1].toArray s 0 0 A) (F0 m 30 ls []) := by
        intro uu H locs h ls hl hf
        rw [ej10] at hf
        refine lv_iinc (v := (a1 + 1)) (lv' := [(2, .int (a1 + 1)), (0, .ref (q 0)), (1, .int p1)]) hx hb dX1_rankOf_30 hl (k := 2) rfl rfl (by decide) rfl (fun ls hl => ?_)
        refine lv_goto (tgt := 2) hx hb dX1_rankOf_33 (by decide) ?_
        exact hrec2 (a1 + 1) hf H locs h ls (lv_sub hl [1, 2, 0] rfl)
      refine lv_ifnull hx hb dX1_rankOf_17 ?_
      refine lv_aload_n hx hb dX1_rankOf_20 rfl (lv_at hl 0 rfl) ?_
      refine xget hC h.o (C := RX3) (T := TX3) (N := 6) (wM_us uw_X3) (2 + 3 * k6) (by omega) (eLine_ord hk7) rfl 0 (by decide) (wM_in fl_X1_29) rfl dX1_rankOf_21 ?_
      refine lv_iload_n hx hb dX1_rankOf_24 rfl (lv_at hl 2 rfl) ?_
      refine lv_icmp_ne (tgt := 30) hx hb dX1_rankOf_25 (by decide) (fun c11 => ?_) (fun c11 => ?_)
      · have hf := it_f c11 hf
        exact hj10 () H locs h ls (lv_sub hl [1, 2, 3] rfl) hf
      · have hf := it_t c11 hf
        refine lv_iload_n hx hb dX1_rankOf_28 rfl (lv_at hl 3 rfl) ?_
        have hf := sm_e hf
        exact oiret hC hr hlk h (by rw [← hf]) dX1_rankOf_29
def m_X1_ordersFor (v : xSt) (p1 : Int32) : Option (Int32) := lp (fun (rec3 : Int32 × Int32 → Option (Int32)) => un2 (fun (a1 : Int32) (a2 : Int32) => (if (v 0 1) ≤ a2 then some a1 else ob (m_X1_orderAt v a2) (fun r6 => om r6 (lt (fun (a10 : Int32) => rec3 (a10, (a2 + 1))) (fun j11 => j11 a1)) (fun k7 => ck (k7 < 10) (lt (fun (a12 : Int32) => rec3 (a12, (a2 + 1))) (fun j13 => (if (xso (v (2 + 3 * k7) 1) (v (2 + 3 * k7) 2)) = p1 then j13 (a1 + 1) else j13 a1)))))))) xF ((0 : Int32), (0 : Int32))
set_option maxHeartbeats 4000000 in
set_option maxRecDepth 100000 in
theorem c_X1_ordersFor (l : Launch) (G : xGl) (q : Nat → Nat) (v : xSt) (p1 : Int32) {z : (Int32)} (hf : m_X1_ordersFor v p1 = some z) : mRO l yX1_ordersFor (wM yX1_ordersFor cX1_ordersFor 5 (some .int)) { frames := 1, cells := 0, slots := 0, locals := 21 } G (eLine G) 32 q v [.ref (q 0), .int p1] (qI z) := by
  refine xRO (cc := cX1_ordersFor) (maxL := 5) (ret := (some .int)) (by decide) rfl (Nat.le_of_ble_eq_true rfl) ?_
  intro p e s m below meth c ls A hC hr hlk h hl
  have hx := hC.1
  have hb := hC.2.1
  have hl : lv_has ls 5 [(0, .ref (q 0)), (1, .int p1)] := hl
  unfold m_X1_ordersFor at hf
  obtain ⟨H, hH⟩ : ∃ H, H = s.heap := ⟨_, rfl⟩
  obtain ⟨locs, hlo⟩ : ∃ x : List Loc, x = [] := ⟨_, rfl⟩
  have h : ho G (eLine G) 32 q v A s H locs := by rw [hH, hlo]; exact h
  rw [← hlo, ← hH]
  clear hH hlo
  refine lv_iconst (v := (0 : Int32)) hx hb dX1_ordersFor_0 (by decide) ?_
  refine lv_istore_n (lv' := [(2, .int (0 : Int32)), (0, .ref (q 0)), (1, .int p1)]) hx hb dX1_ordersFor_1 rfl hl (by decide) rfl (fun ls hl => ?_)
  refine lv_iconst (v := (0 : Int32)) hx hb dX1_ordersFor_2 (by decide) ?_
  refine lv_istore_n (lv' := [(3, .int (0 : Int32)), (2, .int (0 : Int32)), (0, .ref (q 0)), (1, .int p1)]) hx hb dX1_ordersFor_3 rfl hl (by decide) rfl (fun ls hl => ?_)
  refine lp_i (z := z) (P := fun (pp : Int32 × Int32) => ∀ (H : Heap) (locs : List Loc), ho G (eLine G) 32 q v A s H locs → ∀ (ls : Array Slot), lv_has ls 5 [(0, .ref (q 0)), (1, .int p1), (2, .int pp.1), (3, .int pp.2)] → W p l e { frames := 1, cells := 0, slots := 0, locals := 21 } s m [.ref (q 0), .int p1].toArray below meth c H locs 0 0 (MQ below ((qI z) (fun _ => True) A) [.ref (q 0), .int p1].toArray s 0 0 A) (F0 m 4 ls [])) ?_ _ _ hf H locs h ls (lv_sub hl [2, 3, 1, 0] rfl)
  intro rec3 hrec3 pp hf H locs h ls hl
  obtain ⟨a1, a2⟩ := pp
  have h : ho G (eLine G) 32 q v A s H locs := h
  have hl : lv_has ls 5 [(0, .ref (q 0)), (1, .int p1), (2, .int a1), (3, .int a2)] := hl
  have hf := un2_e hf
  refine lv_iload_n hx hb dX1_ordersFor_4 rfl (lv_at hl 3 rfl) ?_
  refine lv_aload_n hx hb dX1_ordersFor_5 rfl (lv_at hl 0 rfl) ?_
  refine xget hC h.o (C := RX1) (T := TX1) (N := 3) (wM_us uw_X1) 0 (Nat.le_of_ble_eq_true rfl) eLine_0 rfl 1 (by decide) (wM_in fl_X1_17) rfl dX1_ordersFor_6 ?_
  refine lv_icmp_ge (tgt := 50) hx hb dX1_ordersFor_9 (by decide) (fun c4 => ?_) (fun c4 => ?_)
  · have hf := it_t c4 hf
    refine lv_iload_n hx hb dX1_ordersFor_50 rfl (lv_at hl 2 rfl) ?_
    have hf := sm_e hf
    exact oiret hC hr hlk h (by rw [← hf]) dX1_ordersFor_51
  · have hf := it_f c4 hf
    refine lv_aload_n hx hb dX1_ordersFor_12 rfl (lv_at hl 0 rfl) ?_
    refine lv_iload_n hx hb dX1_ordersFor_13 rfl (lv_at hl 3 rfl) ?_
    obtain ⟨r6, hy5, hf⟩ := ob_e hf
    refine xqO h (va_runV (As := [.int a2]) (rest := []) hC (c_X1_orderAt l G q v a2 hy5 H.size) (xcwV hC lk_X1_25 in_X1 co_X1_orderAt im_X1_orderAt se_X1_orderAt rfl rfl dd_X1_orderAt ⟨Nat.le_of_ble_eq_true rfl, Nat.le_of_ble_eq_true rfl⟩) (preVO0 h.o (Nat.le_of_ble_eq_true rfl) eLine_0 rfl [.int a2]) rfl rfl hl.1 rfl (lv_room (Nat.le_of_ble_eq_true rfl)) dX1_ordersFor_14 ⟨Nat.zero_le _, Nat.zero_le _⟩) (fun H locs h => ?_)
    rcases omm hf with ⟨ho9, gho9⟩ | ⟨k7, ho9, gho9⟩
    · subst ho9
      replace hf := gho9
      refine lv_astoreN (lv' := [(4, .null), (0, .ref (q 0)), (1, .int p1), (2, .int a1), (3, .int a2)]) hx hb dX1_ordersFor_17 hl (by decide) rfl (fun ls hl => ?_)
      refine lv_aloadN hx hb dX1_ordersFor_19 (lv_at hl 0 rfl) ?_
      obtain ⟨j11, ej11, hf⟩ := lt_e hf
      have hj11 : ∀ (a10 : Int32) (H : Heap) (locs : List Loc), ho G (eLine G) 32 q v A s H locs → ∀ (ls : Array Slot), lv_has ls 5 [(0, .ref (q 0)), (1, .int p1), (2, .int a10), (3, .int a2)] → j11 a10 = some z → W p l e { frames := 1, cells := 0, slots := 0, locals := 21 } s m [.ref (q 0), .int p1].toArray below meth c H locs 0 0 (MQ below ((qI z) (fun _ => True) A) [.ref (q 0), .int p1].toArray s 0 0 A) (F0 m 44 ls []) := by
        intro a10 H locs h ls hl hf
        rw [ej11] at hf
        refine lv_iinc (v := (a2 + 1)) (lv' := [(3, .int (a2 + 1)), (0, .ref (q 0)), (1, .int p1), (2, .int a10)]) hx hb dX1_ordersFor_44 hl (k := 3) rfl rfl (by decide) rfl (fun ls hl => ?_)
        refine lv_goto (tgt := 4) hx hb dX1_ordersFor_47 (by decide) ?_
        exact hrec3 (a10, (a2 + 1)) hf H locs h ls (lv_sub hl [1, 2, 3, 0] rfl)
      refine lv_ifnullN (tgt := 44) hx hb dX1_ordersFor_21 (by decide) ?_
      exact hj11 a1 H locs h ls (lv_sub hl [1, 2, 3, 4] rfl) hf
    · subst ho9
      obtain ⟨hk8, hf⟩ := ck_e gho9
      refine lv_astore (lv' := [(4, .ref (q (2 + 3 * k7))), (0, .ref (q 0)), (1, .int p1), (2, .int a1), (3, .int a2)]) hx hb dX1_ordersFor_17 hl (by decide) rfl (fun ls hl => ?_)
      refine lv_aload hx hb dX1_ordersFor_19 (lv_at hl 0 rfl) ?_
      obtain ⟨j13, ej13, hf⟩ := lt_e hf
      have hj13 : ∀ (a12 : Int32) (H : Heap) (locs : List Loc), ho G (eLine G) 32 q v A s H locs → ∀ (ls : Array Slot), lv_has ls 5 [(0, .ref (q 0)), (1, .int p1), (2, .int a12), (3, .int a2)] → j13 a12 = some z → W p l e { frames := 1, cells := 0, slots := 0, locals := 21 } s m [.ref (q 0), .int p1].toArray below meth c H locs 0 0 (MQ below ((qI z) (fun _ => True) A) [.ref (q 0), .int p1].toArray s 0 0 A) (F0 m 44 ls []) := by
        intro a12 H locs h ls hl hf
        rw [ej13] at hf
        refine lv_iinc (v := (a2 + 1)) (lv' := [(3, .int (a2 + 1)), (0, .ref (q 0)), (1, .int p1), (2, .int a12)]) hx hb dX1_ordersFor_44 hl (k := 3) rfl rfl (by decide) rfl (fun ls hl => ?_)
        refine lv_goto (tgt := 4) hx hb dX1_ordersFor_47 (by decide) ?_
        exact hrec3 (a12, (a2 + 1)) hf H locs h ls (lv_sub hl [1, 2, 3, 0] rfl)
      refine lv_ifnull hx hb dX1_ordersFor_21 ?_
      refine lv_aload hx hb dX1_ordersFor_24 (lv_at hl 0 rfl) ?_
      refine xget hC h.o (C := RX3) (T := TX3) (N := 6) (wM_us uw_X3) (2 + 3 * k7) (by omega) (eLine_ord hk8) rfl 1 (by decide) (wM_in fl_X1_32) rfl dX1_ordersFor_26 ?_
      refine lv_aload hx hb dX1_ordersFor_29 (lv_at hl 0 rfl) ?_
      refine xget hC h.o (C := RX3) (T := TX3) (N := 6) (wM_us uw_X3) (2 + 3 * k7) (by omega) (eLine_ord hk8) rfl 2 (by decide) (wM_in fl_X1_35) rfl dX1_ordersFor_31 ?_
      refine xiO h (va_runSN (As := [.int (v (2 + 3 * k7) 1), .int (v (2 + 3 * k7) 2)]) (rest := []) hC (k_X8_sectorOf l G q v (v (2 + 3 * k7) 1) (v (2 + 3 * k7) 2) H.size) (xcwN hC (h.o.2.2.2.1 _ nw_X1_38) in_X8 co_X8_sectorOf st_X8_sectorOf rfl rfl dd_X8_sectorOf ⟨Nat.le_of_ble_eq_true rfl, Nat.le_of_ble_eq_true rfl⟩) (preSN h.o [.int (v (2 + 3 * k7) 1), .int (v (2 + 3 * k7) 2)]) rfl rfl hl.1 rfl (lv_room (Nat.le_of_ble_eq_true rfl)) dX1_ordersFor_34 ⟨Nat.zero_le _, Nat.zero_le _⟩) (fun H locs h => ?_)
      refine lv_iload_n hx hb dX1_ordersFor_37 rfl (lv_at hl 2 rfl) ?_
      refine lv_icmp_ne (tgt := 44) hx hb dX1_ordersFor_38 (by decide) (fun c14 => ?_) (fun c14 => ?_)
      · have hf := it_f c14 hf
        exact hj13 a1 H locs h ls (lv_sub hl [1, 2, 3, 4] rfl) hf
      · have hf := it_t c14 hf
        refine lv_iinc (v := (a1 + 1)) (lv' := [(2, .int (a1 + 1)), (4, .ref (q (2 + 3 * k7))), (0, .ref (q 0)), (1, .int p1), (3, .int a2)]) hx hb dX1_ordersFor_41 hl (k := 3) rfl rfl (by decide) rfl (fun ls hl => ?_)
        exact hj13 (a1 + 1) H locs h ls (lv_sub hl [2, 3, 0, 4] rfl) hf
def m_X1_openPlace (v : xSt) (p1 : Int32) : Option (Option Nat × xSt) := (if (v 0 1) < 0 then some ((none : Option Nat), v) else (if (v 0 1) < (10 : Int32) then ck (¬ ((v 0 1) < 0 ∨ 10 ≤ (v 0 1).toNatClampNeg)) (lt ((v 1 (v 0 1).toNatClampNeg).toNatClampNeg) (fun k4 => ck (k4 < 10) (lp (fun (rec8 : Int32 × xSt → Option (Option Nat × xSt)) => un2 (fun (a6 : Int32) (v7 : xSt) => lt (fun (_ : Unit) => ck (¬ (a6 < 0 ∨ 10 ≤ a6.toNatClampNeg)) (lt (st2 v7 1 a6.toNatClampNeg (nI k4)) (fun v11 => lt (st2 v11 0 1 ((v11 0 1) + (1 : Int32))) (fun v12 => some (some k4, v12))))) (fun j9 => (if a6 ≤ 0 then j9 () else ck (¬ ((a6 - (1 : Int32)) < 0 ∨ 10 ≤ (a6 - (1 : Int32)).toNatClampNeg)) (lt ((v7 1 (a6 - (1 : Int32)).toNatClampNeg).toNatClampNeg) (fun k15 => ck (k15 < 10) (ck (¬ ((a6 - (1 : Int32)) < 0 ∨ 10 ≤ (a6 - (1 : Int32)).toNatClampNeg)) (lt ((v7 1 (a6 - (1 : Int32)).toNatClampNeg).toNatClampNeg) (fun k18 => ck (k18 < 10) ((if p1 ≤ (v7 (2 + 3 * k18) 3) then j9 () else ck (¬ ((a6 - (1 : Int32)) < 0 ∨ 10 ≤ (a6 - (1 : Int32)).toNatClampNeg)) (lt ((v7 1 (a6 - (1 : Int32)).toNatClampNeg).toNatClampNeg) (fun k22 => ck (k22 < 10) (ck (¬ (a6 < 0 ∨ 10 ≤ a6.toNatClampNeg)) (lt (st2 v7 1 a6.toNatClampNeg (nI k22)) (fun v25 => rec8 ((a6 + (-1)), v25))))))))))))))))) xF ((v 0 1), v)))) else some ((none : Option Nat), v)))
set_option maxHeartbeats 4000000 in
set_option maxRecDepth 100000 in
theorem c_X1_openPlace (l : Launch) (G : xGl) (q : Nat → Nat) (v : xSt) (p1 : Int32) {z : (Option Nat × xSt)} (hf : m_X1_openPlace v p1 = some z) : mRW l yX1_openPlace (wM yX1_openPlace cX1_openPlace 4 (some (.object "BusyChip$Order"))) { frames := 0, cells := 0, slots := 0, locals := 0 } G (eLine G) 32 q v [.ref (q 0), .int p1] (qQ ((z.1).map (fun k => q (2 + 3 * k)))) z.2 := by
  refine xRW (cc := cX1_openPlace) (maxL := 4) (ret := (some (.object "BusyChip$Order"))) (by decide) rfl (Nat.le_of_ble_eq_true rfl) ?_
  intro p e s m below meth c ls A hC hr hlk h hl
  have hx := hC.1
  have hb := hC.2.1
  have hl : lv_has ls 4 [(0, .ref (q 0)), (1, .int p1)] := hl
  unfold m_X1_openPlace at hf
  obtain ⟨H, hH⟩ : ∃ H, H = s.heap := ⟨_, rfl⟩
  obtain ⟨locs, hlo⟩ : ∃ x : List Loc, x = [] := ⟨_, rfl⟩
  have h : hg G (eLine G) 32 q v A s H locs := by rw [hH, hlo]; exact h
  rw [← hlo, ← hH]
  clear hH hlo
  refine lv_aload_n hx hb dX1_openPlace_0 rfl (lv_at hl 0 rfl) ?_
  refine xget hC h.o (C := RX1) (T := TX1) (N := 3) (wM_us uw_X1) 0 (Nat.le_of_ble_eq_true rfl) eLine_0 rfl 1 (by decide) (wM_in fl_X1_17) rfl dX1_openPlace_1 ?_
  refine lv_if_lt (tgt := 19) hx hb dX1_openPlace_4 (by decide) (fun c1 => ?_) (fun c1 => ?_)
  · have hf := it_t c1 hf
    refine lv_null hx hb dX1_openPlace_19 ?_
    have hf := sm_e hf
    exact xqret (x := ((none : Option Nat)).map (fun k => q (2 + 3 * k))) hC hr hlk h (by rw [← hf]) (by rw [← hf]) dX1_openPlace_20
  · have hf := it_f c1 hf
    refine lv_aload_n hx hb dX1_openPlace_7 rfl (lv_at hl 0 rfl) ?_
    refine xget hC h.o (C := RX1) (T := TX1) (N := 3) (wM_us uw_X1) 0 (Nat.le_of_ble_eq_true rfl) eLine_0 rfl 1 (by decide) (wM_in fl_X1_17) rfl dX1_openPlace_8 ?_
    refine lv_aload_n hx hb dX1_openPlace_11 rfl (lv_at hl 0 rfl) ?_
    refine xget hC h.o (C := RX1) (T := TX1) (N := 3) (wM_us uw_X1) 0 (Nat.le_of_ble_eq_true rfl) eLine_0 rfl 0 (by decide) (wM_in fl_X1_11) rfl dX1_openPlace_12 ?_
    refine xalen hC h.o 2 rfl 1 (Nat.le_of_ble_eq_true rfl) eLine_1 (z := (10 : Int32)) rfl dX1_openPlace_15 ?_
    refine lv_icmp_lt (tgt := 21) hx hb dX1_openPlace_16 (by decide) (fun c2 => ?_) (fun c2 => ?_)
    · have hf := it_t c2 hf
      refine lv_aload_n hx hb dX1_openPlace_21 rfl (lv_at hl 0 rfl) ?_
      refine xget hC h.o (C := RX1) (T := TX1) (N := 3) (wM_us uw_X1) 0 (Nat.le_of_ble_eq_true rfl) eLine_0 rfl 0 (by decide) (wM_in fl_X1_11) rfl dX1_openPlace_22 ?_
      refine lv_aload_n hx hb dX1_openPlace_25 rfl (lv_at hl 0 rfl) ?_
      refine xget hC h.o (C := RX1) (T := TX1) (N := 3) (wM_us uw_X1) 0 (Nat.le_of_ble_eq_true rfl) eLine_0 rfl 1 (by decide) (wM_in fl_X1_17) rfl dX1_openPlace_26 ?_
      obtain ⟨hi3, hf⟩ := ck_e hf
      obtain ⟨k4, ek4, hf⟩ := lt_e hf
      obtain ⟨hk5, hf⟩ := ck_e hf
      refine xaldo (B := fun k => (2 + 3 * k)) hC h.o 1 (Nat.le_of_ble_eq_true rfl) eLine_1 hi3 ek4 hk5 dX1_openPlace_29 ?_
      refine lv_astore_n (lv' := [(2, .ref (q (2 + 3 * k4))), (0, .ref (q 0)), (1, .int p1)]) hx hb dX1_openPlace_30 rfl hl (by decide) rfl (fun ls hl => ?_)
      refine lv_aload_n hx hb dX1_openPlace_31 rfl (lv_at hl 1 rfl) ?_
      refine xget hC h.o (C := RX1) (T := TX1) (N := 3) (wM_us uw_X1) 0 (Nat.le_of_ble_eq_true rfl) eLine_0 rfl 1 (by decide) (wM_in fl_X1_17) rfl dX1_openPlace_32 ?_
      refine lv_istore_n (lv' := [(3, .int (v 0 1)), (2, .ref (q (2 + 3 * k4))), (0, .ref (q 0)), (1, .int p1)]) hx hb dX1_openPlace_35 rfl hl (by decide) rfl (fun ls hl => ?_)
      refine lp_i (z := z) (P := fun (pp : Int32 × xSt) => ∀ (H : Heap) (locs : List Loc), hg G (eLine G) 32 q pp.2 A s H locs → ∀ (ls : Array Slot), lv_has ls 4 [(0, .ref (q 0)), (1, .int p1), (2, .ref (q (2 + 3 * k4))), (3, .int pp.1)] → W p l e { frames := 0, cells := 0, slots := 0, locals := 0 } s m [.ref (q 0), .int p1].toArray below meth c H locs 0 0 (MQ below ((qQ ((z.1).map (fun k => q (2 + 3 * k)))) (cB G (eLine G) 32 q z.2 A) A) [.ref (q 0), .int p1].toArray s 0 0 A) (F0 m 36 ls [])) ?_ _ _ hf H locs h ls (lv_sub hl [2, 3, 1, 0] rfl)
      intro rec8 hrec8 pp hf H locs h ls hl
      obtain ⟨a6, v7⟩ := pp
      have h : hg G (eLine G) 32 q v7 A s H locs := h
      have hl : lv_has ls 4 [(0, .ref (q 0)), (1, .int p1), (2, .ref (q (2 + 3 * k4))), (3, .int a6)] := hl
      have hf := un2_e hf
      refine lv_iload_n hx hb dX1_openPlace_36 rfl (lv_at hl 3 rfl) ?_
      obtain ⟨j9, ej9, hf⟩ := lt_e hf
      have hj9 : ∀ (uu : Unit) (H : Heap) (locs : List Loc), hg G (eLine G) 32 q v7 A s H locs → ∀ (ls : Array Slot), lv_has ls 4 [(0, .ref (q 0)), (2, .ref (q (2 + 3 * k4))), (3, .int a6)] → j9 uu = some z → W p l e { frames := 0, cells := 0, slots := 0, locals := 0 } s m [.ref (q 0), .int p1].toArray below meth c H locs 0 0 (MQ below ((qQ ((z.1).map (fun k => q (2 + 3 * k)))) (cB G (eLine G) 32 q z.2 A) A) [.ref (q 0), .int p1].toArray s 0 0 A) (F0 m 86 ls []) := by
        intro uu H locs h ls hl hf
        rw [ej9] at hf
        refine lv_aload_n hx hb dX1_openPlace_86 rfl (lv_at hl 0 rfl) ?_
        refine xget hC h.o (C := RX1) (T := TX1) (N := 3) (wM_us uw_X1) 0 (Nat.le_of_ble_eq_true rfl) eLine_0 rfl 0 (by decide) (wM_in fl_X1_11) rfl dX1_openPlace_87 ?_
        refine lv_iload_n hx hb dX1_openPlace_90 rfl (lv_at hl 2 rfl) ?_
        refine lv_aload_n hx hb dX1_openPlace_91 rfl (lv_at hl 1 rfl) ?_
        obtain ⟨hi10, hf⟩ := ck_e hf
        refine xasto (B := fun k => (2 + 3 * k)) hC h 1 (Nat.le_of_ble_eq_true rfl) (fun _ => eLine_1) hk5 (by omega) (eLine_ord hk5) hi10 dX1_openPlace_92 (fun H locs h => ?_)
        obtain ⟨v11, ev11, hf⟩ := lt_e hf
        rw [← ev11] at h
        refine lv_aload_n hx hb dX1_openPlace_93 rfl (lv_at hl 0 rfl) ?_
        refine lv_dup hx hb dX1_openPlace_94 rfl ?_
        refine xget hC h.o (C := RX1) (T := TX1) (N := 3) (wM_us uw_X1) 0 (Nat.le_of_ble_eq_true rfl) eLine_0 rfl 1 (by decide) (wM_in fl_X1_17) rfl dX1_openPlace_95 ?_
        refine lv_iconst (v := (1 : Int32)) hx hb dX1_openPlace_98 (by decide) ?_
        refine lv_iadd hx hb dX1_openPlace_99 ?_
        refine xput hC h (C := RX1) (T := TX1) (N := 3) (wM_us uw_X1) tyX1_ok nmX1 0 (Nat.le_of_ble_eq_true rfl) eLine_0 rfl 1 (by decide) (wM_in fl_X1_17) rfl (ty := .int) (tyX1_ok 1 (by decide)) rfl rfl (Nat.le_of_ble_eq_true rfl) (eLine_0.trans rfl) dX1_openPlace_100 (fun H locs h => ?_)
        obtain ⟨v12, ev12, hf⟩ := lt_e hf
        rw [← ev12] at h
        refine lv_aload_n hx hb dX1_openPlace_103 rfl (lv_at hl 1 rfl) ?_
        have hf := sm_e hf
        exact xqret (x := (some k4).map (fun k => q (2 + 3 * k))) hC hr hlk h (by rw [← hf]) (by rw [← hf]) dX1_openPlace_104
      refine lv_if_le (tgt := 86) hx hb dX1_openPlace_37 (by decide) (fun c13 => ?_) (fun c13 => ?_)
      · have hf := it_t c13 hf
        exact hj9 () H locs h ls (lv_sub hl [0, 2, 3] rfl) hf
      · have hf := it_f c13 hf
        refine lv_aload_n hx hb dX1_openPlace_40 rfl (lv_at hl 0 rfl) ?_
        refine xget hC h.o (C := RX1) (T := TX1) (N := 3) (wM_us uw_X1) 0 (Nat.le_of_ble_eq_true rfl) eLine_0 rfl 0 (by decide) (wM_in fl_X1_11) rfl dX1_openPlace_41 ?_
        refine lv_iload_n hx hb dX1_openPlace_44 rfl (lv_at hl 3 rfl) ?_
        refine lv_iconst (v := (1 : Int32)) hx hb dX1_openPlace_45 (by decide) ?_
        refine lv_isub hx hb dX1_openPlace_46 ?_
        obtain ⟨hi14, hf⟩ := ck_e hf
        obtain ⟨k15, ek15, hf⟩ := lt_e hf
        obtain ⟨hk16, hf⟩ := ck_e hf
        refine xaldo (B := fun k => (2 + 3 * k)) hC h.o 1 (Nat.le_of_ble_eq_true rfl) eLine_1 hi14 ek15 hk16 dX1_openPlace_47 ?_
        refine lv_ifnull hx hb dX1_openPlace_48 ?_
        refine lv_aload_n hx hb dX1_openPlace_51 rfl (lv_at hl 0 rfl) ?_
        refine xget hC h.o (C := RX1) (T := TX1) (N := 3) (wM_us uw_X1) 0 (Nat.le_of_ble_eq_true rfl) eLine_0 rfl 0 (by decide) (wM_in fl_X1_11) rfl dX1_openPlace_52 ?_
        refine lv_iload_n hx hb dX1_openPlace_55 rfl (lv_at hl 3 rfl) ?_
        refine lv_iconst (v := (1 : Int32)) hx hb dX1_openPlace_56 (by decide) ?_
        refine lv_isub hx hb dX1_openPlace_57 ?_
        obtain ⟨hi17, hf⟩ := ck_e hf
        obtain ⟨k18, ek18, hf⟩ := lt_e hf
        obtain ⟨hk19, hf⟩ := ck_e hf
        refine xaldo (B := fun k => (2 + 3 * k)) hC h.o 1 (Nat.le_of_ble_eq_true rfl) eLine_1 hi17 ek18 hk19 dX1_openPlace_58 ?_
        refine xget hC h.o (C := RX3) (T := TX3) (N := 6) (wM_us uw_X3) (2 + 3 * k18) (by omega) (eLine_ord hk19) rfl 3 (by decide) (wM_in fl_X1_45) rfl dX1_openPlace_59 ?_
        refine lv_iload_n hx hb dX1_openPlace_62 rfl (lv_at hl 1 rfl) ?_
        refine lv_icmp_ge (tgt := 86) hx hb dX1_openPlace_63 (by decide) (fun c20 => ?_) (fun c20 => ?_)
        · have hf := it_t c20 hf
          exact hj9 () H locs h ls (lv_sub hl [0, 2, 3] rfl) hf
        · have hf := it_f c20 hf
          refine lv_aload_n hx hb dX1_openPlace_66 rfl (lv_at hl 0 rfl) ?_
          refine xget hC h.o (C := RX1) (T := TX1) (N := 3) (wM_us uw_X1) 0 (Nat.le_of_ble_eq_true rfl) eLine_0 rfl 0 (by decide) (wM_in fl_X1_11) rfl dX1_openPlace_67 ?_
          refine lv_iload_n hx hb dX1_openPlace_70 rfl (lv_at hl 3 rfl) ?_
          refine lv_aload_n hx hb dX1_openPlace_71 rfl (lv_at hl 0 rfl) ?_
          refine xget hC h.o (C := RX1) (T := TX1) (N := 3) (wM_us uw_X1) 0 (Nat.le_of_ble_eq_true rfl) eLine_0 rfl 0 (by decide) (wM_in fl_X1_11) rfl dX1_openPlace_72 ?_
          refine lv_iload_n hx hb dX1_openPlace_75 rfl (lv_at hl 3 rfl) ?_
          refine lv_iconst (v := (1 : Int32)) hx hb dX1_openPlace_76 (by decide) ?_
          refine lv_isub hx hb dX1_openPlace_77 ?_
          obtain ⟨hi21, hf⟩ := ck_e hf
          obtain ⟨k22, ek22, hf⟩ := lt_e hf
          obtain ⟨hk23, hf⟩ := ck_e hf
          refine xaldo (B := fun k => (2 + 3 * k)) hC h.o 1 (Nat.le_of_ble_eq_true rfl) eLine_1 hi21 ek22 hk23 dX1_openPlace_78 ?_
          obtain ⟨hi24, hf⟩ := ck_e hf
          refine xasto (B := fun k => (2 + 3 * k)) hC h 1 (Nat.le_of_ble_eq_true rfl) (fun _ => eLine_1) hk23 (by omega) (eLine_ord hk23) hi24 dX1_openPlace_79 (fun H locs h => ?_)
          obtain ⟨v25, ev25, hf⟩ := lt_e hf
          rw [← ev25] at h
          refine lv_iinc (v := (a6 + (-1))) (lv' := [(3, .int (a6 + (-1))), (0, .ref (q 0)), (1, .int p1), (2, .ref (q (2 + 3 * k4)))]) hx hb dX1_openPlace_80 hl (k := 3) rfl rfl (by decide) rfl (fun ls hl => ?_)
          refine lv_goto (tgt := 36) hx hb dX1_openPlace_83 (by decide) ?_
          exact hrec8 ((a6 + (-1)), v25) hf H locs h ls (lv_sub hl [1, 2, 3, 0] rfl)
    · have hf := it_f c2 hf
      refine lv_null hx hb dX1_openPlace_19 ?_
      have hf := sm_e hf
      exact xqret (x := ((none : Option Nat)).map (fun k => q (2 + 3 * k))) hC hr hlk h (by rw [← hf]) (by rw [← hf]) dX1_openPlace_20
def m_X1_join (v : xSt) (p1 : Int32) (p2 : Int32) (p3 : Int32) (p4 : Int32) : Option (Int32 × xSt) := ob (m_X1_openPlace v p3) (fun r2 => lt (r2.2) (fun v3 => lt (r2.1) (fun o4 => om o4 (some ((-1 : Int32), v3)) (fun k5 => ck (k5 < 10) (lt (st2 v3 (2 + 3 * k5) 0 (v3 0 2)) (fun v8 => lt (st2 v8 (2 + 3 * k5) 1 p1) (fun v9 => lt (st2 v9 (2 + 3 * k5) 2 p2) (fun v10 => lt (st2 v10 (2 + 3 * k5) 3 p3) (fun v11 => lt (st2 v11 (2 + 3 * k5) 4 p4) (fun v12 => lt (st2 v12 ((2 + 3 * k5) + 1) 1 (0 : Int32)) (fun v13 => lt (st2 v13 0 2 ((v13 0 2) + (1 : Int32))) (fun v14 => some ((v14 (2 + 3 * k5) 0), v14)))))))))))))
set_option maxHeartbeats 4000000 in
set_option maxRecDepth 100000 in
theorem c_X1_join (l : Launch) (G : xGl) (q : Nat → Nat) (v : xSt) (p1 : Int32) (p2 : Int32) (p3 : Int32) (p4 : Int32) {z : (Int32 × xSt)} (hf : m_X1_join v p1 p2 p3 p4 = some z) : mRW l yX1_join (wM yX1_join cX1_join 6 (some .int)) { frames := 1, cells := 0, slots := 0, locals := 23 } G (eLine G) 32 q v [.ref (q 0), .int p1, .int p2, .int p3, .int p4] (qI z.1) z.2 := by
  refine xRW (cc := cX1_join) (maxL := 6) (ret := (some .int)) (by decide) rfl (Nat.le_of_ble_eq_true rfl) ?_
  intro p e s m below meth c ls A hC hr hlk h hl
  have hx := hC.1
  have hb := hC.2.1
  have hl : lv_has ls 6 [(0, .ref (q 0)), (1, .int p1), (2, .int p2), (3, .int p3), (4, .int p4)] := hl
  unfold m_X1_join at hf
  obtain ⟨H, hH⟩ : ∃ H, H = s.heap := ⟨_, rfl⟩
  obtain ⟨locs, hlo⟩ : ∃ x : List Loc, x = [] := ⟨_, rfl⟩
  have h : hg G (eLine G) 32 q v A s H locs := by rw [hH, hlo]; exact h
  rw [← hlo, ← hH]
  clear hH hlo
  refine lv_aload_n hx hb dX1_join_0 rfl (lv_at hl 0 rfl) ?_
  refine lv_iload_n hx hb dX1_join_1 rfl (lv_at hl 3 rfl) ?_
  obtain ⟨r2, hy1, hf⟩ := ob_e hf
  refine xq0 h (va_runV (As := [.int p3]) (rest := []) hC (c_X1_openPlace l G q v p3 hy1 H.size) (xcwV hC lk_X1_42 in_X1 co_X1_openPlace im_X1_openPlace se_X1_openPlace rfl rfl dd_X1_openPlace ⟨Nat.le_of_ble_eq_true rfl, Nat.le_of_ble_eq_true rfl⟩) (preV0 h (Nat.le_of_ble_eq_true rfl) eLine_0 rfl [.int p3]) rfl rfl hl.1 rfl (lv_room (Nat.le_of_ble_eq_true rfl)) dX1_join_2 ⟨Nat.zero_le _, Nat.zero_le _⟩) (fun H locs h => ?_)
  obtain ⟨v3, ev3, hf⟩ := lt_e hf
  rw [← ev3] at h
  obtain ⟨o4, eo4, hf⟩ := lt_e hf
  rw [← eo4]
  rcases omm hf with ⟨ho7, gho7⟩ | ⟨k5, ho7, gho7⟩
  · subst ho7
    replace hf := gho7
    refine lv_astoreN (lv' := [(5, .null), (0, .ref (q 0)), (1, .int p1), (2, .int p2), (3, .int p3), (4, .int p4)]) hx hb dX1_join_5 hl (by decide) rfl (fun ls hl => ?_)
    refine lv_aloadN hx hb dX1_join_7 (lv_at hl 0 rfl) ?_
    refine lv_ifnonnullN hx hb dX1_join_9 ?_
    refine lv_iconst (v := (-1 : Int32)) hx hb dX1_join_12 (by decide) ?_
    have hf := sm_e hf
    exact xiret hC hr hlk h (by rw [← hf]) (by rw [← hf]) dX1_join_13
  · subst ho7
    obtain ⟨hk6, hf⟩ := ck_e gho7
    refine lv_astore (lv' := [(5, .ref (q (2 + 3 * k5))), (0, .ref (q 0)), (1, .int p1), (2, .int p2), (3, .int p3), (4, .int p4)]) hx hb dX1_join_5 hl (by decide) rfl (fun ls hl => ?_)
    refine lv_aload hx hb dX1_join_7 (lv_at hl 0 rfl) ?_
    refine lv_ifnonnull (tgt := 14) hx hb dX1_join_9 (by decide) ?_
    refine lv_aload hx hb dX1_join_14 (lv_at hl 0 rfl) ?_
    refine lv_aload_n hx hb dX1_join_16 rfl (lv_at hl 1 rfl) ?_
    refine xget hC h.o (C := RX1) (T := TX1) (N := 3) (wM_us uw_X1) 0 (Nat.le_of_ble_eq_true rfl) eLine_0 rfl 2 (by decide) (wM_in fl_X1_21) rfl dX1_join_17 ?_
    refine xput hC h (C := RX3) (T := TX3) (N := 6) (wM_us uw_X3) tyX3_ok nmX3 (2 + 3 * k5) (by omega) (eLine_ord hk6) rfl 0 (by decide) (wM_in fl_X1_29) rfl (ty := .int) (tyX3_ok 0 (by decide)) rfl rfl (Nat.le_of_ble_eq_true rfl) ((eLine_ord hk6).trans rfl) dX1_join_20 (fun H locs h => ?_)
    obtain ⟨v8, ev8, hf⟩ := lt_e hf
    rw [← ev8] at h
    refine lv_aload hx hb dX1_join_23 (lv_at hl 0 rfl) ?_
    refine lv_iload_n hx hb dX1_join_25 rfl (lv_at hl 2 rfl) ?_
    refine xput hC h (C := RX3) (T := TX3) (N := 6) (wM_us uw_X3) tyX3_ok nmX3 (2 + 3 * k5) (by omega) (eLine_ord hk6) rfl 1 (by decide) (wM_in fl_X1_32) rfl (ty := .int) (tyX3_ok 1 (by decide)) rfl rfl (Nat.le_of_ble_eq_true rfl) ((eLine_ord hk6).trans rfl) dX1_join_26 (fun H locs h => ?_)
    obtain ⟨v9, ev9, hf⟩ := lt_e hf
    rw [← ev9] at h
    refine lv_aload hx hb dX1_join_29 (lv_at hl 0 rfl) ?_
    refine lv_iload_n hx hb dX1_join_31 rfl (lv_at hl 3 rfl) ?_
    refine xput hC h (C := RX3) (T := TX3) (N := 6) (wM_us uw_X3) tyX3_ok nmX3 (2 + 3 * k5) (by omega) (eLine_ord hk6) rfl 2 (by decide) (wM_in fl_X1_35) rfl (ty := .int) (tyX3_ok 2 (by decide)) rfl rfl (Nat.le_of_ble_eq_true rfl) ((eLine_ord hk6).trans rfl) dX1_join_32 (fun H locs h => ?_)
    obtain ⟨v10, ev10, hf⟩ := lt_e hf
    rw [← ev10] at h
    refine lv_aload hx hb dX1_join_35 (lv_at hl 0 rfl) ?_
    refine lv_iload_n hx hb dX1_join_37 rfl (lv_at hl 4 rfl) ?_
    refine xput hC h (C := RX3) (T := TX3) (N := 6) (wM_us uw_X3) tyX3_ok nmX3 (2 + 3 * k5) (by omega) (eLine_ord hk6) rfl 3 (by decide) (wM_in fl_X1_45) rfl (ty := .int) (tyX3_ok 3 (by decide)) rfl rfl (Nat.le_of_ble_eq_true rfl) ((eLine_ord hk6).trans rfl) dX1_join_38 (fun H locs h => ?_)
    obtain ⟨v11, ev11, hf⟩ := lt_e hf
    rw [← ev11] at h
    refine lv_aload hx hb dX1_join_41 (lv_at hl 0 rfl) ?_
    refine lv_iload hx hb dX1_join_43 (lv_at hl 5 rfl) ?_
    refine xput hC h (C := RX3) (T := TX3) (N := 6) (wM_us uw_X3) tyX3_ok nmX3 (2 + 3 * k5) (by omega) (eLine_ord hk6) rfl 4 (by decide) (wM_in fl_X1_48) rfl (ty := .int) (tyX3_ok 4 (by decide)) rfl rfl (Nat.le_of_ble_eq_true rfl) ((eLine_ord hk6).trans rfl) dX1_join_45 (fun H locs h => ?_)
    obtain ⟨v12, ev12, hf⟩ := lt_e hf
    rw [← ev12] at h
    refine lv_aload hx hb dX1_join_48 (lv_at hl 0 rfl) ?_
    refine xget hC h.o (C := RX3) (T := TX3) (N := 6) (wM_us uw_X3) (2 + 3 * k5) (by omega) (eLine_ord hk6) rfl 5 (by decide) (wM_in fl_X1_51) rfl dX1_join_50 ?_
    refine lv_iconst (v := (0 : Int32)) hx hb dX1_join_53 (by decide) ?_
    refine xput hC h (C := RX4) (T := TX4) (N := 2) (wM_us uw_X4) tyX4_ok nmX4 ((2 + 3 * k5) + 1) (by omega) (eLine_ordr hk6) rfl 1 (by decide) (wM_in fl_X1_55) rfl (ty := .int) (tyX4_ok 1 (by decide)) rfl rfl (Nat.le_of_ble_eq_true rfl) ((eLine_ordr hk6).trans rfl) dX1_join_54 (fun H locs h => ?_)
    obtain ⟨v13, ev13, hf⟩ := lt_e hf
    rw [← ev13] at h
    refine lv_aload_n hx hb dX1_join_57 rfl (lv_at hl 1 rfl) ?_
    refine lv_dup hx hb dX1_join_58 rfl ?_
    refine xget hC h.o (C := RX1) (T := TX1) (N := 3) (wM_us uw_X1) 0 (Nat.le_of_ble_eq_true rfl) eLine_0 rfl 2 (by decide) (wM_in fl_X1_21) rfl dX1_join_59 ?_
    refine lv_iconst (v := (1 : Int32)) hx hb dX1_join_62 (by decide) ?_
    refine lv_iadd hx hb dX1_join_63 ?_
    refine xput hC h (C := RX1) (T := TX1) (N := 3) (wM_us uw_X1) tyX1_ok nmX1 0 (Nat.le_of_ble_eq_true rfl) eLine_0 rfl 2 (by decide) (wM_in fl_X1_21) rfl (ty := .int) (tyX1_ok 2 (by decide)) rfl rfl (Nat.le_of_ble_eq_true rfl) (eLine_0.trans rfl) dX1_join_64 (fun H locs h => ?_)
    obtain ⟨v14, ev14, hf⟩ := lt_e hf
    rw [← ev14] at h
    refine lv_aload hx hb dX1_join_67 (lv_at hl 0 rfl) ?_
    refine xget hC h.o (C := RX3) (T := TX3) (N := 6) (wM_us uw_X3) (2 + 3 * k5) (by omega) (eLine_ord hk6) rfl 0 (by decide) (wM_in fl_X1_29) rfl dX1_join_69 ?_
    have hf := sm_e hf
    exact xiret hC hr hlk h (by rw [← hf]) (by rw [← hf]) dX1_join_72
def m_X4_become (v : xSt) : Option xSt := ck (0 ≤ (if (12 : Int32) < (12 : Int32) then (12 : Int32) else (12 : Int32)) ∧ (if (12 : Int32) < (12 : Int32) then (12 : Int32) else (12 : Int32)).toNatClampNeg ≤ 12 ∧ (if (12 : Int32) < (12 : Int32) then (12 : Int32) else (12 : Int32)).toNatClampNeg ≤ 12) (lt (va_up v 1 (va_cpy (v 3) (v 1) 0 0 (if (12 : Int32) < (12 : Int32) then (12 : Int32) else (12 : Int32)).toNatClampNeg)) (fun v2 => lt (st2 v2 0 1 (v2 2 1)) (fun v3 => some v3)))
set_option maxHeartbeats 4000000 in
set_option maxRecDepth 100000 in
theorem c_X4_become (l : Launch) (G : xGl) (q : Nat → Nat) (v : xSt) {z : xSt} (hf : m_X4_become v = some z) : mRW l yX4_become (wM yX4_become cX4_become 2 none) { frames := 1, cells := 0, slots := 0, locals := 60 } G ((e2 2 (eRow G) (eRow G))) 4 q v [.ref (q 0), .ref (q 2)] qV z := by
  refine xRW (cc := cX4_become) (maxL := 2) (ret := none) (by decide) rfl (Nat.le_of_ble_eq_true rfl) ?_
  intro p e s m below meth c ls A hC hr hlk h hl
  have hx := hC.1
  have hb := hC.2.1
  have hl : lv_has ls 2 [(0, .ref (q 0)), (1, .ref (q 2))] := hl
  unfold m_X4_become at hf
  obtain ⟨H, hH⟩ : ∃ H, H = s.heap := ⟨_, rfl⟩
  obtain ⟨locs, hlo⟩ : ∃ x : List Loc, x = [] := ⟨_, rfl⟩
  have h : hg G ((e2 2 (eRow G) (eRow G))) 4 q v A s H locs := by rw [hH, hlo]; exact h
  rw [← hlo, ← hH]
  clear hH hlo
  refine lv_aload_n hx hb dX4_become_0 rfl (lv_at hl 1 rfl) ?_
  refine xget hC h.o (C := RX4) (T := TX4) (N := 2) (wM_us uw_X4) 2 (Nat.le_of_ble_eq_true rfl) eRowRow_2 rfl 0 (by decide) (wM_in fl_X4_9) rfl dX4_become_1 ?_
  refine lv_iconst (v := (0 : Int32)) hx hb dX4_become_4 (by decide) ?_
  refine lv_aload_n hx hb dX4_become_5 rfl (lv_at hl 0 rfl) ?_
  refine xget hC h.o (C := RX4) (T := TX4) (N := 2) (wM_us uw_X4) 0 (Nat.le_of_ble_eq_true rfl) eRowRow_0 rfl 0 (by decide) (wM_in fl_X4_9) rfl dX4_become_6 ?_
  refine lv_iconst (v := (0 : Int32)) hx hb dX4_become_9 (by decide) ?_
  refine lv_aload_n hx hb dX4_become_10 rfl (lv_at hl 0 rfl) ?_
  refine xget hC h.o (C := RX4) (T := TX4) (N := 2) (wM_us uw_X4) 0 (Nat.le_of_ble_eq_true rfl) eRowRow_0 rfl 0 (by decide) (wM_in fl_X4_9) rfl dX4_become_11 ?_
  refine xalen hC h.o 0 rfl 1 (Nat.le_of_ble_eq_true rfl) eRowRow_1 (z := (12 : Int32)) rfl dX4_become_14 ?_
  refine lv_aload_n hx hb dX4_become_15 rfl (lv_at hl 1 rfl) ?_
  refine xget hC h.o (C := RX4) (T := TX4) (N := 2) (wM_us uw_X4) 2 (Nat.le_of_ble_eq_true rfl) eRowRow_2 rfl 0 (by decide) (wM_in fl_X4_9) rfl dX4_become_16 ?_
  refine xalen hC h.o 0 rfl 3 (Nat.le_of_ble_eq_true rfl) eRowRow_3 (z := (12 : Int32)) rfl dX4_become_19 ?_
  refine va_mmin hx hb (hC.2.2.1.trans hl.1.symm) hC.2.2.2.1 (hC.2.2.2.2 _ (wM_in lkm_X4_19)) (hC.2.2.2.2 _ (wM_in st_min)) (hC.2.2.2.2 _ (wM_in in_math)) (hC.2.2.2.2 _ (wM_in co_min)) (Nat.le_of_ble_eq_true rfl) (Nat.le_of_ble_eq_true rfl) (Nat.zero_le _) (Nat.zero_le _) dX4_become_20 ?_
  obtain ⟨hn1, hf⟩ := ck_e hf
  refine xacpy hC h (hC.2.2.2.2 _ (wM_in lkc_X4_29)) (hC.2.2.2.2 _ (wM_in na_acp)) (hC.2.2.2.2 _ (wM_in st_acp)) (hC.2.2.2.2 _ (wM_in in_sys)) (hC.2.2.1.trans hl.1.symm) 3 1 (Nat.le_of_ble_eq_true rfl) (Nat.le_of_ble_eq_true rfl) eRowRow_3 (fun _ => eRowRow_1) hn1 (Nat.le_of_ble_eq_true rfl) (Nat.le_of_ble_eq_true rfl) dX4_become_23 (fun H locs h => ?_)
  obtain ⟨v2, ev2, hf⟩ := lt_e hf
  rw [← ev2] at h
  refine lv_aload_n hx hb dX4_become_26 rfl (lv_at hl 0 rfl) ?_
  refine lv_aload_n hx hb dX4_become_27 rfl (lv_at hl 1 rfl) ?_
  refine xget hC h.o (C := RX4) (T := TX4) (N := 2) (wM_us uw_X4) 2 (Nat.le_of_ble_eq_true rfl) eRowRow_2 rfl 1 (by decide) (wM_in fl_X4_15) rfl dX4_become_28 ?_
  refine xput hC h (C := RX4) (T := TX4) (N := 2) (wM_us uw_X4) tyX4_ok nmX4 0 (Nat.le_of_ble_eq_true rfl) eRowRow_0 rfl 1 (by decide) (wM_in fl_X4_15) rfl (ty := .int) (tyX4_ok 1 (by decide)) rfl rfl (Nat.le_of_ble_eq_true rfl) (eRowRow_0.trans rfl) dX4_become_31 (fun H locs h => ?_)
  obtain ⟨v3, ev3, hf⟩ := lt_e hf
  rw [← ev3] at h
  have hf := sm_e hf
  exact xvret hC hr hlk h hf dX4_become_34
def m_X1_joinWrite (v : xSt) (p1 : Int32) (p2 : Int32) (p3 : Int32) : Option (Int32 × xSt) := ob (m_X1_join v (1 : Int32) p1 p2 p3) (fun r2 => lt (pu 0 32 v r2.2) (fun v3 => ob (m_X1_rankOf v3 r2.1) (fun r5 => ob (m_X1_orderAt v3 r5) (fun r7 => om r7 (some (r2.1, v3)) (fun k8 => ck (k8 < 10) (ob (m_X4_become (ct 2 (sh ((2 + 3 * k8) + 1) v3) (sh 32 v3))) (fun r12 => lt (pu 32 2 (pu ((2 + 3 * k8) + 1) 2 v3 r12) (sh 2 r12)) (fun v13 => some (r2.1, v13)))))))))
set_option maxHeartbeats 4000000 in
set_option maxRecDepth 100000 in
theorem c_X1_joinWrite (l : Launch) (G : xGl) (q : Nat → Nat) (v : xSt) (p1 : Int32) (p2 : Int32) (p3 : Int32) {z : (Int32 × xSt)} (hf : m_X1_joinWrite v p1 p2 p3 = some z) : mRW l yX1_joinWrite (wM yX1_joinWrite cX1_joinWrite 7 (some .int)) { frames := 2, cells := 0, slots := 0, locals := 81 } G ((e2 32 (eLine G) (eRow G))) 34 q v [.ref (q 0), .int p1, .int p2, .int p3, .ref (q 32)] (qI z.1) z.2 := by
  refine xRW (cc := cX1_joinWrite) (maxL := 7) (ret := (some .int)) (by decide) rfl (Nat.le_of_ble_eq_true rfl) ?_
  intro p e s m below meth c ls A hC hr hlk h hl
  have hx := hC.1
  have hb := hC.2.1
  have hl : lv_has ls 7 [(0, .ref (q 0)), (1, .int p1), (2, .int p2), (3, .int p3), (4, .ref (q 32))] := hl
  unfold m_X1_joinWrite at hf
  obtain ⟨H, hH⟩ : ∃ H, H = s.heap := ⟨_, rfl⟩
  obtain ⟨locs, hlo⟩ : ∃ x : List Loc, x = [] := ⟨_, rfl⟩
  have h : hg G ((e2 32 (eLine G) (eRow G))) 34 q v A s H locs := by rw [hH, hlo]; exact h
  rw [← hlo, ← hH]
  clear hH hlo
  refine lv_aload_n hx hb dX1_joinWrite_0 rfl (lv_at hl 0 rfl) ?_
  refine lv_iconst (v := (1 : Int32)) hx hb dX1_joinWrite_1 (by decide) ?_
  refine lv_iload_n hx hb dX1_joinWrite_2 rfl (lv_at hl 1 rfl) ?_
  refine lv_iload_n hx hb dX1_joinWrite_3 rfl (lv_at hl 2 rfl) ?_
  refine lv_iload_n hx hb dX1_joinWrite_4 rfl (lv_at hl 3 rfl) ?_
  obtain ⟨r2, hy1, hf⟩ := ob_e hf
  refine xip h 32 sLineRow_0 (Nat.le_of_ble_eq_true rfl) (va_runV (As := [.int (1 : Int32), .int p1, .int p2, .int p3]) (rest := []) hC (c_X1_join l G q v (1 : Int32) p1 p2 p3 hy1 H.size) (xcwV hC lk_X1_58 in_X1 co_X1_join im_X1_join se_X1_join rfl rfl dd_X1_join ⟨Nat.le_of_ble_eq_true rfl, Nat.le_of_ble_eq_true rfl⟩) (preVp h 32 sLineRow_0 (Nat.le_of_ble_eq_true rfl) (Nat.le_of_ble_eq_true rfl) eLineRow_0 rfl [.int (1 : Int32), .int p1, .int p2, .int p3]) rfl rfl hl.1 rfl (lv_room (Nat.le_of_ble_eq_true rfl)) dX1_joinWrite_5 ⟨Nat.zero_le _, Nat.zero_le _⟩) (fun H locs h => ?_)
  obtain ⟨v3, ev3, hf⟩ := lt_e hf
  rw [← ev3] at h
  refine lv_istore (lv' := [(5, .int r2.1), (0, .ref (q 0)), (1, .int p1), (2, .int p2), (3, .int p3), (4, .ref (q 32))]) hx hb dX1_joinWrite_8 hl (by decide) rfl (fun ls hl => ?_)
  refine lv_aload_n hx hb dX1_joinWrite_10 rfl (lv_at hl 1 rfl) ?_
  refine lv_aload_n hx hb dX1_joinWrite_11 rfl (lv_at hl 1 rfl) ?_
  refine lv_iload hx hb dX1_joinWrite_12 (lv_at hl 0 rfl) ?_
  obtain ⟨r5, hy4, hf⟩ := ob_e hf
  refine xiG h (va_runV (As := [.int r2.1]) (rest := [.ref (q 0)]) hC (c_X1_rankOf l G q v3 r2.1 hy4 H.size) (xcwV hC lk_X1_62 in_X1 co_X1_rankOf im_X1_rankOf se_X1_rankOf rfl rfl dd_X1_rankOf ⟨Nat.le_of_ble_eq_true rfl, Nat.le_of_ble_eq_true rfl⟩) (preVOp h.o 32 sLineRow_0 (Nat.le_of_ble_eq_true rfl) (Nat.le_of_ble_eq_true rfl) eLineRow_0 rfl [.int r2.1]) rfl rfl hl.1 rfl (lv_room (Nat.le_of_ble_eq_true rfl)) dX1_joinWrite_14 ⟨Nat.zero_le _, Nat.zero_le _⟩) (fun H locs h => ?_)
  obtain ⟨r7, hy6, hf⟩ := ob_e hf
  refine xqG h (va_runV (As := [.int r5]) (rest := []) hC (c_X1_orderAt l G q v3 r5 hy6 H.size) (xcwV hC lk_X1_25 in_X1 co_X1_orderAt im_X1_orderAt se_X1_orderAt rfl rfl dd_X1_orderAt ⟨Nat.le_of_ble_eq_true rfl, Nat.le_of_ble_eq_true rfl⟩) (preVOp h.o 32 sLineRow_0 (Nat.le_of_ble_eq_true rfl) (Nat.le_of_ble_eq_true rfl) eLineRow_0 rfl [.int r5]) rfl rfl hl.1 rfl (lv_room (Nat.le_of_ble_eq_true rfl)) dX1_joinWrite_17 ⟨Nat.zero_le _, Nat.zero_le _⟩) (fun H locs h => ?_)
  rcases omm hf with ⟨ho10, gho10⟩ | ⟨k8, ho10, gho10⟩
  · subst ho10
    replace hf := gho10
    refine lv_astoreN (lv' := [(6, .null), (5, .int r2.1), (0, .ref (q 0)), (1, .int p1), (2, .int p2), (3, .int p3), (4, .ref (q 32))]) hx hb dX1_joinWrite_20 hl (by decide) rfl (fun ls hl => ?_)
    refine lv_aloadN hx hb dX1_joinWrite_22 (lv_at hl 0 rfl) ?_
    refine lv_ifnullN (tgt := 37) hx hb dX1_joinWrite_24 (by decide) ?_
    refine lv_iload hx hb dX1_joinWrite_37 (lv_at hl 1 rfl) ?_
    have hf := sm_e hf
    exact xiret hC hr hlk h (by rw [← hf]) (by rw [← hf]) dX1_joinWrite_39
  · subst ho10
    obtain ⟨hk9, hf⟩ := ck_e gho10
    refine lv_astore (lv' := [(6, .ref (q (2 + 3 * k8))), (5, .int r2.1), (0, .ref (q 0)), (1, .int p1), (2, .int p2), (3, .int p3), (4, .ref (q 32))]) hx hb dX1_joinWrite_20 hl (by decide) rfl (fun ls hl => ?_)
    refine lv_aload hx hb dX1_joinWrite_22 (lv_at hl 0 rfl) ?_
    refine lv_ifnull hx hb dX1_joinWrite_24 ?_
    refine lv_aload hx hb dX1_joinWrite_27 (lv_at hl 0 rfl) ?_
    refine xget hC h.o (C := RX3) (T := TX3) (N := 6) (wM_us uw_X3) (2 + 3 * k8) (by omega) (eLineRow_ord hk9) rfl 5 (by decide) (wM_in fl_X1_51) rfl dX1_joinWrite_29 ?_
    refine lv_aload hx hb dX1_joinWrite_32 (lv_at hl 6 rfl) ?_
    obtain ⟨r12, hy11, hf⟩ := ob_e hf
    refine xv2 h ((2 + 3 * k8) + 1) 2 32 2 (x2E1 (sLineRow_ordr hk9) locRow) (x2E2 sLineRow_32) (by omega) (Nat.le_of_ble_eq_true rfl) (by omega) (va_runV (As := [.ref (q 32)]) (rest := []) hC (c_X4_become l G (ct 2 (sh ((2 + 3 * k8) + 1) q) (sh 32 q)) (ct 2 (sh ((2 + 3 * k8) + 1) v3) (sh 32 v3)) hy11 H.size) (xcwV hC lk_X1_66 in_X4 co_X4_become im_X4_become se_X4_become rfl rfl dd_X4_become ⟨Nat.le_of_ble_eq_true rfl, Nat.le_of_ble_eq_true rfl⟩) (preV2 h ((2 + 3 * k8) + 1) 2 32 2 (x2E1 (sLineRow_ordr hk9) locRow) (x2E2 sLineRow_32) (by omega) (Nat.le_of_ble_eq_true rfl) (by omega) (by omega) (eLineRow_ordr hk9) rfl [.ref (q 32)]) rfl rfl hl.1 rfl (lv_room (Nat.le_of_ble_eq_true rfl)) dX1_joinWrite_34 ⟨Nat.zero_le _, Nat.zero_le _⟩) (fun H locs h => ?_)
    obtain ⟨v13, ev13, hf⟩ := lt_e hf
    rw [← ev13] at h
    refine lv_iload hx hb dX1_joinWrite_37 (lv_at hl 1 rfl) ?_
    have hf := sm_e hf
    exact xiret hC hr hlk h (by rw [← hf]) (by rw [← hf]) dX1_joinWrite_39
def m_X1_leave (v : xSt) (p1 : Int32) : Option xSt := ob (m_X1_orderAt v p1) (fun r2 => om r2 (some v) (fun k3 => ck (k3 < 10) (lp (fun (rec8 : Int32 × xSt → Option xSt) => un2 (fun (a6 : Int32) (v7 : xSt) => lt (fun (_ : Unit) => lt (st2 v7 0 1 ((v7 0 1) - (1 : Int32))) (fun v10 => (if (v10 0 1) < 0 then some v10 else (if (10 : Int32) ≤ (v10 0 1) then some v10 else ck (¬ ((v10 0 1) < 0 ∨ 10 ≤ (v10 0 1).toNatClampNeg)) (lt (st2 v10 1 (v10 0 1).toNatClampNeg (nI k3)) (fun v14 => some v14)))))) (fun j9 => (if (v7 0 1) ≤ a6 then j9 () else (if (10 : Int32) ≤ a6 then j9 () else ck (¬ (a6 < 0 ∨ 10 ≤ a6.toNatClampNeg)) (lt ((v7 1 a6.toNatClampNeg).toNatClampNeg) (fun k18 => ck (k18 < 10) (ck (¬ ((a6 - (1 : Int32)) < 0 ∨ 10 ≤ (a6 - (1 : Int32)).toNatClampNeg)) (lt (st2 v7 1 (a6 - (1 : Int32)).toNatClampNeg (nI k18)) (fun v21 => rec8 ((a6 + 1), v21))))))))))) xF ((p1 + (1 : Int32)), v))))
set_option maxHeartbeats 4000000 in
set_option maxRecDepth 100000 in
theorem c_X1_leave (l : Launch) (G : xGl) (q : Nat → Nat) (v : xSt) (p1 : Int32) {z : xSt} (hf : m_X1_leave v p1 = some z) : mRW l yX1_leave (wM yX1_leave cX1_leave 4 none) { frames := 1, cells := 0, slots := 0, locals := 21 } G (eLine G) 32 q v [.ref (q 0), .int p1] qV z := by
  refine xRW (cc := cX1_leave) (maxL := 4) (ret := none) (by decide) rfl (Nat.le_of_ble_eq_true rfl) ?_
  intro p e s m below meth c ls A hC hr hlk h hl
  have hx := hC.1
  have hb := hC.2.1
  have hl : lv_has ls 4 [(0, .ref (q 0)), (1, .int p1)] := hl
  unfold m_X1_leave at hf
  obtain ⟨H, hH⟩ : ∃ H, H = s.heap := ⟨_, rfl⟩
  obtain ⟨locs, hlo⟩ : ∃ x : List Loc, x = [] := ⟨_, rfl⟩
  have h : hg G (eLine G) 32 q v A s H locs := by rw [hH, hlo]; exact h
  rw [← hlo, ← hH]
  clear hH hlo
  refine lv_aload_n hx hb dX1_leave_0 rfl (lv_at hl 0 rfl) ?_
  refine lv_iload_n hx hb dX1_leave_1 rfl (lv_at hl 1 rfl) ?_
  obtain ⟨r2, hy1, hf⟩ := ob_e hf
  refine xqG h (va_runV (As := [.int p1]) (rest := []) hC (c_X1_orderAt l G q v p1 hy1 H.size) (xcwV hC lk_X1_25 in_X1 co_X1_orderAt im_X1_orderAt se_X1_orderAt rfl rfl dd_X1_orderAt ⟨Nat.le_of_ble_eq_true rfl, Nat.le_of_ble_eq_true rfl⟩) (preVO0 h.o (Nat.le_of_ble_eq_true rfl) eLine_0 rfl [.int p1]) rfl rfl hl.1 rfl (lv_room (Nat.le_of_ble_eq_true rfl)) dX1_leave_2 ⟨Nat.zero_le _, Nat.zero_le _⟩) (fun H locs h => ?_)
  rcases omm hf with ⟨ho5, gho5⟩ | ⟨k3, ho5, gho5⟩
  · subst ho5
    replace hf := gho5
    refine lv_astore_nN (lv' := [(2, .null), (0, .ref (q 0)), (1, .int p1)]) hx hb dX1_leave_5 rfl hl (by decide) rfl (fun ls hl => ?_)
    refine lv_aload_nN hx hb dX1_leave_6 rfl (lv_at hl 0 rfl) ?_
    refine lv_ifnonnullN hx hb dX1_leave_7 ?_
    have hf := sm_e hf
    exact xvret hC hr hlk h hf dX1_leave_10
  · subst ho5
    obtain ⟨hk4, hf⟩ := ck_e gho5
    refine lv_astore_n (lv' := [(2, .ref (q (2 + 3 * k3))), (0, .ref (q 0)), (1, .int p1)]) hx hb dX1_leave_5 rfl hl (by decide) rfl (fun ls hl => ?_)
    refine lv_aload_n hx hb dX1_leave_6 rfl (lv_at hl 0 rfl) ?_
    refine lv_ifnonnull (tgt := 11) hx hb dX1_leave_7 (by decide) ?_
    refine lv_iload_n hx hb dX1_leave_11 rfl (lv_at hl 2 rfl) ?_
    refine lv_iconst (v := (1 : Int32)) hx hb dX1_leave_12 (by decide) ?_
    refine lv_iadd hx hb dX1_leave_13 ?_
    refine lv_istore_n (lv' := [(3, .int (p1 + (1 : Int32))), (2, .ref (q (2 + 3 * k3))), (0, .ref (q 0)), (1, .int p1)]) hx hb dX1_leave_14 rfl hl (by decide) rfl (fun ls hl => ?_)
    refine lp_i (z := z) (P := fun (pp : Int32 × xSt) => ∀ (H : Heap) (locs : List Loc), hg G (eLine G) 32 q pp.2 A s H locs → ∀ (ls : Array Slot), lv_has ls 4 [(0, .ref (q 0)), (2, .ref (q (2 + 3 * k3))), (3, .int pp.1)] → W p l e { frames := 1, cells := 0, slots := 0, locals := 21 } s m [.ref (q 0), .int p1].toArray below meth c H locs 0 0 (MQ below (qV (cB G (eLine G) 32 q z A) A) [.ref (q 0), .int p1].toArray s 0 0 A) (F0 m 15 ls [])) ?_ _ _ hf H locs h ls (lv_sub hl [2, 1, 0] rfl)
    intro rec8 hrec8 pp hf H locs h ls hl
    obtain ⟨a6, v7⟩ := pp
    have h : hg G (eLine G) 32 q v7 A s H locs := h
    have hl : lv_has ls 4 [(0, .ref (q 0)), (2, .ref (q (2 + 3 * k3))), (3, .int a6)] := hl
    have hf := un2_e hf
    refine lv_iload_n hx hb dX1_leave_15 rfl (lv_at hl 2 rfl) ?_
    refine lv_aload_n hx hb dX1_leave_16 rfl (lv_at hl 0 rfl) ?_
    refine xget hC h.o (C := RX1) (T := TX1) (N := 3) (wM_us uw_X1) 0 (Nat.le_of_ble_eq_true rfl) eLine_0 rfl 1 (by decide) (wM_in fl_X1_17) rfl dX1_leave_17 ?_
    obtain ⟨j9, ej9, hf⟩ := lt_e hf
    have hj9 : ∀ (uu : Unit) (H : Heap) (locs : List Loc), hg G (eLine G) 32 q v7 A s H locs → ∀ (ls : Array Slot), lv_has ls 4 [(0, .ref (q 0)), (2, .ref (q (2 + 3 * k3)))] → j9 uu = some z → W p l e { frames := 1, cells := 0, slots := 0, locals := 21 } s m [.ref (q 0), .int p1].toArray below meth c H locs 0 0 (MQ below (qV (cB G (eLine G) 32 q z A) A) [.ref (q 0), .int p1].toArray s 0 0 A) (F0 m 52 ls []) := by
      intro uu H locs h ls hl hf
      rw [ej9] at hf
      refine lv_aload_n hx hb dX1_leave_52 rfl (lv_at hl 0 rfl) ?_
      refine lv_dup hx hb dX1_leave_53 rfl ?_
      refine xget hC h.o (C := RX1) (T := TX1) (N := 3) (wM_us uw_X1) 0 (Nat.le_of_ble_eq_true rfl) eLine_0 rfl 1 (by decide) (wM_in fl_X1_17) rfl dX1_leave_54 ?_
      refine lv_iconst (v := (1 : Int32)) hx hb dX1_leave_57 (by decide) ?_
      refine lv_isub hx hb dX1_leave_58 ?_
      refine xput hC h (C := RX1) (T := TX1) (N := 3) (wM_us uw_X1) tyX1_ok nmX1 0 (Nat.le_of_ble_eq_true rfl) eLine_0 rfl 1 (by decide) (wM_in fl_X1_17) rfl (ty := .int) (tyX1_ok 1 (by decide)) rfl rfl (Nat.le_of_ble_eq_true rfl) (eLine_0.trans rfl) dX1_leave_59 (fun H locs h => ?_)
      obtain ⟨v10, ev10, hf⟩ := lt_e hf
      rw [← ev10] at h
      refine lv_aload_n hx hb dX1_leave_62 rfl (lv_at hl 0 rfl) ?_
      refine xget hC h.o (C := RX1) (T := TX1) (N := 3) (wM_us uw_X1) 0 (Nat.le_of_ble_eq_true rfl) eLine_0 rfl 1 (by decide) (wM_in fl_X1_17) rfl dX1_leave_63 ?_
      refine lv_if_lt (tgt := 91) hx hb dX1_leave_66 (by decide) (fun c11 => ?_) (fun c11 => ?_)
      · have hf := it_t c11 hf
        have hf := sm_e hf
        exact xvret hC hr hlk h hf dX1_leave_91
      · have hf := it_f c11 hf
        refine lv_aload_n hx hb dX1_leave_69 rfl (lv_at hl 0 rfl) ?_
        refine xget hC h.o (C := RX1) (T := TX1) (N := 3) (wM_us uw_X1) 0 (Nat.le_of_ble_eq_true rfl) eLine_0 rfl 1 (by decide) (wM_in fl_X1_17) rfl dX1_leave_70 ?_
        refine lv_aload_n hx hb dX1_leave_73 rfl (lv_at hl 0 rfl) ?_
        refine xget hC h.o (C := RX1) (T := TX1) (N := 3) (wM_us uw_X1) 0 (Nat.le_of_ble_eq_true rfl) eLine_0 rfl 0 (by decide) (wM_in fl_X1_11) rfl dX1_leave_74 ?_
        refine xalen hC h.o 2 rfl 1 (Nat.le_of_ble_eq_true rfl) eLine_1 (z := (10 : Int32)) rfl dX1_leave_77 ?_
        refine lv_icmp_ge (tgt := 91) hx hb dX1_leave_78 (by decide) (fun c12 => ?_) (fun c12 => ?_)
        · have hf := it_t c12 hf
          have hf := sm_e hf
          exact xvret hC hr hlk h hf dX1_leave_91
        · have hf := it_f c12 hf
          refine lv_aload_n hx hb dX1_leave_81 rfl (lv_at hl 0 rfl) ?_
          refine xget hC h.o (C := RX1) (T := TX1) (N := 3) (wM_us uw_X1) 0 (Nat.le_of_ble_eq_true rfl) eLine_0 rfl 0 (by decide) (wM_in fl_X1_11) rfl dX1_leave_82 ?_
          refine lv_aload_n hx hb dX1_leave_85 rfl (lv_at hl 0 rfl) ?_
          refine xget hC h.o (C := RX1) (T := TX1) (N := 3) (wM_us uw_X1) 0 (Nat.le_of_ble_eq_true rfl) eLine_0 rfl 1 (by decide) (wM_in fl_X1_17) rfl dX1_leave_86 ?_
          refine lv_aload_n hx hb dX1_leave_89 rfl (lv_at hl 1 rfl) ?_
          obtain ⟨hi13, hf⟩ := ck_e hf
          refine xasto (B := fun k => (2 + 3 * k)) hC h 1 (Nat.le_of_ble_eq_true rfl) (fun _ => eLine_1) hk4 (by omega) (eLine_ord hk4) hi13 dX1_leave_90 (fun H locs h => ?_)
          obtain ⟨v14, ev14, hf⟩ := lt_e hf
          rw [← ev14] at h
          have hf := sm_e hf
          exact xvret hC hr hlk h hf dX1_leave_91
    refine lv_icmp_ge (tgt := 52) hx hb dX1_leave_20 (by decide) (fun c15 => ?_) (fun c15 => ?_)
    · have hf := it_t c15 hf
      exact hj9 () H locs h ls (lv_sub hl [0, 1] rfl) hf
    · have hf := it_f c15 hf
      refine lv_iload_n hx hb dX1_leave_23 rfl (lv_at hl 2 rfl) ?_
      refine lv_aload_n hx hb dX1_leave_24 rfl (lv_at hl 0 rfl) ?_
      refine xget hC h.o (C := RX1) (T := TX1) (N := 3) (wM_us uw_X1) 0 (Nat.le_of_ble_eq_true rfl) eLine_0 rfl 0 (by decide) (wM_in fl_X1_11) rfl dX1_leave_25 ?_
      refine xalen hC h.o 2 rfl 1 (Nat.le_of_ble_eq_true rfl) eLine_1 (z := (10 : Int32)) rfl dX1_leave_28 ?_
      refine lv_icmp_ge (tgt := 52) hx hb dX1_leave_29 (by decide) (fun c16 => ?_) (fun c16 => ?_)
      · have hf := it_t c16 hf
        exact hj9 () H locs h ls (lv_sub hl [0, 1] rfl) hf
      · have hf := it_f c16 hf
        refine lv_aload_n hx hb dX1_leave_32 rfl (lv_at hl 0 rfl) ?_
        refine xget hC h.o (C := RX1) (T := TX1) (N := 3) (wM_us uw_X1) 0 (Nat.le_of_ble_eq_true rfl) eLine_0 rfl 0 (by decide) (wM_in fl_X1_11) rfl dX1_leave_33 ?_
        refine lv_iload_n hx hb dX1_leave_36 rfl (lv_at hl 2 rfl) ?_
        refine lv_iconst (v := (1 : Int32)) hx hb dX1_leave_37 (by decide) ?_
        refine lv_isub hx hb dX1_leave_38 ?_
        refine lv_aload_n hx hb dX1_leave_39 rfl (lv_at hl 0 rfl) ?_
        refine xget hC h.o (C := RX1) (T := TX1) (N := 3) (wM_us uw_X1) 0 (Nat.le_of_ble_eq_true rfl) eLine_0 rfl 0 (by decide) (wM_in fl_X1_11) rfl dX1_leave_40 ?_
        refine lv_iload_n hx hb dX1_leave_43 rfl (lv_at hl 2 rfl) ?_
        obtain ⟨hi17, hf⟩ := ck_e hf
        obtain ⟨k18, ek18, hf⟩ := lt_e hf
        obtain ⟨hk19, hf⟩ := ck_e hf
        refine xaldo (B := fun k => (2 + 3 * k)) hC h.o 1 (Nat.le_of_ble_eq_true rfl) eLine_1 hi17 ek18 hk19 dX1_leave_44 ?_
        obtain ⟨hi20, hf⟩ := ck_e hf
        refine xasto (B := fun k => (2 + 3 * k)) hC h 1 (Nat.le_of_ble_eq_true rfl) (fun _ => eLine_1) hk19 (by omega) (eLine_ord hk19) hi20 dX1_leave_45 (fun H locs h => ?_)
        obtain ⟨v21, ev21, hf⟩ := lt_e hf
        rw [← ev21] at h
        refine lv_iinc (v := (a6 + 1)) (lv' := [(3, .int (a6 + 1)), (0, .ref (q 0)), (2, .ref (q (2 + 3 * k3)))]) hx hb dX1_leave_46 hl (k := 2) rfl rfl (by decide) rfl (fun ls hl => ?_)
        refine lv_goto (tgt := 15) hx hb dX1_leave_49 (by decide) ?_
        exact hrec8 ((a6 + 1), v21) hf H locs h ls (lv_sub hl [1, 2, 0] rfl)
def m_X3_become (v : xSt) : Option xSt := lt (st2 v 0 0 (v 3 0)) (fun v1 => lt (st2 v1 0 1 (v1 3 1)) (fun v2 => lt (st2 v2 0 2 (v2 3 2)) (fun v3 => lt (st2 v3 0 3 (v3 3 3)) (fun v4 => lt (st2 v4 0 4 (v4 3 4)) (fun v5 => ob (m_X4_become (ct 2 (sh 1 v5) (sh 4 v5))) (fun r7 => lt (pu 4 2 (pu 1 2 v5 r7) (sh 2 r7)) (fun v8 => some v8)))))))
set_option maxHeartbeats 4000000 in
set_option maxRecDepth 100000 in
theorem c_X3_become (l : Launch) (G : xGl) (q : Nat → Nat) (v : xSt) {z : xSt} (hf : m_X3_become v = some z) : mRW l yX3_become (wM yX3_become cX3_become 2 none) { frames := 2, cells := 0, slots := 0, locals := 81 } G ((e2 3 (eOrder G) (eOrder G))) 6 q v [.ref (q 0), .ref (q 3)] qV z := by
  refine xRW (cc := cX3_become) (maxL := 2) (ret := none) (by decide) rfl (Nat.le_of_ble_eq_true rfl) ?_
  intro p e s m below meth c ls A hC hr hlk h hl
  have hx := hC.1
  have hb := hC.2.1
  have hl : lv_has ls 2 [(0, .ref (q 0)), (1, .ref (q 3))] := hl
  unfold m_X3_become at hf
  obtain ⟨H, hH⟩ : ∃ H, H = s.heap := ⟨_, rfl⟩
  obtain ⟨locs, hlo⟩ : ∃ x : List Loc, x = [] := ⟨_, rfl⟩
  have h : hg G ((e2 3 (eOrder G) (eOrder G))) 6 q v A s H locs := by rw [hH, hlo]; exact h
  rw [← hlo, ← hH]
  clear hH hlo
  refine lv_aload_n hx hb dX3_become_0 rfl (lv_at hl 0 rfl) ?_
  refine lv_aload_n hx hb dX3_become_1 rfl (lv_at hl 1 rfl) ?_
  refine xget hC h.o (C := RX3) (T := TX3) (N := 6) (wM_us uw_X3) 3 (Nat.le_of_ble_eq_true rfl) eOrderOrder_3 rfl 0 (by decide) (wM_in fl_X3_9) rfl dX3_become_2 ?_
  refine xput hC h (C := RX3) (T := TX3) (N := 6) (wM_us uw_X3) tyX3_ok nmX3 0 (Nat.le_of_ble_eq_true rfl) eOrderOrder_0 rfl 0 (by decide) (wM_in fl_X3_9) rfl (ty := .int) (tyX3_ok 0 (by decide)) rfl rfl (Nat.le_of_ble_eq_true rfl) (eOrderOrder_0.trans rfl) dX3_become_5 (fun H locs h => ?_)
  obtain ⟨v1, ev1, hf⟩ := lt_e hf
  rw [← ev1] at h
  refine lv_aload_n hx hb dX3_become_8 rfl (lv_at hl 0 rfl) ?_
  refine lv_aload_n hx hb dX3_become_9 rfl (lv_at hl 1 rfl) ?_
  refine xget hC h.o (C := RX3) (T := TX3) (N := 6) (wM_us uw_X3) 3 (Nat.le_of_ble_eq_true rfl) eOrderOrder_3 rfl 1 (by decide) (wM_in fl_X3_15) rfl dX3_become_10 ?_
  refine xput hC h (C := RX3) (T := TX3) (N := 6) (wM_us uw_X3) tyX3_ok nmX3 0 (Nat.le_of_ble_eq_true rfl) eOrderOrder_0 rfl 1 (by decide) (wM_in fl_X3_15) rfl (ty := .int) (tyX3_ok 1 (by decide)) rfl rfl (Nat.le_of_ble_eq_true rfl) (eOrderOrder_0.trans rfl) dX3_become_13 (fun H locs h => ?_)
  obtain ⟨v2, ev2, hf⟩ := lt_e hf
  rw [← ev2] at h
  refine lv_aload_n hx hb dX3_become_16 rfl (lv_at hl 0 rfl) ?_
  refine lv_aload_n hx hb dX3_become_17 rfl (lv_at hl 1 rfl) ?_
  refine xget hC h.o (C := RX3) (T := TX3) (N := 6) (wM_us uw_X3) 3 (Nat.le_of_ble_eq_true rfl) eOrderOrder_3 rfl 2 (by decide) (wM_in fl_X3_18) rfl dX3_become_18 ?_
  refine xput hC h (C := RX3) (T := TX3) (N := 6) (wM_us uw_X3) tyX3_ok nmX3 0 (Nat.le_of_ble_eq_true rfl) eOrderOrder_0 rfl 2 (by decide) (wM_in fl_X3_18) rfl (ty := .int) (tyX3_ok 2 (by decide)) rfl rfl (Nat.le_of_ble_eq_true rfl) (eOrderOrder_0.trans rfl) dX3_become_21 (fun H locs h => ?_)
  obtain ⟨v3, ev3, hf⟩ := lt_e hf
  rw [← ev3] at h
  refine lv_aload_n hx hb dX3_become_24 rfl (lv_at hl 0 rfl) ?_
  refine lv_aload_n hx hb dX3_become_25 rfl (lv_at hl 1 rfl) ?_
  refine xget hC h.o (C := RX3) (T := TX3) (N := 6) (wM_us uw_X3) 3 (Nat.le_of_ble_eq_true rfl) eOrderOrder_3 rfl 3 (by decide) (wM_in fl_X3_21) rfl dX3_become_26 ?_
  refine xput hC h (C := RX3) (T := TX3) (N := 6) (wM_us uw_X3) tyX3_ok nmX3 0 (Nat.le_of_ble_eq_true rfl) eOrderOrder_0 rfl 3 (by decide) (wM_in fl_X3_21) rfl (ty := .int) (tyX3_ok 3 (by decide)) rfl rfl (Nat.le_of_ble_eq_true rfl) (eOrderOrder_0.trans rfl) dX3_become_29 (fun H locs h => ?_)
  obtain ⟨v4, ev4, hf⟩ := lt_e hf
  rw [← ev4] at h
  refine lv_aload_n hx hb dX3_become_32 rfl (lv_at hl 0 rfl) ?_
  refine lv_aload_n hx hb dX3_become_33 rfl (lv_at hl 1 rfl) ?_
  refine xget hC h.o (C := RX3) (T := TX3) (N := 6) (wM_us uw_X3) 3 (Nat.le_of_ble_eq_true rfl) eOrderOrder_3 rfl 4 (by decide) (wM_in fl_X3_24) rfl dX3_become_34 ?_
  refine xput hC h (C := RX3) (T := TX3) (N := 6) (wM_us uw_X3) tyX3_ok nmX3 0 (Nat.le_of_ble_eq_true rfl) eOrderOrder_0 rfl 4 (by decide) (wM_in fl_X3_24) rfl (ty := .int) (tyX3_ok 4 (by decide)) rfl rfl (Nat.le_of_ble_eq_true rfl) (eOrderOrder_0.trans rfl) dX3_become_37 (fun H locs h => ?_)
  obtain ⟨v5, ev5, hf⟩ := lt_e hf
  rw [← ev5] at h
  refine lv_aload_n hx hb dX3_become_40 rfl (lv_at hl 0 rfl) ?_
  refine xget hC h.o (C := RX3) (T := TX3) (N := 6) (wM_us uw_X3) 0 (Nat.le_of_ble_eq_true rfl) eOrderOrder_0 rfl 5 (by decide) (wM_in fl_X3_30) rfl dX3_become_41 ?_
  refine lv_aload_n hx hb dX3_become_44 rfl (lv_at hl 1 rfl) ?_
  refine xget hC h.o (C := RX3) (T := TX3) (N := 6) (wM_us uw_X3) 3 (Nat.le_of_ble_eq_true rfl) eOrderOrder_3 rfl 5 (by decide) (wM_in fl_X3_30) rfl dX3_become_45 ?_
  obtain ⟨r7, hy6, hf⟩ := ob_e hf
  refine xv2 h 1 2 4 2 (x2E1 sOrderOrder_1 locRow) (x2E2 sOrderOrder_4) (Nat.le_of_ble_eq_true rfl) (Nat.le_of_ble_eq_true rfl) (by omega) (va_runV (As := [.ref (q 4)]) (rest := []) hC (c_X4_become l G (ct 2 (sh 1 q) (sh 4 q)) (ct 2 (sh 1 v5) (sh 4 v5)) hy6 H.size) (xcwV hC lk_X3_34 in_X4 co_X4_become im_X4_become se_X4_become rfl rfl dd_X4_become ⟨Nat.le_of_ble_eq_true rfl, Nat.le_of_ble_eq_true rfl⟩) (preV2 h 1 2 4 2 (x2E1 sOrderOrder_1 locRow) (x2E2 sOrderOrder_4) (Nat.le_of_ble_eq_true rfl) (Nat.le_of_ble_eq_true rfl) (by omega) (Nat.le_of_ble_eq_true rfl) eOrderOrder_1 rfl [.ref (q 4)]) rfl rfl hl.1 rfl (lv_room (Nat.le_of_ble_eq_true rfl)) dX3_become_48 ⟨Nat.zero_le _, Nat.zero_le _⟩) (fun H locs h => ?_)
  obtain ⟨v8, ev8, hf⟩ := lt_e hf
  rw [← ev8] at h
  have hf := sm_e hf
  exact xvret hC hr hlk h hf dX3_become_51
def m_X1_become (v : xSt) : Option xSt := lt (st2 v 0 1 (v 32 1)) (fun v1 => lt (st2 v1 0 2 (v1 32 2)) (fun v2 => lp (fun (rec5 : Int32 × xSt → Option xSt) => un2 (fun (a3 : Int32) (v4 : xSt) => (if (v4 0 1) ≤ a3 then some v4 else ob (m_X1_orderAt v4 a3) (fun r8 => om r8 (ob (m_X1_orderAt (sh 32 v4) a3) (fun r13 => om r13 (lt (fun (v17 : xSt) => rec5 ((a3 + 1), v17)) (fun j18 => j18 v4)) (fun k14 => ck (k14 < 10) (lt (fun (v19 : xSt) => rec5 ((a3 + 1), v19)) (fun j20 => j20 v4))))) (fun k9 => ck (k9 < 10) (ob (m_X1_orderAt (sh 32 v4) a3) (fun r22 => om r22 (lt (fun (v26 : xSt) => rec5 ((a3 + 1), v26)) (fun j27 => j27 v4)) (fun k23 => ck (k23 < 10) (lt (fun (v28 : xSt) => rec5 ((a3 + 1), v28)) (fun j29 => ob (m_X3_become (ct 3 (sh (2 + 3 * k9) v4) (sh (32 + (2 + 3 * k23)) v4))) (fun r31 => lt (pu (32 + (2 + 3 * k23)) 3 (pu (2 + 3 * k9) 3 v4 r31) (sh 3 r31)) (fun v32 => j29 v32)))))))))))) xF ((0 : Int32), v2)))
set_option maxHeartbeats 4000000 in
set_option maxRecDepth 100000 in
theorem c_X1_become (l : Launch) (G : xGl) (q : Nat → Nat) (v : xSt) {z : xSt} (hf : m_X1_become v = some z) : mRW l yX1_become (wM yX1_become cX1_become 5 none) { frames := 3, cells := 0, slots := 0, locals := 102 } G ((e2 32 (eLine G) (eLine G))) 64 q v [.ref (q 0), .ref (q 32)] qV z := by
  refine xRW (cc := cX1_become) (maxL := 5) (ret := none) (by decide) rfl (Nat.le_of_ble_eq_true rfl) ?_
  intro p e s m below meth c ls A hC hr hlk h hl
  have hx := hC.1
  have hb := hC.2.1
  have hl : lv_has ls 5 [(0, .ref (q 0)), (1, .ref (q 32))] := hl
  unfold m_X1_become at hf
  obtain ⟨H, hH⟩ : ∃ H, H = s.heap := ⟨_, rfl⟩
  obtain ⟨locs, hlo⟩ : ∃ x : List Loc, x = [] := ⟨_, rfl⟩
  have h : hg G ((e2 32 (eLine G) (eLine G))) 64 q v A s H locs := by rw [hH, hlo]; exact h
  rw [← hlo, ← hH]
  clear hH hlo
  refine lv_aload_n hx hb dX1_become_0 rfl (lv_at hl 0 rfl) ?_
  refine lv_aload_n hx hb dX1_become_1 rfl (lv_at hl 1 rfl) ?_
  refine xget hC h.o (C := RX1) (T := TX1) (N := 3) (wM_us uw_X1) 32 (Nat.le_of_ble_eq_true rfl) eLineLine_32 rfl 1 (by decide) (wM_in fl_X1_17) rfl dX1_become_2 ?_
  refine xput hC h (C := RX1) (T := TX1) (N := 3) (wM_us uw_X1) tyX1_ok nmX1 0 (Nat.le_of_ble_eq_true rfl) eLineLine_0 rfl 1 (by decide) (wM_in fl_X1_17) rfl (ty := .int) (tyX1_ok 1 (by decide)) rfl rfl (Nat.le_of_ble_eq_true rfl) (eLineLine_0.trans rfl) dX1_become_5 (fun H locs h => ?_)
  obtain ⟨v1, ev1, hf⟩ := lt_e hf
  rw [← ev1] at h
  refine lv_aload_n hx hb dX1_become_8 rfl (lv_at hl 0 rfl) ?_
  refine lv_aload_n hx hb dX1_become_9 rfl (lv_at hl 1 rfl) ?_
  refine xget hC h.o (C := RX1) (T := TX1) (N := 3) (wM_us uw_X1) 32 (Nat.le_of_ble_eq_true rfl) eLineLine_32 rfl 2 (by decide) (wM_in fl_X1_21) rfl dX1_become_10 ?_
  refine xput hC h (C := RX1) (T := TX1) (N := 3) (wM_us uw_X1) tyX1_ok nmX1 0 (Nat.le_of_ble_eq_true rfl) eLineLine_0 rfl 2 (by decide) (wM_in fl_X1_21) rfl (ty := .int) (tyX1_ok 2 (by decide)) rfl rfl (Nat.le_of_ble_eq_true rfl) (eLineLine_0.trans rfl) dX1_become_13 (fun H locs h => ?_)
  obtain ⟨v2, ev2, hf⟩ := lt_e hf
  rw [← ev2] at h
  refine lv_iconst (v := (0 : Int32)) hx hb dX1_become_16 (by decide) ?_
  refine lv_istore_n (lv' := [(2, .int (0 : Int32)), (0, .ref (q 0)), (1, .ref (q 32))]) hx hb dX1_become_17 rfl hl (by decide) rfl (fun ls hl => ?_)
  refine lp_i (z := z) (P := fun (pp : Int32 × xSt) => ∀ (H : Heap) (locs : List Loc), hg G ((e2 32 (eLine G) (eLine G))) 64 q pp.2 A s H locs → ∀ (ls : Array Slot), lv_has ls 5 [(0, .ref (q 0)), (1, .ref (q 32)), (2, .int pp.1)] → W p l e { frames := 3, cells := 0, slots := 0, locals := 102 } s m [.ref (q 0), .ref (q 32)].toArray below meth c H locs 0 0 (MQ below (qV (cB G ((e2 32 (eLine G) (eLine G))) 64 q z A) A) [.ref (q 0), .ref (q 32)].toArray s 0 0 A) (F0 m 18 ls [])) ?_ _ _ hf H locs h ls (lv_sub hl [1, 2, 0] rfl)
  intro rec5 hrec5 pp hf H locs h ls hl
  obtain ⟨a3, v4⟩ := pp
  have h : hg G ((e2 32 (eLine G) (eLine G))) 64 q v4 A s H locs := h
  have hl : lv_has ls 5 [(0, .ref (q 0)), (1, .ref (q 32)), (2, .int a3)] := hl
  have hf := un2_e hf
  refine lv_iload_n hx hb dX1_become_18 rfl (lv_at hl 2 rfl) ?_
  refine lv_aload_n hx hb dX1_become_19 rfl (lv_at hl 0 rfl) ?_
  refine xget hC h.o (C := RX1) (T := TX1) (N := 3) (wM_us uw_X1) 0 (Nat.le_of_ble_eq_true rfl) eLineLine_0 rfl 1 (by decide) (wM_in fl_X1_17) rfl dX1_become_20 ?_
  refine lv_icmp_ge (tgt := 60) hx hb dX1_become_23 (by decide) (fun c6 => ?_) (fun c6 => ?_)
  · have hf := it_t c6 hf
    have hf := sm_e hf
    exact xvret hC hr hlk h hf dX1_become_60
  · have hf := it_f c6 hf
    refine lv_aload_n hx hb dX1_become_26 rfl (lv_at hl 0 rfl) ?_
    refine lv_iload_n hx hb dX1_become_27 rfl (lv_at hl 2 rfl) ?_
    obtain ⟨r8, hy7, hf⟩ := ob_e hf
    refine xqG h (va_runV (As := [.int a3]) (rest := []) hC (c_X1_orderAt l G q v4 a3 hy7 H.size) (xcwV hC lk_X1_25 in_X1 co_X1_orderAt im_X1_orderAt se_X1_orderAt rfl rfl dd_X1_orderAt ⟨Nat.le_of_ble_eq_true rfl, Nat.le_of_ble_eq_true rfl⟩) (preVOp h.o 32 sLineLine_0 (Nat.le_of_ble_eq_true rfl) (Nat.le_of_ble_eq_true rfl) eLineLine_0 rfl [.int a3]) rfl rfl hl.1 rfl (lv_room (Nat.le_of_ble_eq_true rfl)) dX1_become_28 ⟨Nat.zero_le _, Nat.zero_le _⟩) (fun H locs h => ?_)
    rcases omm hf with ⟨ho11, gho11⟩ | ⟨k9, ho11, gho11⟩
    · subst ho11
      replace hf := gho11
      refine lv_astore_nN (lv' := [(3, .null), (0, .ref (q 0)), (1, .ref (q 32)), (2, .int a3)]) hx hb dX1_become_31 rfl hl (by decide) rfl (fun ls hl => ?_)
      refine lv_aload_n hx hb dX1_become_32 rfl (lv_at hl 2 rfl) ?_
      refine lv_iload_n hx hb dX1_become_33 rfl (lv_at hl 3 rfl) ?_
      obtain ⟨r13, hy12, hf⟩ := ob_e hf
      refine xqG h (va_runV (As := [.int a3]) (rest := []) hC (c_X1_orderAt l G (sh 32 q) (sh 32 v4) a3 hy12 H.size) (xcwV hC lk_X1_25 in_X1 co_X1_orderAt im_X1_orderAt se_X1_orderAt rfl rfl dd_X1_orderAt ⟨Nat.le_of_ble_eq_true rfl, Nat.le_of_ble_eq_true rfl⟩) (preVO h.o 32 32 sLineLine_32 (Nat.le_of_ble_eq_true rfl) (Nat.le_of_ble_eq_true rfl) eLineLine_32 rfl [.int a3]) rfl rfl hl.1 rfl (lv_room (Nat.le_of_ble_eq_true rfl)) dX1_become_34 ⟨Nat.zero_le _, Nat.zero_le _⟩) (fun H locs h => ?_)
      rcases omm hf with ⟨ho16, gho16⟩ | ⟨k14, ho16, gho16⟩
      · subst ho16
        replace hf := gho16
        refine lv_astoreN (lv' := [(4, .null), (3, .null), (0, .ref (q 0)), (1, .ref (q 32)), (2, .int a3)]) hx hb dX1_become_37 hl (by decide) rfl (fun ls hl => ?_)
        refine lv_aload_nN hx hb dX1_become_39 rfl (lv_at hl 1 rfl) ?_
        obtain ⟨j18, ej18, hf⟩ := lt_e hf
        have hj18 : ∀ (v17 : xSt) (H : Heap) (locs : List Loc), hg G ((e2 32 (eLine G) (eLine G))) 64 q v17 A s H locs → ∀ (ls : Array Slot), lv_has ls 5 [(0, .ref (q 0)), (1, .ref (q 32)), (2, .int a3)] → j18 v17 = some z → W p l e { frames := 3, cells := 0, slots := 0, locals := 102 } s m [.ref (q 0), .ref (q 32)].toArray below meth c H locs 0 0 (MQ below (qV (cB G ((e2 32 (eLine G) (eLine G))) 64 q z A) A) [.ref (q 0), .ref (q 32)].toArray s 0 0 A) (F0 m 54 ls []) := by
          intro v17 H locs h ls hl hf
          rw [ej18] at hf
          refine lv_iinc (v := (a3 + 1)) (lv' := [(2, .int (a3 + 1)), (0, .ref (q 0)), (1, .ref (q 32))]) hx hb dX1_become_54 hl (k := 2) rfl rfl (by decide) rfl (fun ls hl => ?_)
          refine lv_goto (tgt := 18) hx hb dX1_become_57 (by decide) ?_
          exact hrec5 ((a3 + 1), v17) hf H locs h ls (lv_sub hl [1, 2, 0] rfl)
        refine lv_ifnullN (tgt := 54) hx hb dX1_become_40 (by decide) ?_
        exact hj18 v4 H locs h ls (lv_sub hl [2, 3, 4] rfl) hf
      · subst ho16
        obtain ⟨hk15, hf⟩ := ck_e gho16
        refine lv_astore (lv' := [(4, .ref (q (32 + (2 + 3 * k14)))), (3, .null), (0, .ref (q 0)), (1, .ref (q 32)), (2, .int a3)]) hx hb dX1_become_37 hl (by decide) rfl (fun ls hl => ?_)
        refine lv_aload_nN hx hb dX1_become_39 rfl (lv_at hl 1 rfl) ?_
        obtain ⟨j20, ej20, hf⟩ := lt_e hf
        have hj20 : ∀ (v19 : xSt) (H : Heap) (locs : List Loc), hg G ((e2 32 (eLine G) (eLine G))) 64 q v19 A s H locs → ∀ (ls : Array Slot), lv_has ls 5 [(0, .ref (q 0)), (1, .ref (q 32)), (2, .int a3)] → j20 v19 = some z → W p l e { frames := 3, cells := 0, slots := 0, locals := 102 } s m [.ref (q 0), .ref (q 32)].toArray below meth c H locs 0 0 (MQ below (qV (cB G ((e2 32 (eLine G) (eLine G))) 64 q z A) A) [.ref (q 0), .ref (q 32)].toArray s 0 0 A) (F0 m 54 ls []) := by
          intro v19 H locs h ls hl hf
          rw [ej20] at hf
          refine lv_iinc (v := (a3 + 1)) (lv' := [(2, .int (a3 + 1)), (0, .ref (q 0)), (1, .ref (q 32))]) hx hb dX1_become_54 hl (k := 2) rfl rfl (by decide) rfl (fun ls hl => ?_)
          refine lv_goto (tgt := 18) hx hb dX1_become_57 (by decide) ?_
          exact hrec5 ((a3 + 1), v19) hf H locs h ls (lv_sub hl [1, 2, 0] rfl)
        refine lv_ifnullN (tgt := 54) hx hb dX1_become_40 (by decide) ?_
        exact hj20 v4 H locs h ls (lv_sub hl [2, 3, 4] rfl) hf
    · subst ho11
      obtain ⟨hk10, hf⟩ := ck_e gho11
      refine lv_astore_n (lv' := [(3, .ref (q (2 + 3 * k9))), (0, .ref (q 0)), (1, .ref (q 32)), (2, .int a3)]) hx hb dX1_become_31 rfl hl (by decide) rfl (fun ls hl => ?_)
      refine lv_aload_n hx hb dX1_become_32 rfl (lv_at hl 2 rfl) ?_
      refine lv_iload_n hx hb dX1_become_33 rfl (lv_at hl 3 rfl) ?_
      obtain ⟨r22, hy21, hf⟩ := ob_e hf
      refine xqG h (va_runV (As := [.int a3]) (rest := []) hC (c_X1_orderAt l G (sh 32 q) (sh 32 v4) a3 hy21 H.size) (xcwV hC lk_X1_25 in_X1 co_X1_orderAt im_X1_orderAt se_X1_orderAt rfl rfl dd_X1_orderAt ⟨Nat.le_of_ble_eq_true rfl, Nat.le_of_ble_eq_true rfl⟩) (preVO h.o 32 32 sLineLine_32 (Nat.le_of_ble_eq_true rfl) (Nat.le_of_ble_eq_true rfl) eLineLine_32 rfl [.int a3]) rfl rfl hl.1 rfl (lv_room (Nat.le_of_ble_eq_true rfl)) dX1_become_34 ⟨Nat.zero_le _, Nat.zero_le _⟩) (fun H locs h => ?_)
      rcases omm hf with ⟨ho25, gho25⟩ | ⟨k23, ho25, gho25⟩
      · subst ho25
        replace hf := gho25
        refine lv_astoreN (lv' := [(4, .null), (3, .ref (q (2 + 3 * k9))), (0, .ref (q 0)), (1, .ref (q 32)), (2, .int a3)]) hx hb dX1_become_37 hl (by decide) rfl (fun ls hl => ?_)
        refine lv_aload_n hx hb dX1_become_39 rfl (lv_at hl 1 rfl) ?_
        obtain ⟨j27, ej27, hf⟩ := lt_e hf
        have hj27 : ∀ (v26 : xSt) (H : Heap) (locs : List Loc), hg G ((e2 32 (eLine G) (eLine G))) 64 q v26 A s H locs → ∀ (ls : Array Slot), lv_has ls 5 [(0, .ref (q 0)), (1, .ref (q 32)), (2, .int a3)] → j27 v26 = some z → W p l e { frames := 3, cells := 0, slots := 0, locals := 102 } s m [.ref (q 0), .ref (q 32)].toArray below meth c H locs 0 0 (MQ below (qV (cB G ((e2 32 (eLine G) (eLine G))) 64 q z A) A) [.ref (q 0), .ref (q 32)].toArray s 0 0 A) (F0 m 54 ls []) := by
          intro v26 H locs h ls hl hf
          rw [ej27] at hf
          refine lv_iinc (v := (a3 + 1)) (lv' := [(2, .int (a3 + 1)), (0, .ref (q 0)), (1, .ref (q 32))]) hx hb dX1_become_54 hl (k := 2) rfl rfl (by decide) rfl (fun ls hl => ?_)
          refine lv_goto (tgt := 18) hx hb dX1_become_57 (by decide) ?_
          exact hrec5 ((a3 + 1), v26) hf H locs h ls (lv_sub hl [1, 2, 0] rfl)
        refine lv_ifnull hx hb dX1_become_40 ?_
        refine lv_aloadN hx hb dX1_become_43 (lv_at hl 0 rfl) ?_
        refine lv_ifnullN (tgt := 54) hx hb dX1_become_45 (by decide) ?_
        exact hj27 v4 H locs h ls (lv_sub hl [2, 3, 4] rfl) hf
      · subst ho25
        obtain ⟨hk24, hf⟩ := ck_e gho25
        refine lv_astore (lv' := [(4, .ref (q (32 + (2 + 3 * k23)))), (3, .ref (q (2 + 3 * k9))), (0, .ref (q 0)), (1, .ref (q 32)), (2, .int a3)]) hx hb dX1_become_37 hl (by decide) rfl (fun ls hl => ?_)
        refine lv_aload_n hx hb dX1_become_39 rfl (lv_at hl 1 rfl) ?_
        obtain ⟨j29, ej29, hf⟩ := lt_e hf
        have hj29 : ∀ (v28 : xSt) (H : Heap) (locs : List Loc), hg G ((e2 32 (eLine G) (eLine G))) 64 q v28 A s H locs → ∀ (ls : Array Slot), lv_has ls 5 [(0, .ref (q 0)), (1, .ref (q 32)), (2, .int a3)] → j29 v28 = some z → W p l e { frames := 3, cells := 0, slots := 0, locals := 102 } s m [.ref (q 0), .ref (q 32)].toArray below meth c H locs 0 0 (MQ below (qV (cB G ((e2 32 (eLine G) (eLine G))) 64 q z A) A) [.ref (q 0), .ref (q 32)].toArray s 0 0 A) (F0 m 54 ls []) := by
          intro v28 H locs h ls hl hf
          rw [ej29] at hf
          refine lv_iinc (v := (a3 + 1)) (lv' := [(2, .int (a3 + 1)), (0, .ref (q 0)), (1, .ref (q 32))]) hx hb dX1_become_54 hl (k := 2) rfl rfl (by decide) rfl (fun ls hl => ?_)
          refine lv_goto (tgt := 18) hx hb dX1_become_57 (by decide) ?_
          exact hrec5 ((a3 + 1), v28) hf H locs h ls (lv_sub hl [1, 2, 0] rfl)
        refine lv_ifnull hx hb dX1_become_40 ?_
        refine lv_aload hx hb dX1_become_43 (lv_at hl 0 rfl) ?_
        refine lv_ifnull hx hb dX1_become_45 ?_
        refine lv_aload_n hx hb dX1_become_48 rfl (lv_at hl 1 rfl) ?_
        refine lv_aload hx hb dX1_become_49 (lv_at hl 0 rfl) ?_
        obtain ⟨r31, hy30, hf⟩ := ob_e hf
        refine xv2 h (2 + 3 * k9) 3 (32 + (2 + 3 * k23)) 3 (x2E1 (sLineLine_ord hk10) locOrder) (x2E2 (sLineLine_ordb hk24)) (by omega) (by omega) (by omega) (va_runV (As := [.ref (q (32 + (2 + 3 * k23)))]) (rest := []) hC (c_X3_become l G (ct 3 (sh (2 + 3 * k9) q) (sh (32 + (2 + 3 * k23)) q)) (ct 3 (sh (2 + 3 * k9) v4) (sh (32 + (2 + 3 * k23)) v4)) hy30 H.size) (xcwV hC lk_X1_70 in_X3 co_X3_become im_X3_become se_X3_become rfl rfl dd_X3_become ⟨Nat.le_of_ble_eq_true rfl, Nat.le_of_ble_eq_true rfl⟩) (preV2 h (2 + 3 * k9) 3 (32 + (2 + 3 * k23)) 3 (x2E1 (sLineLine_ord hk10) locOrder) (x2E2 (sLineLine_ordb hk24)) (by omega) (by omega) (by omega) (by omega) (eLineLine_ord hk10) rfl [.ref (q (32 + (2 + 3 * k23)))]) rfl rfl hl.1 rfl (lv_room (Nat.le_of_ble_eq_true rfl)) dX1_become_51 ⟨Nat.zero_le _, Nat.zero_le _⟩) (fun H locs h => ?_)
        obtain ⟨v32, ev32, hf⟩ := lt_e hf
        rw [← ev32] at h
        exact hj29 v32 H locs h ls (lv_sub hl [2, 3, 4] rfl) hf
def m_X2_hold (v : xSt) (p1 : Int32) : Option (Int32) := lt (fun (t1 : Int32) => (if (v 0 1) = (1 : Int32) then (if p1 < ((8 : Int32) - t1) then some (0 : Int32) else some (1 : Int32)) else (if t1 ≤ p1 then some (0 : Int32) else some (1 : Int32)))) (fun j2 => (if (v 0 0) ≤ 0 then j2 (0 : Int32) else j2 ((1 : Int32) <<< (((v 0 0) - (1 : Int32)) &&& 31))))
set_option maxHeartbeats 4000000 in
set_option maxRecDepth 100000 in
theorem c_X2_hold (l : Launch) (G : xGl) (q : Nat → Nat) (v : xSt) (p1 : Int32) {z : (Int32)} (hf : m_X2_hold v p1 = some z) : mRO l yX2_hold (wM yX2_hold cX2_hold 3 (some .boolean)) { frames := 0, cells := 0, slots := 0, locals := 0 } G (eLocks G) 1 q v [.ref (q 0), .int p1] (qZ z) := by
  refine xRO (cc := cX2_hold) (maxL := 3) (ret := (some .boolean)) (by decide) rfl (Nat.le_of_ble_eq_true rfl) ?_
  intro p e s m below meth c ls A hC hr hlk h hl
  have hx := hC.1
  have hb := hC.2.1
  have hl : lv_has ls 3 [(0, .ref (q 0)), (1, .int p1)] := hl
  unfold m_X2_hold at hf
  obtain ⟨H, hH⟩ : ∃ H, H = s.heap := ⟨_, rfl⟩
  obtain ⟨locs, hlo⟩ : ∃ x : List Loc, x = [] := ⟨_, rfl⟩
  have h : ho G (eLocks G) 1 q v A s H locs := by rw [hH, hlo]; exact h
  rw [← hlo, ← hH]
  clear hH hlo
  refine lv_aload_n hx hb dX2_hold_0 rfl (lv_at hl 0 rfl) ?_
  refine xget hC h.o (C := RX2) (T := TX2) (N := 3) (wM_us uw_X2) 0 (Nat.le_of_ble_eq_true rfl) eLocks_0 rfl 0 (by decide) (wM_in fl_X2_9) rfl dX2_hold_1 ?_
  obtain ⟨j2, ej2, hf⟩ := lt_e hf
  have hj2 : ∀ (t1 : Int32) (H : Heap) (locs : List Loc), ho G (eLocks G) 1 q v A s H locs → ∀ (ls : Array Slot), lv_has ls 3 [(0, .ref (q 0)), (1, .int p1)] → j2 t1 = some z → W p l e { frames := 0, cells := 0, slots := 0, locals := 0 } s m [.ref (q 0), .int p1].toArray below meth c H locs 0 0 (MQ below ((qZ z) (fun _ => True) A) [.ref (q 0), .int p1].toArray s 0 0 A) (F0 m 19 ls [.int t1]) := by
    intro t1 H locs h ls hl hf
    rw [ej2] at hf
    refine lv_istore_n (lv' := [(2, .int t1), (0, .ref (q 0)), (1, .int p1)]) hx hb dX2_hold_19 rfl hl (by decide) rfl (fun ls hl => ?_)
    refine lv_aload_n hx hb dX2_hold_20 rfl (lv_at hl 1 rfl) ?_
    refine xget hC h.o (C := RX2) (T := TX2) (N := 3) (wM_us uw_X2) 0 (Nat.le_of_ble_eq_true rfl) eLocks_0 rfl 1 (by decide) (wM_in fl_X2_15) rfl dX2_hold_21 ?_
    refine lv_iconst (v := (1 : Int32)) hx hb dX2_hold_24 (by decide) ?_
    refine lv_icmp_ne (tgt := 44) hx hb dX2_hold_25 (by decide) (fun c3 => ?_) (fun c3 => ?_)
    · have hf := it_f c3 hf
      refine lv_iload_n hx hb dX2_hold_44 rfl (lv_at hl 2 rfl) ?_
      refine lv_iload_n hx hb dX2_hold_45 rfl (lv_at hl 0 rfl) ?_
      refine lv_icmp_ge (tgt := 53) hx hb dX2_hold_46 (by decide) (fun c4 => ?_) (fun c4 => ?_)
      · have hf := it_t c4 hf
        refine lv_iconst (v := (0 : Int32)) hx hb dX2_hold_53 (by decide) ?_
        have hf := sm_e hf
        exact ozret hC hr hlk h (by rw [← hf]) (by decide) dX2_hold_54
      · have hf := it_f c4 hf
        refine lv_iconst (v := (1 : Int32)) hx hb dX2_hold_49 (by decide) ?_
        refine lv_goto (tgt := 54) hx hb dX2_hold_50 (by decide) ?_
        have hf := sm_e hf
        exact ozret hC hr hlk h (by rw [← hf]) (by decide) dX2_hold_54
    · have hf := it_t c3 hf
      refine lv_iload_n hx hb dX2_hold_28 rfl (lv_at hl 2 rfl) ?_
      refine lv_bipush (v := (8 : Int32)) hx hb dX2_hold_29 (by decide) ?_
      refine lv_iload_n hx hb dX2_hold_31 rfl (lv_at hl 0 rfl) ?_
      refine lv_isub hx hb dX2_hold_32 ?_
      refine lv_icmp_lt (tgt := 40) hx hb dX2_hold_33 (by decide) (fun c5 => ?_) (fun c5 => ?_)
      · have hf := it_t c5 hf
        refine lv_iconst (v := (0 : Int32)) hx hb dX2_hold_40 (by decide) ?_
        refine lv_goto (tgt := 54) hx hb dX2_hold_41 (by decide) ?_
        have hf := sm_e hf
        exact ozret hC hr hlk h (by rw [← hf]) (by decide) dX2_hold_54
      · have hf := it_f c5 hf
        refine lv_iconst (v := (1 : Int32)) hx hb dX2_hold_36 (by decide) ?_
        refine lv_goto (tgt := 54) hx hb dX2_hold_37 (by decide) ?_
        have hf := sm_e hf
        exact ozret hC hr hlk h (by rw [← hf]) (by decide) dX2_hold_54
  refine lv_if_le (tgt := 18) hx hb dX2_hold_4 (by decide) (fun c6 => ?_) (fun c6 => ?_)
  · have hf := it_t c6 hf
    refine lv_iconst (v := (0 : Int32)) hx hb dX2_hold_18 (by decide) ?_
    exact hj2 (0 : Int32) H locs h ls (lv_sub hl [0, 1] rfl) hf
  · have hf := it_f c6 hf
    refine lv_iconst (v := (1 : Int32)) hx hb dX2_hold_7 (by decide) ?_
    refine lv_aload_n hx hb dX2_hold_8 rfl (lv_at hl 0 rfl) ?_
    refine xget hC h.o (C := RX2) (T := TX2) (N := 3) (wM_us uw_X2) 0 (Nat.le_of_ble_eq_true rfl) eLocks_0 rfl 0 (by decide) (wM_in fl_X2_9) rfl dX2_hold_9 ?_
    refine lv_iconst (v := (1 : Int32)) hx hb dX2_hold_12 (by decide) ?_
    refine lv_isub hx hb dX2_hold_13 ?_
    refine lv_ishl hx hb dX2_hold_14 ?_
    refine lv_goto (tgt := 19) hx hb dX2_hold_15 (by decide) ?_
    exact hj2 ((1 : Int32) <<< (((v 0 0) - (1 : Int32)) &&& 31)) H locs h ls (lv_sub hl [0, 1] rfl) hf
def m_X2_become (v : xSt) : Option xSt := lt (st2 v 0 0 (v 1 0)) (fun v1 => lt (st2 v1 0 1 (v1 1 1)) (fun v2 => ck ((v2 1 2) = 0 ∨ (v2 1 2) = 1) (lt (st2 v2 0 2 (v2 1 2)) (fun v4 => some v4))))
set_option maxHeartbeats 4000000 in
set_option maxRecDepth 100000 in
theorem c_X2_become (l : Launch) (G : xGl) (q : Nat → Nat) (v : xSt) {z : xSt} (hf : m_X2_become v = some z) : mRW l yX2_become (wM yX2_become cX2_become 2 none) { frames := 0, cells := 0, slots := 0, locals := 0 } G ((e2 1 (eLocks G) (eLocks G))) 2 q v [.ref (q 0), .ref (q 1)] qV z := by
  refine xRW (cc := cX2_become) (maxL := 2) (ret := none) (by decide) rfl (Nat.le_of_ble_eq_true rfl) ?_
  intro p e s m below meth c ls A hC hr hlk h hl
  have hx := hC.1
  have hb := hC.2.1
  have hl : lv_has ls 2 [(0, .ref (q 0)), (1, .ref (q 1))] := hl
  unfold m_X2_become at hf
  obtain ⟨H, hH⟩ : ∃ H, H = s.heap := ⟨_, rfl⟩
  obtain ⟨locs, hlo⟩ : ∃ x : List Loc, x = [] := ⟨_, rfl⟩
  have h : hg G ((e2 1 (eLocks G) (eLocks G))) 2 q v A s H locs := by rw [hH, hlo]; exact h
  rw [← hlo, ← hH]
  clear hH hlo
  refine lv_aload_n hx hb dX2_become_0 rfl (lv_at hl 0 rfl) ?_
  refine lv_aload_n hx hb dX2_become_1 rfl (lv_at hl 1 rfl) ?_
  refine xget hC h.o (C := RX2) (T := TX2) (N := 3) (wM_us uw_X2) 1 (Nat.le_of_ble_eq_true rfl) eLocksLocks_1 rfl 0 (by decide) (wM_in fl_X2_9) rfl dX2_become_2 ?_
  refine xput hC h (C := RX2) (T := TX2) (N := 3) (wM_us uw_X2) tyX2_ok nmX2 0 (Nat.le_of_ble_eq_true rfl) eLocksLocks_0 rfl 0 (by decide) (wM_in fl_X2_9) rfl (ty := .int) (tyX2_ok 0 (by decide)) rfl rfl (Nat.le_of_ble_eq_true rfl) (eLocksLocks_0.trans rfl) dX2_become_5 (fun H locs h => ?_)
  obtain ⟨v1, ev1, hf⟩ := lt_e hf
  rw [← ev1] at h
  refine lv_aload_n hx hb dX2_become_8 rfl (lv_at hl 0 rfl) ?_
  refine lv_aload_n hx hb dX2_become_9 rfl (lv_at hl 1 rfl) ?_
  refine xget hC h.o (C := RX2) (T := TX2) (N := 3) (wM_us uw_X2) 1 (Nat.le_of_ble_eq_true rfl) eLocksLocks_1 rfl 1 (by decide) (wM_in fl_X2_15) rfl dX2_become_10 ?_
  refine xput hC h (C := RX2) (T := TX2) (N := 3) (wM_us uw_X2) tyX2_ok nmX2 0 (Nat.le_of_ble_eq_true rfl) eLocksLocks_0 rfl 1 (by decide) (wM_in fl_X2_15) rfl (ty := .int) (tyX2_ok 1 (by decide)) rfl rfl (Nat.le_of_ble_eq_true rfl) (eLocksLocks_0.trans rfl) dX2_become_13 (fun H locs h => ?_)
  obtain ⟨v2, ev2, hf⟩ := lt_e hf
  rw [← ev2] at h
  refine lv_aload_n hx hb dX2_become_16 rfl (lv_at hl 0 rfl) ?_
  refine lv_aload_n hx hb dX2_become_17 rfl (lv_at hl 1 rfl) ?_
  refine xget hC h.o (C := RX2) (T := TX2) (N := 3) (wM_us uw_X2) 1 (Nat.le_of_ble_eq_true rfl) eLocksLocks_1 rfl 2 (by decide) (wM_in fl_X2_18) rfl dX2_become_18 ?_
  obtain ⟨hz3, hf⟩ := ck_e hf
  refine xput hC h (C := RX2) (T := TX2) (N := 3) (wM_us uw_X2) tyX2_ok nmX2 0 (Nat.le_of_ble_eq_true rfl) eLocksLocks_0 rfl 2 (by decide) (wM_in fl_X2_18) rfl (ty := .boolean) (tyX2_ok 2 (by decide)) (xbit hz3) (xbitf hz3) (Nat.le_of_ble_eq_true rfl) (eLocksLocks_0.trans rfl) dX2_become_21 (fun H locs h => ?_)
  obtain ⟨v4, ev4, hf⟩ := lt_e hf
  rw [← ev4] at h
  have hf := sm_e hf
  exact xvret hC hr hlk h hf dX2_become_24
def m_X4_add (v : xSt) (p1 : Int32) : Option xSt := (if (v 0 1) < 0 then some v else (if (12 : Int32) ≤ (v 0 1) then some v else ck (¬ ((v 0 1) < 0 ∨ 12 ≤ (v 0 1).toNatClampNeg)) (lt (st2 v 1 (v 0 1).toNatClampNeg p1) (fun v4 => lt (st2 v4 0 1 ((v4 0 1) + (1 : Int32))) (fun v5 => some v5)))))
set_option maxHeartbeats 4000000 in
set_option maxRecDepth 100000 in
theorem c_X4_add (l : Launch) (G : xGl) (q : Nat → Nat) (v : xSt) (p1 : Int32) {z : xSt} (hf : m_X4_add v p1 = some z) : mRW l yX4_add (wM yX4_add cX4_add 2 none) { frames := 0, cells := 0, slots := 0, locals := 0 } G (eRow G) 2 q v [.ref (q 0), .int p1] qV z := by
  refine xRW (cc := cX4_add) (maxL := 2) (ret := none) (by decide) rfl (Nat.le_of_ble_eq_true rfl) ?_
  intro p e s m below meth c ls A hC hr hlk h hl
  have hx := hC.1
  have hb := hC.2.1
  have hl : lv_has ls 2 [(0, .ref (q 0)), (1, .int p1)] := hl
  unfold m_X4_add at hf
  obtain ⟨H, hH⟩ : ∃ H, H = s.heap := ⟨_, rfl⟩
  obtain ⟨locs, hlo⟩ : ∃ x : List Loc, x = [] := ⟨_, rfl⟩
  have h : hg G (eRow G) 2 q v A s H locs := by rw [hH, hlo]; exact h
  rw [← hlo, ← hH]
  clear hH hlo
  refine lv_aload_n hx hb dX4_add_0 rfl (lv_at hl 0 rfl) ?_
  refine xget hC h.o (C := RX4) (T := TX4) (N := 2) (wM_us uw_X4) 0 (Nat.le_of_ble_eq_true rfl) eRow_0 rfl 1 (by decide) (wM_in fl_X4_15) rfl dX4_add_1 ?_
  refine lv_if_lt (tgt := 39) hx hb dX4_add_4 (by decide) (fun c1 => ?_) (fun c1 => ?_)
  · have hf := it_t c1 hf
    have hf := sm_e hf
    exact xvret hC hr hlk h hf dX4_add_39
  · have hf := it_f c1 hf
    refine lv_aload_n hx hb dX4_add_7 rfl (lv_at hl 0 rfl) ?_
    refine xget hC h.o (C := RX4) (T := TX4) (N := 2) (wM_us uw_X4) 0 (Nat.le_of_ble_eq_true rfl) eRow_0 rfl 1 (by decide) (wM_in fl_X4_15) rfl dX4_add_8 ?_
    refine lv_aload_n hx hb dX4_add_11 rfl (lv_at hl 0 rfl) ?_
    refine xget hC h.o (C := RX4) (T := TX4) (N := 2) (wM_us uw_X4) 0 (Nat.le_of_ble_eq_true rfl) eRow_0 rfl 0 (by decide) (wM_in fl_X4_9) rfl dX4_add_12 ?_
    refine xalen hC h.o 0 rfl 1 (Nat.le_of_ble_eq_true rfl) eRow_1 (z := (12 : Int32)) rfl dX4_add_15 ?_
    refine lv_icmp_ge (tgt := 39) hx hb dX4_add_16 (by decide) (fun c2 => ?_) (fun c2 => ?_)
    · have hf := it_t c2 hf
      have hf := sm_e hf
      exact xvret hC hr hlk h hf dX4_add_39
    · have hf := it_f c2 hf
      refine lv_aload_n hx hb dX4_add_19 rfl (lv_at hl 0 rfl) ?_
      refine xget hC h.o (C := RX4) (T := TX4) (N := 2) (wM_us uw_X4) 0 (Nat.le_of_ble_eq_true rfl) eRow_0 rfl 0 (by decide) (wM_in fl_X4_9) rfl dX4_add_20 ?_
      refine lv_aload_n hx hb dX4_add_23 rfl (lv_at hl 0 rfl) ?_
      refine xget hC h.o (C := RX4) (T := TX4) (N := 2) (wM_us uw_X4) 0 (Nat.le_of_ble_eq_true rfl) eRow_0 rfl 1 (by decide) (wM_in fl_X4_15) rfl dX4_add_24 ?_
      refine lv_iload_n hx hb dX4_add_27 rfl (lv_at hl 1 rfl) ?_
      obtain ⟨hi3, hf⟩ := ck_e hf
      refine xiast hC h 1 (Nat.le_of_ble_eq_true rfl) (fun _ => eRow_1) hi3 dX4_add_28 (fun H locs h => ?_)
      obtain ⟨v4, ev4, hf⟩ := lt_e hf
      rw [← ev4] at h
      refine lv_aload_n hx hb dX4_add_29 rfl (lv_at hl 0 rfl) ?_
      refine lv_dup hx hb dX4_add_30 rfl ?_
      refine xget hC h.o (C := RX4) (T := TX4) (N := 2) (wM_us uw_X4) 0 (Nat.le_of_ble_eq_true rfl) eRow_0 rfl 1 (by decide) (wM_in fl_X4_15) rfl dX4_add_31 ?_
      refine lv_iconst (v := (1 : Int32)) hx hb dX4_add_34 (by decide) ?_
      refine lv_iadd hx hb dX4_add_35 ?_
      refine xput hC h (C := RX4) (T := TX4) (N := 2) (wM_us uw_X4) tyX4_ok nmX4 0 (Nat.le_of_ble_eq_true rfl) eRow_0 rfl 1 (by decide) (wM_in fl_X4_15) rfl (ty := .int) (tyX4_ok 1 (by decide)) rfl rfl (Nat.le_of_ble_eq_true rfl) (eRow_0.trans rfl) dX4_add_36 (fun H locs h => ?_)
      obtain ⟨v5, ev5, hf⟩ := lt_e hf
      rw [← ev5] at h
      have hf := sm_e hf
      exact xvret hC hr hlk h hf dX4_add_39
def m_X4_span (v : xSt) : Option (Int32) := some (if (8 : Int32) < (v 0 1) then (8 : Int32) else (v 0 1))
set_option maxHeartbeats 4000000 in
set_option maxRecDepth 100000 in
theorem c_X4_span (l : Launch) (G : xGl) (q : Nat → Nat) (v : xSt) {z : (Int32)} (hf : m_X4_span v = some z) : mRO l yX4_span (wM yX4_span cX4_span 1 (some .int)) { frames := 1, cells := 0, slots := 0, locals := 30 } G (eRow G) 2 q v [.ref (q 0)] (qI z) := by
  refine xRO (cc := cX4_span) (maxL := 1) (ret := (some .int)) (by decide) rfl (Nat.le_of_ble_eq_true rfl) ?_
  intro p e s m below meth c ls A hC hr hlk h hl
  have hx := hC.1
  have hb := hC.2.1
  have hl : lv_has ls 1 [(0, .ref (q 0))] := hl
  unfold m_X4_span at hf
  obtain ⟨H, hH⟩ : ∃ H, H = s.heap := ⟨_, rfl⟩
  obtain ⟨locs, hlo⟩ : ∃ x : List Loc, x = [] := ⟨_, rfl⟩
  have h : ho G (eRow G) 2 q v A s H locs := by rw [hH, hlo]; exact h
  rw [← hlo, ← hH]
  clear hH hlo
  refine lv_aload_n hx hb dX4_span_0 rfl (lv_at hl 0 rfl) ?_
  refine xget hC h.o (C := RX4) (T := TX4) (N := 2) (wM_us uw_X4) 0 (Nat.le_of_ble_eq_true rfl) eRow_0 rfl 1 (by decide) (wM_in fl_X4_15) rfl dX4_span_1 ?_
  refine lv_bipush (v := (8 : Int32)) hx hb dX4_span_4 (by decide) ?_
  refine va_mmin hx hb (hC.2.2.1.trans hl.1.symm) hC.2.2.2.1 (hC.2.2.2.2 _ (wM_in lkm_X4_19)) (hC.2.2.2.2 _ (wM_in st_min)) (hC.2.2.2.2 _ (wM_in in_math)) (hC.2.2.2.2 _ (wM_in co_min)) (Nat.le_of_ble_eq_true rfl) (Nat.le_of_ble_eq_true rfl) (Nat.zero_le _) (Nat.zero_le _) dX4_span_6 ?_
  have hf := sm_e hf
  exact oiret hC hr hlk h (by rw [← hf]) dX4_span_9
def m_X4_valueFor (v : xSt) (p1 : Int32) : Option (Int32) := (if p1 < 0 then some (-1 : Int32) else (if p1 < (v 0 1) then lt (((((v 0 1) - (1 : Int32)) - p1) / (8 : Int32))) (fun x3 => some (xat 12 (v 1) (p1 + (x3 * (8 : Int32))))) else some (-1 : Int32)))
set_option maxHeartbeats 4000000 in
set_option maxRecDepth 100000 in
theorem c_X4_valueFor (l : Launch) (G : xGl) (q : Nat → Nat) (v : xSt) (p1 : Int32) {z : (Int32)} (hf : m_X4_valueFor v p1 = some z) : mRO l yX4_valueFor (wM yX4_valueFor cX4_valueFor 3 (some .int)) { frames := 1, cells := 0, slots := 0, locals := 21 } G (eRow G) 2 q v [.ref (q 0), .int p1] (qI z) := by
  refine xRO (cc := cX4_valueFor) (maxL := 3) (ret := (some .int)) (by decide) rfl (Nat.le_of_ble_eq_true rfl) ?_
  intro p e s m below meth c ls A hC hr hlk h hl
  have hx := hC.1
  have hb := hC.2.1
  have hl : lv_has ls 3 [(0, .ref (q 0)), (1, .int p1)] := hl
  unfold m_X4_valueFor at hf
  obtain ⟨H, hH⟩ : ∃ H, H = s.heap := ⟨_, rfl⟩
  obtain ⟨locs, hlo⟩ : ∃ x : List Loc, x = [] := ⟨_, rfl⟩
  have h : ho G (eRow G) 2 q v A s H locs := by rw [hH, hlo]; exact h
  rw [← hlo, ← hH]
  clear hH hlo
  refine lv_iload_n hx hb dX4_valueFor_0 rfl (lv_at hl 1 rfl) ?_
  refine lv_if_lt (tgt := 12) hx hb dX4_valueFor_1 (by decide) (fun c1 => ?_) (fun c1 => ?_)
  · have hf := it_t c1 hf
    refine lv_iconst (v := (-1 : Int32)) hx hb dX4_valueFor_12 (by decide) ?_
    have hf := sm_e hf
    exact oiret hC hr hlk h (by rw [← hf]) dX4_valueFor_13
  · have hf := it_f c1 hf
    refine lv_iload_n hx hb dX4_valueFor_4 rfl (lv_at hl 1 rfl) ?_
    refine lv_aload_n hx hb dX4_valueFor_5 rfl (lv_at hl 0 rfl) ?_
    refine xget hC h.o (C := RX4) (T := TX4) (N := 2) (wM_us uw_X4) 0 (Nat.le_of_ble_eq_true rfl) eRow_0 rfl 1 (by decide) (wM_in fl_X4_15) rfl dX4_valueFor_6 ?_
    refine lv_icmp_lt (tgt := 14) hx hb dX4_valueFor_9 (by decide) (fun c2 => ?_) (fun c2 => ?_)
    · have hf := it_t c2 hf
      refine lv_aload_n hx hb dX4_valueFor_14 rfl (lv_at hl 0 rfl) ?_
      refine xget hC h.o (C := RX4) (T := TX4) (N := 2) (wM_us uw_X4) 0 (Nat.le_of_ble_eq_true rfl) eRow_0 rfl 1 (by decide) (wM_in fl_X4_15) rfl dX4_valueFor_15 ?_
      refine lv_iconst (v := (1 : Int32)) hx hb dX4_valueFor_18 (by decide) ?_
      refine lv_isub hx hb dX4_valueFor_19 ?_
      refine lv_iload_n hx hb dX4_valueFor_20 rfl (lv_at hl 1 rfl) ?_
      refine lv_isub hx hb dX4_valueFor_21 ?_
      refine lv_bipush (v := (8 : Int32)) hx hb dX4_valueFor_22 (by decide) ?_
      refine lv_idiv hx hb dX4_valueFor_24 (by decide) ?_
      obtain ⟨x3, ex3, hf⟩ := lt_e hf
      refine lv_nm ex3 ?_
      refine lv_istore_n (lv' := [(2, .int x3), (0, .ref (q 0)), (1, .int p1)]) hx hb dX4_valueFor_25 rfl hl (by decide) rfl (fun ls hl => ?_)
      refine lv_aload_n hx hb dX4_valueFor_26 rfl (lv_at hl 1 rfl) ?_
      refine xget hC h.o (C := RX4) (T := TX4) (N := 2) (wM_us uw_X4) 0 (Nat.le_of_ble_eq_true rfl) eRow_0 rfl 0 (by decide) (wM_in fl_X4_9) rfl dX4_valueFor_27 ?_
      refine lv_iload_n hx hb dX4_valueFor_30 rfl (lv_at hl 2 rfl) ?_
      refine lv_iload_n hx hb dX4_valueFor_31 rfl (lv_at hl 0 rfl) ?_
      refine lv_bipush (v := (8 : Int32)) hx hb dX4_valueFor_32 (by decide) ?_
      refine lv_imul hx hb dX4_valueFor_34 ?_
      refine lv_iadd hx hb dX4_valueFor_35 ?_
      refine xiO h (va_runSN (As := [.ref (q 1), .int (p1 + (x3 * (8 : Int32)))]) (rest := []) hC (k_X8_at l G (sh 1 q) 12 (by decide) (sh 1 v) (p1 + (x3 * (8 : Int32))) H.size) (xcwN hC (h.o.2.2.2.1 _ nw_X4_25) in_X8 co_X8_at st_X8_at rfl rfl dd_X8_at ⟨Nat.le_of_ble_eq_true rfl, Nat.le_of_ble_eq_true rfl⟩) (preSO h.o 1 1 sRow_1 (Nat.le_of_ble_eq_true rfl) [.ref (q 1), .int (p1 + (x3 * (8 : Int32)))]) rfl rfl hl.1 rfl (lv_room (Nat.le_of_ble_eq_true rfl)) dX4_valueFor_36 ⟨Nat.zero_le _, Nat.zero_le _⟩) (fun H locs h => ?_)
      refine lv_nm (z := (xat 12 (v 1) (p1 + (x3 * (8 : Int32))))) rfl ?_
      have hf := sm_e hf
      exact oiret hC hr hlk h (by rw [← hf]) dX4_valueFor_39
    · have hf := it_f c2 hf
      refine lv_iconst (v := (-1 : Int32)) hx hb dX4_valueFor_12 (by decide) ?_
      have hf := sm_e hf
      exact oiret hC hr hlk h (by rw [← hf]) dX4_valueFor_13
def m_X7_become (v : xSt) : Option xSt := lt (st2 v 0 0 (v 3 0)) (fun v1 => lt (st2 v1 0 1 (v1 3 1)) (fun v2 => lt (st2 v2 0 2 (v2 3 2)) (fun v3 => lt (st2 v3 0 3 (v3 3 3)) (fun v4 => lt (st2 v4 0 4 (v4 3 4)) (fun v5 => lt (st2 v5 0 5 (v5 3 5)) (fun v6 => lt (st2 v6 0 6 (v6 3 6)) (fun v7 => ck ((v7 3 7) = 0 ∨ (v7 3 7) = 1) (lt (st2 v7 0 7 (v7 3 7)) (fun v9 => ob (m_X4_become (ct 2 (sh 1 v9) (sh 4 v9))) (fun r11 => lt (pu 4 2 (pu 1 2 v9 r11) (sh 2 r11)) (fun v12 => some v12)))))))))))
set_option maxHeartbeats 4000000 in
set_option maxRecDepth 100000 in
theorem c_X7_become (l : Launch) (G : xGl) (q : Nat → Nat) (v : xSt) {z : xSt} (hf : m_X7_become v = some z) : mRW l yX7_become (wM yX7_become cX7_become 2 none) { frames := 2, cells := 0, slots := 0, locals := 81 } G ((e2 3 (eWork G) (eWork G))) 6 q v [.ref (q 0), .ref (q 3)] qV z := by
  refine xRW (cc := cX7_become) (maxL := 2) (ret := none) (by decide) rfl (Nat.le_of_ble_eq_true rfl) ?_
  intro p e s m below meth c ls A hC hr hlk h hl
  have hx := hC.1
  have hb := hC.2.1
  have hl : lv_has ls 2 [(0, .ref (q 0)), (1, .ref (q 3))] := hl
  unfold m_X7_become at hf
  obtain ⟨H, hH⟩ : ∃ H, H = s.heap := ⟨_, rfl⟩
  obtain ⟨locs, hlo⟩ : ∃ x : List Loc, x = [] := ⟨_, rfl⟩
  have h : hg G ((e2 3 (eWork G) (eWork G))) 6 q v A s H locs := by rw [hH, hlo]; exact h
  rw [← hlo, ← hH]
  clear hH hlo
  refine lv_aload_n hx hb dX7_become_0 rfl (lv_at hl 0 rfl) ?_
  refine lv_aload_n hx hb dX7_become_1 rfl (lv_at hl 1 rfl) ?_
  refine xget hC h.o (C := RX7) (T := TX7) (N := 9) (wM_us uw_X7) 3 (Nat.le_of_ble_eq_true rfl) eWorkWork_3 rfl 0 (by decide) (wM_in fl_X7_9) rfl dX7_become_2 ?_
  refine xput hC h (C := RX7) (T := TX7) (N := 9) (wM_us uw_X7) tyX7_ok nmX7 0 (Nat.le_of_ble_eq_true rfl) eWorkWork_0 rfl 0 (by decide) (wM_in fl_X7_9) rfl (ty := .int) (tyX7_ok 0 (by decide)) rfl rfl (Nat.le_of_ble_eq_true rfl) (eWorkWork_0.trans rfl) dX7_become_5 (fun H locs h => ?_)
  obtain ⟨v1, ev1, hf⟩ := lt_e hf
  rw [← ev1] at h
  refine lv_aload_n hx hb dX7_become_8 rfl (lv_at hl 0 rfl) ?_
  refine lv_aload_n hx hb dX7_become_9 rfl (lv_at hl 1 rfl) ?_
  refine xget hC h.o (C := RX7) (T := TX7) (N := 9) (wM_us uw_X7) 3 (Nat.le_of_ble_eq_true rfl) eWorkWork_3 rfl 1 (by decide) (wM_in fl_X7_15) rfl dX7_become_10 ?_
  refine xput hC h (C := RX7) (T := TX7) (N := 9) (wM_us uw_X7) tyX7_ok nmX7 0 (Nat.le_of_ble_eq_true rfl) eWorkWork_0 rfl 1 (by decide) (wM_in fl_X7_15) rfl (ty := .int) (tyX7_ok 1 (by decide)) rfl rfl (Nat.le_of_ble_eq_true rfl) (eWorkWork_0.trans rfl) dX7_become_13 (fun H locs h => ?_)
  obtain ⟨v2, ev2, hf⟩ := lt_e hf
  rw [← ev2] at h
  refine lv_aload_n hx hb dX7_become_16 rfl (lv_at hl 0 rfl) ?_
  refine lv_aload_n hx hb dX7_become_17 rfl (lv_at hl 1 rfl) ?_
  refine xget hC h.o (C := RX7) (T := TX7) (N := 9) (wM_us uw_X7) 3 (Nat.le_of_ble_eq_true rfl) eWorkWork_3 rfl 2 (by decide) (wM_in fl_X7_18) rfl dX7_become_18 ?_
  refine xput hC h (C := RX7) (T := TX7) (N := 9) (wM_us uw_X7) tyX7_ok nmX7 0 (Nat.le_of_ble_eq_true rfl) eWorkWork_0 rfl 2 (by decide) (wM_in fl_X7_18) rfl (ty := .int) (tyX7_ok 2 (by decide)) rfl rfl (Nat.le_of_ble_eq_true rfl) (eWorkWork_0.trans rfl) dX7_become_21 (fun H locs h => ?_)
  obtain ⟨v3, ev3, hf⟩ := lt_e hf
  rw [← ev3] at h
  refine lv_aload_n hx hb dX7_become_24 rfl (lv_at hl 0 rfl) ?_
  refine lv_aload_n hx hb dX7_become_25 rfl (lv_at hl 1 rfl) ?_
  refine xget hC h.o (C := RX7) (T := TX7) (N := 9) (wM_us uw_X7) 3 (Nat.le_of_ble_eq_true rfl) eWorkWork_3 rfl 3 (by decide) (wM_in fl_X7_21) rfl dX7_become_26 ?_
  refine xput hC h (C := RX7) (T := TX7) (N := 9) (wM_us uw_X7) tyX7_ok nmX7 0 (Nat.le_of_ble_eq_true rfl) eWorkWork_0 rfl 3 (by decide) (wM_in fl_X7_21) rfl (ty := .int) (tyX7_ok 3 (by decide)) rfl rfl (Nat.le_of_ble_eq_true rfl) (eWorkWork_0.trans rfl) dX7_become_29 (fun H locs h => ?_)
  obtain ⟨v4, ev4, hf⟩ := lt_e hf
  rw [← ev4] at h
  refine lv_aload_n hx hb dX7_become_32 rfl (lv_at hl 0 rfl) ?_
  refine lv_aload_n hx hb dX7_become_33 rfl (lv_at hl 1 rfl) ?_
  refine xget hC h.o (C := RX7) (T := TX7) (N := 9) (wM_us uw_X7) 3 (Nat.le_of_ble_eq_true rfl) eWorkWork_3 rfl 4 (by decide) (wM_in fl_X7_24) rfl dX7_become_34 ?_
  refine xput hC h (C := RX7) (T := TX7) (N := 9) (wM_us uw_X7) tyX7_ok nmX7 0 (Nat.le_of_ble_eq_true rfl) eWorkWork_0 rfl 4 (by decide) (wM_in fl_X7_24) rfl (ty := .int) (tyX7_ok 4 (by decide)) rfl rfl (Nat.le_of_ble_eq_true rfl) (eWorkWork_0.trans rfl) dX7_become_37 (fun H locs h => ?_)
  obtain ⟨v5, ev5, hf⟩ := lt_e hf
  rw [← ev5] at h
  refine lv_aload_n hx hb dX7_become_40 rfl (lv_at hl 0 rfl) ?_
  refine lv_aload_n hx hb dX7_become_41 rfl (lv_at hl 1 rfl) ?_
  refine xget hC h.o (C := RX7) (T := TX7) (N := 9) (wM_us uw_X7) 3 (Nat.le_of_ble_eq_true rfl) eWorkWork_3 rfl 5 (by decide) (wM_in fl_X7_27) rfl dX7_become_42 ?_
  refine xput hC h (C := RX7) (T := TX7) (N := 9) (wM_us uw_X7) tyX7_ok nmX7 0 (Nat.le_of_ble_eq_true rfl) eWorkWork_0 rfl 5 (by decide) (wM_in fl_X7_27) rfl (ty := .int) (tyX7_ok 5 (by decide)) rfl rfl (Nat.le_of_ble_eq_true rfl) (eWorkWork_0.trans rfl) dX7_become_45 (fun H locs h => ?_)
  obtain ⟨v6, ev6, hf⟩ := lt_e hf
  rw [← ev6] at h
  refine lv_aload_n hx hb dX7_become_48 rfl (lv_at hl 0 rfl) ?_
  refine lv_aload_n hx hb dX7_become_49 rfl (lv_at hl 1 rfl) ?_
  refine xget hC h.o (C := RX7) (T := TX7) (N := 9) (wM_us uw_X7) 3 (Nat.le_of_ble_eq_true rfl) eWorkWork_3 rfl 6 (by decide) (wM_in fl_X7_30) rfl dX7_become_50 ?_
  refine xput hC h (C := RX7) (T := TX7) (N := 9) (wM_us uw_X7) tyX7_ok nmX7 0 (Nat.le_of_ble_eq_true rfl) eWorkWork_0 rfl 6 (by decide) (wM_in fl_X7_30) rfl (ty := .int) (tyX7_ok 6 (by decide)) rfl rfl (Nat.le_of_ble_eq_true rfl) (eWorkWork_0.trans rfl) dX7_become_53 (fun H locs h => ?_)
  obtain ⟨v7, ev7, hf⟩ := lt_e hf
  rw [← ev7] at h
  refine lv_aload_n hx hb dX7_become_56 rfl (lv_at hl 0 rfl) ?_
  refine lv_aload_n hx hb dX7_become_57 rfl (lv_at hl 1 rfl) ?_
  refine xget hC h.o (C := RX7) (T := TX7) (N := 9) (wM_us uw_X7) 3 (Nat.le_of_ble_eq_true rfl) eWorkWork_3 rfl 7 (by decide) (wM_in fl_X7_33) rfl dX7_become_58 ?_
  obtain ⟨hz8, hf⟩ := ck_e hf
  refine xput hC h (C := RX7) (T := TX7) (N := 9) (wM_us uw_X7) tyX7_ok nmX7 0 (Nat.le_of_ble_eq_true rfl) eWorkWork_0 rfl 7 (by decide) (wM_in fl_X7_33) rfl (ty := .boolean) (tyX7_ok 7 (by decide)) (xbit hz8) (xbitf hz8) (Nat.le_of_ble_eq_true rfl) (eWorkWork_0.trans rfl) dX7_become_61 (fun H locs h => ?_)
  obtain ⟨v9, ev9, hf⟩ := lt_e hf
  rw [← ev9] at h
  refine lv_aload_n hx hb dX7_become_64 rfl (lv_at hl 0 rfl) ?_
  refine xget hC h.o (C := RX7) (T := TX7) (N := 9) (wM_us uw_X7) 0 (Nat.le_of_ble_eq_true rfl) eWorkWork_0 rfl 8 (by decide) (wM_in fl_X7_40) rfl dX7_become_65 ?_
  refine lv_aload_n hx hb dX7_become_68 rfl (lv_at hl 1 rfl) ?_
  refine xget hC h.o (C := RX7) (T := TX7) (N := 9) (wM_us uw_X7) 3 (Nat.le_of_ble_eq_true rfl) eWorkWork_3 rfl 8 (by decide) (wM_in fl_X7_40) rfl dX7_become_69 ?_
  obtain ⟨r11, hy10, hf⟩ := ob_e hf
  refine xv2 h 1 2 4 2 (x2E1 sWorkWork_1 locRow) (x2E2 sWorkWork_4) (Nat.le_of_ble_eq_true rfl) (Nat.le_of_ble_eq_true rfl) (by omega) (va_runV (As := [.ref (q 4)]) (rest := []) hC (c_X4_become l G (ct 2 (sh 1 q) (sh 4 q)) (ct 2 (sh 1 v9) (sh 4 v9)) hy10 H.size) (xcwV hC lk_X7_52 in_X4 co_X4_become im_X4_become se_X4_become rfl rfl dd_X4_become ⟨Nat.le_of_ble_eq_true rfl, Nat.le_of_ble_eq_true rfl⟩) (preV2 h 1 2 4 2 (x2E1 sWorkWork_1 locRow) (x2E2 sWorkWork_4) (Nat.le_of_ble_eq_true rfl) (Nat.le_of_ble_eq_true rfl) (by omega) (Nat.le_of_ble_eq_true rfl) eWorkWork_1 rfl [.ref (q 4)]) rfl rfl hl.1 rfl (lv_room (Nat.le_of_ble_eq_true rfl)) dX7_become_72 ⟨Nat.zero_le _, Nat.zero_le _⟩) (fun H locs h => ?_)
  obtain ⟨v12, ev12, hf⟩ := lt_e hf
  rw [← ev12] at h
  have hf := sm_e hf
  exact xvret hC hr hlk h hf dX7_become_75
def m_X7_start (v : xSt) (p1 : Int32) (p2 : Int32) (p3 : Int32) (p4 : Int32) : Option xSt := lt (st2 v 0 0 p1) (fun v1 => lt (st2 v1 0 1 p2) (fun v2 => lt (st2 v2 0 4 p3) (fun v3 => lt (st2 v3 0 5 (0 : Int32)) (fun v4 => lt (st2 v4 0 6 p4) (fun v5 => lt (st2 v5 0 7 (0 : Int32)) (fun v6 => some v6))))))
set_option maxHeartbeats 4000000 in
set_option maxRecDepth 100000 in
theorem c_X7_start (l : Launch) (G : xGl) (q : Nat → Nat) (v : xSt) (p1 : Int32) (p2 : Int32) (p3 : Int32) (p4 : Int32) {z : xSt} (hf : m_X7_start v p1 p2 p3 p4 = some z) : mRW l yX7_start (wM yX7_start cX7_start 5 none) { frames := 0, cells := 0, slots := 0, locals := 0 } G (eWork G) 3 q v [.ref (q 0), .int p1, .int p2, .int p3, .int p4] qV z := by
  refine xRW (cc := cX7_start) (maxL := 5) (ret := none) (by decide) rfl (Nat.le_of_ble_eq_true rfl) ?_
  intro p e s m below meth c ls A hC hr hlk h hl
  have hx := hC.1
  have hb := hC.2.1
  have hl : lv_has ls 5 [(0, .ref (q 0)), (1, .int p1), (2, .int p2), (3, .int p3), (4, .int p4)] := hl
  unfold m_X7_start at hf
  obtain ⟨H, hH⟩ : ∃ H, H = s.heap := ⟨_, rfl⟩
  obtain ⟨locs, hlo⟩ : ∃ x : List Loc, x = [] := ⟨_, rfl⟩
  have h : hg G (eWork G) 3 q v A s H locs := by rw [hH, hlo]; exact h
  rw [← hlo, ← hH]
  clear hH hlo
  refine lv_aload_n hx hb dX7_start_0 rfl (lv_at hl 0 rfl) ?_
  refine lv_iload_n hx hb dX7_start_1 rfl (lv_at hl 1 rfl) ?_
  refine xput hC h (C := RX7) (T := TX7) (N := 9) (wM_us uw_X7) tyX7_ok nmX7 0 (Nat.le_of_ble_eq_true rfl) eWork_0 rfl 0 (by decide) (wM_in fl_X7_9) rfl (ty := .int) (tyX7_ok 0 (by decide)) rfl rfl (Nat.le_of_ble_eq_true rfl) (eWork_0.trans rfl) dX7_start_2 (fun H locs h => ?_)
  obtain ⟨v1, ev1, hf⟩ := lt_e hf
  rw [← ev1] at h
  refine lv_aload_n hx hb dX7_start_5 rfl (lv_at hl 0 rfl) ?_
  refine lv_iload_n hx hb dX7_start_6 rfl (lv_at hl 2 rfl) ?_
  refine xput hC h (C := RX7) (T := TX7) (N := 9) (wM_us uw_X7) tyX7_ok nmX7 0 (Nat.le_of_ble_eq_true rfl) eWork_0 rfl 1 (by decide) (wM_in fl_X7_15) rfl (ty := .int) (tyX7_ok 1 (by decide)) rfl rfl (Nat.le_of_ble_eq_true rfl) (eWork_0.trans rfl) dX7_start_7 (fun H locs h => ?_)
  obtain ⟨v2, ev2, hf⟩ := lt_e hf
  rw [← ev2] at h
  refine lv_aload_n hx hb dX7_start_10 rfl (lv_at hl 0 rfl) ?_
  refine lv_iload_n hx hb dX7_start_11 rfl (lv_at hl 3 rfl) ?_
  refine xput hC h (C := RX7) (T := TX7) (N := 9) (wM_us uw_X7) tyX7_ok nmX7 0 (Nat.le_of_ble_eq_true rfl) eWork_0 rfl 4 (by decide) (wM_in fl_X7_24) rfl (ty := .int) (tyX7_ok 4 (by decide)) rfl rfl (Nat.le_of_ble_eq_true rfl) (eWork_0.trans rfl) dX7_start_12 (fun H locs h => ?_)
  obtain ⟨v3, ev3, hf⟩ := lt_e hf
  rw [← ev3] at h
  refine lv_aload_n hx hb dX7_start_15 rfl (lv_at hl 0 rfl) ?_
  refine lv_iconst (v := (0 : Int32)) hx hb dX7_start_16 (by decide) ?_
  refine xput hC h (C := RX7) (T := TX7) (N := 9) (wM_us uw_X7) tyX7_ok nmX7 0 (Nat.le_of_ble_eq_true rfl) eWork_0 rfl 5 (by decide) (wM_in fl_X7_27) rfl (ty := .int) (tyX7_ok 5 (by decide)) rfl rfl (Nat.le_of_ble_eq_true rfl) (eWork_0.trans rfl) dX7_start_17 (fun H locs h => ?_)
  obtain ⟨v4, ev4, hf⟩ := lt_e hf
  rw [← ev4] at h
  refine lv_aload_n hx hb dX7_start_20 rfl (lv_at hl 0 rfl) ?_
  refine lv_iload hx hb dX7_start_21 (lv_at hl 4 rfl) ?_
  refine xput hC h (C := RX7) (T := TX7) (N := 9) (wM_us uw_X7) tyX7_ok nmX7 0 (Nat.le_of_ble_eq_true rfl) eWork_0 rfl 6 (by decide) (wM_in fl_X7_30) rfl (ty := .int) (tyX7_ok 6 (by decide)) rfl rfl (Nat.le_of_ble_eq_true rfl) (eWork_0.trans rfl) dX7_start_23 (fun H locs h => ?_)
  obtain ⟨v5, ev5, hf⟩ := lt_e hf
  rw [← ev5] at h
  refine lv_aload_n hx hb dX7_start_26 rfl (lv_at hl 0 rfl) ?_
  refine lv_iconst (v := (0 : Int32)) hx hb dX7_start_27 (by decide) ?_
  refine xput hC h (C := RX7) (T := TX7) (N := 9) (wM_us uw_X7) tyX7_ok nmX7 0 (Nat.le_of_ble_eq_true rfl) eWork_0 rfl 7 (by decide) (wM_in fl_X7_33) rfl (ty := .boolean) (tyX7_ok 7 (by decide)) rfl rfl (Nat.le_of_ble_eq_true rfl) (eWork_0.trans rfl) dX7_start_28 (fun H locs h => ?_)
  obtain ⟨v6, ev6, hf⟩ := lt_e hf
  rw [← ev6] at h
  have hf := sm_e hf
  exact xvret hC hr hlk h hf dX7_start_31
def m_X7_end (v : xSt) : Option xSt := ob (m_X7_start v (0 : Int32) (-1 : Int32) (0 : Int32) (-1 : Int32)) (fun r2 => some r2)
set_option maxHeartbeats 4000000 in
set_option maxRecDepth 100000 in
theorem c_X7_end (l : Launch) (G : xGl) (q : Nat → Nat) (v : xSt) {z : xSt} (hf : m_X7_end v = some z) : mRW l yX7_end (wM yX7_end cX7_end 1 none) { frames := 1, cells := 0, slots := 0, locals := 24 } G (eWork G) 3 q v [.ref (q 0)] qV z := by
  refine xRW (cc := cX7_end) (maxL := 1) (ret := none) (by decide) rfl (Nat.le_of_ble_eq_true rfl) ?_
  intro p e s m below meth c ls A hC hr hlk h hl
  have hx := hC.1
  have hb := hC.2.1
  have hl : lv_has ls 1 [(0, .ref (q 0))] := hl
  unfold m_X7_end at hf
  obtain ⟨H, hH⟩ : ∃ H, H = s.heap := ⟨_, rfl⟩
  obtain ⟨locs, hlo⟩ : ∃ x : List Loc, x = [] := ⟨_, rfl⟩
  have h : hg G (eWork G) 3 q v A s H locs := by rw [hH, hlo]; exact h
  rw [← hlo, ← hH]
  clear hH hlo
  refine lv_aload_n hx hb dX7_end_0 rfl (lv_at hl 0 rfl) ?_
  refine lv_iconst (v := (0 : Int32)) hx hb dX7_end_1 (by decide) ?_
  refine lv_iconst (v := (-1 : Int32)) hx hb dX7_end_2 (by decide) ?_
  refine lv_iconst (v := (0 : Int32)) hx hb dX7_end_3 (by decide) ?_
  refine lv_iconst (v := (-1 : Int32)) hx hb dX7_end_4 (by decide) ?_
  obtain ⟨r2, hy1, hf⟩ := ob_e hf
  refine xv0 h (va_runV (As := [.int (0 : Int32), .int (-1 : Int32), .int (0 : Int32), .int (-1 : Int32)]) (rest := []) hC (c_X7_start l G q v (0 : Int32) (-1 : Int32) (0 : Int32) (-1 : Int32) hy1 H.size) (xcwV hC lk_X7_48 in_X7 co_X7_start im_X7_start se_X7_start rfl rfl dd_X7_start ⟨Nat.le_of_ble_eq_true rfl, Nat.le_of_ble_eq_true rfl⟩) (preV0 h (Nat.le_of_ble_eq_true rfl) eWork_0 rfl [.int (0 : Int32), .int (-1 : Int32), .int (0 : Int32), .int (-1 : Int32)]) rfl rfl hl.1 rfl (lv_room (Nat.le_of_ble_eq_true rfl)) dX7_end_5 ⟨Nat.zero_le _, Nat.zero_le _⟩) (fun H locs h => ?_)
  have hf := sm_e hf
  exact xvret hC hr hlk h hf dX7_end_8
def m_X7_startWrite (v : xSt) (p1 : Int32) (p3 : Int32) (p4 : Int32) : Option xSt := ob (m_X4_span (sh 3 v)) (fun r2 => ob (m_X7_start v (1 : Int32) p1 (r2 * p3) p4) (fun r4 => lt (pu 0 3 v r4) (fun v5 => lt (st2 v5 0 3 p3) (fun v6 => ob (m_X4_become (ct 2 (sh 1 v6) (sh 3 v6))) (fun r8 => lt (pu 3 2 (pu 1 2 v6 r8) (sh 2 r8)) (fun v9 => some v9))))))
set_option maxHeartbeats 4000000 in
set_option maxRecDepth 100000 in
theorem c_X7_startWrite (l : Launch) (G : xGl) (q : Nat → Nat) (v : xSt) (p1 : Int32) (p3 : Int32) (p4 : Int32) {z : xSt} (hf : m_X7_startWrite v p1 p3 p4 = some z) : mRW l yX7_startWrite (wM yX7_startWrite cX7_startWrite 5 none) { frames := 2, cells := 0, slots := 0, locals := 81 } G ((e2 3 (eWork G) (eRow G))) 5 q v [.ref (q 0), .int p1, .ref (q 3), .int p3, .int p4] qV z := by
  refine xRW (cc := cX7_startWrite) (maxL := 5) (ret := none) (by decide) rfl (Nat.le_of_ble_eq_true rfl) ?_
  intro p e s m below meth c ls A hC hr hlk h hl
  have hx := hC.1
  have hb := hC.2.1
  have hl : lv_has ls 5 [(0, .ref (q 0)), (1, .int p1), (2, .ref (q 3)), (3, .int p3), (4, .int p4)] := hl
  unfold m_X7_startWrite at hf
  obtain ⟨H, hH⟩ : ∃ H, H = s.heap := ⟨_, rfl⟩
  obtain ⟨locs, hlo⟩ : ∃ x : List Loc, x = [] := ⟨_, rfl⟩
  have h : hg G ((e2 3 (eWork G) (eRow G))) 5 q v A s H locs := by rw [hH, hlo]; exact h
  rw [← hlo, ← hH]
  clear hH hlo
  refine lv_aload_n hx hb dX7_startWrite_0 rfl (lv_at hl 0 rfl) ?_
  refine lv_iconst (v := (1 : Int32)) hx hb dX7_startWrite_1 (by decide) ?_
  refine lv_iload_n hx hb dX7_startWrite_2 rfl (lv_at hl 1 rfl) ?_
  refine lv_aload_n hx hb dX7_startWrite_3 rfl (lv_at hl 2 rfl) ?_
  obtain ⟨r2, hy1, hf⟩ := ob_e hf
  refine xiG h (va_runV (As := []) (rest := [.int p1, .int (1 : Int32), .ref (q 0)]) hC (c_X4_span l G (sh 3 q) (sh 3 v) hy1 H.size) (xcwV hC lk_X7_44 in_X4 co_X4_span im_X4_span se_X4_span rfl rfl dd_X4_span ⟨Nat.le_of_ble_eq_true rfl, Nat.le_of_ble_eq_true rfl⟩) (preVO h.o 3 2 sWorkRow_3 (Nat.le_of_ble_eq_true rfl) (Nat.le_of_ble_eq_true rfl) eWorkRow_3 rfl []) rfl rfl hl.1 rfl (lv_room (Nat.le_of_ble_eq_true rfl)) dX7_startWrite_4 ⟨Nat.zero_le _, Nat.zero_le _⟩) (fun H locs h => ?_)
  refine lv_iload_n hx hb dX7_startWrite_7 rfl (lv_at hl 3 rfl) ?_
  refine lv_imul hx hb dX7_startWrite_8 ?_
  refine lv_iload hx hb dX7_startWrite_9 (lv_at hl 4 rfl) ?_
  obtain ⟨r4, hy3, hf⟩ := ob_e hf
  refine xvp h 3 sWorkRow_0 (Nat.le_of_ble_eq_true rfl) (va_runV (As := [.int (1 : Int32), .int p1, .int (r2 * p3), .int p4]) (rest := []) hC (c_X7_start l G q v (1 : Int32) p1 (r2 * p3) p4 hy3 H.size) (xcwV hC lk_X7_48 in_X7 co_X7_start im_X7_start se_X7_start rfl rfl dd_X7_start ⟨Nat.le_of_ble_eq_true rfl, Nat.le_of_ble_eq_true rfl⟩) (preVp h 3 sWorkRow_0 (Nat.le_of_ble_eq_true rfl) (Nat.le_of_ble_eq_true rfl) eWorkRow_0 rfl [.int (1 : Int32), .int p1, .int (r2 * p3), .int p4]) rfl rfl hl.1 rfl (lv_room (Nat.le_of_ble_eq_true rfl)) dX7_startWrite_11 ⟨Nat.zero_le _, Nat.zero_le _⟩) (fun H locs h => ?_)
  obtain ⟨v5, ev5, hf⟩ := lt_e hf
  rw [← ev5] at h
  refine lv_aload_n hx hb dX7_startWrite_14 rfl (lv_at hl 0 rfl) ?_
  refine lv_iload_n hx hb dX7_startWrite_15 rfl (lv_at hl 3 rfl) ?_
  refine xput hC h (C := RX7) (T := TX7) (N := 9) (wM_us uw_X7) tyX7_ok nmX7 0 (Nat.le_of_ble_eq_true rfl) eWorkRow_0 rfl 3 (by decide) (wM_in fl_X7_21) rfl (ty := .int) (tyX7_ok 3 (by decide)) rfl rfl (Nat.le_of_ble_eq_true rfl) (eWorkRow_0.trans rfl) dX7_startWrite_16 (fun H locs h => ?_)
  obtain ⟨v6, ev6, hf⟩ := lt_e hf
  rw [← ev6] at h
  refine lv_aload_n hx hb dX7_startWrite_19 rfl (lv_at hl 0 rfl) ?_
  refine xget hC h.o (C := RX7) (T := TX7) (N := 9) (wM_us uw_X7) 0 (Nat.le_of_ble_eq_true rfl) eWorkRow_0 rfl 8 (by decide) (wM_in fl_X7_40) rfl dX7_startWrite_20 ?_
  refine lv_aload_n hx hb dX7_startWrite_23 rfl (lv_at hl 2 rfl) ?_
  obtain ⟨r8, hy7, hf⟩ := ob_e hf
  refine xv2 h 1 2 3 2 (x2E1 sWorkRow_1 locRow) (x2E2 sWorkRow_3) (Nat.le_of_ble_eq_true rfl) (Nat.le_of_ble_eq_true rfl) (by omega) (va_runV (As := [.ref (q 3)]) (rest := []) hC (c_X4_become l G (ct 2 (sh 1 q) (sh 3 q)) (ct 2 (sh 1 v6) (sh 3 v6)) hy7 H.size) (xcwV hC lk_X7_52 in_X4 co_X4_become im_X4_become se_X4_become rfl rfl dd_X4_become ⟨Nat.le_of_ble_eq_true rfl, Nat.le_of_ble_eq_true rfl⟩) (preV2 h 1 2 3 2 (x2E1 sWorkRow_1 locRow) (x2E2 sWorkRow_3) (Nat.le_of_ble_eq_true rfl) (Nat.le_of_ble_eq_true rfl) (by omega) (Nat.le_of_ble_eq_true rfl) eWorkRow_1 rfl [.ref (q 3)]) rfl rfl hl.1 rfl (lv_room (Nat.le_of_ble_eq_true rfl)) dX7_startWrite_24 ⟨Nat.zero_le _, Nat.zero_le _⟩) (fun H locs h => ?_)
  obtain ⟨v9, ev9, hf⟩ := lt_e hf
  rw [← ev9] at h
  have hf := sm_e hf
  exact xvret hC hr hlk h hf dX7_startWrite_27
def m_X7_left (v : xSt) : Option (Int32) := some ((v 0 4) - (v 0 5))
set_option maxHeartbeats 4000000 in
set_option maxRecDepth 100000 in
theorem c_X7_left (l : Launch) (G : xGl) (q : Nat → Nat) (v : xSt) {z : (Int32)} (hf : m_X7_left v = some z) : mRO l yX7_left (wM yX7_left cX7_left 1 (some .int)) { frames := 0, cells := 0, slots := 0, locals := 0 } G (eWork G) 3 q v [.ref (q 0)] (qI z) := by
  refine xRO (cc := cX7_left) (maxL := 1) (ret := (some .int)) (by decide) rfl (Nat.le_of_ble_eq_true rfl) ?_
  intro p e s m below meth c ls A hC hr hlk h hl
  have hx := hC.1
  have hb := hC.2.1
  have hl : lv_has ls 1 [(0, .ref (q 0))] := hl
  unfold m_X7_left at hf
  obtain ⟨H, hH⟩ : ∃ H, H = s.heap := ⟨_, rfl⟩
  obtain ⟨locs, hlo⟩ : ∃ x : List Loc, x = [] := ⟨_, rfl⟩
  have h : ho G (eWork G) 3 q v A s H locs := by rw [hH, hlo]; exact h
  rw [← hlo, ← hH]
  clear hH hlo
  refine lv_aload_n hx hb dX7_left_0 rfl (lv_at hl 0 rfl) ?_
  refine xget hC h.o (C := RX7) (T := TX7) (N := 9) (wM_us uw_X7) 0 (Nat.le_of_ble_eq_true rfl) eWork_0 rfl 4 (by decide) (wM_in fl_X7_24) rfl dX7_left_1 ?_
  refine lv_aload_n hx hb dX7_left_4 rfl (lv_at hl 0 rfl) ?_
  refine xget hC h.o (C := RX7) (T := TX7) (N := 9) (wM_us uw_X7) 0 (Nat.le_of_ble_eq_true rfl) eWork_0 rfl 5 (by decide) (wM_in fl_X7_27) rfl dX7_left_5 ?_
  refine lv_isub hx hb dX7_left_8 ?_
  have hf := sm_e hf
  exact oiret hC hr hlk h (by rw [← hf]) dX7_left_9
def m_X7_concerns (v : xSt) (p1 : Int32) : Option (Int32) := (if (v 0 0) = (1 : Int32) then (if (p1 / (8 : Int32)) = ((v 0 1) / (8 : Int32)) then some (1 : Int32) else some (0 : Int32)) else lt (fun (_ : Unit) => some (0 : Int32)) (fun j2 => (if (v 0 0) = (2 : Int32) then (if (p1 / (32 : Int32)) = (v 0 1) then some (1 : Int32) else j2 ()) else j2 ())))
set_option maxHeartbeats 4000000 in
set_option maxRecDepth 100000 in
theorem c_X7_concerns (l : Launch) (G : xGl) (q : Nat → Nat) (v : xSt) (p1 : Int32) {z : (Int32)} (hf : m_X7_concerns v p1 = some z) : mRO l yX7_concerns (wM yX7_concerns cX7_concerns 2 (some .boolean)) { frames := 0, cells := 0, slots := 0, locals := 0 } G (eWork G) 3 q v [.ref (q 0), .int p1] (qZ z) := by
  refine xRO (cc := cX7_concerns) (maxL := 2) (ret := (some .boolean)) (by decide) rfl (Nat.le_of_ble_eq_true rfl) ?_
  intro p e s m below meth c ls A hC hr hlk h hl
  have hx := hC.1
  have hb := hC.2.1
  have hl : lv_has ls 2 [(0, .ref (q 0)), (1, .int p1)] := hl
  unfold m_X7_concerns at hf
  obtain ⟨H, hH⟩ : ∃ H, H = s.heap := ⟨_, rfl⟩
  obtain ⟨locs, hlo⟩ : ∃ x : List Loc, x = [] := ⟨_, rfl⟩
  have h : ho G (eWork G) 3 q v A s H locs := by rw [hH, hlo]; exact h
  rw [← hlo, ← hH]
  clear hH hlo
  refine lv_aload_n hx hb dX7_concerns_0 rfl (lv_at hl 0 rfl) ?_
  refine xget hC h.o (C := RX7) (T := TX7) (N := 9) (wM_us uw_X7) 0 (Nat.le_of_ble_eq_true rfl) eWork_0 rfl 0 (by decide) (wM_in fl_X7_9) rfl dX7_concerns_1 ?_
  refine lv_iconst (v := (1 : Int32)) hx hb dX7_concerns_4 (by decide) ?_
  refine lv_icmp_ne (tgt := 28) hx hb dX7_concerns_5 (by decide) (fun c1 => ?_) (fun c1 => ?_)
  · have hf := it_f c1 hf
    refine lv_aload_n hx hb dX7_concerns_28 rfl (lv_at hl 0 rfl) ?_
    refine xget hC h.o (C := RX7) (T := TX7) (N := 9) (wM_us uw_X7) 0 (Nat.le_of_ble_eq_true rfl) eWork_0 rfl 0 (by decide) (wM_in fl_X7_9) rfl dX7_concerns_29 ?_
    refine lv_iconst (v := (2 : Int32)) hx hb dX7_concerns_32 (by decide) ?_
    obtain ⟨j2, ej2, hf⟩ := lt_e hf
    have hj2 : ∀ (uu : Unit) (H : Heap) (locs : List Loc), ho G (eWork G) 3 q v A s H locs → ∀ (ls : Array Slot), lv_has ls 2 [] → j2 uu = some z → W p l e { frames := 0, cells := 0, slots := 0, locals := 0 } s m [.ref (q 0), .int p1].toArray below meth c H locs 0 0 (MQ below ((qZ z) (fun _ => True) A) [.ref (q 0), .int p1].toArray s 0 0 A) (F0 m 51 ls []) := by
      intro uu H locs h ls hl hf
      rw [ej2] at hf
      refine lv_iconst (v := (0 : Int32)) hx hb dX7_concerns_51 (by decide) ?_
      have hf := sm_e hf
      exact ozret hC hr hlk h (by rw [← hf]) (by decide) dX7_concerns_52
    refine lv_icmp_ne (tgt := 51) hx hb dX7_concerns_33 (by decide) (fun c3 => ?_) (fun c3 => ?_)
    · have hf := it_f c3 hf
      exact hj2 () H locs h ls (lv_sub hl [] rfl) hf
    · have hf := it_t c3 hf
      refine lv_iload_n hx hb dX7_concerns_36 rfl (lv_at hl 1 rfl) ?_
      refine lv_bipush (v := (32 : Int32)) hx hb dX7_concerns_37 (by decide) ?_
      refine lv_idiv hx hb dX7_concerns_39 (by decide) ?_
      refine lv_aload_n hx hb dX7_concerns_40 rfl (lv_at hl 0 rfl) ?_
      refine xget hC h.o (C := RX7) (T := TX7) (N := 9) (wM_us uw_X7) 0 (Nat.le_of_ble_eq_true rfl) eWork_0 rfl 1 (by decide) (wM_in fl_X7_15) rfl dX7_concerns_41 ?_
      refine lv_icmp_ne (tgt := 51) hx hb dX7_concerns_44 (by decide) (fun c4 => ?_) (fun c4 => ?_)
      · have hf := it_f c4 hf
        exact hj2 () H locs h ls (lv_sub hl [] rfl) hf
      · have hf := it_t c4 hf
        refine lv_iconst (v := (1 : Int32)) hx hb dX7_concerns_47 (by decide) ?_
        refine lv_goto (tgt := 52) hx hb dX7_concerns_48 (by decide) ?_
        have hf := sm_e hf
        exact ozret hC hr hlk h (by rw [← hf]) (by decide) dX7_concerns_52
  · have hf := it_t c1 hf
    refine lv_iload_n hx hb dX7_concerns_8 rfl (lv_at hl 1 rfl) ?_
    refine lv_bipush (v := (8 : Int32)) hx hb dX7_concerns_9 (by decide) ?_
    refine lv_idiv hx hb dX7_concerns_11 (by decide) ?_
    refine lv_aload_n hx hb dX7_concerns_12 rfl (lv_at hl 0 rfl) ?_
    refine xget hC h.o (C := RX7) (T := TX7) (N := 9) (wM_us uw_X7) 0 (Nat.le_of_ble_eq_true rfl) eWork_0 rfl 1 (by decide) (wM_in fl_X7_15) rfl dX7_concerns_13 ?_
    refine lv_bipush (v := (8 : Int32)) hx hb dX7_concerns_16 (by decide) ?_
    refine lv_idiv hx hb dX7_concerns_18 (by decide) ?_
    refine lv_icmp_ne (tgt := 26) hx hb dX7_concerns_19 (by decide) (fun c5 => ?_) (fun c5 => ?_)
    · have hf := it_f c5 hf
      refine lv_iconst (v := (0 : Int32)) hx hb dX7_concerns_26 (by decide) ?_
      have hf := sm_e hf
      exact ozret hC hr hlk h (by rw [← hf]) (by decide) dX7_concerns_27
    · have hf := it_t c5 hf
      refine lv_iconst (v := (1 : Int32)) hx hb dX7_concerns_22 (by decide) ?_
      refine lv_goto (tgt := 27) hx hb dX7_concerns_23 (by decide) ?_
      have hf := sm_e hf
      exact ozret hC hr hlk h (by rw [← hf]) (by decide) dX7_concerns_27
