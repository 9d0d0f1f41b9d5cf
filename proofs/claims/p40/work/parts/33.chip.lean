def m_X8_dropOldest (v : xSt) : Option xSt := lp (fun (rec3 : Int32 × xSt → Option xSt) => un2 (fun (a1 : Int32) (v2 : xSt) => (if (6 : Int32) ≤ (a1 + (1 : Int32)) then lt (st2 v2 0 5 ((v2 0 5) - (1 : Int32))) (fun v5 => some v5) else ck (¬ (a1 < 0 ∨ 6 ≤ a1.toNatClampNeg)) (lt ((v2 1 a1.toNatClampNeg).toNatClampNeg) (fun k7 => ck (k7 < 6) (ck (¬ ((a1 + (1 : Int32)) < 0 ∨ 6 ≤ (a1 + (1 : Int32)).toNatClampNeg)) (lt ((v2 1 (a1 + (1 : Int32)).toNatClampNeg).toNatClampNeg) (fun k10 => ck (k10 < 6) (ck (¬ (a1 < 0 ∨ 6 ≤ a1.toNatClampNeg)) (lt (st2 v2 1 a1.toNatClampNeg (nI k10)) (fun v13 => ck (¬ ((a1 + (1 : Int32)) < 0 ∨ 6 ≤ (a1 + (1 : Int32)).toNatClampNeg)) (lt (st2 v13 1 (a1 + (1 : Int32)).toNatClampNeg (nI k7)) (fun v15 => rec3 ((a1 + 1), v15)))))))))))))) xF ((0 : Int32), v)
set_option maxHeartbeats 4000000 in
set_option maxRecDepth 100000 in
theorem c_X8_dropOldest (l : Launch) (G : xGl) (q : Nat → Nat) (v : xSt) {z : xSt} (hf : m_X8_dropOldest v = some z) : mRW l yX8_dropOldest (wM yX8_dropOldest cX8_dropOldest 3 none) { frames := 0, cells := 0, slots := 0, locals := 0 } G (eBC G) 430 q v [.ref (q 0)] qV z := by
  refine xRW (cc := cX8_dropOldest) (maxL := 3) (ret := none) (by decide) rfl (Nat.le_of_ble_eq_true rfl) ?_
  intro p e s m below meth c ls A hC hr hlk h hl
  have hx := hC.1
  have hb := hC.2.1
  have hl : lv_has ls 3 [(0, .ref (q 0))] := hl
  unfold m_X8_dropOldest at hf
  obtain ⟨H, hH⟩ : ∃ H, H = s.heap := ⟨_, rfl⟩
  obtain ⟨locs, hlo⟩ : ∃ x : List Loc, x = [] := ⟨_, rfl⟩
  have h : hg G (eBC G) 430 q v A s H locs := by rw [hH, hlo]; exact h
  rw [← hlo, ← hH]
  clear hH hlo
  refine lv_iconst (v := (0 : Int32)) hx hb dX8_dropOldest_0 (by decide) ?_
  refine lv_istore_n (lv' := [(1, .int (0 : Int32)), (0, .ref (q 0))]) hx hb dX8_dropOldest_1 rfl hl (by decide) rfl (fun ls hl => ?_)
  refine lp_i (z := z) (P := fun (pp : Int32 × xSt) => ∀ (H : Heap) (locs : List Loc), hg G (eBC G) 430 q pp.2 A s H locs → ∀ (ls : Array Slot), lv_has ls 3 [(0, .ref (q 0)), (1, .int pp.1)] → W p l e { frames := 0, cells := 0, slots := 0, locals := 0 } s m [.ref (q 0)].toArray below meth c H locs 0 0 (MQ below (qV (cB G (eBC G) 430 q z A) A) [.ref (q 0)].toArray s 0 0 A) (F0 m 2 ls [])) ?_ _ _ hf H locs h ls (lv_sub hl [1, 0] rfl)
  intro rec3 hrec3 pp hf H locs h ls hl
  obtain ⟨a1, v2⟩ := pp
  have h : hg G (eBC G) 430 q v2 A s H locs := h
  have hl : lv_has ls 3 [(0, .ref (q 0)), (1, .int a1)] := hl
  have hf := un2_e hf
  refine lv_iload_n hx hb dX8_dropOldest_2 rfl (lv_at hl 1 rfl) ?_
  refine lv_iconst (v := (1 : Int32)) hx hb dX8_dropOldest_3 (by decide) ?_
  refine lv_iadd hx hb dX8_dropOldest_4 ?_
  refine lv_aload_n hx hb dX8_dropOldest_5 rfl (lv_at hl 0 rfl) ?_
  refine xget hC h.o (C := RX8) (T := TX8) (N := 10) (wM_us uw_X8) 0 (Nat.le_of_ble_eq_true rfl) eBC_0 rfl 4 (by decide) (wM_in fl_X8_26) rfl dX8_dropOldest_6 ?_
  refine xalen hC h.o 3 rfl 1 (Nat.le_of_ble_eq_true rfl) eBC_1 (z := (6 : Int32)) rfl dX8_dropOldest_9 ?_
  refine lv_icmp_ge (tgt := 49) hx hb dX8_dropOldest_10 (by decide) (fun c4 => ?_) (fun c4 => ?_)
  · have hf := it_t c4 hf
    refine lv_aload_n hx hb dX8_dropOldest_49 rfl (lv_at hl 0 rfl) ?_
    refine lv_dup hx hb dX8_dropOldest_50 rfl ?_
    refine xget hC h.o (C := RX8) (T := TX8) (N := 10) (wM_us uw_X8) 0 (Nat.le_of_ble_eq_true rfl) eBC_0 rfl 5 (by decide) (wM_in fl_X8_30) rfl dX8_dropOldest_51 ?_
    refine lv_iconst (v := (1 : Int32)) hx hb dX8_dropOldest_54 (by decide) ?_
    refine lv_isub hx hb dX8_dropOldest_55 ?_
    refine xput hC h (C := RX8) (T := TX8) (N := 10) (wM_us uw_X8) tyX8_ok nmX8 0 (Nat.le_of_ble_eq_true rfl) eBC_0 rfl 5 (by decide) (wM_in fl_X8_30) rfl (ty := .int) (tyX8_ok 5 (by decide)) rfl rfl (Nat.le_of_ble_eq_true rfl) (eBC_0.trans rfl) dX8_dropOldest_56 (fun H locs h => ?_)
    obtain ⟨v5, ev5, hf⟩ := lt_e hf
    rw [← ev5] at h
    have hf := sm_e hf
    exact xvret hC hr hlk h hf dX8_dropOldest_59
  · have hf := it_f c4 hf
    refine lv_aload_n hx hb dX8_dropOldest_13 rfl (lv_at hl 0 rfl) ?_
    refine xget hC h.o (C := RX8) (T := TX8) (N := 10) (wM_us uw_X8) 0 (Nat.le_of_ble_eq_true rfl) eBC_0 rfl 4 (by decide) (wM_in fl_X8_26) rfl dX8_dropOldest_14 ?_
    refine lv_iload_n hx hb dX8_dropOldest_17 rfl (lv_at hl 1 rfl) ?_
    obtain ⟨hi6, hf⟩ := ck_e hf
    obtain ⟨k7, ek7, hf⟩ := lt_e hf
    obtain ⟨hk8, hf⟩ := ck_e hf
    refine xalds (B := fun k => 148 + 47 * k) hC h.o 1 (Nat.le_of_ble_eq_true rfl) eBC_1 hi6 ek7 hk8 dX8_dropOldest_18 ?_
    refine lv_astore_n (lv' := [(2, .ref (q (148 + 47 * k7))), (0, .ref (q 0)), (1, .int a1)]) hx hb dX8_dropOldest_19 rfl hl (by decide) rfl (fun ls hl => ?_)
    refine lv_aload_n hx hb dX8_dropOldest_20 rfl (lv_at hl 1 rfl) ?_
    refine xget hC h.o (C := RX8) (T := TX8) (N := 10) (wM_us uw_X8) 0 (Nat.le_of_ble_eq_true rfl) eBC_0 rfl 4 (by decide) (wM_in fl_X8_26) rfl dX8_dropOldest_21 ?_
    refine lv_iload_n hx hb dX8_dropOldest_24 rfl (lv_at hl 2 rfl) ?_
    refine lv_aload_n hx hb dX8_dropOldest_25 rfl (lv_at hl 1 rfl) ?_
    refine xget hC h.o (C := RX8) (T := TX8) (N := 10) (wM_us uw_X8) 0 (Nat.le_of_ble_eq_true rfl) eBC_0 rfl 4 (by decide) (wM_in fl_X8_26) rfl dX8_dropOldest_26 ?_
    refine lv_iload_n hx hb dX8_dropOldest_29 rfl (lv_at hl 2 rfl) ?_
    refine lv_iconst (v := (1 : Int32)) hx hb dX8_dropOldest_30 (by decide) ?_
    refine lv_iadd hx hb dX8_dropOldest_31 ?_
    obtain ⟨hi9, hf⟩ := ck_e hf
    obtain ⟨k10, ek10, hf⟩ := lt_e hf
    obtain ⟨hk11, hf⟩ := ck_e hf
    refine xalds (B := fun k => 148 + 47 * k) hC h.o 1 (Nat.le_of_ble_eq_true rfl) eBC_1 hi9 ek10 hk11 dX8_dropOldest_32 ?_
    obtain ⟨hi12, hf⟩ := ck_e hf
    refine xasts (B := fun k => 148 + 47 * k) hC h 1 (Nat.le_of_ble_eq_true rfl) (fun _ => eBC_1) hk11 (by omega) (eBC_sav hk11) hi12 dX8_dropOldest_33 (fun H locs h => ?_)
    obtain ⟨v13, ev13, hf⟩ := lt_e hf
    rw [← ev13] at h
    refine lv_aload_n hx hb dX8_dropOldest_34 rfl (lv_at hl 1 rfl) ?_
    refine xget hC h.o (C := RX8) (T := TX8) (N := 10) (wM_us uw_X8) 0 (Nat.le_of_ble_eq_true rfl) eBC_0 rfl 4 (by decide) (wM_in fl_X8_26) rfl dX8_dropOldest_35 ?_
    refine lv_iload_n hx hb dX8_dropOldest_38 rfl (lv_at hl 2 rfl) ?_
    refine lv_iconst (v := (1 : Int32)) hx hb dX8_dropOldest_39 (by decide) ?_
    refine lv_iadd hx hb dX8_dropOldest_40 ?_
    refine lv_aload_n hx hb dX8_dropOldest_41 rfl (lv_at hl 0 rfl) ?_
    obtain ⟨hi14, hf⟩ := ck_e hf
    refine xasts (B := fun k => 148 + 47 * k) hC h 1 (Nat.le_of_ble_eq_true rfl) (fun _ => eBC_1) hk8 (by omega) (eBC_sav hk8) hi14 dX8_dropOldest_42 (fun H locs h => ?_)
    obtain ⟨v15, ev15, hf⟩ := lt_e hf
    rw [← ev15] at h
    refine lv_iinc (v := (a1 + 1)) (lv' := [(1, .int (a1 + 1)), (2, .ref (q (148 + 47 * k7))), (0, .ref (q 0))]) hx hb dX8_dropOldest_43 hl (k := 2) rfl rfl (by decide) rfl (fun ls hl => ?_)
    refine lv_goto (tgt := 2) hx hb dX8_dropOldest_46 (by decide) ?_
    exact hrec3 ((a1 + 1), v15) hf H locs h ls (lv_sub hl [2, 0] rfl)
def m_X8_save (v : xSt) : Option xSt := lt (fun (v1 : xSt) => (if (xwi (v1 0 5) (0 : Int32) ((6 : Int32) - (1 : Int32))) = 0 then some v1 else ck (¬ ((v1 0 5) < 0 ∨ 6 ≤ (v1 0 5).toNatClampNeg)) (lt ((v1 1 (v1 0 5).toNatClampNeg).toNatClampNeg) (fun k6 => ck (k6 < 6) (ob (m_X6_become (ct 47 (sh (148 + 47 * k6) v1) (sh 7 v1))) (fun r9 => lt (pu 7 47 (pu (148 + 47 * k6) 47 v1 r9) (sh 47 r9)) (fun v10 => lt (st2 v10 0 5 ((v10 0 5) + (1 : Int32))) (fun v11 => some v11)))))))) (fun j2 => (if (v 0 5) < (6 : Int32) then j2 v else ob (m_X8_dropOldest v) (fun r14 => j2 r14)))
set_option maxHeartbeats 4000000 in
set_option maxRecDepth 100000 in
theorem c_X8_save (l : Launch) (G : xGl) (q : Nat → Nat) (v : xSt) {z : xSt} (hf : m_X8_save v = some z) : mRW l yX8_save (wM yX8_save cX8_save 2 none) { frames := 5, cells := 0, slots := 0, locals := 147 } G (eBC G) 430 q v [.ref (q 0)] qV z := by
  refine xRW (cc := cX8_save) (maxL := 2) (ret := none) (by decide) rfl (Nat.le_of_ble_eq_true rfl) ?_
  intro p e s m below meth c ls A hC hr hlk h hl
  have hx := hC.1
  have hb := hC.2.1
  have hl : lv_has ls 2 [(0, .ref (q 0))] := hl
  unfold m_X8_save at hf
  obtain ⟨H, hH⟩ : ∃ H, H = s.heap := ⟨_, rfl⟩
  obtain ⟨locs, hlo⟩ : ∃ x : List Loc, x = [] := ⟨_, rfl⟩
  have h : hg G (eBC G) 430 q v A s H locs := by rw [hH, hlo]; exact h
  rw [← hlo, ← hH]
  clear hH hlo
  refine lv_aload_n hx hb dX8_save_0 rfl (lv_at hl 0 rfl) ?_
  refine xget hC h.o (C := RX8) (T := TX8) (N := 10) (wM_us uw_X8) 0 (Nat.le_of_ble_eq_true rfl) eBC_0 rfl 5 (by decide) (wM_in fl_X8_30) rfl dX8_save_1 ?_
  refine lv_bipush (v := (6 : Int32)) hx hb dX8_save_4 (by decide) ?_
  obtain ⟨j2, ej2, hf⟩ := lt_e hf
  have hj2 : ∀ (v1 : xSt) (H : Heap) (locs : List Loc), hg G (eBC G) 430 q v1 A s H locs → ∀ (ls : Array Slot), lv_has ls 2 [(0, .ref (q 0))] → j2 v1 = some z → W p l e { frames := 5, cells := 0, slots := 0, locals := 147 } s m [.ref (q 0)].toArray below meth c H locs 0 0 (MQ below (qV (cB G (eBC G) 430 q z A) A) [.ref (q 0)].toArray s 0 0 A) (F0 m 13 ls []) := by
    intro v1 H locs h ls hl hf
    rw [ej2] at hf
    refine lv_aload_n hx hb dX8_save_13 rfl (lv_at hl 0 rfl) ?_
    refine xget hC h.o (C := RX8) (T := TX8) (N := 10) (wM_us uw_X8) 0 (Nat.le_of_ble_eq_true rfl) eBC_0 rfl 5 (by decide) (wM_in fl_X8_30) rfl dX8_save_14 ?_
    refine lv_iconst (v := (0 : Int32)) hx hb dX8_save_17 (by decide) ?_
    refine lv_aload_n hx hb dX8_save_18 rfl (lv_at hl 0 rfl) ?_
    refine xget hC h.o (C := RX8) (T := TX8) (N := 10) (wM_us uw_X8) 0 (Nat.le_of_ble_eq_true rfl) eBC_0 rfl 4 (by decide) (wM_in fl_X8_26) rfl dX8_save_19 ?_
    refine xalen hC h.o 3 rfl 1 (Nat.le_of_ble_eq_true rfl) eBC_1 (z := (6 : Int32)) rfl dX8_save_22 ?_
    refine lv_iconst (v := (1 : Int32)) hx hb dX8_save_23 (by decide) ?_
    refine lv_isub hx hb dX8_save_24 ?_
    refine xzG h (va_runS (As := [.int (v1 0 5), .int (0 : Int32), .int ((6 : Int32) - (1 : Int32))]) (rest := []) hC (k_X8_isWithin l G q v1 (v1 0 5) (0 : Int32) ((6 : Int32) - (1 : Int32)) H.size) (xcwS hC lk_X8_69 in_X8 co_X8_isWithin st_X8_isWithin rfl rfl dd_X8_isWithin ⟨Nat.le_of_ble_eq_true rfl, Nat.le_of_ble_eq_true rfl⟩) (preSN h.o [.int (v1 0 5), .int (0 : Int32), .int ((6 : Int32) - (1 : Int32))]) rfl rfl hl.1 rfl (lv_room (Nat.le_of_ble_eq_true rfl)) dX8_save_25 ⟨Nat.zero_le _, Nat.zero_le _⟩) (fun H locs hz3 h => ?_)
    refine lv_if_eq (tgt := 43) hx hb dX8_save_28 (by decide) (fun c4 => ?_) (fun c4 => ?_)
    · have hf := it_t c4 hf
      refine lv_null hx hb dX8_save_43 ?_
      refine lv_astore_nN (lv' := [(1, .null), (0, .ref (q 0))]) hx hb dX8_save_44 rfl hl (by decide) rfl (fun ls hl => ?_)
      refine lv_aload_nN hx hb dX8_save_45 rfl (lv_at hl 0 rfl) ?_
      refine lv_ifnullN (tgt := 67) hx hb dX8_save_46 (by decide) ?_
      have hf := sm_e hf
      exact xvret hC hr hlk h hf dX8_save_67
    · have hf := it_f c4 hf
      refine lv_aload_n hx hb dX8_save_31 rfl (lv_at hl 0 rfl) ?_
      refine xget hC h.o (C := RX8) (T := TX8) (N := 10) (wM_us uw_X8) 0 (Nat.le_of_ble_eq_true rfl) eBC_0 rfl 4 (by decide) (wM_in fl_X8_26) rfl dX8_save_32 ?_
      refine lv_aload_n hx hb dX8_save_35 rfl (lv_at hl 0 rfl) ?_
      refine xget hC h.o (C := RX8) (T := TX8) (N := 10) (wM_us uw_X8) 0 (Nat.le_of_ble_eq_true rfl) eBC_0 rfl 5 (by decide) (wM_in fl_X8_30) rfl dX8_save_36 ?_
      obtain ⟨hi5, hf⟩ := ck_e hf
      obtain ⟨k6, ek6, hf⟩ := lt_e hf
      obtain ⟨hk7, hf⟩ := ck_e hf
      refine xalds (B := fun k => 148 + 47 * k) hC h.o 1 (Nat.le_of_ble_eq_true rfl) eBC_1 hi5 ek6 hk7 dX8_save_39 ?_
      refine lv_goto (tgt := 44) hx hb dX8_save_40 (by decide) ?_
      refine lv_astore_n (lv' := [(1, .ref (q (148 + 47 * k6))), (0, .ref (q 0))]) hx hb dX8_save_44 rfl hl (by decide) rfl (fun ls hl => ?_)
      refine lv_aload_n hx hb dX8_save_45 rfl (lv_at hl 0 rfl) ?_
      refine lv_ifnull hx hb dX8_save_46 ?_
      refine lv_aload_n hx hb dX8_save_49 rfl (lv_at hl 0 rfl) ?_
      refine lv_aload_n hx hb dX8_save_50 rfl (lv_at hl 1 rfl) ?_
      refine xget hC h.o (C := RX8) (T := TX8) (N := 10) (wM_us uw_X8) 0 (Nat.le_of_ble_eq_true rfl) eBC_0 rfl 0 (by decide) (wM_in fl_X8_10) rfl dX8_save_51 ?_
      obtain ⟨r9, hy8, hf⟩ := ob_e hf
      refine xv2 h (148 + 47 * k6) 47 7 47 (x2E1 (sBC_sav hk7) locState) (x2E2 sBC_7) (by omega) (Nat.le_of_ble_eq_true rfl) (by omega) (va_runV (As := [.ref (q 7)]) (rest := []) hC (c_X6_become l G (ct 47 (sh (148 + 47 * k6) q) (sh 7 q)) (ct 47 (sh (148 + 47 * k6) v1) (sh 7 v1)) hy8 H.size) (xcwV hC lk_X8_261 in_X6 co_X6_become im_X6_become se_X6_become rfl rfl dd_X6_become ⟨Nat.le_of_ble_eq_true rfl, Nat.le_of_ble_eq_true rfl⟩) (preV2 h (148 + 47 * k6) 47 7 47 (x2E1 (sBC_sav hk7) locState) (x2E2 sBC_7) (by omega) (Nat.le_of_ble_eq_true rfl) (by omega) (by omega) (eBC_sav hk7) rfl [.ref (q 7)]) rfl rfl hl.1 rfl (lv_room (Nat.le_of_ble_eq_true rfl)) dX8_save_54 ⟨Nat.zero_le _, Nat.zero_le _⟩) (fun H locs h => ?_)
      obtain ⟨v10, ev10, hf⟩ := lt_e hf
      rw [← ev10] at h
      refine lv_aload_n hx hb dX8_save_57 rfl (lv_at hl 1 rfl) ?_
      refine lv_dup hx hb dX8_save_58 rfl ?_
      refine xget hC h.o (C := RX8) (T := TX8) (N := 10) (wM_us uw_X8) 0 (Nat.le_of_ble_eq_true rfl) eBC_0 rfl 5 (by decide) (wM_in fl_X8_30) rfl dX8_save_59 ?_
      refine lv_iconst (v := (1 : Int32)) hx hb dX8_save_62 (by decide) ?_
      refine lv_iadd hx hb dX8_save_63 ?_
      refine xput hC h (C := RX8) (T := TX8) (N := 10) (wM_us uw_X8) tyX8_ok nmX8 0 (Nat.le_of_ble_eq_true rfl) eBC_0 rfl 5 (by decide) (wM_in fl_X8_30) rfl (ty := .int) (tyX8_ok 5 (by decide)) rfl rfl (Nat.le_of_ble_eq_true rfl) (eBC_0.trans rfl) dX8_save_64 (fun H locs h => ?_)
      obtain ⟨v11, ev11, hf⟩ := lt_e hf
      rw [← ev11] at h
      have hf := sm_e hf
      exact xvret hC hr hlk h hf dX8_save_67
  refine lv_icmp_lt (tgt := 13) hx hb dX8_save_6 (by decide) (fun c12 => ?_) (fun c12 => ?_)
  · have hf := it_t c12 hf
    exact hj2 v H locs h ls (lv_sub hl [0] rfl) hf
  · have hf := it_f c12 hf
    refine lv_aload_n hx hb dX8_save_9 rfl (lv_at hl 0 rfl) ?_
    obtain ⟨r14, hy13, hf⟩ := ob_e hf
    refine xv0 h (va_runV (As := []) (rest := []) hC (c_X8_dropOldest l G q v hy13 H.size) (xcwV hC lk_X8_469 in_X8 co_X8_dropOldest im_X8_dropOldest se_X8_dropOldest rfl rfl dd_X8_dropOldest ⟨Nat.le_of_ble_eq_true rfl, Nat.le_of_ble_eq_true rfl⟩) (preV0 h (Nat.le_of_ble_eq_true rfl) eBC_0 rfl []) rfl rfl hl.1 rfl (lv_room (Nat.le_of_ble_eq_true rfl)) dX8_save_10 ⟨Nat.zero_le _, Nat.zero_le _⟩) (fun H locs h => ?_)
    exact hj2 r14 H locs h ls (lv_sub hl [0] rfl) hf
def m_X8_cut (v : xSt) : Option (Int32 × xSt) := ob (m_X8_save v) (fun r2 => ob (m_X6_losePower (sh 7 r2)) (fun r4 => lt (pu 7 47 r2 r4.2) (fun v5 => some (r4.1, v5))))
set_option maxHeartbeats 4000000 in
set_option maxRecDepth 100000 in
theorem c_X8_cut (l : Launch) (G : xGl) (q : Nat → Nat) (v : xSt) {z : (Int32 × xSt)} (hf : m_X8_cut v = some z) : mRW l yX8_cut (wM yX8_cut cX8_cut 1 (some .int)) { frames := 6, cells := 0, slots := 0, locals := 168 } G (eBC G) 430 q v [.ref (q 0)] (qI z.1) z.2 := by
  refine xRW (cc := cX8_cut) (maxL := 1) (ret := (some .int)) (by decide) rfl (Nat.le_of_ble_eq_true rfl) ?_
  intro p e s m below meth c ls A hC hr hlk h hl
  have hx := hC.1
  have hb := hC.2.1
  have hl : lv_has ls 1 [(0, .ref (q 0))] := hl
  unfold m_X8_cut at hf
  obtain ⟨H, hH⟩ : ∃ H, H = s.heap := ⟨_, rfl⟩
  obtain ⟨locs, hlo⟩ : ∃ x : List Loc, x = [] := ⟨_, rfl⟩
  have h : hg G (eBC G) 430 q v A s H locs := by rw [hH, hlo]; exact h
  rw [← hlo, ← hH]
  clear hH hlo
  refine lv_aload_n hx hb dX8_cut_0 rfl (lv_at hl 0 rfl) ?_
  obtain ⟨r2, hy1, hf⟩ := ob_e hf
  refine xv0 h (va_runV (As := []) (rest := []) hC (c_X8_save l G q v hy1 H.size) (xcwV hC lk_X8_63 in_X8 co_X8_save im_X8_save se_X8_save rfl rfl dd_X8_save ⟨Nat.le_of_ble_eq_true rfl, Nat.le_of_ble_eq_true rfl⟩) (preV0 h (Nat.le_of_ble_eq_true rfl) eBC_0 rfl []) rfl rfl hl.1 rfl (lv_room (Nat.le_of_ble_eq_true rfl)) dX8_cut_1 ⟨Nat.zero_le _, Nat.zero_le _⟩) (fun H locs h => ?_)
  refine lv_aload_n hx hb dX8_cut_4 rfl (lv_at hl 0 rfl) ?_
  refine xget hC h.o (C := RX8) (T := TX8) (N := 10) (wM_us uw_X8) 0 (Nat.le_of_ble_eq_true rfl) eBC_0 rfl 0 (by decide) (wM_in fl_X8_10) rfl dX8_cut_5 ?_
  obtain ⟨r4, hy3, hf⟩ := ob_e hf
  refine xi1 h 7 47 sBC_7 (Nat.le_of_ble_eq_true rfl) (va_runV (As := []) (rest := []) hC (c_X6_losePower l G (sh 7 q) (sh 7 r2) hy3 H.size) (xcwV hC lk_X8_173 in_X6 co_X6_losePower im_X6_losePower se_X6_losePower rfl rfl dd_X6_losePower ⟨Nat.le_of_ble_eq_true rfl, Nat.le_of_ble_eq_true rfl⟩) (preV1 h 7 47 sBC_7 (Nat.le_of_ble_eq_true rfl) (Nat.le_of_ble_eq_true rfl) eBC_7 rfl []) rfl rfl hl.1 rfl (lv_room (Nat.le_of_ble_eq_true rfl)) dX8_cut_8 ⟨Nat.zero_le _, Nat.zero_le _⟩) (fun H locs h => ?_)
  obtain ⟨v5, ev5, hf⟩ := lt_e hf
  rw [← ev5] at h
  have hf := sm_e hf
  exact xiret hC hr hlk h (by rw [← hf]) (by rw [← hf]) dX8_cut_11
def m_X8_clearBuffer (v : xSt) : Option (Int32 × xSt) := lt (st2 v 0 7 (0 : Int32)) (fun v1 => some ((v 0 7), v1))
set_option maxHeartbeats 4000000 in
set_option maxRecDepth 100000 in
theorem c_X8_clearBuffer (l : Launch) (G : xGl) (q : Nat → Nat) (v : xSt) {z : (Int32 × xSt)} (hf : m_X8_clearBuffer v = some z) : mRW l yX8_clearBuffer (wM yX8_clearBuffer cX8_clearBuffer 2 (some .int)) { frames := 0, cells := 0, slots := 0, locals := 0 } G (eBC G) 430 q v [.ref (q 0)] (qI z.1) z.2 := by
  refine xRW (cc := cX8_clearBuffer) (maxL := 2) (ret := (some .int)) (by decide) rfl (Nat.le_of_ble_eq_true rfl) ?_
  intro p e s m below meth c ls A hC hr hlk h hl
  have hx := hC.1
  have hb := hC.2.1
  have hl : lv_has ls 2 [(0, .ref (q 0))] := hl
  unfold m_X8_clearBuffer at hf
  obtain ⟨H, hH⟩ : ∃ H, H = s.heap := ⟨_, rfl⟩
  obtain ⟨locs, hlo⟩ : ∃ x : List Loc, x = [] := ⟨_, rfl⟩
  have h : hg G (eBC G) 430 q v A s H locs := by rw [hH, hlo]; exact h
  rw [← hlo, ← hH]
  clear hH hlo
  refine lv_aload_n hx hb dX8_clearBuffer_0 rfl (lv_at hl 0 rfl) ?_
  refine xget hC h.o (C := RX8) (T := TX8) (N := 10) (wM_us uw_X8) 0 (Nat.le_of_ble_eq_true rfl) eBC_0 rfl 7 (by decide) (wM_in fl_X8_38) rfl dX8_clearBuffer_1 ?_
  refine lv_istore_n (lv' := [(1, .int (v 0 7)), (0, .ref (q 0))]) hx hb dX8_clearBuffer_4 rfl hl (by decide) rfl (fun ls hl => ?_)
  refine lv_aload_n hx hb dX8_clearBuffer_5 rfl (lv_at hl 1 rfl) ?_
  refine lv_iconst (v := (0 : Int32)) hx hb dX8_clearBuffer_6 (by decide) ?_
  refine xput hC h (C := RX8) (T := TX8) (N := 10) (wM_us uw_X8) tyX8_ok nmX8 0 (Nat.le_of_ble_eq_true rfl) eBC_0 rfl 7 (by decide) (wM_in fl_X8_38) rfl (ty := .int) (tyX8_ok 7 (by decide)) rfl rfl (Nat.le_of_ble_eq_true rfl) (eBC_0.trans rfl) dX8_clearBuffer_7 (fun H locs h => ?_)
  obtain ⟨v1, ev1, hf⟩ := lt_e hf
  rw [← ev1] at h
  refine lv_iload_n hx hb dX8_clearBuffer_10 rfl (lv_at hl 0 rfl) ?_
  have hf := sm_e hf
  exact xiret hC hr hlk h (by rw [← hf]) (by rw [← hf]) dX8_clearBuffer_11
def m_X8_firstError (v : xSt) : Option (Int32 × xSt) := ob (m_X5_start (sh 3 v)) (fun r2 => lt (pu 3 3 v r2) (fun v3 => lp (fun (rec6 : Int32 × xSt → Option (Int32 × xSt)) => un2 (fun (a4 : Int32) (v5 : xSt) => lt (fun (_ : Unit) => some ((v5 0 7), v5)) (fun j7 => (if (v5 0 7) ≤ a4 then j7 () else (if (60 : Int32) ≤ a4 then j7 () else ck (¬ (a4 < 0 ∨ 60 ≤ a4.toNatClampNeg)) (ob (m_X5_goesOnWith (sh 3 v5) (v5 2 a4.toNatClampNeg)) (fun r12 => lt (pu 3 3 v5 r12.2) (fun v14 => (if r12.1 = 0 then some (a4, v14) else rec6 ((a4 + 1), v14)))))))))) xF ((0 : Int32), v3)))
set_option maxHeartbeats 4000000 in
set_option maxRecDepth 100000 in
theorem c_X8_firstError (l : Launch) (G : xGl) (q : Nat → Nat) (v : xSt) {z : (Int32 × xSt)} (hf : m_X8_firstError v = some z) : mRW l yX8_firstError (wM yX8_firstError cX8_firstError 2 (some .int)) { frames := 4, cells := 0, slots := 0, locals := 85 } G (eBC G) 430 q v [.ref (q 0)] (qI z.1) z.2 := by
  refine xRW (cc := cX8_firstError) (maxL := 2) (ret := (some .int)) (by decide) rfl (Nat.le_of_ble_eq_true rfl) ?_
  intro p e s m below meth c ls A hC hr hlk h hl
  have hx := hC.1
  have hb := hC.2.1
  have hl : lv_has ls 2 [(0, .ref (q 0))] := hl
  unfold m_X8_firstError at hf
  obtain ⟨H, hH⟩ : ∃ H, H = s.heap := ⟨_, rfl⟩
  obtain ⟨locs, hlo⟩ : ∃ x : List Loc, x = [] := ⟨_, rfl⟩
  have h : hg G (eBC G) 430 q v A s H locs := by rw [hH, hlo]; exact h
  rw [← hlo, ← hH]
  clear hH hlo
  refine lv_aload_n hx hb dX8_firstError_0 rfl (lv_at hl 0 rfl) ?_
  refine xget hC h.o (C := RX8) (T := TX8) (N := 10) (wM_us uw_X8) 0 (Nat.le_of_ble_eq_true rfl) eBC_0 rfl 8 (by decide) (wM_in fl_X8_44) rfl dX8_firstError_1 ?_
  obtain ⟨r2, hy1, hf⟩ := ob_e hf
  refine xv1 h 3 3 sBC_3 (Nat.le_of_ble_eq_true rfl) (va_runV (As := []) (rest := []) hC (c_X5_start l G (sh 3 q) (sh 3 v) hy1 H.size) (xcwV hC lk_X8_244 in_X5 co_X5_start im_X5_start se_X5_start rfl rfl dd_X5_start ⟨Nat.le_of_ble_eq_true rfl, Nat.le_of_ble_eq_true rfl⟩) (preV1 h 3 3 sBC_3 (Nat.le_of_ble_eq_true rfl) (Nat.le_of_ble_eq_true rfl) eBC_3 rfl []) rfl rfl hl.1 rfl (lv_room (Nat.le_of_ble_eq_true rfl)) dX8_firstError_4 ⟨Nat.zero_le _, Nat.zero_le _⟩) (fun H locs h => ?_)
  obtain ⟨v3, ev3, hf⟩ := lt_e hf
  rw [← ev3] at h
  refine lv_iconst (v := (0 : Int32)) hx hb dX8_firstError_7 (by decide) ?_
  refine lv_istore_n (lv' := [(1, .int (0 : Int32)), (0, .ref (q 0))]) hx hb dX8_firstError_8 rfl hl (by decide) rfl (fun ls hl => ?_)
  refine lp_i (z := z) (P := fun (pp : Int32 × xSt) => ∀ (H : Heap) (locs : List Loc), hg G (eBC G) 430 q pp.2 A s H locs → ∀ (ls : Array Slot), lv_has ls 2 [(0, .ref (q 0)), (1, .int pp.1)] → W p l e { frames := 4, cells := 0, slots := 0, locals := 85 } s m [.ref (q 0)].toArray below meth c H locs 0 0 (MQ below ((qI z.1) (cB G (eBC G) 430 q z.2 A) A) [.ref (q 0)].toArray s 0 0 A) (F0 m 9 ls [])) ?_ _ _ hf H locs h ls (lv_sub hl [1, 0] rfl)
  intro rec6 hrec6 pp hf H locs h ls hl
  obtain ⟨a4, v5⟩ := pp
  have h : hg G (eBC G) 430 q v5 A s H locs := h
  have hl : lv_has ls 2 [(0, .ref (q 0)), (1, .int a4)] := hl
  have hf := un2_e hf
  refine lv_iload_n hx hb dX8_firstError_9 rfl (lv_at hl 1 rfl) ?_
  refine lv_aload_n hx hb dX8_firstError_10 rfl (lv_at hl 0 rfl) ?_
  refine xget hC h.o (C := RX8) (T := TX8) (N := 10) (wM_us uw_X8) 0 (Nat.le_of_ble_eq_true rfl) eBC_0 rfl 7 (by decide) (wM_in fl_X8_38) rfl dX8_firstError_11 ?_
  obtain ⟨j7, ej7, hf⟩ := lt_e hf
  have hj7 : ∀ (uu : Unit) (H : Heap) (locs : List Loc), hg G (eBC G) 430 q v5 A s H locs → ∀ (ls : Array Slot), lv_has ls 2 [(0, .ref (q 0))] → j7 uu = some z → W p l e { frames := 4, cells := 0, slots := 0, locals := 85 } s m [.ref (q 0)].toArray below meth c H locs 0 0 (MQ below ((qI z.1) (cB G (eBC G) 430 q z.2 A) A) [.ref (q 0)].toArray s 0 0 A) (F0 m 50 ls []) := by
    intro uu H locs h ls hl hf
    rw [ej7] at hf
    refine lv_aload_n hx hb dX8_firstError_50 rfl (lv_at hl 0 rfl) ?_
    refine xget hC h.o (C := RX8) (T := TX8) (N := 10) (wM_us uw_X8) 0 (Nat.le_of_ble_eq_true rfl) eBC_0 rfl 7 (by decide) (wM_in fl_X8_38) rfl dX8_firstError_51 ?_
    have hf := sm_e hf
    exact xiret hC hr hlk h (by rw [← hf]) (by rw [← hf]) dX8_firstError_54
  refine lv_icmp_ge (tgt := 50) hx hb dX8_firstError_14 (by decide) (fun c8 => ?_) (fun c8 => ?_)
  · have hf := it_t c8 hf
    exact hj7 () H locs h ls (lv_sub hl [0] rfl) hf
  · have hf := it_f c8 hf
    refine lv_iload_n hx hb dX8_firstError_17 rfl (lv_at hl 1 rfl) ?_
    refine lv_aload_n hx hb dX8_firstError_18 rfl (lv_at hl 0 rfl) ?_
    refine xget hC h.o (C := RX8) (T := TX8) (N := 10) (wM_us uw_X8) 0 (Nat.le_of_ble_eq_true rfl) eBC_0 rfl 6 (by decide) (wM_in fl_X8_34) rfl dX8_firstError_19 ?_
    refine xalen hC h.o 1 rfl 2 (Nat.le_of_ble_eq_true rfl) eBC_2 (z := (60 : Int32)) rfl dX8_firstError_22 ?_
    refine lv_icmp_ge (tgt := 50) hx hb dX8_firstError_23 (by decide) (fun c9 => ?_) (fun c9 => ?_)
    · have hf := it_t c9 hf
      exact hj7 () H locs h ls (lv_sub hl [0] rfl) hf
    · have hf := it_f c9 hf
      refine lv_aload_n hx hb dX8_firstError_26 rfl (lv_at hl 0 rfl) ?_
      refine xget hC h.o (C := RX8) (T := TX8) (N := 10) (wM_us uw_X8) 0 (Nat.le_of_ble_eq_true rfl) eBC_0 rfl 8 (by decide) (wM_in fl_X8_44) rfl dX8_firstError_27 ?_
      refine lv_aload_n hx hb dX8_firstError_30 rfl (lv_at hl 0 rfl) ?_
      refine xget hC h.o (C := RX8) (T := TX8) (N := 10) (wM_us uw_X8) 0 (Nat.le_of_ble_eq_true rfl) eBC_0 rfl 6 (by decide) (wM_in fl_X8_34) rfl dX8_firstError_31 ?_
      refine lv_iload_n hx hb dX8_firstError_34 rfl (lv_at hl 1 rfl) ?_
      obtain ⟨hi10, hf⟩ := ck_e hf
      refine xcald hC h.o 2 (Nat.le_of_ble_eq_true rfl) eBC_2 hi10 dX8_firstError_35 ?_
      obtain ⟨r12, hy11, hf⟩ := ob_e hf
      refine xz1 h 3 3 sBC_3 (Nat.le_of_ble_eq_true rfl) (va_runV (As := [.int (v5 2 a4.toNatClampNeg)]) (rest := []) hC (c_X5_goesOnWith l G (sh 3 q) (sh 3 v5) (v5 2 a4.toNatClampNeg) hy11 H.size) (xcwV hC lk_X8_246 in_X5 co_X5_goesOnWith im_X5_goesOnWith se_X5_goesOnWith rfl rfl dd_X5_goesOnWith ⟨Nat.le_of_ble_eq_true rfl, Nat.le_of_ble_eq_true rfl⟩) (preV1 h 3 3 sBC_3 (Nat.le_of_ble_eq_true rfl) (Nat.le_of_ble_eq_true rfl) eBC_3 rfl [.int (v5 2 a4.toNatClampNeg)]) rfl rfl hl.1 rfl (lv_room (Nat.le_of_ble_eq_true rfl)) dX8_firstError_36 ⟨Nat.zero_le _, Nat.zero_le _⟩) (fun H locs hz13 h => ?_)
      obtain ⟨v14, ev14, hf⟩ := lt_e hf
      rw [← ev14] at h
      refine lv_if_ne (tgt := 44) hx hb dX8_firstError_39 (by decide) (fun c15 => ?_) (fun c15 => ?_)
      · have hf := it_f c15 hf
        refine lv_iinc (v := (a4 + 1)) (lv' := [(1, .int (a4 + 1)), (0, .ref (q 0))]) hx hb dX8_firstError_44 hl (k := 1) rfl rfl (by decide) rfl (fun ls hl => ?_)
        refine lv_goto (tgt := 9) hx hb dX8_firstError_47 (by decide) ?_
        exact hrec6 ((a4 + 1), v14) hf H locs h ls (lv_sub hl [1, 0] rfl)
      · have hf := it_t c15 hf
        refine lv_iload_n hx hb dX8_firstError_42 rfl (lv_at hl 1 rfl) ?_
        have hf := sm_e hf
        exact xiret hC hr hlk h (by rw [← hf]) (by rw [← hf]) dX8_firstError_43
def m_X8_keep (v : xSt) : Option (Int32 × xSt) := ob (m_X6_become (ct 47 (sh 101 v) (sh 7 v))) (fun r2 => lt (pu 7 47 (pu 101 47 v r2) (sh 47 r2)) (fun v3 => lt (st2 v3 0 3 (1 : Int32)) (fun v4 => some ((v4 7 8), v4))))
set_option maxHeartbeats 4000000 in
set_option maxRecDepth 100000 in
theorem c_X8_keep (l : Launch) (G : xGl) (q : Nat → Nat) (v : xSt) {z : (Int32 × xSt)} (hf : m_X8_keep v = some z) : mRW l yX8_keep (wM yX8_keep cX8_keep 1 (some .int)) { frames := 5, cells := 0, slots := 0, locals := 147 } G (eBC G) 430 q v [.ref (q 0)] (qI z.1) z.2 := by
  refine xRW (cc := cX8_keep) (maxL := 1) (ret := (some .int)) (by decide) rfl (Nat.le_of_ble_eq_true rfl) ?_
  intro p e s m below meth c ls A hC hr hlk h hl
  have hx := hC.1
  have hb := hC.2.1
  have hl : lv_has ls 1 [(0, .ref (q 0))] := hl
  unfold m_X8_keep at hf
  obtain ⟨H, hH⟩ : ∃ H, H = s.heap := ⟨_, rfl⟩
  obtain ⟨locs, hlo⟩ : ∃ x : List Loc, x = [] := ⟨_, rfl⟩
  have h : hg G (eBC G) 430 q v A s H locs := by rw [hH, hlo]; exact h
  rw [← hlo, ← hH]
  clear hH hlo
  refine lv_aload_n hx hb dX8_keep_0 rfl (lv_at hl 0 rfl) ?_
  refine xget hC h.o (C := RX8) (T := TX8) (N := 10) (wM_us uw_X8) 0 (Nat.le_of_ble_eq_true rfl) eBC_0 rfl 2 (by decide) (wM_in fl_X8_19) rfl dX8_keep_1 ?_
  refine lv_aload_n hx hb dX8_keep_4 rfl (lv_at hl 0 rfl) ?_
  refine xget hC h.o (C := RX8) (T := TX8) (N := 10) (wM_us uw_X8) 0 (Nat.le_of_ble_eq_true rfl) eBC_0 rfl 0 (by decide) (wM_in fl_X8_10) rfl dX8_keep_5 ?_
  obtain ⟨r2, hy1, hf⟩ := ob_e hf
  refine xv2 h 101 47 7 47 (x2E1 sBC_101 locState) (x2E2 sBC_7) (Nat.le_of_ble_eq_true rfl) (Nat.le_of_ble_eq_true rfl) (by omega) (va_runV (As := [.ref (q 7)]) (rest := []) hC (c_X6_become l G (ct 47 (sh 101 q) (sh 7 q)) (ct 47 (sh 101 v) (sh 7 v)) hy1 H.size) (xcwV hC lk_X8_261 in_X6 co_X6_become im_X6_become se_X6_become rfl rfl dd_X6_become ⟨Nat.le_of_ble_eq_true rfl, Nat.le_of_ble_eq_true rfl⟩) (preV2 h 101 47 7 47 (x2E1 sBC_101 locState) (x2E2 sBC_7) (Nat.le_of_ble_eq_true rfl) (Nat.le_of_ble_eq_true rfl) (by omega) (Nat.le_of_ble_eq_true rfl) eBC_101 rfl [.ref (q 7)]) rfl rfl hl.1 rfl (lv_room (Nat.le_of_ble_eq_true rfl)) dX8_keep_8 ⟨Nat.zero_le _, Nat.zero_le _⟩) (fun H locs h => ?_)
  obtain ⟨v3, ev3, hf⟩ := lt_e hf
  rw [← ev3] at h
  refine lv_aload_n hx hb dX8_keep_11 rfl (lv_at hl 0 rfl) ?_
  refine lv_iconst (v := (1 : Int32)) hx hb dX8_keep_12 (by decide) ?_
  refine xput hC h (C := RX8) (T := TX8) (N := 10) (wM_us uw_X8) tyX8_ok nmX8 0 (Nat.le_of_ble_eq_true rfl) eBC_0 rfl 3 (by decide) (wM_in fl_X8_22) rfl (ty := .boolean) (tyX8_ok 3 (by decide)) rfl rfl (Nat.le_of_ble_eq_true rfl) (eBC_0.trans rfl) dX8_keep_13 (fun H locs h => ?_)
  obtain ⟨v4, ev4, hf⟩ := lt_e hf
  rw [← ev4] at h
  refine lv_aload_n hx hb dX8_keep_16 rfl (lv_at hl 0 rfl) ?_
  refine xget hC h.o (C := RX8) (T := TX8) (N := 10) (wM_us uw_X8) 0 (Nat.le_of_ble_eq_true rfl) eBC_0 rfl 0 (by decide) (wM_in fl_X8_10) rfl dX8_keep_17 ?_
  refine xget hC h.o (C := RX6) (T := TX6) (N := 13) (wM_us uw_X6) 7 (Nat.le_of_ble_eq_true rfl) eBC_7 rfl 8 (by decide) (wM_in fl_X8_191) rfl dX8_keep_20 ?_
  have hf := sm_e hf
  exact xiret hC hr hlk h (by rw [← hf]) (by rw [← hf]) dX8_keep_23
def m_X8_fits (v : xSt) : Option (Int32) := lp (fun (rec2 : Int32 → Option (Int32)) => un1 (fun (a1 : Int32) => (if (256 : Int32) ≤ a1 then some (-1 : Int32) else ob (m_X2_hold (sh 12 v) (a1 / (32 : Int32))) (fun r5 => lt (fun (_ : Unit) => rec2 (a1 + 1)) (fun j7 => (if r5 = 0 then ob (m_X6_missesAt (sh 7 v) a1) (fun r10 => (if r10 = 0 then some a1 else j7 ())) else j7 ())))))) xF (0 : Int32)
set_option maxHeartbeats 4000000 in
set_option maxRecDepth 100000 in
theorem c_X8_fits (l : Launch) (G : xGl) (q : Nat → Nat) (v : xSt) {z : (Int32)} (hf : m_X8_fits v = some z) : mRO l yX8_fits (wM yX8_fits cX8_fits 2 (some .int)) { frames := 3, cells := 0, slots := 0, locals := 75 } G (eBC G) 430 q v [.ref (q 0)] (qI z) := by
  refine xRO (cc := cX8_fits) (maxL := 2) (ret := (some .int)) (by decide) rfl (Nat.le_of_ble_eq_true rfl) ?_
  intro p e s m below meth c ls A hC hr hlk h hl
  have hx := hC.1
  have hb := hC.2.1
  have hl : lv_has ls 2 [(0, .ref (q 0))] := hl
  unfold m_X8_fits at hf
  obtain ⟨H, hH⟩ : ∃ H, H = s.heap := ⟨_, rfl⟩
  obtain ⟨locs, hlo⟩ : ∃ x : List Loc, x = [] := ⟨_, rfl⟩
  have h : ho G (eBC G) 430 q v A s H locs := by rw [hH, hlo]; exact h
  rw [← hlo, ← hH]
  clear hH hlo
  refine lv_iconst (v := (0 : Int32)) hx hb dX8_fits_0 (by decide) ?_
  refine lv_istore_n (lv' := [(1, .int (0 : Int32)), (0, .ref (q 0))]) hx hb dX8_fits_1 rfl hl (by decide) rfl (fun ls hl => ?_)
  refine lp_i (z := z) (P := fun (pp : Int32) => ∀ (H : Heap) (locs : List Loc), ho G (eBC G) 430 q v A s H locs → ∀ (ls : Array Slot), lv_has ls 2 [(0, .ref (q 0)), (1, .int pp)] → W p l e { frames := 3, cells := 0, slots := 0, locals := 75 } s m [.ref (q 0)].toArray below meth c H locs 0 0 (MQ below ((qI z) (fun _ => True) A) [.ref (q 0)].toArray s 0 0 A) (F0 m 2 ls [])) ?_ _ _ hf H locs h ls (lv_sub hl [1, 0] rfl)
  intro rec2 hrec2 pp hf H locs h ls hl
  obtain ⟨a1, hpp⟩ : ∃ y, y = pp := ⟨_, rfl⟩
  subst hpp
  have h : ho G (eBC G) 430 q v A s H locs := h
  have hl : lv_has ls 2 [(0, .ref (q 0)), (1, .int a1)] := hl
  have hf := un1_e hf
  refine lv_iload_n hx hb dX8_fits_2 rfl (lv_at hl 1 rfl) ?_
  refine lv_sipush (v := (256 : Int32)) hx hb dX8_fits_3 (by decide) ?_
  refine lv_icmp_ge (tgt := 45) hx hb dX8_fits_6 (by decide) (fun c3 => ?_) (fun c3 => ?_)
  · have hf := it_t c3 hf
    refine lv_iconst (v := (-1 : Int32)) hx hb dX8_fits_45 (by decide) ?_
    have hf := sm_e hf
    exact oiret hC hr hlk h (by rw [← hf]) dX8_fits_46
  · have hf := it_f c3 hf
    refine lv_aload_n hx hb dX8_fits_9 rfl (lv_at hl 0 rfl) ?_
    refine xget hC h.o (C := RX8) (T := TX8) (N := 10) (wM_us uw_X8) 0 (Nat.le_of_ble_eq_true rfl) eBC_0 rfl 0 (by decide) (wM_in fl_X8_10) rfl dX8_fits_10 ?_
    refine xget hC h.o (C := RX6) (T := TX6) (N := 13) (wM_us uw_X6) 7 (Nat.le_of_ble_eq_true rfl) eBC_7 rfl 1 (by decide) (wM_in fl_X8_147) rfl dX8_fits_13 ?_
    refine lv_iload_n hx hb dX8_fits_16 rfl (lv_at hl 1 rfl) ?_
    refine lv_bipush (v := (32 : Int32)) hx hb dX8_fits_17 (by decide) ?_
    refine lv_idiv hx hb dX8_fits_19 (by decide) ?_
    obtain ⟨r5, hy4, hf⟩ := ob_e hf
    refine xzO h (va_runV (As := [.int (a1 / (32 : Int32))]) (rest := []) hC (c_X2_hold l G (sh 12 q) (sh 12 v) (a1 / (32 : Int32)) hy4 H.size) (xcwV hC lk_X8_302 in_X2 co_X2_hold im_X2_hold se_X2_hold rfl rfl dd_X2_hold ⟨Nat.le_of_ble_eq_true rfl, Nat.le_of_ble_eq_true rfl⟩) (preVO h.o 12 1 sBC_12 (Nat.le_of_ble_eq_true rfl) (Nat.le_of_ble_eq_true rfl) eBC_12 rfl [.int (a1 / (32 : Int32))]) rfl rfl hl.1 rfl (lv_room (Nat.le_of_ble_eq_true rfl)) dX8_fits_20 ⟨Nat.zero_le _, Nat.zero_le _⟩) (fun H locs hz6 h => ?_)
    obtain ⟨j7, ej7, hf⟩ := lt_e hf
    have hj7 : ∀ (uu : Unit) (H : Heap) (locs : List Loc), ho G (eBC G) 430 q v A s H locs → ∀ (ls : Array Slot), lv_has ls 2 [(0, .ref (q 0)), (1, .int a1)] → j7 uu = some z → W p l e { frames := 3, cells := 0, slots := 0, locals := 75 } s m [.ref (q 0)].toArray below meth c H locs 0 0 (MQ below ((qI z) (fun _ => True) A) [.ref (q 0)].toArray s 0 0 A) (F0 m 39 ls []) := by
      intro uu H locs h ls hl hf
      rw [ej7] at hf
      refine lv_iinc (v := (a1 + 1)) (lv' := [(1, .int (a1 + 1)), (0, .ref (q 0))]) hx hb dX8_fits_39 hl (k := 1) rfl rfl (by decide) rfl (fun ls hl => ?_)
      refine lv_goto (tgt := 2) hx hb dX8_fits_42 (by decide) ?_
      exact hrec2 (a1 + 1) hf H locs h ls (lv_sub hl [1, 0] rfl)
    refine lv_if_ne (tgt := 39) hx hb dX8_fits_23 (by decide) (fun c8 => ?_) (fun c8 => ?_)
    · have hf := it_f c8 hf
      exact hj7 () H locs h ls (lv_sub hl [0, 1] rfl) hf
    · have hf := it_t c8 hf
      refine lv_aload_n hx hb dX8_fits_26 rfl (lv_at hl 0 rfl) ?_
      refine xget hC h.o (C := RX8) (T := TX8) (N := 10) (wM_us uw_X8) 0 (Nat.le_of_ble_eq_true rfl) eBC_0 rfl 0 (by decide) (wM_in fl_X8_10) rfl dX8_fits_27 ?_
      refine lv_iload_n hx hb dX8_fits_30 rfl (lv_at hl 1 rfl) ?_
      obtain ⟨r10, hy9, hf⟩ := ob_e hf
      refine xiO h (va_runV (As := [.int a1]) (rest := []) hC (c_X6_missesAt l G (sh 7 q) (sh 7 v) a1 hy9 H.size) (xcwV hC lk_X8_390 in_X6 co_X6_missesAt im_X6_missesAt se_X6_missesAt rfl rfl dd_X6_missesAt ⟨Nat.le_of_ble_eq_true rfl, Nat.le_of_ble_eq_true rfl⟩) (preVO h.o 7 47 sBC_7 (Nat.le_of_ble_eq_true rfl) (Nat.le_of_ble_eq_true rfl) eBC_7 rfl [.int a1]) rfl rfl hl.1 rfl (lv_room (Nat.le_of_ble_eq_true rfl)) dX8_fits_31 ⟨Nat.zero_le _, Nat.zero_le _⟩) (fun H locs h => ?_)
      refine lv_if_ne (tgt := 39) hx hb dX8_fits_34 (by decide) (fun c11 => ?_) (fun c11 => ?_)
      · have hf := it_f c11 hf
        exact hj7 () H locs h ls (lv_sub hl [0, 1] rfl) hf
      · have hf := it_t c11 hf
        refine lv_iload_n hx hb dX8_fits_37 rfl (lv_at hl 1 rfl) ?_
        have hf := sm_e hf
        exact oiret hC hr hlk h (by rw [← hf]) dX8_fits_38
def m_X8_freeIn (v : xSt) : Option (Int32 × xSt) := ob (m_X6_become (ct 47 (sh 54 v) (sh 7 v))) (fun r2 => lt (pu 7 47 (pu 54 47 v r2) (sh 47 r2)) (fun v3 => lp (fun (rec6 : Int32 × xSt → Option (Int32 × xSt)) => un2 (fun (a4 : Int32) (v5 : xSt) => (if (1000 : Int32) < a4 then some ((-1 : Int32), v5) else ob (m_X6_isFree (sh 54 v5)) (fun r9 => (if r9 = 0 then ob (m_X6_tick (sh 54 v5)) (fun r13 => lt (pu 54 47 v5 r13.2) (fun v15 => (if r13.1 = 0 then some ((-1 : Int32), v15) else rec6 ((a4 + 1), v15)))) else some (a4, v5)))))) xF ((0 : Int32), v3)))
set_option maxHeartbeats 4000000 in
set_option maxRecDepth 100000 in
theorem c_X8_freeIn (l : Launch) (G : xGl) (q : Nat → Nat) (v : xSt) {z : (Int32 × xSt)} (hf : m_X8_freeIn v = some z) : mRW l yX8_freeIn (wM yX8_freeIn cX8_freeIn 2 (some .int)) { frames := 6, cells := 0, slots := 0, locals := 166 } G (eBC G) 430 q v [.ref (q 0)] (qI z.1) z.2 := by
  refine xRW (cc := cX8_freeIn) (maxL := 2) (ret := (some .int)) (by decide) rfl (Nat.le_of_ble_eq_true rfl) ?_
  intro p e s m below meth c ls A hC hr hlk h hl
  have hx := hC.1
  have hb := hC.2.1
  have hl : lv_has ls 2 [(0, .ref (q 0))] := hl
  unfold m_X8_freeIn at hf
  obtain ⟨H, hH⟩ : ∃ H, H = s.heap := ⟨_, rfl⟩
  obtain ⟨locs, hlo⟩ : ∃ x : List Loc, x = [] := ⟨_, rfl⟩
  have h : hg G (eBC G) 430 q v A s H locs := by rw [hH, hlo]; exact h
  rw [← hlo, ← hH]
  clear hH hlo
  refine lv_aload_n hx hb dX8_freeIn_0 rfl (lv_at hl 0 rfl) ?_
  refine xget hC h.o (C := RX8) (T := TX8) (N := 10) (wM_us uw_X8) 0 (Nat.le_of_ble_eq_true rfl) eBC_0 rfl 1 (by decide) (wM_in fl_X8_16) rfl dX8_freeIn_1 ?_
  refine lv_aload_n hx hb dX8_freeIn_4 rfl (lv_at hl 0 rfl) ?_
  refine xget hC h.o (C := RX8) (T := TX8) (N := 10) (wM_us uw_X8) 0 (Nat.le_of_ble_eq_true rfl) eBC_0 rfl 0 (by decide) (wM_in fl_X8_10) rfl dX8_freeIn_5 ?_
  obtain ⟨r2, hy1, hf⟩ := ob_e hf
  refine xv2 h 54 47 7 47 (x2E1 sBC_54 locState) (x2E2 sBC_7) (Nat.le_of_ble_eq_true rfl) (Nat.le_of_ble_eq_true rfl) (by omega) (va_runV (As := [.ref (q 7)]) (rest := []) hC (c_X6_become l G (ct 47 (sh 54 q) (sh 7 q)) (ct 47 (sh 54 v) (sh 7 v)) hy1 H.size) (xcwV hC lk_X8_261 in_X6 co_X6_become im_X6_become se_X6_become rfl rfl dd_X6_become ⟨Nat.le_of_ble_eq_true rfl, Nat.le_of_ble_eq_true rfl⟩) (preV2 h 54 47 7 47 (x2E1 sBC_54 locState) (x2E2 sBC_7) (Nat.le_of_ble_eq_true rfl) (Nat.le_of_ble_eq_true rfl) (by omega) (Nat.le_of_ble_eq_true rfl) eBC_54 rfl [.ref (q 7)]) rfl rfl hl.1 rfl (lv_room (Nat.le_of_ble_eq_true rfl)) dX8_freeIn_8 ⟨Nat.zero_le _, Nat.zero_le _⟩) (fun H locs h => ?_)
  obtain ⟨v3, ev3, hf⟩ := lt_e hf
  rw [← ev3] at h
  refine lv_iconst (v := (0 : Int32)) hx hb dX8_freeIn_11 (by decide) ?_
  refine lv_istore_n (lv' := [(1, .int (0 : Int32)), (0, .ref (q 0))]) hx hb dX8_freeIn_12 rfl hl (by decide) rfl (fun ls hl => ?_)
  refine lp_i (z := z) (P := fun (pp : Int32 × xSt) => ∀ (H : Heap) (locs : List Loc), hg G (eBC G) 430 q pp.2 A s H locs → ∀ (ls : Array Slot), lv_has ls 2 [(0, .ref (q 0)), (1, .int pp.1)] → W p l e { frames := 6, cells := 0, slots := 0, locals := 166 } s m [.ref (q 0)].toArray below meth c H locs 0 0 (MQ below ((qI z.1) (cB G (eBC G) 430 q z.2 A) A) [.ref (q 0)].toArray s 0 0 A) (F0 m 13 ls [])) ?_ _ _ hf H locs h ls (lv_sub hl [1, 0] rfl)
  intro rec6 hrec6 pp hf H locs h ls hl
  obtain ⟨a4, v5⟩ := pp
  have h : hg G (eBC G) 430 q v5 A s H locs := h
  have hl : lv_has ls 2 [(0, .ref (q 0)), (1, .int a4)] := hl
  have hf := un2_e hf
  refine lv_iload_n hx hb dX8_freeIn_13 rfl (lv_at hl 1 rfl) ?_
  refine lv_sipush (v := (1000 : Int32)) hx hb dX8_freeIn_14 (by decide) ?_
  refine lv_icmp_gt (tgt := 50) hx hb dX8_freeIn_17 (by decide) (fun c7 => ?_) (fun c7 => ?_)
  · have hf := it_t c7 hf
    refine lv_iconst (v := (-1 : Int32)) hx hb dX8_freeIn_50 (by decide) ?_
    have hf := sm_e hf
    exact xiret hC hr hlk h (by rw [← hf]) (by rw [← hf]) dX8_freeIn_51
  · have hf := it_f c7 hf
    refine lv_aload_n hx hb dX8_freeIn_20 rfl (lv_at hl 0 rfl) ?_
    refine xget hC h.o (C := RX8) (T := TX8) (N := 10) (wM_us uw_X8) 0 (Nat.le_of_ble_eq_true rfl) eBC_0 rfl 1 (by decide) (wM_in fl_X8_16) rfl dX8_freeIn_21 ?_
    obtain ⟨r9, hy8, hf⟩ := ob_e hf
    refine xzG h (va_runV (As := []) (rest := []) hC (c_X6_isFree l G (sh 54 q) (sh 54 v5) hy8 H.size) (xcwV hC lk_X8_393 in_X6 co_X6_isFree im_X6_isFree se_X6_isFree rfl rfl dd_X6_isFree ⟨Nat.le_of_ble_eq_true rfl, Nat.le_of_ble_eq_true rfl⟩) (preVO h.o 54 47 sBC_54 (Nat.le_of_ble_eq_true rfl) (Nat.le_of_ble_eq_true rfl) eBC_54 rfl []) rfl rfl hl.1 rfl (lv_room (Nat.le_of_ble_eq_true rfl)) dX8_freeIn_24 ⟨Nat.zero_le _, Nat.zero_le _⟩) (fun H locs hz10 h => ?_)
    refine lv_if_eq (tgt := 32) hx hb dX8_freeIn_27 (by decide) (fun c11 => ?_) (fun c11 => ?_)
    · have hf := it_t c11 hf
      refine lv_aload_n hx hb dX8_freeIn_32 rfl (lv_at hl 0 rfl) ?_
      refine xget hC h.o (C := RX8) (T := TX8) (N := 10) (wM_us uw_X8) 0 (Nat.le_of_ble_eq_true rfl) eBC_0 rfl 1 (by decide) (wM_in fl_X8_16) rfl dX8_freeIn_33 ?_
      obtain ⟨r13, hy12, hf⟩ := ob_e hf
      refine xz1 h 54 47 sBC_54 (Nat.le_of_ble_eq_true rfl) (va_runV (As := []) (rest := []) hC (c_X6_tick l G (sh 54 q) (sh 54 v5) hy12 H.size) (xcwV hC lk_X8_213 in_X6 co_X6_tick im_X6_tick se_X6_tick rfl rfl dd_X6_tick ⟨Nat.le_of_ble_eq_true rfl, Nat.le_of_ble_eq_true rfl⟩) (preV1 h 54 47 sBC_54 (Nat.le_of_ble_eq_true rfl) (Nat.le_of_ble_eq_true rfl) eBC_54 rfl []) rfl rfl hl.1 rfl (lv_room (Nat.le_of_ble_eq_true rfl)) dX8_freeIn_36 ⟨Nat.zero_le _, Nat.zero_le _⟩) (fun H locs hz14 h => ?_)
      obtain ⟨v15, ev15, hf⟩ := lt_e hf
      rw [← ev15] at h
      refine lv_if_ne (tgt := 44) hx hb dX8_freeIn_39 (by decide) (fun c16 => ?_) (fun c16 => ?_)
      · have hf := it_f c16 hf
        refine lv_iinc (v := (a4 + 1)) (lv' := [(1, .int (a4 + 1)), (0, .ref (q 0))]) hx hb dX8_freeIn_44 hl (k := 1) rfl rfl (by decide) rfl (fun ls hl => ?_)
        refine lv_goto (tgt := 13) hx hb dX8_freeIn_47 (by decide) ?_
        exact hrec6 ((a4 + 1), v15) hf H locs h ls (lv_sub hl [1, 0] rfl)
      · have hf := it_t c16 hf
        refine lv_iconst (v := (-1 : Int32)) hx hb dX8_freeIn_42 (by decide) ?_
        have hf := sm_e hf
        exact xiret hC hr hlk h (by rw [← hf]) (by rw [← hf]) dX8_freeIn_43
    · have hf := it_f c11 hf
      refine lv_iload_n hx hb dX8_freeIn_30 rfl (lv_at hl 1 rfl) ?_
      have hf := sm_e hf
      exact xiret hC hr hlk h (by rw [← hf]) (by rw [← hf]) dX8_freeIn_31
def m_X8_leastWorn (v : xSt) : Option (Int32) := lp (fun (rec3 : Int32 × Int32 → Option (Int32)) => un2 (fun (a1 : Int32) (a2 : Int32) => (if (8 : Int32) ≤ a2 then some a1 else ob (m_X2_hold (sh 12 v) a2) (fun r6 => lt (fun (a8 : Int32) => rec3 (a8, (a2 + 1))) (fun j9 => (if r6 = 0 then lt (fun (_ : Unit) => j9 a2) (fun j11 => (if a1 = (-1 : Int32) then j11 () else (if (xat 8 (v 11) a1) ≤ (xat 8 (v 11) a2) then j9 a1 else j11 ()))) else j9 a1)))))) xF ((-1 : Int32), (0 : Int32))
set_option maxHeartbeats 4000000 in
set_option maxRecDepth 100000 in
theorem c_X8_leastWorn (l : Launch) (G : xGl) (q : Nat → Nat) (v : xSt) {z : (Int32)} (hf : m_X8_leastWorn v = some z) : mRO l yX8_leastWorn (wM yX8_leastWorn cX8_leastWorn 3 (some .int)) { frames := 1, cells := 0, slots := 0, locals := 22 } G (eBC G) 430 q v [.ref (q 0)] (qI z) := by
  refine xRO (cc := cX8_leastWorn) (maxL := 3) (ret := (some .int)) (by decide) rfl (Nat.le_of_ble_eq_true rfl) ?_
  intro p e s m below meth c ls A hC hr hlk h hl
  have hx := hC.1
  have hb := hC.2.1
  have hl : lv_has ls 3 [(0, .ref (q 0))] := hl
  unfold m_X8_leastWorn at hf
  obtain ⟨H, hH⟩ : ∃ H, H = s.heap := ⟨_, rfl⟩
  obtain ⟨locs, hlo⟩ : ∃ x : List Loc, x = [] := ⟨_, rfl⟩
  have h : ho G (eBC G) 430 q v A s H locs := by rw [hH, hlo]; exact h
  rw [← hlo, ← hH]
  clear hH hlo
  refine lv_iconst (v := (-1 : Int32)) hx hb dX8_leastWorn_0 (by decide) ?_
  refine lv_istore_n (lv' := [(1, .int (-1 : Int32)), (0, .ref (q 0))]) hx hb dX8_leastWorn_1 rfl hl (by decide) rfl (fun ls hl => ?_)
  refine lv_iconst (v := (0 : Int32)) hx hb dX8_leastWorn_2 (by decide) ?_
  refine lv_istore_n (lv' := [(2, .int (0 : Int32)), (1, .int (-1 : Int32)), (0, .ref (q 0))]) hx hb dX8_leastWorn_3 rfl hl (by decide) rfl (fun ls hl => ?_)
  refine lp_i (z := z) (P := fun (pp : Int32 × Int32) => ∀ (H : Heap) (locs : List Loc), ho G (eBC G) 430 q v A s H locs → ∀ (ls : Array Slot), lv_has ls 3 [(0, .ref (q 0)), (1, .int pp.1), (2, .int pp.2)] → W p l e { frames := 1, cells := 0, slots := 0, locals := 22 } s m [.ref (q 0)].toArray below meth c H locs 0 0 (MQ below ((qI z) (fun _ => True) A) [.ref (q 0)].toArray s 0 0 A) (F0 m 4 ls [])) ?_ _ _ hf H locs h ls (lv_sub hl [2, 1, 0] rfl)
  intro rec3 hrec3 pp hf H locs h ls hl
  obtain ⟨a1, a2⟩ := pp
  have h : ho G (eBC G) 430 q v A s H locs := h
  have hl : lv_has ls 3 [(0, .ref (q 0)), (1, .int a1), (2, .int a2)] := hl
  have hf := un2_e hf
  refine lv_iload_n hx hb dX8_leastWorn_4 rfl (lv_at hl 2 rfl) ?_
  refine lv_bipush (v := (8 : Int32)) hx hb dX8_leastWorn_5 (by decide) ?_
  refine lv_icmp_ge (tgt := 68) hx hb dX8_leastWorn_7 (by decide) (fun c4 => ?_) (fun c4 => ?_)
  · have hf := it_t c4 hf
    refine lv_iload_n hx hb dX8_leastWorn_68 rfl (lv_at hl 1 rfl) ?_
    have hf := sm_e hf
    exact oiret hC hr hlk h (by rw [← hf]) dX8_leastWorn_69
  · have hf := it_f c4 hf
    refine lv_aload_n hx hb dX8_leastWorn_10 rfl (lv_at hl 0 rfl) ?_
    refine xget hC h.o (C := RX8) (T := TX8) (N := 10) (wM_us uw_X8) 0 (Nat.le_of_ble_eq_true rfl) eBC_0 rfl 0 (by decide) (wM_in fl_X8_10) rfl dX8_leastWorn_11 ?_
    refine xget hC h.o (C := RX6) (T := TX6) (N := 13) (wM_us uw_X6) 7 (Nat.le_of_ble_eq_true rfl) eBC_7 rfl 1 (by decide) (wM_in fl_X8_147) rfl dX8_leastWorn_14 ?_
    refine lv_iload_n hx hb dX8_leastWorn_17 rfl (lv_at hl 2 rfl) ?_
    obtain ⟨r6, hy5, hf⟩ := ob_e hf
    refine xzO h (va_runV (As := [.int a2]) (rest := []) hC (c_X2_hold l G (sh 12 q) (sh 12 v) a2 hy5 H.size) (xcwV hC lk_X8_302 in_X2 co_X2_hold im_X2_hold se_X2_hold rfl rfl dd_X2_hold ⟨Nat.le_of_ble_eq_true rfl, Nat.le_of_ble_eq_true rfl⟩) (preVO h.o 12 1 sBC_12 (Nat.le_of_ble_eq_true rfl) (Nat.le_of_ble_eq_true rfl) eBC_12 rfl [.int a2]) rfl rfl hl.1 rfl (lv_room (Nat.le_of_ble_eq_true rfl)) dX8_leastWorn_18 ⟨Nat.zero_le _, Nat.zero_le _⟩) (fun H locs hz7 h => ?_)
    obtain ⟨j9, ej9, hf⟩ := lt_e hf
    have hj9 : ∀ (a8 : Int32) (H : Heap) (locs : List Loc), ho G (eBC G) 430 q v A s H locs → ∀ (ls : Array Slot), lv_has ls 3 [(0, .ref (q 0)), (1, .int a8), (2, .int a2)] → j9 a8 = some z → W p l e { frames := 1, cells := 0, slots := 0, locals := 22 } s m [.ref (q 0)].toArray below meth c H locs 0 0 (MQ below ((qI z) (fun _ => True) A) [.ref (q 0)].toArray s 0 0 A) (F0 m 62 ls []) := by
      intro a8 H locs h ls hl hf
      rw [ej9] at hf
      refine lv_iinc (v := (a2 + 1)) (lv' := [(2, .int (a2 + 1)), (0, .ref (q 0)), (1, .int a8)]) hx hb dX8_leastWorn_62 hl (k := 2) rfl rfl (by decide) rfl (fun ls hl => ?_)
      refine lv_goto (tgt := 4) hx hb dX8_leastWorn_65 (by decide) ?_
      exact hrec3 (a8, (a2 + 1)) hf H locs h ls (lv_sub hl [1, 2, 0] rfl)
    refine lv_if_ne (tgt := 62) hx hb dX8_leastWorn_21 (by decide) (fun c10 => ?_) (fun c10 => ?_)
    · have hf := it_f c10 hf
      exact hj9 a1 H locs h ls (lv_sub hl [0, 1, 2] rfl) hf
    · have hf := it_t c10 hf
      refine lv_iload_n hx hb dX8_leastWorn_24 rfl (lv_at hl 1 rfl) ?_
      refine lv_iconst (v := (-1 : Int32)) hx hb dX8_leastWorn_25 (by decide) ?_
      obtain ⟨j11, ej11, hf⟩ := lt_e hf
      have hj11 : ∀ (uu : Unit) (H : Heap) (locs : List Loc), ho G (eBC G) 430 q v A s H locs → ∀ (ls : Array Slot), lv_has ls 3 [(0, .ref (q 0)), (2, .int a2)] → j11 uu = some z → W p l e { frames := 1, cells := 0, slots := 0, locals := 22 } s m [.ref (q 0)].toArray below meth c H locs 0 0 (MQ below ((qI z) (fun _ => True) A) [.ref (q 0)].toArray s 0 0 A) (F0 m 60 ls []) := by
        intro uu H locs h ls hl hf
        rw [ej11] at hf
        refine lv_iload_n hx hb dX8_leastWorn_60 rfl (lv_at hl 1 rfl) ?_
        refine lv_istore_n (lv' := [(1, .int a2), (0, .ref (q 0)), (2, .int a2)]) hx hb dX8_leastWorn_61 rfl hl (by decide) rfl (fun ls hl => ?_)
        exact hj9 a2 H locs h ls (lv_sub hl [1, 0, 2] rfl) hf
      refine lv_icmp_eq (tgt := 60) hx hb dX8_leastWorn_26 (by decide) (fun c12 => ?_) (fun c12 => ?_)
      · have hf := it_t c12 hf
        exact hj11 () H locs h ls (lv_sub hl [0, 2] rfl) hf
      · have hf := it_f c12 hf
        refine lv_aload_n hx hb dX8_leastWorn_29 rfl (lv_at hl 0 rfl) ?_
        refine xget hC h.o (C := RX8) (T := TX8) (N := 10) (wM_us uw_X8) 0 (Nat.le_of_ble_eq_true rfl) eBC_0 rfl 0 (by decide) (wM_in fl_X8_10) rfl dX8_leastWorn_30 ?_
        refine xget hC h.o (C := RX6) (T := TX6) (N := 13) (wM_us uw_X6) 7 (Nat.le_of_ble_eq_true rfl) eBC_7 rfl 0 (by decide) (wM_in fl_X8_277) rfl dX8_leastWorn_33 ?_
        refine xget hC h.o (C := RX0) (T := TX0) (N := 4) (wM_us uw_X0) 8 (Nat.le_of_ble_eq_true rfl) eBC_8 rfl 2 (by decide) (wM_in fl_X8_299) rfl dX8_leastWorn_36 ?_
        refine lv_iload_n hx hb dX8_leastWorn_39 rfl (lv_at hl 2 rfl) ?_
        refine xiO h (va_runS (As := [.ref (q 11), .int a2]) (rest := []) hC (k_X8_at l G (sh 11 q) 8 (by decide) (sh 11 v) a2 H.size) (xcwS hC lk_X8_224 in_X8 co_X8_at st_X8_at rfl rfl dd_X8_at ⟨Nat.le_of_ble_eq_true rfl, Nat.le_of_ble_eq_true rfl⟩) (preSO h.o 11 1 sBC_11 (Nat.le_of_ble_eq_true rfl) [.ref (q 11), .int a2]) rfl rfl hl.1 rfl (lv_room (Nat.le_of_ble_eq_true rfl)) dX8_leastWorn_40 ⟨Nat.zero_le _, Nat.zero_le _⟩) (fun H locs h => ?_)
        refine lv_nm (z := (xat 8 (v 11) a2)) rfl ?_
        refine lv_aload_n hx hb dX8_leastWorn_43 rfl (lv_at hl 0 rfl) ?_
        refine xget hC h.o (C := RX8) (T := TX8) (N := 10) (wM_us uw_X8) 0 (Nat.le_of_ble_eq_true rfl) eBC_0 rfl 0 (by decide) (wM_in fl_X8_10) rfl dX8_leastWorn_44 ?_
        refine xget hC h.o (C := RX6) (T := TX6) (N := 13) (wM_us uw_X6) 7 (Nat.le_of_ble_eq_true rfl) eBC_7 rfl 0 (by decide) (wM_in fl_X8_277) rfl dX8_leastWorn_47 ?_
        refine xget hC h.o (C := RX0) (T := TX0) (N := 4) (wM_us uw_X0) 8 (Nat.le_of_ble_eq_true rfl) eBC_8 rfl 2 (by decide) (wM_in fl_X8_299) rfl dX8_leastWorn_50 ?_
        refine lv_iload_n hx hb dX8_leastWorn_53 rfl (lv_at hl 1 rfl) ?_
        refine xiO h (va_runS (As := [.ref (q 11), .int a1]) (rest := [.int (xat 8 (v 11) a2)]) hC (k_X8_at l G (sh 11 q) 8 (by decide) (sh 11 v) a1 H.size) (xcwS hC lk_X8_224 in_X8 co_X8_at st_X8_at rfl rfl dd_X8_at ⟨Nat.le_of_ble_eq_true rfl, Nat.le_of_ble_eq_true rfl⟩) (preSO h.o 11 1 sBC_11 (Nat.le_of_ble_eq_true rfl) [.ref (q 11), .int a1]) rfl rfl hl.1 rfl (lv_room (Nat.le_of_ble_eq_true rfl)) dX8_leastWorn_54 ⟨Nat.zero_le _, Nat.zero_le _⟩) (fun H locs h => ?_)
        refine lv_nm (z := (xat 8 (v 11) a1)) rfl ?_
        refine lv_icmp_ge (tgt := 62) hx hb dX8_leastWorn_57 (by decide) (fun c13 => ?_) (fun c13 => ?_)
        · have hf := it_t c13 hf
          exact hj9 a1 H locs h ls (lv_sub hl [0, 1, 2] rfl) hf
        · have hf := it_f c13 hf
          exact hj11 () H locs h ls (lv_sub hl [0, 2] rfl) hf
def m_X8_restore (v : xSt) (p1 : Int32) : Option xSt := (if (xwi p1 (0 : Int32) ((6 : Int32) - (1 : Int32))) = 0 then some v else ck (¬ (p1 < 0 ∨ 6 ≤ p1.toNatClampNeg)) (lt ((v 1 p1.toNatClampNeg).toNatClampNeg) (fun k4 => ck (k4 < 6) (ob (m_X6_become (ct 47 (sh 7 v) (sh (148 + 47 * k4) v))) (fun r7 => lt (pu (148 + 47 * k4) 47 (pu 7 47 v r7) (sh 47 r7)) (fun v8 => some v8))))))
set_option maxHeartbeats 4000000 in
set_option maxRecDepth 100000 in
theorem c_X8_restore (l : Launch) (G : xGl) (q : Nat → Nat) (v : xSt) (p1 : Int32) {z : xSt} (hf : m_X8_restore v p1 = some z) : mRW l yX8_restore (wM yX8_restore cX8_restore 3 none) { frames := 5, cells := 0, slots := 0, locals := 147 } G (eBC G) 430 q v [.ref (q 0), .int p1] qV z := by
  refine xRW (cc := cX8_restore) (maxL := 3) (ret := none) (by decide) rfl (Nat.le_of_ble_eq_true rfl) ?_
  intro p e s m below meth c ls A hC hr hlk h hl
  have hx := hC.1
  have hb := hC.2.1
  have hl : lv_has ls 3 [(0, .ref (q 0)), (1, .int p1)] := hl
  unfold m_X8_restore at hf
  obtain ⟨H, hH⟩ : ∃ H, H = s.heap := ⟨_, rfl⟩
  obtain ⟨locs, hlo⟩ : ∃ x : List Loc, x = [] := ⟨_, rfl⟩
  have h : hg G (eBC G) 430 q v A s H locs := by rw [hH, hlo]; exact h
  rw [← hlo, ← hH]
  clear hH hlo
  refine lv_iload_n hx hb dX8_restore_0 rfl (lv_at hl 1 rfl) ?_
  refine lv_iconst (v := (0 : Int32)) hx hb dX8_restore_1 (by decide) ?_
  refine lv_aload_n hx hb dX8_restore_2 rfl (lv_at hl 0 rfl) ?_
  refine xget hC h.o (C := RX8) (T := TX8) (N := 10) (wM_us uw_X8) 0 (Nat.le_of_ble_eq_true rfl) eBC_0 rfl 4 (by decide) (wM_in fl_X8_26) rfl dX8_restore_3 ?_
  refine xalen hC h.o 3 rfl 1 (Nat.le_of_ble_eq_true rfl) eBC_1 (z := (6 : Int32)) rfl dX8_restore_6 ?_
  refine lv_iconst (v := (1 : Int32)) hx hb dX8_restore_7 (by decide) ?_
  refine lv_isub hx hb dX8_restore_8 ?_
  refine xzG h (va_runS (As := [.int p1, .int (0 : Int32), .int ((6 : Int32) - (1 : Int32))]) (rest := []) hC (k_X8_isWithin l G q v p1 (0 : Int32) ((6 : Int32) - (1 : Int32)) H.size) (xcwS hC lk_X8_69 in_X8 co_X8_isWithin st_X8_isWithin rfl rfl dd_X8_isWithin ⟨Nat.le_of_ble_eq_true rfl, Nat.le_of_ble_eq_true rfl⟩) (preSN h.o [.int p1, .int (0 : Int32), .int ((6 : Int32) - (1 : Int32))]) rfl rfl hl.1 rfl (lv_room (Nat.le_of_ble_eq_true rfl)) dX8_restore_9 ⟨Nat.zero_le _, Nat.zero_le _⟩) (fun H locs hz1 h => ?_)
  refine lv_if_eq (tgt := 24) hx hb dX8_restore_12 (by decide) (fun c2 => ?_) (fun c2 => ?_)
  · have hf := it_t c2 hf
    refine lv_null hx hb dX8_restore_24 ?_
    refine lv_astore_nN (lv' := [(2, .null), (0, .ref (q 0)), (1, .int p1)]) hx hb dX8_restore_25 rfl hl (by decide) rfl (fun ls hl => ?_)
    refine lv_aload_nN hx hb dX8_restore_26 rfl (lv_at hl 0 rfl) ?_
    refine lv_ifnullN (tgt := 38) hx hb dX8_restore_27 (by decide) ?_
    have hf := sm_e hf
    exact xvret hC hr hlk h hf dX8_restore_38
  · have hf := it_f c2 hf
    refine lv_aload_n hx hb dX8_restore_15 rfl (lv_at hl 0 rfl) ?_
    refine xget hC h.o (C := RX8) (T := TX8) (N := 10) (wM_us uw_X8) 0 (Nat.le_of_ble_eq_true rfl) eBC_0 rfl 4 (by decide) (wM_in fl_X8_26) rfl dX8_restore_16 ?_
    refine lv_iload_n hx hb dX8_restore_19 rfl (lv_at hl 1 rfl) ?_
    obtain ⟨hi3, hf⟩ := ck_e hf
    obtain ⟨k4, ek4, hf⟩ := lt_e hf
    obtain ⟨hk5, hf⟩ := ck_e hf
    refine xalds (B := fun k => 148 + 47 * k) hC h.o 1 (Nat.le_of_ble_eq_true rfl) eBC_1 hi3 ek4 hk5 dX8_restore_20 ?_
    refine lv_goto (tgt := 25) hx hb dX8_restore_21 (by decide) ?_
    refine lv_astore_n (lv' := [(2, .ref (q (148 + 47 * k4))), (0, .ref (q 0)), (1, .int p1)]) hx hb dX8_restore_25 rfl hl (by decide) rfl (fun ls hl => ?_)
    refine lv_aload_n hx hb dX8_restore_26 rfl (lv_at hl 0 rfl) ?_
    refine lv_ifnull hx hb dX8_restore_27 ?_
    refine lv_aload_n hx hb dX8_restore_30 rfl (lv_at hl 1 rfl) ?_
    refine xget hC h.o (C := RX8) (T := TX8) (N := 10) (wM_us uw_X8) 0 (Nat.le_of_ble_eq_true rfl) eBC_0 rfl 0 (by decide) (wM_in fl_X8_10) rfl dX8_restore_31 ?_
    refine lv_aload_n hx hb dX8_restore_34 rfl (lv_at hl 0 rfl) ?_
    obtain ⟨r7, hy6, hf⟩ := ob_e hf
    refine xv2 h 7 47 (148 + 47 * k4) 47 (x2E1 sBC_7 locState) (x2E2 (sBC_sav hk5)) (Nat.le_of_ble_eq_true rfl) (by omega) (by omega) (va_runV (As := [.ref (q (148 + 47 * k4))]) (rest := []) hC (c_X6_become l G (ct 47 (sh 7 q) (sh (148 + 47 * k4) q)) (ct 47 (sh 7 v) (sh (148 + 47 * k4) v)) hy6 H.size) (xcwV hC lk_X8_261 in_X6 co_X6_become im_X6_become se_X6_become rfl rfl dd_X6_become ⟨Nat.le_of_ble_eq_true rfl, Nat.le_of_ble_eq_true rfl⟩) (preV2 h 7 47 (148 + 47 * k4) 47 (x2E1 sBC_7 locState) (x2E2 (sBC_sav hk5)) (Nat.le_of_ble_eq_true rfl) (by omega) (by omega) (Nat.le_of_ble_eq_true rfl) eBC_7 rfl [.ref (q (148 + 47 * k4))]) rfl rfl hl.1 rfl (lv_room (Nat.le_of_ble_eq_true rfl)) dX8_restore_35 ⟨Nat.zero_le _, Nat.zero_le _⟩) (fun H locs h => ?_)
    obtain ⟨v8, ev8, hf⟩ := lt_e hf
    rw [← ev8] at h
    have hf := sm_e hf
    exact xvret hC hr hlk h hf dX8_restore_38
def m_X8_doPart (v : xSt) : Option (Int32 × xSt) := (if (v 3 1) = (116 : Int32) then lp (fun (rec15 : Int32 × xSt → Option (Int32 × xSt)) => un2 (fun (a13 : Int32) (v14 : xSt) => (if (v14 3 2) ≤ a13 then some ((1 : Int32), v14) else ob (m_X6_tick (sh 7 v14)) (fun r18 => lt (pu 7 47 v14 r18.2) (fun v20 => rec15 ((a13 + 1), v20)))))) xF ((0 : Int32), v) else ob (m_X1_isFull (sh 21 v)) (fun r3 => (if r3 = 0 then (if (v 3 1) = (101 : Int32) then ob (m_X1_join (sh 21 v) (2 : Int32) (v 3 2) (v 3 3) (v 7 8)) (fun r11 => lt (pu 21 32 v r11.2) (fun v12 => some ((1 : Int32), v12))) else ob (m_X1_joinWrite (ct 32 (sh 21 v) (sh 4 v)) (v 3 2) (v 3 3) (v 7 8)) (fun r8 => lt (pu 4 2 (pu 21 32 v r8.2) (sh 32 r8.2)) (fun v9 => some ((1 : Int32), v9)))) else some ((0 : Int32), v))))
set_option maxHeartbeats 4000000 in
set_option maxRecDepth 100000 in
theorem c_X8_doPart (l : Launch) (G : xGl) (q : Nat → Nat) (v : xSt) {z : (Int32 × xSt)} (hf : m_X8_doPart v = some z) : mRW l yX8_doPart (wM yX8_doPart cX8_doPart 2 (some .boolean)) { frames := 6, cells := 0, slots := 0, locals := 166 } G (eBC G) 430 q v [.ref (q 0)] (qZ z.1) z.2 := by
  refine xRW (cc := cX8_doPart) (maxL := 2) (ret := (some .boolean)) (by decide) rfl (Nat.le_of_ble_eq_true rfl) ?_
  intro p e s m below meth c ls A hC hr hlk h hl
  have hx := hC.1
  have hb := hC.2.1
  have hl : lv_has ls 2 [(0, .ref (q 0))] := hl
  unfold m_X8_doPart at hf
  obtain ⟨H, hH⟩ : ∃ H, H = s.heap := ⟨_, rfl⟩
  obtain ⟨locs, hlo⟩ : ∃ x : List Loc, x = [] := ⟨_, rfl⟩
  have h : hg G (eBC G) 430 q v A s H locs := by rw [hH, hlo]; exact h
  rw [← hlo, ← hH]
  clear hH hlo
  refine lv_aload_n hx hb dX8_doPart_0 rfl (lv_at hl 0 rfl) ?_
  refine xget hC h.o (C := RX8) (T := TX8) (N := 10) (wM_us uw_X8) 0 (Nat.le_of_ble_eq_true rfl) eBC_0 rfl 8 (by decide) (wM_in fl_X8_44) rfl dX8_doPart_1 ?_
  refine xget hC h.o (C := RX5) (T := TX5) (N := 6) (wM_us uw_X5) 3 (Nat.le_of_ble_eq_true rfl) eBC_3 rfl 1 (by decide) (wM_in fl_X8_472) rfl dX8_doPart_4 ?_
  refine lv_bipush (v := (116 : Int32)) hx hb dX8_doPart_7 (by decide) ?_
  refine lv_icmp_ne (tgt := 41) hx hb dX8_doPart_9 (by decide) (fun c1 => ?_) (fun c1 => ?_)
  · have hf := it_f c1 hf
    refine lv_aload_n hx hb dX8_doPart_41 rfl (lv_at hl 0 rfl) ?_
    refine xget hC h.o (C := RX8) (T := TX8) (N := 10) (wM_us uw_X8) 0 (Nat.le_of_ble_eq_true rfl) eBC_0 rfl 0 (by decide) (wM_in fl_X8_10) rfl dX8_doPart_42 ?_
    refine xget hC h.o (C := RX6) (T := TX6) (N := 13) (wM_us uw_X6) 7 (Nat.le_of_ble_eq_true rfl) eBC_7 rfl 5 (by decide) (wM_in fl_X8_180) rfl dX8_doPart_45 ?_
    obtain ⟨r3, hy2, hf⟩ := ob_e hf
    refine xzG h (va_runV (As := []) (rest := []) hC (c_X1_isFull l G (sh 21 q) (sh 21 v) hy2 H.size) (xcwV hC lk_X8_184 in_X1 co_X1_isFull im_X1_isFull se_X1_isFull rfl rfl dd_X1_isFull ⟨Nat.le_of_ble_eq_true rfl, Nat.le_of_ble_eq_true rfl⟩) (preVO h.o 21 32 sBC_21 (Nat.le_of_ble_eq_true rfl) (Nat.le_of_ble_eq_true rfl) eBC_21 rfl []) rfl rfl hl.1 rfl (lv_room (Nat.le_of_ble_eq_true rfl)) dX8_doPart_48 ⟨Nat.zero_le _, Nat.zero_le _⟩) (fun H locs hz4 h => ?_)
    refine lv_if_eq (tgt := 56) hx hb dX8_doPart_51 (by decide) (fun c5 => ?_) (fun c5 => ?_)
    · have hf := it_t c5 hf
      refine lv_aload_n hx hb dX8_doPart_56 rfl (lv_at hl 0 rfl) ?_
      refine xget hC h.o (C := RX8) (T := TX8) (N := 10) (wM_us uw_X8) 0 (Nat.le_of_ble_eq_true rfl) eBC_0 rfl 8 (by decide) (wM_in fl_X8_44) rfl dX8_doPart_57 ?_
      refine xget hC h.o (C := RX5) (T := TX5) (N := 6) (wM_us uw_X5) 3 (Nat.le_of_ble_eq_true rfl) eBC_3 rfl 1 (by decide) (wM_in fl_X8_472) rfl dX8_doPart_60 ?_
      refine lv_bipush (v := (101 : Int32)) hx hb dX8_doPart_63 (by decide) ?_
      refine lv_icmp_ne (tgt := 104) hx hb dX8_doPart_65 (by decide) (fun c6 => ?_) (fun c6 => ?_)
      · have hf := it_f c6 hf
        refine lv_aload_n hx hb dX8_doPart_104 rfl (lv_at hl 0 rfl) ?_
        refine xget hC h.o (C := RX8) (T := TX8) (N := 10) (wM_us uw_X8) 0 (Nat.le_of_ble_eq_true rfl) eBC_0 rfl 0 (by decide) (wM_in fl_X8_10) rfl dX8_doPart_105 ?_
        refine xget hC h.o (C := RX6) (T := TX6) (N := 13) (wM_us uw_X6) 7 (Nat.le_of_ble_eq_true rfl) eBC_7 rfl 5 (by decide) (wM_in fl_X8_180) rfl dX8_doPart_108 ?_
        refine lv_aload_n hx hb dX8_doPart_111 rfl (lv_at hl 0 rfl) ?_
        refine xget hC h.o (C := RX8) (T := TX8) (N := 10) (wM_us uw_X8) 0 (Nat.le_of_ble_eq_true rfl) eBC_0 rfl 8 (by decide) (wM_in fl_X8_44) rfl dX8_doPart_112 ?_
        refine xget hC h.o (C := RX5) (T := TX5) (N := 6) (wM_us uw_X5) 3 (Nat.le_of_ble_eq_true rfl) eBC_3 rfl 2 (by decide) (wM_in fl_X8_476) rfl dX8_doPart_115 ?_
        refine lv_aload_n hx hb dX8_doPart_118 rfl (lv_at hl 0 rfl) ?_
        refine xget hC h.o (C := RX8) (T := TX8) (N := 10) (wM_us uw_X8) 0 (Nat.le_of_ble_eq_true rfl) eBC_0 rfl 8 (by decide) (wM_in fl_X8_44) rfl dX8_doPart_119 ?_
        refine xget hC h.o (C := RX5) (T := TX5) (N := 6) (wM_us uw_X5) 3 (Nat.le_of_ble_eq_true rfl) eBC_3 rfl 3 (by decide) (wM_in fl_X8_477) rfl dX8_doPart_122 ?_
        refine lv_aload_n hx hb dX8_doPart_125 rfl (lv_at hl 0 rfl) ?_
        refine xget hC h.o (C := RX8) (T := TX8) (N := 10) (wM_us uw_X8) 0 (Nat.le_of_ble_eq_true rfl) eBC_0 rfl 0 (by decide) (wM_in fl_X8_10) rfl dX8_doPart_126 ?_
        refine xget hC h.o (C := RX6) (T := TX6) (N := 13) (wM_us uw_X6) 7 (Nat.le_of_ble_eq_true rfl) eBC_7 rfl 8 (by decide) (wM_in fl_X8_191) rfl dX8_doPart_129 ?_
        refine lv_aload_n hx hb dX8_doPart_132 rfl (lv_at hl 0 rfl) ?_
        refine xget hC h.o (C := RX8) (T := TX8) (N := 10) (wM_us uw_X8) 0 (Nat.le_of_ble_eq_true rfl) eBC_0 rfl 8 (by decide) (wM_in fl_X8_44) rfl dX8_doPart_133 ?_
        refine xget hC h.o (C := RX5) (T := TX5) (N := 6) (wM_us uw_X5) 3 (Nat.le_of_ble_eq_true rfl) eBC_3 rfl 4 (by decide) (wM_in fl_X8_478) rfl dX8_doPart_136 ?_
        obtain ⟨r8, hy7, hf⟩ := ob_e hf
        refine xi2 h 21 32 4 2 (x2E1 sBC_21 locLine) (x2E2 sBC_4) (Nat.le_of_ble_eq_true rfl) (Nat.le_of_ble_eq_true rfl) (by omega) (va_runV (As := [.int (v 3 2), .int (v 3 3), .int (v 7 8), .ref (q 4)]) (rest := []) hC (c_X1_joinWrite l G (ct 32 (sh 21 q) (sh 4 q)) (ct 32 (sh 21 v) (sh 4 v)) (v 3 2) (v 3 3) (v 7 8) hy7 H.size) (xcwV hC lk_X8_198 in_X1 co_X1_joinWrite im_X1_joinWrite se_X1_joinWrite rfl rfl dd_X1_joinWrite ⟨Nat.le_of_ble_eq_true rfl, Nat.le_of_ble_eq_true rfl⟩) (preV2 h 21 32 4 2 (x2E1 sBC_21 locLine) (x2E2 sBC_4) (Nat.le_of_ble_eq_true rfl) (Nat.le_of_ble_eq_true rfl) (by omega) (Nat.le_of_ble_eq_true rfl) eBC_21 rfl [.int (v 3 2), .int (v 3 3), .int (v 7 8), .ref (q 4)]) rfl rfl hl.1 rfl (lv_room (Nat.le_of_ble_eq_true rfl)) dX8_doPart_139 ⟨Nat.zero_le _, Nat.zero_le _⟩) (fun H locs h => ?_)
        obtain ⟨v9, ev9, hf⟩ := lt_e hf
        rw [← ev9] at h
        refine lv_pop hx hb dX8_doPart_142 rfl ?_
        refine lv_iconst (v := (1 : Int32)) hx hb dX8_doPart_143 (by decide) ?_
        have hf := sm_e hf
        exact xzret hC hr hlk h (by rw [← hf]) (by decide) (by rw [← hf]) dX8_doPart_144
      · have hf := it_t c6 hf
        refine lv_aload_n hx hb dX8_doPart_68 rfl (lv_at hl 0 rfl) ?_
        refine xget hC h.o (C := RX8) (T := TX8) (N := 10) (wM_us uw_X8) 0 (Nat.le_of_ble_eq_true rfl) eBC_0 rfl 0 (by decide) (wM_in fl_X8_10) rfl dX8_doPart_69 ?_
        refine xget hC h.o (C := RX6) (T := TX6) (N := 13) (wM_us uw_X6) 7 (Nat.le_of_ble_eq_true rfl) eBC_7 rfl 5 (by decide) (wM_in fl_X8_180) rfl dX8_doPart_72 ?_
        refine lv_iconst (v := (2 : Int32)) hx hb dX8_doPart_75 (by decide) ?_
        refine lv_aload_n hx hb dX8_doPart_76 rfl (lv_at hl 0 rfl) ?_
        refine xget hC h.o (C := RX8) (T := TX8) (N := 10) (wM_us uw_X8) 0 (Nat.le_of_ble_eq_true rfl) eBC_0 rfl 8 (by decide) (wM_in fl_X8_44) rfl dX8_doPart_77 ?_
        refine xget hC h.o (C := RX5) (T := TX5) (N := 6) (wM_us uw_X5) 3 (Nat.le_of_ble_eq_true rfl) eBC_3 rfl 2 (by decide) (wM_in fl_X8_476) rfl dX8_doPart_80 ?_
        refine lv_aload_n hx hb dX8_doPart_83 rfl (lv_at hl 0 rfl) ?_
        refine xget hC h.o (C := RX8) (T := TX8) (N := 10) (wM_us uw_X8) 0 (Nat.le_of_ble_eq_true rfl) eBC_0 rfl 8 (by decide) (wM_in fl_X8_44) rfl dX8_doPart_84 ?_
        refine xget hC h.o (C := RX5) (T := TX5) (N := 6) (wM_us uw_X5) 3 (Nat.le_of_ble_eq_true rfl) eBC_3 rfl 3 (by decide) (wM_in fl_X8_477) rfl dX8_doPart_87 ?_
        refine lv_aload_n hx hb dX8_doPart_90 rfl (lv_at hl 0 rfl) ?_
        refine xget hC h.o (C := RX8) (T := TX8) (N := 10) (wM_us uw_X8) 0 (Nat.le_of_ble_eq_true rfl) eBC_0 rfl 0 (by decide) (wM_in fl_X8_10) rfl dX8_doPart_91 ?_
        refine xget hC h.o (C := RX6) (T := TX6) (N := 13) (wM_us uw_X6) 7 (Nat.le_of_ble_eq_true rfl) eBC_7 rfl 8 (by decide) (wM_in fl_X8_191) rfl dX8_doPart_94 ?_
        obtain ⟨r11, hy10, hf⟩ := ob_e hf
        refine xi1 h 21 32 sBC_21 (Nat.le_of_ble_eq_true rfl) (va_runV (As := [.int (2 : Int32), .int (v 3 2), .int (v 3 3), .int (v 7 8)]) (rest := []) hC (c_X1_join l G (sh 21 q) (sh 21 v) (2 : Int32) (v 3 2) (v 3 3) (v 7 8) hy10 H.size) (xcwV hC lk_X8_194 in_X1 co_X1_join im_X1_join se_X1_join rfl rfl dd_X1_join ⟨Nat.le_of_ble_eq_true rfl, Nat.le_of_ble_eq_true rfl⟩) (preV1 h 21 32 sBC_21 (Nat.le_of_ble_eq_true rfl) (Nat.le_of_ble_eq_true rfl) eBC_21 rfl [.int (2 : Int32), .int (v 3 2), .int (v 3 3), .int (v 7 8)]) rfl rfl hl.1 rfl (lv_room (Nat.le_of_ble_eq_true rfl)) dX8_doPart_97 ⟨Nat.zero_le _, Nat.zero_le _⟩) (fun H locs h => ?_)
        obtain ⟨v12, ev12, hf⟩ := lt_e hf
        rw [← ev12] at h
        refine lv_pop hx hb dX8_doPart_100 rfl ?_
        refine lv_goto (tgt := 143) hx hb dX8_doPart_101 (by decide) ?_
        refine lv_iconst (v := (1 : Int32)) hx hb dX8_doPart_143 (by decide) ?_
        have hf := sm_e hf
        exact xzret hC hr hlk h (by rw [← hf]) (by decide) (by rw [← hf]) dX8_doPart_144
    · have hf := it_f c5 hf
      refine lv_iconst (v := (0 : Int32)) hx hb dX8_doPart_54 (by decide) ?_
      have hf := sm_e hf
      exact xzret hC hr hlk h (by rw [← hf]) (by decide) (by rw [← hf]) dX8_doPart_55
  · have hf := it_t c1 hf
    refine lv_iconst (v := (0 : Int32)) hx hb dX8_doPart_12 (by decide) ?_
    refine lv_istore_n (lv' := [(1, .int (0 : Int32)), (0, .ref (q 0))]) hx hb dX8_doPart_13 rfl hl (by decide) rfl (fun ls hl => ?_)
    refine lp_i (z := z) (P := fun (pp : Int32 × xSt) => ∀ (H : Heap) (locs : List Loc), hg G (eBC G) 430 q pp.2 A s H locs → ∀ (ls : Array Slot), lv_has ls 2 [(0, .ref (q 0)), (1, .int pp.1)] → W p l e { frames := 6, cells := 0, slots := 0, locals := 166 } s m [.ref (q 0)].toArray below meth c H locs 0 0 (MQ below ((qZ z.1) (cB G (eBC G) 430 q z.2 A) A) [.ref (q 0)].toArray s 0 0 A) (F0 m 14 ls [])) ?_ _ _ hf H locs h ls (lv_sub hl [1, 0] rfl)
    intro rec15 hrec15 pp hf H locs h ls hl
    obtain ⟨a13, v14⟩ := pp
    have h : hg G (eBC G) 430 q v14 A s H locs := h
    have hl : lv_has ls 2 [(0, .ref (q 0)), (1, .int a13)] := hl
    have hf := un2_e hf
    refine lv_iload_n hx hb dX8_doPart_14 rfl (lv_at hl 1 rfl) ?_
    refine lv_aload_n hx hb dX8_doPart_15 rfl (lv_at hl 0 rfl) ?_
    refine xget hC h.o (C := RX8) (T := TX8) (N := 10) (wM_us uw_X8) 0 (Nat.le_of_ble_eq_true rfl) eBC_0 rfl 8 (by decide) (wM_in fl_X8_44) rfl dX8_doPart_16 ?_
    refine xget hC h.o (C := RX5) (T := TX5) (N := 6) (wM_us uw_X5) 3 (Nat.le_of_ble_eq_true rfl) eBC_3 rfl 2 (by decide) (wM_in fl_X8_476) rfl dX8_doPart_19 ?_
    refine lv_icmp_ge (tgt := 39) hx hb dX8_doPart_22 (by decide) (fun c16 => ?_) (fun c16 => ?_)
    · have hf := it_t c16 hf
      refine lv_iconst (v := (1 : Int32)) hx hb dX8_doPart_39 (by decide) ?_
      have hf := sm_e hf
      exact xzret hC hr hlk h (by rw [← hf]) (by decide) (by rw [← hf]) dX8_doPart_40
    · have hf := it_f c16 hf
      refine lv_aload_n hx hb dX8_doPart_25 rfl (lv_at hl 0 rfl) ?_
      refine xget hC h.o (C := RX8) (T := TX8) (N := 10) (wM_us uw_X8) 0 (Nat.le_of_ble_eq_true rfl) eBC_0 rfl 0 (by decide) (wM_in fl_X8_10) rfl dX8_doPart_26 ?_
      obtain ⟨r18, hy17, hf⟩ := ob_e hf
      refine xz1 h 7 47 sBC_7 (Nat.le_of_ble_eq_true rfl) (va_runV (As := []) (rest := []) hC (c_X6_tick l G (sh 7 q) (sh 7 v14) hy17 H.size) (xcwV hC lk_X8_213 in_X6 co_X6_tick im_X6_tick se_X6_tick rfl rfl dd_X6_tick ⟨Nat.le_of_ble_eq_true rfl, Nat.le_of_ble_eq_true rfl⟩) (preV1 h 7 47 sBC_7 (Nat.le_of_ble_eq_true rfl) (Nat.le_of_ble_eq_true rfl) eBC_7 rfl []) rfl rfl hl.1 rfl (lv_room (Nat.le_of_ble_eq_true rfl)) dX8_doPart_29 ⟨Nat.zero_le _, Nat.zero_le _⟩) (fun H locs hz19 h => ?_)
      obtain ⟨v20, ev20, hf⟩ := lt_e hf
      rw [← ev20] at h
      refine lv_pop hx hb dX8_doPart_32 rfl ?_
      refine lv_iinc (v := (a13 + 1)) (lv' := [(1, .int (a13 + 1)), (0, .ref (q 0))]) hx hb dX8_doPart_33 hl (k := 1) rfl rfl (by decide) rfl (fun ls hl => ?_)
      refine lv_goto (tgt := 14) hx hb dX8_doPart_36 (by decide) ?_
      exact hrec15 ((a13 + 1), v20) hf H locs h ls (lv_sub hl [1, 0] rfl)
def m_X8_isPlace (p0 : Int32) (p1 : Int32) : Option (Int32) := (if p0 = (1 : Int32) then some (xwi p1 0 255) else (if p0 = (2 : Int32) then some (xwi p1 0 7) else some (xwi p1 (0 : Int32) (4 : Int32))))
set_option maxHeartbeats 4000000 in
set_option maxRecDepth 100000 in
theorem c_X8_isPlace (l : Launch) (G : xGl) (q : Nat → Nat) (v : xSt) (p0 : Int32) (p1 : Int32) {z : (Int32)} (hf : m_X8_isPlace p0 p1 = some z) : mRO l yX8_isPlace (wM yX8_isPlace cX8_isPlace 2 (some .boolean)) { frames := 2, cells := 0, slots := 0, locals := 42 } G (e0) 0 q v [.int p0, .int p1] (qZ z) := by
  refine xRO (cc := cX8_isPlace) (maxL := 2) (ret := (some .boolean)) (by decide) rfl (Nat.le_of_ble_eq_true rfl) ?_
  intro p e s m below meth c ls A hC hr hlk h hl
  have hx := hC.1
  have hb := hC.2.1
  have hl : lv_has ls 2 [(0, .int p0), (1, .int p1)] := hl
  unfold m_X8_isPlace at hf
  obtain ⟨H, hH⟩ : ∃ H, H = s.heap := ⟨_, rfl⟩
  obtain ⟨locs, hlo⟩ : ∃ x : List Loc, x = [] := ⟨_, rfl⟩
  have h : ho G (e0) 0 q v A s H locs := by rw [hH, hlo]; exact h
  rw [← hlo, ← hH]
  clear hH hlo
  refine lv_iload_n hx hb dX8_isPlace_0 rfl (lv_at hl 0 rfl) ?_
  refine lv_iconst (v := (1 : Int32)) hx hb dX8_isPlace_1 (by decide) ?_
  refine lv_icmp_ne (tgt := 10) hx hb dX8_isPlace_2 (by decide) (fun c1 => ?_) (fun c1 => ?_)
  · have hf := it_f c1 hf
    refine lv_iload_n hx hb dX8_isPlace_10 rfl (lv_at hl 0 rfl) ?_
    refine lv_iconst (v := (2 : Int32)) hx hb dX8_isPlace_11 (by decide) ?_
    refine lv_icmp_ne (tgt := 22) hx hb dX8_isPlace_12 (by decide) (fun c2 => ?_) (fun c2 => ?_)
    · have hf := it_f c2 hf
      refine lv_iload_n hx hb dX8_isPlace_22 rfl (lv_at hl 1 rfl) ?_
      refine lv_iconst (v := (0 : Int32)) hx hb dX8_isPlace_23 (by decide) ?_
      refine lv_iconst (v := (4 : Int32)) hx hb dX8_isPlace_24 (by decide) ?_
      refine xzO h (va_runS (As := [.int p1, .int (0 : Int32), .int (4 : Int32)]) (rest := []) hC (k_X8_isWithin l G q v p1 (0 : Int32) (4 : Int32) H.size) (xcwS hC lk_X8_69 in_X8 co_X8_isWithin st_X8_isWithin rfl rfl dd_X8_isWithin ⟨Nat.le_of_ble_eq_true rfl, Nat.le_of_ble_eq_true rfl⟩) (preSN h.o [.int p1, .int (0 : Int32), .int (4 : Int32)]) rfl rfl hl.1 rfl (lv_room (Nat.le_of_ble_eq_true rfl)) dX8_isPlace_25 ⟨Nat.zero_le _, Nat.zero_le _⟩) (fun H locs hz3 h => ?_)
      have hf := sm_e hf
      exact ozret hC hr hlk h (by rw [← hf]) hz3 dX8_isPlace_28
    · have hf := it_t c2 hf
      refine lv_iload_n hx hb dX8_isPlace_15 rfl (lv_at hl 1 rfl) ?_
      refine xzO h (va_runS (As := [.int p1]) (rest := []) hC (k_X8_isSector l G q v p1 H.size) (xcwS hC lk_X8_126 in_X8 co_X8_isSector st_X8_isSector rfl rfl dd_X8_isSector ⟨Nat.le_of_ble_eq_true rfl, Nat.le_of_ble_eq_true rfl⟩) (preSN h.o [.int p1]) rfl rfl hl.1 rfl (lv_room (Nat.le_of_ble_eq_true rfl)) dX8_isPlace_16 ⟨Nat.zero_le _, Nat.zero_le _⟩) (fun H locs hz4 h => ?_)
      refine lv_goto (tgt := 28) hx hb dX8_isPlace_19 (by decide) ?_
      have hf := sm_e hf
      exact ozret hC hr hlk h (by rw [← hf]) hz4 dX8_isPlace_28
  · have hf := it_t c1 hf
    refine lv_iload_n hx hb dX8_isPlace_5 rfl (lv_at hl 1 rfl) ?_
    refine xzO h (va_runS (As := [.int p1]) (rest := []) hC (k_X8_isCell l G q v p1 H.size) (xcwS hC lk_X8_93 in_X8 co_X8_isCell st_X8_isCell rfl rfl dd_X8_isCell ⟨Nat.le_of_ble_eq_true rfl, Nat.le_of_ble_eq_true rfl⟩) (preSN h.o [.int p1]) rfl rfl hl.1 rfl (lv_room (Nat.le_of_ble_eq_true rfl)) dX8_isPlace_6 ⟨Nat.zero_le _, Nat.zero_le _⟩) (fun H locs hz5 h => ?_)
    have hf := sm_e hf
    exact ozret hC hr hlk h (by rw [← hf]) hz5 dX8_isPlace_9
