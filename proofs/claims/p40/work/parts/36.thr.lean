def m_X8_isSetting (v : xSt) (p0 : Int32) : Option (Int32 × xSt) := some ((xwi p0 (0 : Int32) ((5 : Int32) - (1 : Int32))), v)
set_option maxHeartbeats 4000000 in
set_option maxRecDepth 100000 in
theorem c_X8_isSetting (l : Launch) (G : xGl) (sa q : Nat → Nat) (v : xSt) (p0 : Int32) {z : (Int32 × xSt)} (hf : m_X8_isSetting v p0 = some z) : mRS l yX8_isSetting (wM yX8_isSetting cX8_isSetting 1 (some .boolean)) { frames := 1, cells := 0, slots := 0, locals := 22 } G sa (e0) 0 q v [.int p0] (qZ z.1) z.2 0 0 := by
  refine xRS (cc := cX8_isSetting) (maxL := 1) (ret := (some .boolean)) (by decide) rfl (Nat.le_of_ble_eq_true rfl) ?_
  intro p e s m below meth c ls A hC hr hlk h hT hl
  have hx := hC.1
  have hb := hC.2.1
  have hl : lv_has ls 1 [(0, .int p0)] := hl
  unfold m_X8_isSetting at hf
  obtain ⟨H, hH⟩ : ∃ H, H = s.heap := ⟨_, rfl⟩
  obtain ⟨locs, hlo⟩ : ∃ x : List Loc, x = [] := ⟨_, rfl⟩
  have h : hg G (e0) 0 q v A s H locs := by rw [hH, hlo]; exact h
  rw [← hlo, ← hH]
  clear hH hlo
  refine lv_iload_n hx hb dX8_isSetting_0 rfl (lv_at hl 0 rfl) ?_
  refine lv_iconst (v := (0 : Int32)) hx hb dX8_isSetting_1 (by decide) ?_
  refine xgs hC h hT 0 (by decide) (wM_in fl_X8_479) dX8_isSetting_2 ?_
  refine xgsl hC h hT 0 (by decide) dX8_isSetting_5 ?_
  refine lv_iconst (v := (1 : Int32)) hx hb dX8_isSetting_6 (by decide) ?_
  refine lv_isub hx hb dX8_isSetting_7 ?_
  refine xzG h (va_runS (As := [.int p0, .int (0 : Int32), .int ((5 : Int32) - (1 : Int32))]) (rest := []) hC (k_X8_isWithin l G q v p0 (0 : Int32) ((5 : Int32) - (1 : Int32)) H.size) (xcwS hC lk_X8_69 in_X8 co_X8_isWithin st_X8_isWithin rfl rfl dd_X8_isWithin ⟨Nat.le_of_ble_eq_true rfl, Nat.le_of_ble_eq_true rfl⟩) (preSN h.o [.int p0, .int (0 : Int32), .int ((5 : Int32) - (1 : Int32))]) rfl rfl hl.1 rfl (lv_room (Nat.le_of_ble_eq_true rfl)) dX8_isSetting_8 ⟨Nat.zero_le _, Nat.zero_le _⟩) (fun H locs hz1 h => ?_)
  have hf := sm_e hf
  exact xzret hC hr hlk h (by rw [← hf]) hz1 (by rw [← hf]) dX8_isSetting_11
theorem k_X8_isSetting (l : Launch) (G : xGl) (sa q : Nat → Nat) (v : xSt) (a : Int32) : mRS l yX8_isSetting (wM yX8_isSetting cX8_isSetting 1 (some .boolean)) { frames := 1, cells := 0, slots := 0, locals := 22 } G sa e0 0 q v [.int a] (qZ (xwi a 0 4)) v 0 0 := c_X8_isSetting l G sa q v a rfl
def m_X8_arm_n (v : xSt) : Option (Int32 × xSt) := ob (m_X6_isBusy (sh 7 v)) (fun r2 => (if r2 = 0 then ob (m_X8_save v) (fun r6 => lt (fun (t7 : Int32) => lt (st2 r6 7 7 (1 : Int32)) (fun v9 => some (t7, v9))) (fun j8 => (if (r6 7 7) = 0 then j8 (0 : Int32) else j8 (1 : Int32)))) else none))
set_option maxHeartbeats 4000000 in
set_option maxRecDepth 100000 in
theorem c_X8_arm_n (l : Launch) (G : xGl) (q : Nat → Nat) (v : xSt) {z : (Int32 × xSt)} (hf : m_X8_arm_n v = some z) : mRW l yX8_arm (wM yX8_arm cX8_arm 2 (some .int)) { frames := 6, cells := 0, slots := 0, locals := 168 } G (eBC G) 430 q v [.ref (q 0)] (qI z.1) z.2 := by
  refine xRW (cc := cX8_arm) (maxL := 2) (ret := (some .int)) (by decide) rfl (Nat.le_of_ble_eq_true rfl) ?_
  intro p e s m below meth c ls A hC hr hlk h hl
  have hx := hC.1
  have hb := hC.2.1
  have hl : lv_has ls 2 [(0, .ref (q 0))] := hl
  unfold m_X8_arm_n at hf
  obtain ⟨H, hH⟩ : ∃ H, H = s.heap := ⟨_, rfl⟩
  obtain ⟨locs, hlo⟩ : ∃ x : List Loc, x = [] := ⟨_, rfl⟩
  have h : hg G (eBC G) 430 q v A s H locs := by rw [hH, hlo]; exact h
  rw [← hlo, ← hH]
  clear hH hlo
  refine lv_aload_n hx hb dX8_arm_0 rfl (lv_at hl 0 rfl) ?_
  refine xget hC h.o (C := RX8) (T := TX8) (N := 10) (wM_us uw_X8) 0 (Nat.le_of_ble_eq_true rfl) eBC_0 rfl 0 (by decide) (wM_in fl_X8_10) rfl dX8_arm_1 ?_
  obtain ⟨r2, hy1, hf⟩ := ob_e hf
  refine xzG h (va_runV (As := []) (rest := []) hC (c_X6_isBusy l G (sh 7 q) (sh 7 v) hy1 H.size) (xcwV hC lk_X8_52 in_X6 co_X6_isBusy im_X6_isBusy se_X6_isBusy rfl rfl dd_X6_isBusy ⟨Nat.le_of_ble_eq_true rfl, Nat.le_of_ble_eq_true rfl⟩) (preVO h.o 7 47 sBC_7 (Nat.le_of_ble_eq_true rfl) (Nat.le_of_ble_eq_true rfl) eBC_7 rfl []) rfl rfl hl.1 rfl (lv_room (Nat.le_of_ble_eq_true rfl)) dX8_arm_4 ⟨Nat.zero_le _, Nat.zero_le _⟩) (fun H locs hz3 h => ?_)
  refine lv_if_eq (tgt := 20) hx hb dX8_arm_7 (by decide) (fun c4 => ?_) (fun c4 => ?_)
  · have hf := it_t c4 hf
    refine lv_aload_n hx hb dX8_arm_20 rfl (lv_at hl 0 rfl) ?_
    obtain ⟨r6, hy5, hf⟩ := ob_e hf
    refine xv0 h (va_runV (As := []) (rest := []) hC (c_X8_save l G q v hy5 H.size) (xcwV hC lk_X8_63 in_X8 co_X8_save im_X8_save se_X8_save rfl rfl dd_X8_save ⟨Nat.le_of_ble_eq_true rfl, Nat.le_of_ble_eq_true rfl⟩) (preV0 h (Nat.le_of_ble_eq_true rfl) eBC_0 rfl []) rfl rfl hl.1 rfl (lv_room (Nat.le_of_ble_eq_true rfl)) dX8_arm_21 ⟨Nat.zero_le _, Nat.zero_le _⟩) (fun H locs h => ?_)
    refine lv_aload_n hx hb dX8_arm_24 rfl (lv_at hl 0 rfl) ?_
    refine xget hC h.o (C := RX8) (T := TX8) (N := 10) (wM_us uw_X8) 0 (Nat.le_of_ble_eq_true rfl) eBC_0 rfl 0 (by decide) (wM_in fl_X8_10) rfl dX8_arm_25 ?_
    refine xget hC h.o (C := RX6) (T := TX6) (N := 13) (wM_us uw_X6) 7 (Nat.le_of_ble_eq_true rfl) eBC_7 rfl 7 (by decide) (wM_in fl_X8_66) rfl dX8_arm_28 ?_
    obtain ⟨j8, ej8, hf⟩ := lt_e hf
    have hj8 : ∀ (t7 : Int32) (H : Heap) (locs : List Loc), hg G (eBC G) 430 q r6 A s H locs → ∀ (ls : Array Slot), lv_has ls 2 [(0, .ref (q 0))] → j8 t7 = some z → W p l e { frames := 6, cells := 0, slots := 0, locals := 168 } s m [.ref (q 0)].toArray below meth c H locs 0 0 (MQ below ((qI z.1) (cB G (eBC G) 430 q z.2 A) A) [.ref (q 0)].toArray s 0 0 A) (F0 m 39 ls [.int t7]) := by
      intro t7 H locs h ls hl hf
      rw [ej8] at hf
      refine lv_istore_n (lv' := [(1, .int t7), (0, .ref (q 0))]) hx hb dX8_arm_39 rfl hl (by decide) rfl (fun ls hl => ?_)
      refine lv_aload_n hx hb dX8_arm_40 rfl (lv_at hl 1 rfl) ?_
      refine xget hC h.o (C := RX8) (T := TX8) (N := 10) (wM_us uw_X8) 0 (Nat.le_of_ble_eq_true rfl) eBC_0 rfl 0 (by decide) (wM_in fl_X8_10) rfl dX8_arm_41 ?_
      refine lv_iconst (v := (1 : Int32)) hx hb dX8_arm_44 (by decide) ?_
      refine xput hC h (C := RX6) (T := TX6) (N := 13) (wM_us uw_X6) tyX6_ok nmX6 7 (Nat.le_of_ble_eq_true rfl) eBC_7 rfl 7 (by decide) (wM_in fl_X8_66) rfl (ty := .boolean) (tyX6_ok 7 (by decide)) rfl rfl (Nat.le_of_ble_eq_true rfl) (eBC_7.trans rfl) dX8_arm_45 (fun H locs h => ?_)
      obtain ⟨v9, ev9, hf⟩ := lt_e hf
      rw [← ev9] at h
      refine lv_iload_n hx hb dX8_arm_48 rfl (lv_at hl 0 rfl) ?_
      have hf := sm_e hf
      exact xiret hC hr hlk h (by rw [← hf]) (by rw [← hf]) dX8_arm_49
    refine lv_if_eq (tgt := 38) hx hb dX8_arm_31 (by decide) (fun c10 => ?_) (fun c10 => ?_)
    · have hf := it_t c10 hf
      refine lv_iconst (v := (0 : Int32)) hx hb dX8_arm_38 (by decide) ?_
      exact hj8 (0 : Int32) H locs h ls (lv_sub hl [0] rfl) hf
    · have hf := it_f c10 hf
      refine lv_iconst (v := (1 : Int32)) hx hb dX8_arm_34 (by decide) ?_
      refine lv_goto (tgt := 39) hx hb dX8_arm_35 (by decide) ?_
      exact hj8 (1 : Int32) H locs h ls (lv_sub hl [0] rfl) hf
  · have hf := it_f c4 hf
    cases hf
def m_X8_load_n (v : xSt) (p1 : Int32) : Option (Int32 × xSt) := (if (xwi p1 (0 : Int32) (255 : Int32)) = 0 then none else (if (v 13 1) < (12 : Int32) then ob (m_X8_save v) (fun r5 => ob (m_X4_add (sh 13 r5) p1) (fun r7 => lt (pu 13 2 r5 r7) (fun v8 => some ((v8 13 1), v8)))) else none))
set_option maxHeartbeats 4000000 in
set_option maxRecDepth 100000 in
theorem c_X8_load_n (l : Launch) (G : xGl) (q : Nat → Nat) (v : xSt) (p1 : Int32) {z : (Int32 × xSt)} (hf : m_X8_load_n v p1 = some z) : mRW l yX8_load (wM yX8_load cX8_load 2 (some .int)) { frames := 6, cells := 0, slots := 0, locals := 168 } G (eBC G) 430 q v [.ref (q 0), .int p1] (qI z.1) z.2 := by
  refine xRW (cc := cX8_load) (maxL := 2) (ret := (some .int)) (by decide) rfl (Nat.le_of_ble_eq_true rfl) ?_
  intro p e s m below meth c ls A hC hr hlk h hl
  have hx := hC.1
  have hb := hC.2.1
  have hl : lv_has ls 2 [(0, .ref (q 0)), (1, .int p1)] := hl
  unfold m_X8_load_n at hf
  obtain ⟨H, hH⟩ : ∃ H, H = s.heap := ⟨_, rfl⟩
  obtain ⟨locs, hlo⟩ : ∃ x : List Loc, x = [] := ⟨_, rfl⟩
  have h : hg G (eBC G) 430 q v A s H locs := by rw [hH, hlo]; exact h
  rw [← hlo, ← hH]
  clear hH hlo
  refine lv_iload_n hx hb dX8_load_0 rfl (lv_at hl 1 rfl) ?_
  refine lv_iconst (v := (0 : Int32)) hx hb dX8_load_1 (by decide) ?_
  refine lv_sipush (v := (255 : Int32)) hx hb dX8_load_2 (by decide) ?_
  refine xzG h (va_runS (As := [.int p1, .int (0 : Int32), .int (255 : Int32)]) (rest := []) hC (k_X8_isWithin l G q v p1 (0 : Int32) (255 : Int32) H.size) (xcwS hC lk_X8_69 in_X8 co_X8_isWithin st_X8_isWithin rfl rfl dd_X8_isWithin ⟨Nat.le_of_ble_eq_true rfl, Nat.le_of_ble_eq_true rfl⟩) (preSN h.o [.int p1, .int (0 : Int32), .int (255 : Int32)]) rfl rfl hl.1 rfl (lv_room (Nat.le_of_ble_eq_true rfl)) dX8_load_5 ⟨Nat.zero_le _, Nat.zero_le _⟩) (fun H locs hz1 h => ?_)
  refine lv_if_ne (tgt := 21) hx hb dX8_load_8 (by decide) (fun c2 => ?_) (fun c2 => ?_)
  · have hf := it_f c2 hf
    refine lv_aload_n hx hb dX8_load_21 rfl (lv_at hl 0 rfl) ?_
    refine xget hC h.o (C := RX8) (T := TX8) (N := 10) (wM_us uw_X8) 0 (Nat.le_of_ble_eq_true rfl) eBC_0 rfl 0 (by decide) (wM_in fl_X8_10) rfl dX8_load_22 ?_
    refine xget hC h.o (C := RX6) (T := TX6) (N := 13) (wM_us uw_X6) 7 (Nat.le_of_ble_eq_true rfl) eBC_7 rfl 2 (by decide) (wM_in fl_X8_78) rfl dX8_load_25 ?_
    refine xget hC h.o (C := RX4) (T := TX4) (N := 2) (wM_us uw_X4) 13 (Nat.le_of_ble_eq_true rfl) eBC_13 rfl 1 (by decide) (wM_in fl_X8_82) rfl dX8_load_28 ?_
    refine lv_bipush (v := (12 : Int32)) hx hb dX8_load_31 (by decide) ?_
    refine lv_icmp_lt (tgt := 46) hx hb dX8_load_33 (by decide) (fun c3 => ?_) (fun c3 => ?_)
    · have hf := it_t c3 hf
      refine lv_aload_n hx hb dX8_load_46 rfl (lv_at hl 0 rfl) ?_
      obtain ⟨r5, hy4, hf⟩ := ob_e hf
      refine xv0 h (va_runV (As := []) (rest := []) hC (c_X8_save l G q v hy4 H.size) (xcwV hC lk_X8_63 in_X8 co_X8_save im_X8_save se_X8_save rfl rfl dd_X8_save ⟨Nat.le_of_ble_eq_true rfl, Nat.le_of_ble_eq_true rfl⟩) (preV0 h (Nat.le_of_ble_eq_true rfl) eBC_0 rfl []) rfl rfl hl.1 rfl (lv_room (Nat.le_of_ble_eq_true rfl)) dX8_load_47 ⟨Nat.zero_le _, Nat.zero_le _⟩) (fun H locs h => ?_)
      refine lv_aload_n hx hb dX8_load_50 rfl (lv_at hl 0 rfl) ?_
      refine xget hC h.o (C := RX8) (T := TX8) (N := 10) (wM_us uw_X8) 0 (Nat.le_of_ble_eq_true rfl) eBC_0 rfl 0 (by decide) (wM_in fl_X8_10) rfl dX8_load_51 ?_
      refine xget hC h.o (C := RX6) (T := TX6) (N := 13) (wM_us uw_X6) 7 (Nat.le_of_ble_eq_true rfl) eBC_7 rfl 2 (by decide) (wM_in fl_X8_78) rfl dX8_load_54 ?_
      refine lv_iload_n hx hb dX8_load_57 rfl (lv_at hl 1 rfl) ?_
      obtain ⟨r7, hy6, hf⟩ := ob_e hf
      refine xv1 h 13 2 sBC_13 (Nat.le_of_ble_eq_true rfl) (va_runV (As := [.int p1]) (rest := []) hC (c_X4_add l G (sh 13 q) (sh 13 r5) p1 hy6 H.size) (xcwV hC lk_X8_89 in_X4 co_X4_add im_X4_add se_X4_add rfl rfl dd_X4_add ⟨Nat.le_of_ble_eq_true rfl, Nat.le_of_ble_eq_true rfl⟩) (preV1 h 13 2 sBC_13 (Nat.le_of_ble_eq_true rfl) (Nat.le_of_ble_eq_true rfl) eBC_13 rfl [.int p1]) rfl rfl hl.1 rfl (lv_room (Nat.le_of_ble_eq_true rfl)) dX8_load_58 ⟨Nat.zero_le _, Nat.zero_le _⟩) (fun H locs h => ?_)
      obtain ⟨v8, ev8, hf⟩ := lt_e hf
      rw [← ev8] at h
      refine lv_aload_n hx hb dX8_load_61 rfl (lv_at hl 0 rfl) ?_
      refine xget hC h.o (C := RX8) (T := TX8) (N := 10) (wM_us uw_X8) 0 (Nat.le_of_ble_eq_true rfl) eBC_0 rfl 0 (by decide) (wM_in fl_X8_10) rfl dX8_load_62 ?_
      refine xget hC h.o (C := RX6) (T := TX6) (N := 13) (wM_us uw_X6) 7 (Nat.le_of_ble_eq_true rfl) eBC_7 rfl 2 (by decide) (wM_in fl_X8_78) rfl dX8_load_65 ?_
      refine xget hC h.o (C := RX4) (T := TX4) (N := 2) (wM_us uw_X4) 13 (Nat.le_of_ble_eq_true rfl) eBC_13 rfl 1 (by decide) (wM_in fl_X8_82) rfl dX8_load_68 ?_
      have hf := sm_e hf
      exact xiret hC hr hlk h (by rw [← hf]) (by rw [← hf]) dX8_load_71
    · have hf := it_f c3 hf
      cases hf
  · have hf := it_t c2 hf
    cases hf
def m_X8_write_n (v : xSt) (p1 : Int32) : Option (Int32 × xSt) := (if (xwi p1 0 255) = 0 then none else ob (m_X6_hindrance (sh 7 v) (1 : Int32) p1) (fun r4 => (if r4 = 0 then ob (m_X8_save v) (fun r7 => ob (m_X6_settingOf (sh 7 r7) (0 : Int32)) (fun r9 => ob (m_X7_startWrite (ct 3 (sh 15 r7) (sh 13 r7)) p1 r9 (-1 : Int32)) (fun r11 => lt (pu 13 2 (pu 15 3 r7 r11) (sh 3 r11)) (fun v12 => lt (st2 v12 13 1 (0 : Int32)) (fun v13 => lt (st2 v13 7 7 (0 : Int32)) (fun v14 => ob (m_X7_left (sh 15 v14)) (fun r16 => some (r16, v14)))))))) else none)))
set_option maxHeartbeats 4000000 in
set_option maxRecDepth 100000 in
theorem c_X8_write_n (l : Launch) (G : xGl) (q : Nat → Nat) (v : xSt) (p1 : Int32) {z : (Int32 × xSt)} (hf : m_X8_write_n v p1 = some z) : mRW l yX8_write (wM yX8_write cX8_write 2 (some .int)) { frames := 6, cells := 0, slots := 0, locals := 168 } G (eBC G) 430 q v [.ref (q 0), .int p1] (qI z.1) z.2 := by
  refine xRW (cc := cX8_write) (maxL := 2) (ret := (some .int)) (by decide) rfl (Nat.le_of_ble_eq_true rfl) ?_
  intro p e s m below meth c ls A hC hr hlk h hl
  have hx := hC.1
  have hb := hC.2.1
  have hl : lv_has ls 2 [(0, .ref (q 0)), (1, .int p1)] := hl
  unfold m_X8_write_n at hf
  obtain ⟨H, hH⟩ : ∃ H, H = s.heap := ⟨_, rfl⟩
  obtain ⟨locs, hlo⟩ : ∃ x : List Loc, x = [] := ⟨_, rfl⟩
  have h : hg G (eBC G) 430 q v A s H locs := by rw [hH, hlo]; exact h
  rw [← hlo, ← hH]
  clear hH hlo
  refine lv_iload_n hx hb dX8_write_0 rfl (lv_at hl 1 rfl) ?_
  refine xzG h (va_runS (As := [.int p1]) (rest := []) hC (k_X8_isCell l G q v p1 H.size) (xcwS hC lk_X8_93 in_X8 co_X8_isCell st_X8_isCell rfl rfl dd_X8_isCell ⟨Nat.le_of_ble_eq_true rfl, Nat.le_of_ble_eq_true rfl⟩) (preSN h.o [.int p1]) rfl rfl hl.1 rfl (lv_room (Nat.le_of_ble_eq_true rfl)) dX8_write_1 ⟨Nat.zero_le _, Nat.zero_le _⟩) (fun H locs hz1 h => ?_)
  refine lv_if_ne (tgt := 17) hx hb dX8_write_4 (by decide) (fun c2 => ?_) (fun c2 => ?_)
  · have hf := it_f c2 hf
    refine lv_aload_n hx hb dX8_write_17 rfl (lv_at hl 0 rfl) ?_
    refine xget hC h.o (C := RX8) (T := TX8) (N := 10) (wM_us uw_X8) 0 (Nat.le_of_ble_eq_true rfl) eBC_0 rfl 0 (by decide) (wM_in fl_X8_10) rfl dX8_write_18 ?_
    refine lv_iconst (v := (1 : Int32)) hx hb dX8_write_21 (by decide) ?_
    refine lv_iload_n hx hb dX8_write_22 rfl (lv_at hl 1 rfl) ?_
    obtain ⟨r4, hy3, hf⟩ := ob_e hf
    refine xiG h (va_runV (As := [.int (1 : Int32), .int p1]) (rest := []) hC (c_X6_hindrance l G (sh 7 q) (sh 7 v) (1 : Int32) p1 hy3 H.size) (xcwV hC lk_X8_102 in_X6 co_X6_hindrance im_X6_hindrance se_X6_hindrance rfl rfl dd_X6_hindrance ⟨Nat.le_of_ble_eq_true rfl, Nat.le_of_ble_eq_true rfl⟩) (preVO h.o 7 47 sBC_7 (Nat.le_of_ble_eq_true rfl) (Nat.le_of_ble_eq_true rfl) eBC_7 rfl [.int (1 : Int32), .int p1]) rfl rfl hl.1 rfl (lv_room (Nat.le_of_ble_eq_true rfl)) dX8_write_23 ⟨Nat.zero_le _, Nat.zero_le _⟩) (fun H locs h => ?_)
    refine lv_if_eq (tgt := 39) hx hb dX8_write_26 (by decide) (fun c5 => ?_) (fun c5 => ?_)
    · have hf := it_t c5 hf
      refine lv_aload_n hx hb dX8_write_39 rfl (lv_at hl 0 rfl) ?_
      obtain ⟨r7, hy6, hf⟩ := ob_e hf
      refine xv0 h (va_runV (As := []) (rest := []) hC (c_X8_save l G q v hy6 H.size) (xcwV hC lk_X8_63 in_X8 co_X8_save im_X8_save se_X8_save rfl rfl dd_X8_save ⟨Nat.le_of_ble_eq_true rfl, Nat.le_of_ble_eq_true rfl⟩) (preV0 h (Nat.le_of_ble_eq_true rfl) eBC_0 rfl []) rfl rfl hl.1 rfl (lv_room (Nat.le_of_ble_eq_true rfl)) dX8_write_40 ⟨Nat.zero_le _, Nat.zero_le _⟩) (fun H locs h => ?_)
      refine lv_aload_n hx hb dX8_write_43 rfl (lv_at hl 0 rfl) ?_
      refine xget hC h.o (C := RX8) (T := TX8) (N := 10) (wM_us uw_X8) 0 (Nat.le_of_ble_eq_true rfl) eBC_0 rfl 0 (by decide) (wM_in fl_X8_10) rfl dX8_write_44 ?_
      refine xget hC h.o (C := RX6) (T := TX6) (N := 13) (wM_us uw_X6) 7 (Nat.le_of_ble_eq_true rfl) eBC_7 rfl 3 (by decide) (wM_in fl_X8_108) rfl dX8_write_47 ?_
      refine lv_iload_n hx hb dX8_write_50 rfl (lv_at hl 1 rfl) ?_
      refine lv_aload_n hx hb dX8_write_51 rfl (lv_at hl 0 rfl) ?_
      refine xget hC h.o (C := RX8) (T := TX8) (N := 10) (wM_us uw_X8) 0 (Nat.le_of_ble_eq_true rfl) eBC_0 rfl 0 (by decide) (wM_in fl_X8_10) rfl dX8_write_52 ?_
      refine xget hC h.o (C := RX6) (T := TX6) (N := 13) (wM_us uw_X6) 7 (Nat.le_of_ble_eq_true rfl) eBC_7 rfl 2 (by decide) (wM_in fl_X8_78) rfl dX8_write_55 ?_
      refine lv_aload_n hx hb dX8_write_58 rfl (lv_at hl 0 rfl) ?_
      refine xget hC h.o (C := RX8) (T := TX8) (N := 10) (wM_us uw_X8) 0 (Nat.le_of_ble_eq_true rfl) eBC_0 rfl 0 (by decide) (wM_in fl_X8_10) rfl dX8_write_59 ?_
      refine lv_iconst (v := (0 : Int32)) hx hb dX8_write_62 (by decide) ?_
      obtain ⟨r9, hy8, hf⟩ := ob_e hf
      refine xiG h (va_runV (As := [.int (0 : Int32)]) (rest := [.ref (q 13), .int p1, .ref (q 15)]) hC (c_X6_settingOf l G (sh 7 q) (sh 7 r7) (0 : Int32) hy8 H.size) (xcwV hC lk_X8_112 in_X6 co_X6_settingOf im_X6_settingOf se_X6_settingOf rfl rfl dd_X6_settingOf ⟨Nat.le_of_ble_eq_true rfl, Nat.le_of_ble_eq_true rfl⟩) (preVO h.o 7 47 sBC_7 (Nat.le_of_ble_eq_true rfl) (Nat.le_of_ble_eq_true rfl) eBC_7 rfl [.int (0 : Int32)]) rfl rfl hl.1 rfl (lv_room (Nat.le_of_ble_eq_true rfl)) dX8_write_63 ⟨Nat.zero_le _, Nat.zero_le _⟩) (fun H locs h => ?_)
      refine lv_iconst (v := (-1 : Int32)) hx hb dX8_write_66 (by decide) ?_
      obtain ⟨r11, hy10, hf⟩ := ob_e hf
      refine xv2 h 15 3 13 2 (x2E1 sBC_15 locWork) (x2E2 sBC_13) (Nat.le_of_ble_eq_true rfl) (Nat.le_of_ble_eq_true rfl) (by omega) (va_runV (As := [.int p1, .ref (q 13), .int r9, .int (-1 : Int32)]) (rest := []) hC (c_X7_startWrite l G (ct 3 (sh 15 q) (sh 13 q)) (ct 3 (sh 15 r7) (sh 13 r7)) p1 r9 (-1 : Int32) hy10 H.size) (xcwV hC lk_X8_116 in_X7 co_X7_startWrite im_X7_startWrite se_X7_startWrite rfl rfl dd_X7_startWrite ⟨Nat.le_of_ble_eq_true rfl, Nat.le_of_ble_eq_true rfl⟩) (preV2 h 15 3 13 2 (x2E1 sBC_15 locWork) (x2E2 sBC_13) (Nat.le_of_ble_eq_true rfl) (Nat.le_of_ble_eq_true rfl) (by omega) (Nat.le_of_ble_eq_true rfl) eBC_15 rfl [.int p1, .ref (q 13), .int r9, .int (-1 : Int32)]) rfl rfl hl.1 rfl (lv_room (Nat.le_of_ble_eq_true rfl)) dX8_write_67 ⟨Nat.zero_le _, Nat.zero_le _⟩) (fun H locs h => ?_)
      obtain ⟨v12, ev12, hf⟩ := lt_e hf
      rw [← ev12] at h
      refine lv_aload_n hx hb dX8_write_70 rfl (lv_at hl 0 rfl) ?_
      refine xget hC h.o (C := RX8) (T := TX8) (N := 10) (wM_us uw_X8) 0 (Nat.le_of_ble_eq_true rfl) eBC_0 rfl 0 (by decide) (wM_in fl_X8_10) rfl dX8_write_71 ?_
      refine xget hC h.o (C := RX6) (T := TX6) (N := 13) (wM_us uw_X6) 7 (Nat.le_of_ble_eq_true rfl) eBC_7 rfl 2 (by decide) (wM_in fl_X8_78) rfl dX8_write_74 ?_
      refine lv_iconst (v := (0 : Int32)) hx hb dX8_write_77 (by decide) ?_
      refine xput hC h (C := RX4) (T := TX4) (N := 2) (wM_us uw_X4) tyX4_ok nmX4 13 (Nat.le_of_ble_eq_true rfl) eBC_13 rfl 1 (by decide) (wM_in fl_X8_82) rfl (ty := .int) (tyX4_ok 1 (by decide)) rfl rfl (Nat.le_of_ble_eq_true rfl) (eBC_13.trans rfl) dX8_write_78 (fun H locs h => ?_)
      obtain ⟨v13, ev13, hf⟩ := lt_e hf
      rw [← ev13] at h
      refine lv_aload_n hx hb dX8_write_81 rfl (lv_at hl 0 rfl) ?_
      refine xget hC h.o (C := RX8) (T := TX8) (N := 10) (wM_us uw_X8) 0 (Nat.le_of_ble_eq_true rfl) eBC_0 rfl 0 (by decide) (wM_in fl_X8_10) rfl dX8_write_82 ?_
      refine lv_iconst (v := (0 : Int32)) hx hb dX8_write_85 (by decide) ?_
      refine xput hC h (C := RX6) (T := TX6) (N := 13) (wM_us uw_X6) tyX6_ok nmX6 7 (Nat.le_of_ble_eq_true rfl) eBC_7 rfl 7 (by decide) (wM_in fl_X8_66) rfl (ty := .boolean) (tyX6_ok 7 (by decide)) rfl rfl (Nat.le_of_ble_eq_true rfl) (eBC_7.trans rfl) dX8_write_86 (fun H locs h => ?_)
      obtain ⟨v14, ev14, hf⟩ := lt_e hf
      rw [← ev14] at h
      refine lv_aload_n hx hb dX8_write_89 rfl (lv_at hl 0 rfl) ?_
      refine xget hC h.o (C := RX8) (T := TX8) (N := 10) (wM_us uw_X8) 0 (Nat.le_of_ble_eq_true rfl) eBC_0 rfl 0 (by decide) (wM_in fl_X8_10) rfl dX8_write_90 ?_
      refine xget hC h.o (C := RX6) (T := TX6) (N := 13) (wM_us uw_X6) 7 (Nat.le_of_ble_eq_true rfl) eBC_7 rfl 3 (by decide) (wM_in fl_X8_108) rfl dX8_write_93 ?_
      obtain ⟨r16, hy15, hf⟩ := ob_e hf
      refine xiG h (va_runV (As := []) (rest := []) hC (c_X7_left l G (sh 15 q) (sh 15 v14) hy15 H.size) (xcwV hC lk_X8_122 in_X7 co_X7_left im_X7_left se_X7_left rfl rfl dd_X7_left ⟨Nat.le_of_ble_eq_true rfl, Nat.le_of_ble_eq_true rfl⟩) (preVO h.o 15 3 sBC_15 (Nat.le_of_ble_eq_true rfl) (Nat.le_of_ble_eq_true rfl) eBC_15 rfl []) rfl rfl hl.1 rfl (lv_room (Nat.le_of_ble_eq_true rfl)) dX8_write_96 ⟨Nat.zero_le _, Nat.zero_le _⟩) (fun H locs h => ?_)
      have hf := sm_e hf
      exact xiret hC hr hlk h (by rw [← hf]) (by rw [← hf]) dX8_write_99
    · have hf := it_f c5 hf
      cases hf
  · have hf := it_t c2 hf
    cases hf
def m_X8_erase_n (v : xSt) (p1 : Int32) : Option (Int32 × xSt) := (if (xwi p1 0 7) = 0 then none else ob (m_X6_hindrance (sh 7 v) (2 : Int32) p1) (fun r4 => (if r4 = 0 then ob (m_X8_save v) (fun r7 => ob (m_X6_eraseTicks (sh 7 r7) p1) (fun r9 => ob (m_X7_start (sh 15 r7) (2 : Int32) p1 r9 (-1 : Int32)) (fun r11 => lt (pu 15 3 r7 r11) (fun v12 => lt (st2 v12 7 7 (0 : Int32)) (fun v13 => ob (m_X7_left (sh 15 v13)) (fun r15 => some (r15, v13))))))) else none)))
set_option maxHeartbeats 4000000 in
set_option maxRecDepth 100000 in
theorem c_X8_erase_n (l : Launch) (G : xGl) (q : Nat → Nat) (v : xSt) (p1 : Int32) {z : (Int32 × xSt)} (hf : m_X8_erase_n v p1 = some z) : mRW l yX8_erase (wM yX8_erase cX8_erase 2 (some .int)) { frames := 6, cells := 0, slots := 0, locals := 168 } G (eBC G) 430 q v [.ref (q 0), .int p1] (qI z.1) z.2 := by
  refine xRW (cc := cX8_erase) (maxL := 2) (ret := (some .int)) (by decide) rfl (Nat.le_of_ble_eq_true rfl) ?_
  intro p e s m below meth c ls A hC hr hlk h hl
  have hx := hC.1
  have hb := hC.2.1
  have hl : lv_has ls 2 [(0, .ref (q 0)), (1, .int p1)] := hl
  unfold m_X8_erase_n at hf
  obtain ⟨H, hH⟩ : ∃ H, H = s.heap := ⟨_, rfl⟩
  obtain ⟨locs, hlo⟩ : ∃ x : List Loc, x = [] := ⟨_, rfl⟩
  have h : hg G (eBC G) 430 q v A s H locs := by rw [hH, hlo]; exact h
  rw [← hlo, ← hH]
  clear hH hlo
  refine lv_iload_n hx hb dX8_erase_0 rfl (lv_at hl 1 rfl) ?_
  refine xzG h (va_runS (As := [.int p1]) (rest := []) hC (k_X8_isSector l G q v p1 H.size) (xcwS hC lk_X8_126 in_X8 co_X8_isSector st_X8_isSector rfl rfl dd_X8_isSector ⟨Nat.le_of_ble_eq_true rfl, Nat.le_of_ble_eq_true rfl⟩) (preSN h.o [.int p1]) rfl rfl hl.1 rfl (lv_room (Nat.le_of_ble_eq_true rfl)) dX8_erase_1 ⟨Nat.zero_le _, Nat.zero_le _⟩) (fun H locs hz1 h => ?_)
  refine lv_if_ne (tgt := 17) hx hb dX8_erase_4 (by decide) (fun c2 => ?_) (fun c2 => ?_)
  · have hf := it_f c2 hf
    refine lv_aload_n hx hb dX8_erase_17 rfl (lv_at hl 0 rfl) ?_
    refine xget hC h.o (C := RX8) (T := TX8) (N := 10) (wM_us uw_X8) 0 (Nat.le_of_ble_eq_true rfl) eBC_0 rfl 0 (by decide) (wM_in fl_X8_10) rfl dX8_erase_18 ?_
    refine lv_iconst (v := (2 : Int32)) hx hb dX8_erase_21 (by decide) ?_
    refine lv_iload_n hx hb dX8_erase_22 rfl (lv_at hl 1 rfl) ?_
    obtain ⟨r4, hy3, hf⟩ := ob_e hf
    refine xiG h (va_runV (As := [.int (2 : Int32), .int p1]) (rest := []) hC (c_X6_hindrance l G (sh 7 q) (sh 7 v) (2 : Int32) p1 hy3 H.size) (xcwV hC lk_X8_102 in_X6 co_X6_hindrance im_X6_hindrance se_X6_hindrance rfl rfl dd_X6_hindrance ⟨Nat.le_of_ble_eq_true rfl, Nat.le_of_ble_eq_true rfl⟩) (preVO h.o 7 47 sBC_7 (Nat.le_of_ble_eq_true rfl) (Nat.le_of_ble_eq_true rfl) eBC_7 rfl [.int (2 : Int32), .int p1]) rfl rfl hl.1 rfl (lv_room (Nat.le_of_ble_eq_true rfl)) dX8_erase_23 ⟨Nat.zero_le _, Nat.zero_le _⟩) (fun H locs h => ?_)
    refine lv_if_eq (tgt := 39) hx hb dX8_erase_26 (by decide) (fun c5 => ?_) (fun c5 => ?_)
    · have hf := it_t c5 hf
      refine lv_aload_n hx hb dX8_erase_39 rfl (lv_at hl 0 rfl) ?_
      obtain ⟨r7, hy6, hf⟩ := ob_e hf
      refine xv0 h (va_runV (As := []) (rest := []) hC (c_X8_save l G q v hy6 H.size) (xcwV hC lk_X8_63 in_X8 co_X8_save im_X8_save se_X8_save rfl rfl dd_X8_save ⟨Nat.le_of_ble_eq_true rfl, Nat.le_of_ble_eq_true rfl⟩) (preV0 h (Nat.le_of_ble_eq_true rfl) eBC_0 rfl []) rfl rfl hl.1 rfl (lv_room (Nat.le_of_ble_eq_true rfl)) dX8_erase_40 ⟨Nat.zero_le _, Nat.zero_le _⟩) (fun H locs h => ?_)
      refine lv_aload_n hx hb dX8_erase_43 rfl (lv_at hl 0 rfl) ?_
      refine xget hC h.o (C := RX8) (T := TX8) (N := 10) (wM_us uw_X8) 0 (Nat.le_of_ble_eq_true rfl) eBC_0 rfl 0 (by decide) (wM_in fl_X8_10) rfl dX8_erase_44 ?_
      refine xget hC h.o (C := RX6) (T := TX6) (N := 13) (wM_us uw_X6) 7 (Nat.le_of_ble_eq_true rfl) eBC_7 rfl 3 (by decide) (wM_in fl_X8_108) rfl dX8_erase_47 ?_
      refine lv_iconst (v := (2 : Int32)) hx hb dX8_erase_50 (by decide) ?_
      refine lv_iload_n hx hb dX8_erase_51 rfl (lv_at hl 1 rfl) ?_
      refine lv_aload_n hx hb dX8_erase_52 rfl (lv_at hl 0 rfl) ?_
      refine xget hC h.o (C := RX8) (T := TX8) (N := 10) (wM_us uw_X8) 0 (Nat.le_of_ble_eq_true rfl) eBC_0 rfl 0 (by decide) (wM_in fl_X8_10) rfl dX8_erase_53 ?_
      refine lv_iload_n hx hb dX8_erase_56 rfl (lv_at hl 1 rfl) ?_
      obtain ⟨r9, hy8, hf⟩ := ob_e hf
      refine xiG h (va_runV (As := [.int p1]) (rest := [.int p1, .int (2 : Int32), .ref (q 15)]) hC (c_X6_eraseTicks l G (sh 7 q) (sh 7 r7) p1 hy8 H.size) (xcwV hC lk_X8_133 in_X6 co_X6_eraseTicks im_X6_eraseTicks se_X6_eraseTicks rfl rfl dd_X6_eraseTicks ⟨Nat.le_of_ble_eq_true rfl, Nat.le_of_ble_eq_true rfl⟩) (preVO h.o 7 47 sBC_7 (Nat.le_of_ble_eq_true rfl) (Nat.le_of_ble_eq_true rfl) eBC_7 rfl [.int p1]) rfl rfl hl.1 rfl (lv_room (Nat.le_of_ble_eq_true rfl)) dX8_erase_57 ⟨Nat.zero_le _, Nat.zero_le _⟩) (fun H locs h => ?_)
      refine lv_iconst (v := (-1 : Int32)) hx hb dX8_erase_60 (by decide) ?_
      obtain ⟨r11, hy10, hf⟩ := ob_e hf
      refine xv1 h 15 3 sBC_15 (Nat.le_of_ble_eq_true rfl) (va_runV (As := [.int (2 : Int32), .int p1, .int r9, .int (-1 : Int32)]) (rest := []) hC (c_X7_start l G (sh 15 q) (sh 15 r7) (2 : Int32) p1 r9 (-1 : Int32) hy10 H.size) (xcwV hC lk_X8_136 in_X7 co_X7_start im_X7_start se_X7_start rfl rfl dd_X7_start ⟨Nat.le_of_ble_eq_true rfl, Nat.le_of_ble_eq_true rfl⟩) (preV1 h 15 3 sBC_15 (Nat.le_of_ble_eq_true rfl) (Nat.le_of_ble_eq_true rfl) eBC_15 rfl [.int (2 : Int32), .int p1, .int r9, .int (-1 : Int32)]) rfl rfl hl.1 rfl (lv_room (Nat.le_of_ble_eq_true rfl)) dX8_erase_61 ⟨Nat.zero_le _, Nat.zero_le _⟩) (fun H locs h => ?_)
      obtain ⟨v12, ev12, hf⟩ := lt_e hf
      rw [← ev12] at h
      refine lv_aload_n hx hb dX8_erase_64 rfl (lv_at hl 0 rfl) ?_
      refine xget hC h.o (C := RX8) (T := TX8) (N := 10) (wM_us uw_X8) 0 (Nat.le_of_ble_eq_true rfl) eBC_0 rfl 0 (by decide) (wM_in fl_X8_10) rfl dX8_erase_65 ?_
      refine lv_iconst (v := (0 : Int32)) hx hb dX8_erase_68 (by decide) ?_
      refine xput hC h (C := RX6) (T := TX6) (N := 13) (wM_us uw_X6) tyX6_ok nmX6 7 (Nat.le_of_ble_eq_true rfl) eBC_7 rfl 7 (by decide) (wM_in fl_X8_66) rfl (ty := .boolean) (tyX6_ok 7 (by decide)) rfl rfl (Nat.le_of_ble_eq_true rfl) (eBC_7.trans rfl) dX8_erase_69 (fun H locs h => ?_)
      obtain ⟨v13, ev13, hf⟩ := lt_e hf
      rw [← ev13] at h
      refine lv_aload_n hx hb dX8_erase_72 rfl (lv_at hl 0 rfl) ?_
      refine xget hC h.o (C := RX8) (T := TX8) (N := 10) (wM_us uw_X8) 0 (Nat.le_of_ble_eq_true rfl) eBC_0 rfl 0 (by decide) (wM_in fl_X8_10) rfl dX8_erase_73 ?_
      refine xget hC h.o (C := RX6) (T := TX6) (N := 13) (wM_us uw_X6) 7 (Nat.le_of_ble_eq_true rfl) eBC_7 rfl 3 (by decide) (wM_in fl_X8_108) rfl dX8_erase_76 ?_
      obtain ⟨r15, hy14, hf⟩ := ob_e hf
      refine xiG h (va_runV (As := []) (rest := []) hC (c_X7_left l G (sh 15 q) (sh 15 v13) hy14 H.size) (xcwV hC lk_X8_122 in_X7 co_X7_left im_X7_left se_X7_left rfl rfl dd_X7_left ⟨Nat.le_of_ble_eq_true rfl, Nat.le_of_ble_eq_true rfl⟩) (preVO h.o 15 3 sBC_15 (Nat.le_of_ble_eq_true rfl) (Nat.le_of_ble_eq_true rfl) eBC_15 rfl []) rfl rfl hl.1 rfl (lv_room (Nat.le_of_ble_eq_true rfl)) dX8_erase_79 ⟨Nat.zero_le _, Nat.zero_le _⟩) (fun H locs h => ?_)
      have hf := sm_e hf
      exact xiret hC hr hlk h (by rw [← hf]) (by rw [← hf]) dX8_erase_82
    · have hf := it_f c5 hf
      cases hf
  · have hf := it_t c2 hf
    cases hf
def m_X8_lock_n (v : xSt) (p1 : Int32) (p2 : Int32) : Option (Int32 × xSt) := (if (xwi p1 (0 : Int32) (4 : Int32)) = 0 then none else (if (xwi p2 (0 : Int32) (1 : Int32)) = 0 then none else ob (m_X6_hindrance (sh 7 v) (3 : Int32) p1) (fun r6 => (if r6 = 0 then ob (m_X8_save v) (fun r9 => ob (m_X6_settingOf (sh 7 r9) (3 : Int32)) (fun r11 => ob (m_X7_start (sh 15 r9) (3 : Int32) p1 r11 (-1 : Int32)) (fun r13 => lt (pu 15 3 r9 r13) (fun v14 => lt (st2 v14 15 2 p2) (fun v15 => lt (st2 v15 7 7 (0 : Int32)) (fun v16 => ob (m_X7_left (sh 15 v16)) (fun r18 => some (r18, v16)))))))) else none))))
set_option maxHeartbeats 4000000 in
set_option maxRecDepth 100000 in
theorem c_X8_lock_n (l : Launch) (G : xGl) (q : Nat → Nat) (v : xSt) (p1 : Int32) (p2 : Int32) {z : (Int32 × xSt)} (hf : m_X8_lock_n v p1 p2 = some z) : mRW l yX8_lock (wM yX8_lock cX8_lock 3 (some .int)) { frames := 6, cells := 0, slots := 0, locals := 168 } G (eBC G) 430 q v [.ref (q 0), .int p1, .int p2] (qI z.1) z.2 := by
  refine xRW (cc := cX8_lock) (maxL := 3) (ret := (some .int)) (by decide) rfl (Nat.le_of_ble_eq_true rfl) ?_
  intro p e s m below meth c ls A hC hr hlk h hl
  have hx := hC.1
  have hb := hC.2.1
  have hl : lv_has ls 3 [(0, .ref (q 0)), (1, .int p1), (2, .int p2)] := hl
  unfold m_X8_lock_n at hf
  obtain ⟨H, hH⟩ : ∃ H, H = s.heap := ⟨_, rfl⟩
  obtain ⟨locs, hlo⟩ : ∃ x : List Loc, x = [] := ⟨_, rfl⟩
  have h : hg G (eBC G) 430 q v A s H locs := by rw [hH, hlo]; exact h
  rw [← hlo, ← hH]
  clear hH hlo
  refine lv_iload_n hx hb dX8_lock_0 rfl (lv_at hl 1 rfl) ?_
  refine lv_iconst (v := (0 : Int32)) hx hb dX8_lock_1 (by decide) ?_
  refine lv_iconst (v := (4 : Int32)) hx hb dX8_lock_2 (by decide) ?_
  refine xzG h (va_runS (As := [.int p1, .int (0 : Int32), .int (4 : Int32)]) (rest := []) hC (k_X8_isWithin l G q v p1 (0 : Int32) (4 : Int32) H.size) (xcwS hC lk_X8_69 in_X8 co_X8_isWithin st_X8_isWithin rfl rfl dd_X8_isWithin ⟨Nat.le_of_ble_eq_true rfl, Nat.le_of_ble_eq_true rfl⟩) (preSN h.o [.int p1, .int (0 : Int32), .int (4 : Int32)]) rfl rfl hl.1 rfl (lv_room (Nat.le_of_ble_eq_true rfl)) dX8_lock_3 ⟨Nat.zero_le _, Nat.zero_le _⟩) (fun H locs hz1 h => ?_)
  refine lv_if_eq (tgt := 18) hx hb dX8_lock_6 (by decide) (fun c2 => ?_) (fun c2 => ?_)
  · have hf := it_t c2 hf
    cases hf
  · have hf := it_f c2 hf
    refine lv_iload_n hx hb dX8_lock_9 rfl (lv_at hl 2 rfl) ?_
    refine lv_iconst (v := (0 : Int32)) hx hb dX8_lock_10 (by decide) ?_
    refine lv_iconst (v := (1 : Int32)) hx hb dX8_lock_11 (by decide) ?_
    refine xzG h (va_runS (As := [.int p2, .int (0 : Int32), .int (1 : Int32)]) (rest := []) hC (k_X8_isWithin l G q v p2 (0 : Int32) (1 : Int32) H.size) (xcwS hC lk_X8_69 in_X8 co_X8_isWithin st_X8_isWithin rfl rfl dd_X8_isWithin ⟨Nat.le_of_ble_eq_true rfl, Nat.le_of_ble_eq_true rfl⟩) (preSN h.o [.int p2, .int (0 : Int32), .int (1 : Int32)]) rfl rfl hl.1 rfl (lv_room (Nat.le_of_ble_eq_true rfl)) dX8_lock_12 ⟨Nat.zero_le _, Nat.zero_le _⟩) (fun H locs hz3 h => ?_)
    refine lv_if_ne (tgt := 28) hx hb dX8_lock_15 (by decide) (fun c4 => ?_) (fun c4 => ?_)
    · have hf := it_f c4 hf
      refine lv_aload_n hx hb dX8_lock_28 rfl (lv_at hl 0 rfl) ?_
      refine xget hC h.o (C := RX8) (T := TX8) (N := 10) (wM_us uw_X8) 0 (Nat.le_of_ble_eq_true rfl) eBC_0 rfl 0 (by decide) (wM_in fl_X8_10) rfl dX8_lock_29 ?_
      refine lv_iconst (v := (3 : Int32)) hx hb dX8_lock_32 (by decide) ?_
      refine lv_iload_n hx hb dX8_lock_33 rfl (lv_at hl 1 rfl) ?_
      obtain ⟨r6, hy5, hf⟩ := ob_e hf
      refine xiG h (va_runV (As := [.int (3 : Int32), .int p1]) (rest := []) hC (c_X6_hindrance l G (sh 7 q) (sh 7 v) (3 : Int32) p1 hy5 H.size) (xcwV hC lk_X8_102 in_X6 co_X6_hindrance im_X6_hindrance se_X6_hindrance rfl rfl dd_X6_hindrance ⟨Nat.le_of_ble_eq_true rfl, Nat.le_of_ble_eq_true rfl⟩) (preVO h.o 7 47 sBC_7 (Nat.le_of_ble_eq_true rfl) (Nat.le_of_ble_eq_true rfl) eBC_7 rfl [.int (3 : Int32), .int p1]) rfl rfl hl.1 rfl (lv_room (Nat.le_of_ble_eq_true rfl)) dX8_lock_34 ⟨Nat.zero_le _, Nat.zero_le _⟩) (fun H locs h => ?_)
      refine lv_if_eq (tgt := 50) hx hb dX8_lock_37 (by decide) (fun c7 => ?_) (fun c7 => ?_)
      · have hf := it_t c7 hf
        refine lv_aload_n hx hb dX8_lock_50 rfl (lv_at hl 0 rfl) ?_
        obtain ⟨r9, hy8, hf⟩ := ob_e hf
        refine xv0 h (va_runV (As := []) (rest := []) hC (c_X8_save l G q v hy8 H.size) (xcwV hC lk_X8_63 in_X8 co_X8_save im_X8_save se_X8_save rfl rfl dd_X8_save ⟨Nat.le_of_ble_eq_true rfl, Nat.le_of_ble_eq_true rfl⟩) (preV0 h (Nat.le_of_ble_eq_true rfl) eBC_0 rfl []) rfl rfl hl.1 rfl (lv_room (Nat.le_of_ble_eq_true rfl)) dX8_lock_51 ⟨Nat.zero_le _, Nat.zero_le _⟩) (fun H locs h => ?_)
        refine lv_aload_n hx hb dX8_lock_54 rfl (lv_at hl 0 rfl) ?_
        refine xget hC h.o (C := RX8) (T := TX8) (N := 10) (wM_us uw_X8) 0 (Nat.le_of_ble_eq_true rfl) eBC_0 rfl 0 (by decide) (wM_in fl_X8_10) rfl dX8_lock_55 ?_
        refine xget hC h.o (C := RX6) (T := TX6) (N := 13) (wM_us uw_X6) 7 (Nat.le_of_ble_eq_true rfl) eBC_7 rfl 3 (by decide) (wM_in fl_X8_108) rfl dX8_lock_58 ?_
        refine lv_iconst (v := (3 : Int32)) hx hb dX8_lock_61 (by decide) ?_
        refine lv_iload_n hx hb dX8_lock_62 rfl (lv_at hl 1 rfl) ?_
        refine lv_aload_n hx hb dX8_lock_63 rfl (lv_at hl 0 rfl) ?_
        refine xget hC h.o (C := RX8) (T := TX8) (N := 10) (wM_us uw_X8) 0 (Nat.le_of_ble_eq_true rfl) eBC_0 rfl 0 (by decide) (wM_in fl_X8_10) rfl dX8_lock_64 ?_
        refine lv_iconst (v := (3 : Int32)) hx hb dX8_lock_67 (by decide) ?_
        obtain ⟨r11, hy10, hf⟩ := ob_e hf
        refine xiG h (va_runV (As := [.int (3 : Int32)]) (rest := [.int p1, .int (3 : Int32), .ref (q 15)]) hC (c_X6_settingOf l G (sh 7 q) (sh 7 r9) (3 : Int32) hy10 H.size) (xcwV hC lk_X8_112 in_X6 co_X6_settingOf im_X6_settingOf se_X6_settingOf rfl rfl dd_X6_settingOf ⟨Nat.le_of_ble_eq_true rfl, Nat.le_of_ble_eq_true rfl⟩) (preVO h.o 7 47 sBC_7 (Nat.le_of_ble_eq_true rfl) (Nat.le_of_ble_eq_true rfl) eBC_7 rfl [.int (3 : Int32)]) rfl rfl hl.1 rfl (lv_room (Nat.le_of_ble_eq_true rfl)) dX8_lock_68 ⟨Nat.zero_le _, Nat.zero_le _⟩) (fun H locs h => ?_)
        refine lv_iconst (v := (-1 : Int32)) hx hb dX8_lock_71 (by decide) ?_
        obtain ⟨r13, hy12, hf⟩ := ob_e hf
        refine xv1 h 15 3 sBC_15 (Nat.le_of_ble_eq_true rfl) (va_runV (As := [.int (3 : Int32), .int p1, .int r11, .int (-1 : Int32)]) (rest := []) hC (c_X7_start l G (sh 15 q) (sh 15 r9) (3 : Int32) p1 r11 (-1 : Int32) hy12 H.size) (xcwV hC lk_X8_136 in_X7 co_X7_start im_X7_start se_X7_start rfl rfl dd_X7_start ⟨Nat.le_of_ble_eq_true rfl, Nat.le_of_ble_eq_true rfl⟩) (preV1 h 15 3 sBC_15 (Nat.le_of_ble_eq_true rfl) (Nat.le_of_ble_eq_true rfl) eBC_15 rfl [.int (3 : Int32), .int p1, .int r11, .int (-1 : Int32)]) rfl rfl hl.1 rfl (lv_room (Nat.le_of_ble_eq_true rfl)) dX8_lock_72 ⟨Nat.zero_le _, Nat.zero_le _⟩) (fun H locs h => ?_)
        obtain ⟨v14, ev14, hf⟩ := lt_e hf
        rw [← ev14] at h
        refine lv_aload_n hx hb dX8_lock_75 rfl (lv_at hl 0 rfl) ?_
        refine xget hC h.o (C := RX8) (T := TX8) (N := 10) (wM_us uw_X8) 0 (Nat.le_of_ble_eq_true rfl) eBC_0 rfl 0 (by decide) (wM_in fl_X8_10) rfl dX8_lock_76 ?_
        refine xget hC h.o (C := RX6) (T := TX6) (N := 13) (wM_us uw_X6) 7 (Nat.le_of_ble_eq_true rfl) eBC_7 rfl 3 (by decide) (wM_in fl_X8_108) rfl dX8_lock_79 ?_
        refine lv_iload_n hx hb dX8_lock_82 rfl (lv_at hl 2 rfl) ?_
        refine xput hC h (C := RX7) (T := TX7) (N := 9) (wM_us uw_X7) tyX7_ok nmX7 15 (Nat.le_of_ble_eq_true rfl) eBC_15 rfl 2 (by decide) (wM_in fl_X8_144) rfl (ty := .int) (tyX7_ok 2 (by decide)) rfl rfl (Nat.le_of_ble_eq_true rfl) (eBC_15.trans rfl) dX8_lock_83 (fun H locs h => ?_)
        obtain ⟨v15, ev15, hf⟩ := lt_e hf
        rw [← ev15] at h
        refine lv_aload_n hx hb dX8_lock_86 rfl (lv_at hl 0 rfl) ?_
        refine xget hC h.o (C := RX8) (T := TX8) (N := 10) (wM_us uw_X8) 0 (Nat.le_of_ble_eq_true rfl) eBC_0 rfl 0 (by decide) (wM_in fl_X8_10) rfl dX8_lock_87 ?_
        refine lv_iconst (v := (0 : Int32)) hx hb dX8_lock_90 (by decide) ?_
        refine xput hC h (C := RX6) (T := TX6) (N := 13) (wM_us uw_X6) tyX6_ok nmX6 7 (Nat.le_of_ble_eq_true rfl) eBC_7 rfl 7 (by decide) (wM_in fl_X8_66) rfl (ty := .boolean) (tyX6_ok 7 (by decide)) rfl rfl (Nat.le_of_ble_eq_true rfl) (eBC_7.trans rfl) dX8_lock_91 (fun H locs h => ?_)
        obtain ⟨v16, ev16, hf⟩ := lt_e hf
        rw [← ev16] at h
        refine lv_aload_n hx hb dX8_lock_94 rfl (lv_at hl 0 rfl) ?_
        refine xget hC h.o (C := RX8) (T := TX8) (N := 10) (wM_us uw_X8) 0 (Nat.le_of_ble_eq_true rfl) eBC_0 rfl 0 (by decide) (wM_in fl_X8_10) rfl dX8_lock_95 ?_
        refine xget hC h.o (C := RX6) (T := TX6) (N := 13) (wM_us uw_X6) 7 (Nat.le_of_ble_eq_true rfl) eBC_7 rfl 3 (by decide) (wM_in fl_X8_108) rfl dX8_lock_98 ?_
        obtain ⟨r18, hy17, hf⟩ := ob_e hf
        refine xiG h (va_runV (As := []) (rest := []) hC (c_X7_left l G (sh 15 q) (sh 15 v16) hy17 H.size) (xcwV hC lk_X8_122 in_X7 co_X7_left im_X7_left se_X7_left rfl rfl dd_X7_left ⟨Nat.le_of_ble_eq_true rfl, Nat.le_of_ble_eq_true rfl⟩) (preVO h.o 15 3 sBC_15 (Nat.le_of_ble_eq_true rfl) (Nat.le_of_ble_eq_true rfl) eBC_15 rfl []) rfl rfl hl.1 rfl (lv_room (Nat.le_of_ble_eq_true rfl)) dX8_lock_101 ⟨Nat.zero_le _, Nat.zero_le _⟩) (fun H locs h => ?_)
        have hf := sm_e hf
        exact xiret hC hr hlk h (by rw [← hf]) (by rw [← hf]) dX8_lock_104
      · have hf := it_f c7 hf
        cases hf
    · have hf := it_t c4 hf
      cases hf
def m_X8_freeze_n (v : xSt) : Option (Int32 × xSt) := ob (m_X6_isBusy (sh 7 v)) (fun r2 => (if r2 = 0 then ob (m_X8_save v) (fun r6 => lt (fun (t7 : Int32) => lt (st2 r6 12 2 (1 : Int32)) (fun v9 => some (t7, v9))) (fun j8 => (if (r6 12 2) = 0 then j8 (0 : Int32) else j8 (1 : Int32)))) else none))
set_option maxHeartbeats 4000000 in
set_option maxRecDepth 100000 in
theorem c_X8_freeze_n (l : Launch) (G : xGl) (q : Nat → Nat) (v : xSt) {z : (Int32 × xSt)} (hf : m_X8_freeze_n v = some z) : mRW l yX8_freeze (wM yX8_freeze cX8_freeze 2 (some .int)) { frames := 6, cells := 0, slots := 0, locals := 168 } G (eBC G) 430 q v [.ref (q 0)] (qI z.1) z.2 := by
  refine xRW (cc := cX8_freeze) (maxL := 2) (ret := (some .int)) (by decide) rfl (Nat.le_of_ble_eq_true rfl) ?_
  intro p e s m below meth c ls A hC hr hlk h hl
  have hx := hC.1
  have hb := hC.2.1
  have hl : lv_has ls 2 [(0, .ref (q 0))] := hl
  unfold m_X8_freeze_n at hf
  obtain ⟨H, hH⟩ : ∃ H, H = s.heap := ⟨_, rfl⟩
  obtain ⟨locs, hlo⟩ : ∃ x : List Loc, x = [] := ⟨_, rfl⟩
  have h : hg G (eBC G) 430 q v A s H locs := by rw [hH, hlo]; exact h
  rw [← hlo, ← hH]
  clear hH hlo
  refine lv_aload_n hx hb dX8_freeze_0 rfl (lv_at hl 0 rfl) ?_
  refine xget hC h.o (C := RX8) (T := TX8) (N := 10) (wM_us uw_X8) 0 (Nat.le_of_ble_eq_true rfl) eBC_0 rfl 0 (by decide) (wM_in fl_X8_10) rfl dX8_freeze_1 ?_
  obtain ⟨r2, hy1, hf⟩ := ob_e hf
  refine xzG h (va_runV (As := []) (rest := []) hC (c_X6_isBusy l G (sh 7 q) (sh 7 v) hy1 H.size) (xcwV hC lk_X8_52 in_X6 co_X6_isBusy im_X6_isBusy se_X6_isBusy rfl rfl dd_X6_isBusy ⟨Nat.le_of_ble_eq_true rfl, Nat.le_of_ble_eq_true rfl⟩) (preVO h.o 7 47 sBC_7 (Nat.le_of_ble_eq_true rfl) (Nat.le_of_ble_eq_true rfl) eBC_7 rfl []) rfl rfl hl.1 rfl (lv_room (Nat.le_of_ble_eq_true rfl)) dX8_freeze_4 ⟨Nat.zero_le _, Nat.zero_le _⟩) (fun H locs hz3 h => ?_)
  refine lv_if_eq (tgt := 20) hx hb dX8_freeze_7 (by decide) (fun c4 => ?_) (fun c4 => ?_)
  · have hf := it_t c4 hf
    refine lv_aload_n hx hb dX8_freeze_20 rfl (lv_at hl 0 rfl) ?_
    obtain ⟨r6, hy5, hf⟩ := ob_e hf
    refine xv0 h (va_runV (As := []) (rest := []) hC (c_X8_save l G q v hy5 H.size) (xcwV hC lk_X8_63 in_X8 co_X8_save im_X8_save se_X8_save rfl rfl dd_X8_save ⟨Nat.le_of_ble_eq_true rfl, Nat.le_of_ble_eq_true rfl⟩) (preV0 h (Nat.le_of_ble_eq_true rfl) eBC_0 rfl []) rfl rfl hl.1 rfl (lv_room (Nat.le_of_ble_eq_true rfl)) dX8_freeze_21 ⟨Nat.zero_le _, Nat.zero_le _⟩) (fun H locs h => ?_)
    refine lv_aload_n hx hb dX8_freeze_24 rfl (lv_at hl 0 rfl) ?_
    refine xget hC h.o (C := RX8) (T := TX8) (N := 10) (wM_us uw_X8) 0 (Nat.le_of_ble_eq_true rfl) eBC_0 rfl 0 (by decide) (wM_in fl_X8_10) rfl dX8_freeze_25 ?_
    refine xget hC h.o (C := RX6) (T := TX6) (N := 13) (wM_us uw_X6) 7 (Nat.le_of_ble_eq_true rfl) eBC_7 rfl 1 (by decide) (wM_in fl_X8_147) rfl dX8_freeze_28 ?_
    refine xget hC h.o (C := RX2) (T := TX2) (N := 3) (wM_us uw_X2) 12 (Nat.le_of_ble_eq_true rfl) eBC_12 rfl 2 (by decide) (wM_in fl_X8_151) rfl dX8_freeze_31 ?_
    obtain ⟨j8, ej8, hf⟩ := lt_e hf
    have hj8 : ∀ (t7 : Int32) (H : Heap) (locs : List Loc), hg G (eBC G) 430 q r6 A s H locs → ∀ (ls : Array Slot), lv_has ls 2 [(0, .ref (q 0))] → j8 t7 = some z → W p l e { frames := 6, cells := 0, slots := 0, locals := 168 } s m [.ref (q 0)].toArray below meth c H locs 0 0 (MQ below ((qI z.1) (cB G (eBC G) 430 q z.2 A) A) [.ref (q 0)].toArray s 0 0 A) (F0 m 42 ls [.int t7]) := by
      intro t7 H locs h ls hl hf
      rw [ej8] at hf
      refine lv_istore_n (lv' := [(1, .int t7), (0, .ref (q 0))]) hx hb dX8_freeze_42 rfl hl (by decide) rfl (fun ls hl => ?_)
      refine lv_aload_n hx hb dX8_freeze_43 rfl (lv_at hl 1 rfl) ?_
      refine xget hC h.o (C := RX8) (T := TX8) (N := 10) (wM_us uw_X8) 0 (Nat.le_of_ble_eq_true rfl) eBC_0 rfl 0 (by decide) (wM_in fl_X8_10) rfl dX8_freeze_44 ?_
      refine xget hC h.o (C := RX6) (T := TX6) (N := 13) (wM_us uw_X6) 7 (Nat.le_of_ble_eq_true rfl) eBC_7 rfl 1 (by decide) (wM_in fl_X8_147) rfl dX8_freeze_47 ?_
      refine lv_iconst (v := (1 : Int32)) hx hb dX8_freeze_50 (by decide) ?_
      refine xput hC h (C := RX2) (T := TX2) (N := 3) (wM_us uw_X2) tyX2_ok nmX2 12 (Nat.le_of_ble_eq_true rfl) eBC_12 rfl 2 (by decide) (wM_in fl_X8_151) rfl (ty := .boolean) (tyX2_ok 2 (by decide)) rfl rfl (Nat.le_of_ble_eq_true rfl) (eBC_12.trans rfl) dX8_freeze_51 (fun H locs h => ?_)
      obtain ⟨v9, ev9, hf⟩ := lt_e hf
      rw [← ev9] at h
      refine lv_iload_n hx hb dX8_freeze_54 rfl (lv_at hl 0 rfl) ?_
      have hf := sm_e hf
      exact xiret hC hr hlk h (by rw [← hf]) (by rw [← hf]) dX8_freeze_55
    refine lv_if_eq (tgt := 41) hx hb dX8_freeze_34 (by decide) (fun c10 => ?_) (fun c10 => ?_)
    · have hf := it_t c10 hf
      refine lv_iconst (v := (0 : Int32)) hx hb dX8_freeze_41 (by decide) ?_
      exact hj8 (0 : Int32) H locs h ls (lv_sub hl [0] rfl) hf
    · have hf := it_f c10 hf
      refine lv_iconst (v := (1 : Int32)) hx hb dX8_freeze_37 (by decide) ?_
      refine lv_goto (tgt := 42) hx hb dX8_freeze_38 (by decide) ?_
      exact hj8 (1 : Int32) H locs h ls (lv_sub hl [0] rfl) hf
  · have hf := it_f c4 hf
    cases hf
def m_X8_suspend_n (v : xSt) : Option (Int32 × xSt) := lt (fun (t1 : Int32) => (if t1 = 0 then none else (if (v 18 0) = 0 then ob (m_X8_save v) (fun r6 => ob (m_X6_setAside (sh 7 r6) (0 : Int32)) (fun r8 => lt (pu 7 47 r6 r8) (fun v9 => ob (m_X7_left (sh 18 v9)) (fun r11 => some (r11, v9))))) else none))) (fun j2 => lt (fun (_ : Unit) => j2 (1 : Int32)) (fun j12 => (if (v 15 0) = (1 : Int32) then j12 () else (if (v 15 0) = (2 : Int32) then j12 () else j2 (0 : Int32)))))
set_option maxHeartbeats 4000000 in
set_option maxRecDepth 100000 in
theorem c_X8_suspend_n (l : Launch) (G : xGl) (q : Nat → Nat) (v : xSt) {z : (Int32 × xSt)} (hf : m_X8_suspend_n v = some z) : mRW l yX8_suspend (wM yX8_suspend cX8_suspend 2 (some .int)) { frames := 6, cells := 0, slots := 0, locals := 168 } G (eBC G) 430 q v [.ref (q 0)] (qI z.1) z.2 := by
  refine xRW (cc := cX8_suspend) (maxL := 2) (ret := (some .int)) (by decide) rfl (Nat.le_of_ble_eq_true rfl) ?_
  intro p e s m below meth c ls A hC hr hlk h hl
  have hx := hC.1
  have hb := hC.2.1
  have hl : lv_has ls 2 [(0, .ref (q 0))] := hl
  unfold m_X8_suspend_n at hf
  obtain ⟨H, hH⟩ : ∃ H, H = s.heap := ⟨_, rfl⟩
  obtain ⟨locs, hlo⟩ : ∃ x : List Loc, x = [] := ⟨_, rfl⟩
  have h : hg G (eBC G) 430 q v A s H locs := by rw [hH, hlo]; exact h
  rw [← hlo, ← hH]
  clear hH hlo
  refine lv_aload_n hx hb dX8_suspend_0 rfl (lv_at hl 0 rfl) ?_
  refine xget hC h.o (C := RX8) (T := TX8) (N := 10) (wM_us uw_X8) 0 (Nat.le_of_ble_eq_true rfl) eBC_0 rfl 0 (by decide) (wM_in fl_X8_10) rfl dX8_suspend_1 ?_
  refine xget hC h.o (C := RX6) (T := TX6) (N := 13) (wM_us uw_X6) 7 (Nat.le_of_ble_eq_true rfl) eBC_7 rfl 3 (by decide) (wM_in fl_X8_108) rfl dX8_suspend_4 ?_
  refine xget hC h.o (C := RX7) (T := TX7) (N := 9) (wM_us uw_X7) 15 (Nat.le_of_ble_eq_true rfl) eBC_15 rfl 0 (by decide) (wM_in fl_X8_156) rfl dX8_suspend_7 ?_
  refine lv_iconst (v := (1 : Int32)) hx hb dX8_suspend_10 (by decide) ?_
  obtain ⟨j2, ej2, hf⟩ := lt_e hf
  have hj2 : ∀ (t1 : Int32) (H : Heap) (locs : List Loc), hg G (eBC G) 430 q v A s H locs → ∀ (ls : Array Slot), lv_has ls 2 [(0, .ref (q 0))] → j2 t1 = some z → W p l e { frames := 6, cells := 0, slots := 0, locals := 168 } s m [.ref (q 0)].toArray below meth c H locs 0 0 (MQ below ((qI z.1) (cB G (eBC G) 430 q z.2 A) A) [.ref (q 0)].toArray s 0 0 A) (F0 m 33 ls [.int t1]) := by
    intro t1 H locs h ls hl hf
    rw [ej2] at hf
    refine lv_istore_n (lv' := [(1, .int t1), (0, .ref (q 0))]) hx hb dX8_suspend_33 rfl hl (by decide) rfl (fun ls hl => ?_)
    refine lv_iload_n hx hb dX8_suspend_34 rfl (lv_at hl 0 rfl) ?_
    refine lv_if_eq (tgt := 51) hx hb dX8_suspend_35 (by decide) (fun c3 => ?_) (fun c3 => ?_)
    · have hf := it_t c3 hf
      cases hf
    · have hf := it_f c3 hf
      refine lv_aload_n hx hb dX8_suspend_38 rfl (lv_at hl 1 rfl) ?_
      refine xget hC h.o (C := RX8) (T := TX8) (N := 10) (wM_us uw_X8) 0 (Nat.le_of_ble_eq_true rfl) eBC_0 rfl 0 (by decide) (wM_in fl_X8_10) rfl dX8_suspend_39 ?_
      refine xget hC h.o (C := RX6) (T := TX6) (N := 13) (wM_us uw_X6) 7 (Nat.le_of_ble_eq_true rfl) eBC_7 rfl 4 (by decide) (wM_in fl_X8_159) rfl dX8_suspend_42 ?_
      refine xget hC h.o (C := RX7) (T := TX7) (N := 9) (wM_us uw_X7) 18 (Nat.le_of_ble_eq_true rfl) eBC_18 rfl 0 (by decide) (wM_in fl_X8_156) rfl dX8_suspend_45 ?_
      refine lv_if_eq (tgt := 61) hx hb dX8_suspend_48 (by decide) (fun c4 => ?_) (fun c4 => ?_)
      · have hf := it_t c4 hf
        refine lv_aload_n hx hb dX8_suspend_61 rfl (lv_at hl 1 rfl) ?_
        obtain ⟨r6, hy5, hf⟩ := ob_e hf
        refine xv0 h (va_runV (As := []) (rest := []) hC (c_X8_save l G q v hy5 H.size) (xcwV hC lk_X8_63 in_X8 co_X8_save im_X8_save se_X8_save rfl rfl dd_X8_save ⟨Nat.le_of_ble_eq_true rfl, Nat.le_of_ble_eq_true rfl⟩) (preV0 h (Nat.le_of_ble_eq_true rfl) eBC_0 rfl []) rfl rfl hl.1 rfl (lv_room (Nat.le_of_ble_eq_true rfl)) dX8_suspend_62 ⟨Nat.zero_le _, Nat.zero_le _⟩) (fun H locs h => ?_)
        refine lv_aload_n hx hb dX8_suspend_65 rfl (lv_at hl 1 rfl) ?_
        refine xget hC h.o (C := RX8) (T := TX8) (N := 10) (wM_us uw_X8) 0 (Nat.le_of_ble_eq_true rfl) eBC_0 rfl 0 (by decide) (wM_in fl_X8_10) rfl dX8_suspend_66 ?_
        refine lv_iconst (v := (0 : Int32)) hx hb dX8_suspend_69 (by decide) ?_
        obtain ⟨r8, hy7, hf⟩ := ob_e hf
        refine xv1 h 7 47 sBC_7 (Nat.le_of_ble_eq_true rfl) (va_runV (As := [.int (0 : Int32)]) (rest := []) hC (c_X6_setAside l G (sh 7 q) (sh 7 r6) (0 : Int32) hy7 H.size) (xcwV hC lk_X8_164 in_X6 co_X6_setAside im_X6_setAside se_X6_setAside rfl rfl dd_X6_setAside ⟨Nat.le_of_ble_eq_true rfl, Nat.le_of_ble_eq_true rfl⟩) (preV1 h 7 47 sBC_7 (Nat.le_of_ble_eq_true rfl) (Nat.le_of_ble_eq_true rfl) eBC_7 rfl [.int (0 : Int32)]) rfl rfl hl.1 rfl (lv_room (Nat.le_of_ble_eq_true rfl)) dX8_suspend_70 ⟨Nat.zero_le _, Nat.zero_le _⟩) (fun H locs h => ?_)
        obtain ⟨v9, ev9, hf⟩ := lt_e hf
        rw [← ev9] at h
        refine lv_aload_n hx hb dX8_suspend_73 rfl (lv_at hl 1 rfl) ?_
        refine xget hC h.o (C := RX8) (T := TX8) (N := 10) (wM_us uw_X8) 0 (Nat.le_of_ble_eq_true rfl) eBC_0 rfl 0 (by decide) (wM_in fl_X8_10) rfl dX8_suspend_74 ?_
        refine xget hC h.o (C := RX6) (T := TX6) (N := 13) (wM_us uw_X6) 7 (Nat.le_of_ble_eq_true rfl) eBC_7 rfl 4 (by decide) (wM_in fl_X8_159) rfl dX8_suspend_77 ?_
        obtain ⟨r11, hy10, hf⟩ := ob_e hf
        refine xiG h (va_runV (As := []) (rest := []) hC (c_X7_left l G (sh 18 q) (sh 18 v9) hy10 H.size) (xcwV hC lk_X8_122 in_X7 co_X7_left im_X7_left se_X7_left rfl rfl dd_X7_left ⟨Nat.le_of_ble_eq_true rfl, Nat.le_of_ble_eq_true rfl⟩) (preVO h.o 18 3 sBC_18 (Nat.le_of_ble_eq_true rfl) (Nat.le_of_ble_eq_true rfl) eBC_18 rfl []) rfl rfl hl.1 rfl (lv_room (Nat.le_of_ble_eq_true rfl)) dX8_suspend_80 ⟨Nat.zero_le _, Nat.zero_le _⟩) (fun H locs h => ?_)
        have hf := sm_e hf
        exact xiret hC hr hlk h (by rw [← hf]) (by rw [← hf]) dX8_suspend_83
      · have hf := it_f c4 hf
        cases hf
  obtain ⟨j12, ej12, hf⟩ := lt_e hf
  have hj12 : ∀ (uu : Unit) (H : Heap) (locs : List Loc), hg G (eBC G) 430 q v A s H locs → ∀ (ls : Array Slot), lv_has ls 2 [(0, .ref (q 0))] → j12 uu = some z → W p l e { frames := 6, cells := 0, slots := 0, locals := 168 } s m [.ref (q 0)].toArray below meth c H locs 0 0 (MQ below ((qI z.1) (cB G (eBC G) 430 q z.2 A) A) [.ref (q 0)].toArray s 0 0 A) (F0 m 28 ls []) := by
    intro uu H locs h ls hl hf
    rw [ej12] at hf
    refine lv_iconst (v := (1 : Int32)) hx hb dX8_suspend_28 (by decide) ?_
    refine lv_goto (tgt := 33) hx hb dX8_suspend_29 (by decide) ?_
    exact hj2 (1 : Int32) H locs h ls (lv_sub hl [0] rfl) hf
  refine lv_icmp_eq (tgt := 28) hx hb dX8_suspend_11 (by decide) (fun c13 => ?_) (fun c13 => ?_)
  · have hf := it_t c13 hf
    exact hj12 () H locs h ls (lv_sub hl [0] rfl) hf
  · have hf := it_f c13 hf
    refine lv_aload_n hx hb dX8_suspend_14 rfl (lv_at hl 0 rfl) ?_
    refine xget hC h.o (C := RX8) (T := TX8) (N := 10) (wM_us uw_X8) 0 (Nat.le_of_ble_eq_true rfl) eBC_0 rfl 0 (by decide) (wM_in fl_X8_10) rfl dX8_suspend_15 ?_
    refine xget hC h.o (C := RX6) (T := TX6) (N := 13) (wM_us uw_X6) 7 (Nat.le_of_ble_eq_true rfl) eBC_7 rfl 3 (by decide) (wM_in fl_X8_108) rfl dX8_suspend_18 ?_
    refine xget hC h.o (C := RX7) (T := TX7) (N := 9) (wM_us uw_X7) 15 (Nat.le_of_ble_eq_true rfl) eBC_15 rfl 0 (by decide) (wM_in fl_X8_156) rfl dX8_suspend_21 ?_
    refine lv_iconst (v := (2 : Int32)) hx hb dX8_suspend_24 (by decide) ?_
    refine lv_icmp_ne (tgt := 32) hx hb dX8_suspend_25 (by decide) (fun c14 => ?_) (fun c14 => ?_)
    · have hf := it_f c14 hf
      refine lv_iconst (v := (0 : Int32)) hx hb dX8_suspend_32 (by decide) ?_
      exact hj2 (0 : Int32) H locs h ls (lv_sub hl [0] rfl) hf
    · have hf := it_t c14 hf
      exact hj12 () H locs h ls (lv_sub hl [0] rfl) hf
def m_X8_resume_n (v : xSt) : Option (Int32 × xSt) := (if (v 18 0) = 0 then none else ob (m_X6_isBusy (sh 7 v)) (fun r3 => (if r3 = 0 then ob (m_X8_save v) (fun r7 => ob (m_X6_letGoOn (sh 7 r7)) (fun r9 => lt (pu 7 47 r7 r9) (fun v10 => ob (m_X7_left (sh 15 v10)) (fun r12 => some (r12, v10))))) else none)))
set_option maxHeartbeats 4000000 in
set_option maxRecDepth 100000 in
theorem c_X8_resume_n (l : Launch) (G : xGl) (q : Nat → Nat) (v : xSt) {z : (Int32 × xSt)} (hf : m_X8_resume_n v = some z) : mRW l yX8_resume (wM yX8_resume cX8_resume 1 (some .int)) { frames := 6, cells := 0, slots := 0, locals := 168 } G (eBC G) 430 q v [.ref (q 0)] (qI z.1) z.2 := by
  refine xRW (cc := cX8_resume) (maxL := 1) (ret := (some .int)) (by decide) rfl (Nat.le_of_ble_eq_true rfl) ?_
  intro p e s m below meth c ls A hC hr hlk h hl
  have hx := hC.1
  have hb := hC.2.1
  have hl : lv_has ls 1 [(0, .ref (q 0))] := hl
  unfold m_X8_resume_n at hf
  obtain ⟨H, hH⟩ : ∃ H, H = s.heap := ⟨_, rfl⟩
  obtain ⟨locs, hlo⟩ : ∃ x : List Loc, x = [] := ⟨_, rfl⟩
  have h : hg G (eBC G) 430 q v A s H locs := by rw [hH, hlo]; exact h
  rw [← hlo, ← hH]
  clear hH hlo
  refine lv_aload_n hx hb dX8_resume_0 rfl (lv_at hl 0 rfl) ?_
  refine xget hC h.o (C := RX8) (T := TX8) (N := 10) (wM_us uw_X8) 0 (Nat.le_of_ble_eq_true rfl) eBC_0 rfl 0 (by decide) (wM_in fl_X8_10) rfl dX8_resume_1 ?_
  refine xget hC h.o (C := RX6) (T := TX6) (N := 13) (wM_us uw_X6) 7 (Nat.le_of_ble_eq_true rfl) eBC_7 rfl 4 (by decide) (wM_in fl_X8_159) rfl dX8_resume_4 ?_
  refine xget hC h.o (C := RX7) (T := TX7) (N := 9) (wM_us uw_X7) 18 (Nat.le_of_ble_eq_true rfl) eBC_18 rfl 0 (by decide) (wM_in fl_X8_156) rfl dX8_resume_7 ?_
  refine lv_if_eq (tgt := 23) hx hb dX8_resume_10 (by decide) (fun c1 => ?_) (fun c1 => ?_)
  · have hf := it_t c1 hf
    cases hf
  · have hf := it_f c1 hf
    refine lv_aload_n hx hb dX8_resume_13 rfl (lv_at hl 0 rfl) ?_
    refine xget hC h.o (C := RX8) (T := TX8) (N := 10) (wM_us uw_X8) 0 (Nat.le_of_ble_eq_true rfl) eBC_0 rfl 0 (by decide) (wM_in fl_X8_10) rfl dX8_resume_14 ?_
    obtain ⟨r3, hy2, hf⟩ := ob_e hf
    refine xzG h (va_runV (As := []) (rest := []) hC (c_X6_isBusy l G (sh 7 q) (sh 7 v) hy2 H.size) (xcwV hC lk_X8_52 in_X6 co_X6_isBusy im_X6_isBusy se_X6_isBusy rfl rfl dd_X6_isBusy ⟨Nat.le_of_ble_eq_true rfl, Nat.le_of_ble_eq_true rfl⟩) (preVO h.o 7 47 sBC_7 (Nat.le_of_ble_eq_true rfl) (Nat.le_of_ble_eq_true rfl) eBC_7 rfl []) rfl rfl hl.1 rfl (lv_room (Nat.le_of_ble_eq_true rfl)) dX8_resume_17 ⟨Nat.zero_le _, Nat.zero_le _⟩) (fun H locs hz4 h => ?_)
    refine lv_if_eq (tgt := 33) hx hb dX8_resume_20 (by decide) (fun c5 => ?_) (fun c5 => ?_)
    · have hf := it_t c5 hf
      refine lv_aload_n hx hb dX8_resume_33 rfl (lv_at hl 0 rfl) ?_
      obtain ⟨r7, hy6, hf⟩ := ob_e hf
      refine xv0 h (va_runV (As := []) (rest := []) hC (c_X8_save l G q v hy6 H.size) (xcwV hC lk_X8_63 in_X8 co_X8_save im_X8_save se_X8_save rfl rfl dd_X8_save ⟨Nat.le_of_ble_eq_true rfl, Nat.le_of_ble_eq_true rfl⟩) (preV0 h (Nat.le_of_ble_eq_true rfl) eBC_0 rfl []) rfl rfl hl.1 rfl (lv_room (Nat.le_of_ble_eq_true rfl)) dX8_resume_34 ⟨Nat.zero_le _, Nat.zero_le _⟩) (fun H locs h => ?_)
      refine lv_aload_n hx hb dX8_resume_37 rfl (lv_at hl 0 rfl) ?_
      refine xget hC h.o (C := RX8) (T := TX8) (N := 10) (wM_us uw_X8) 0 (Nat.le_of_ble_eq_true rfl) eBC_0 rfl 0 (by decide) (wM_in fl_X8_10) rfl dX8_resume_38 ?_
      obtain ⟨r9, hy8, hf⟩ := ob_e hf
      refine xv1 h 7 47 sBC_7 (Nat.le_of_ble_eq_true rfl) (va_runV (As := []) (rest := []) hC (c_X6_letGoOn l G (sh 7 q) (sh 7 r7) hy8 H.size) (xcwV hC lk_X8_170 in_X6 co_X6_letGoOn im_X6_letGoOn se_X6_letGoOn rfl rfl dd_X6_letGoOn ⟨Nat.le_of_ble_eq_true rfl, Nat.le_of_ble_eq_true rfl⟩) (preV1 h 7 47 sBC_7 (Nat.le_of_ble_eq_true rfl) (Nat.le_of_ble_eq_true rfl) eBC_7 rfl []) rfl rfl hl.1 rfl (lv_room (Nat.le_of_ble_eq_true rfl)) dX8_resume_41 ⟨Nat.zero_le _, Nat.zero_le _⟩) (fun H locs h => ?_)
      obtain ⟨v10, ev10, hf⟩ := lt_e hf
      rw [← ev10] at h
      refine lv_aload_n hx hb dX8_resume_44 rfl (lv_at hl 0 rfl) ?_
      refine xget hC h.o (C := RX8) (T := TX8) (N := 10) (wM_us uw_X8) 0 (Nat.le_of_ble_eq_true rfl) eBC_0 rfl 0 (by decide) (wM_in fl_X8_10) rfl dX8_resume_45 ?_
      refine xget hC h.o (C := RX6) (T := TX6) (N := 13) (wM_us uw_X6) 7 (Nat.le_of_ble_eq_true rfl) eBC_7 rfl 3 (by decide) (wM_in fl_X8_108) rfl dX8_resume_48 ?_
      obtain ⟨r12, hy11, hf⟩ := ob_e hf
      refine xiG h (va_runV (As := []) (rest := []) hC (c_X7_left l G (sh 15 q) (sh 15 v10) hy11 H.size) (xcwV hC lk_X8_122 in_X7 co_X7_left im_X7_left se_X7_left rfl rfl dd_X7_left ⟨Nat.le_of_ble_eq_true rfl, Nat.le_of_ble_eq_true rfl⟩) (preVO h.o 15 3 sBC_15 (Nat.le_of_ble_eq_true rfl) (Nat.le_of_ble_eq_true rfl) eBC_15 rfl []) rfl rfl hl.1 rfl (lv_room (Nat.le_of_ble_eq_true rfl)) dX8_resume_51 ⟨Nat.zero_le _, Nat.zero_le _⟩) (fun H locs h => ?_)
      have hf := sm_e hf
      exact xiret hC hr hlk h (by rw [← hf]) (by rw [← hf]) dX8_resume_54
    · have hf := it_f c5 hf
      cases hf
def m_X8_post_n (v : xSt) (p1 : Int32) (p2 : Int32) (p3 : Int32) : Option (Int32 × xSt) := (if (xwi p1 (0 : Int32) (1 : Int32)) = 0 then none else (if (xwi p3 (0 : Int32) (9 : Int32)) = 0 then none else lt (fun (_ : Unit) => ob (m_X1_isFull (sh 21 v)) (fun r7 => (if r7 = 0 then lt (fun (_ : Unit) => ob (m_X8_save v) (fun r12 => (if p1 = (1 : Int32) then ob (m_X1_join (sh 21 r12) (2 : Int32) p2 p3 (r12 7 8)) (fun r19 => lt (pu 21 32 r12 r19.2) (fun v20 => some (r19.1, v20))) else ob (m_X1_joinWrite (ct 32 (sh 21 r12) (sh 13 r12)) p2 p3 (r12 7 8)) (fun r15 => lt (pu 13 2 (pu 21 32 r12 r15.2) (sh 32 r15.2)) (fun v16 => lt (st2 v16 13 1 (0 : Int32)) (fun v17 => some (r15.1, v17))))))) (fun j10 => (if p1 = 0 then (if (v 13 1) = 0 then none else j10 ()) else j10 ())) else none))) (fun j5 => (if p1 = 0 then (if (xwi p2 0 255) = 0 then none else j5 ()) else (if (xwi p2 0 7) = 0 then none else j5 ())))))
set_option maxHeartbeats 4000000 in
set_option maxRecDepth 100000 in
theorem c_X8_post_n (l : Launch) (G : xGl) (q : Nat → Nat) (v : xSt) (p1 : Int32) (p2 : Int32) (p3 : Int32) {z : (Int32 × xSt)} (hf : m_X8_post_n v p1 p2 p3 = some z) : mRW l yX8_post (wM yX8_post cX8_post 5 (some .int)) { frames := 6, cells := 0, slots := 0, locals := 168 } G (eBC G) 430 q v [.ref (q 0), .int p1, .int p2, .int p3] (qI z.1) z.2 := by
  refine xRW (cc := cX8_post) (maxL := 5) (ret := (some .int)) (by decide) rfl (Nat.le_of_ble_eq_true rfl) ?_
  intro p e s m below meth c ls A hC hr hlk h hl
  have hx := hC.1
  have hb := hC.2.1
  have hl : lv_has ls 5 [(0, .ref (q 0)), (1, .int p1), (2, .int p2), (3, .int p3)] := hl
  unfold m_X8_post_n at hf
  obtain ⟨H, hH⟩ : ∃ H, H = s.heap := ⟨_, rfl⟩
  obtain ⟨locs, hlo⟩ : ∃ x : List Loc, x = [] := ⟨_, rfl⟩
  have h : hg G (eBC G) 430 q v A s H locs := by rw [hH, hlo]; exact h
  rw [← hlo, ← hH]
  clear hH hlo
  refine lv_iload_n hx hb dX8_post_0 rfl (lv_at hl 1 rfl) ?_
  refine lv_iconst (v := (0 : Int32)) hx hb dX8_post_1 (by decide) ?_
  refine lv_iconst (v := (1 : Int32)) hx hb dX8_post_2 (by decide) ?_
  refine xzG h (va_runS (As := [.int p1, .int (0 : Int32), .int (1 : Int32)]) (rest := []) hC (k_X8_isWithin l G q v p1 (0 : Int32) (1 : Int32) H.size) (xcwS hC lk_X8_69 in_X8 co_X8_isWithin st_X8_isWithin rfl rfl dd_X8_isWithin ⟨Nat.le_of_ble_eq_true rfl, Nat.le_of_ble_eq_true rfl⟩) (preSN h.o [.int p1, .int (0 : Int32), .int (1 : Int32)]) rfl rfl hl.1 rfl (lv_room (Nat.le_of_ble_eq_true rfl)) dX8_post_3 ⟨Nat.zero_le _, Nat.zero_le _⟩) (fun H locs hz1 h => ?_)
  refine lv_if_eq (tgt := 19) hx hb dX8_post_6 (by decide) (fun c2 => ?_) (fun c2 => ?_)
  · have hf := it_t c2 hf
    cases hf
  · have hf := it_f c2 hf
    refine lv_iload_n hx hb dX8_post_9 rfl (lv_at hl 3 rfl) ?_
    refine lv_iconst (v := (0 : Int32)) hx hb dX8_post_10 (by decide) ?_
    refine lv_bipush (v := (9 : Int32)) hx hb dX8_post_11 (by decide) ?_
    refine xzG h (va_runS (As := [.int p3, .int (0 : Int32), .int (9 : Int32)]) (rest := []) hC (k_X8_isWithin l G q v p3 (0 : Int32) (9 : Int32) H.size) (xcwS hC lk_X8_69 in_X8 co_X8_isWithin st_X8_isWithin rfl rfl dd_X8_isWithin ⟨Nat.le_of_ble_eq_true rfl, Nat.le_of_ble_eq_true rfl⟩) (preSN h.o [.int p3, .int (0 : Int32), .int (9 : Int32)]) rfl rfl hl.1 rfl (lv_room (Nat.le_of_ble_eq_true rfl)) dX8_post_13 ⟨Nat.zero_le _, Nat.zero_le _⟩) (fun H locs hz3 h => ?_)
    refine lv_if_ne (tgt := 29) hx hb dX8_post_16 (by decide) (fun c4 => ?_) (fun c4 => ?_)
    · have hf := it_f c4 hf
      refine lv_iload_n hx hb dX8_post_29 rfl (lv_at hl 1 rfl) ?_
      obtain ⟨j5, ej5, hf⟩ := lt_e hf
      have hj5 : ∀ (uu : Unit) (H : Heap) (locs : List Loc), hg G (eBC G) 430 q v A s H locs → ∀ (ls : Array Slot), lv_has ls 5 [(0, .ref (q 0)), (1, .int p1), (2, .int p2), (3, .int p3)] → j5 uu = some z → W p l e { frames := 6, cells := 0, slots := 0, locals := 168 } s m [.ref (q 0), .int p1, .int p2, .int p3].toArray below meth c H locs 0 0 (MQ below ((qI z.1) (cB G (eBC G) 430 q z.2 A) A) [.ref (q 0), .int p1, .int p2, .int p3].toArray s 0 0 A) (F0 m 60 ls []) := by
        intro uu H locs h ls hl hf
        rw [ej5] at hf
        refine lv_aload_n hx hb dX8_post_60 rfl (lv_at hl 0 rfl) ?_
        refine xget hC h.o (C := RX8) (T := TX8) (N := 10) (wM_us uw_X8) 0 (Nat.le_of_ble_eq_true rfl) eBC_0 rfl 0 (by decide) (wM_in fl_X8_10) rfl dX8_post_61 ?_
        refine xget hC h.o (C := RX6) (T := TX6) (N := 13) (wM_us uw_X6) 7 (Nat.le_of_ble_eq_true rfl) eBC_7 rfl 5 (by decide) (wM_in fl_X8_180) rfl dX8_post_64 ?_
        obtain ⟨r7, hy6, hf⟩ := ob_e hf
        refine xzG h (va_runV (As := []) (rest := []) hC (c_X1_isFull l G (sh 21 q) (sh 21 v) hy6 H.size) (xcwV hC lk_X8_184 in_X1 co_X1_isFull im_X1_isFull se_X1_isFull rfl rfl dd_X1_isFull ⟨Nat.le_of_ble_eq_true rfl, Nat.le_of_ble_eq_true rfl⟩) (preVO h.o 21 32 sBC_21 (Nat.le_of_ble_eq_true rfl) (Nat.le_of_ble_eq_true rfl) eBC_21 rfl []) rfl rfl hl.1 rfl (lv_room (Nat.le_of_ble_eq_true rfl)) dX8_post_67 ⟨Nat.zero_le _, Nat.zero_le _⟩) (fun H locs hz8 h => ?_)
        refine lv_if_ne (tgt := 90) hx hb dX8_post_70 (by decide) (fun c9 => ?_) (fun c9 => ?_)
        · have hf := it_f c9 hf
          cases hf
        · have hf := it_t c9 hf
          refine lv_iload_n hx hb dX8_post_73 rfl (lv_at hl 1 rfl) ?_
          obtain ⟨j10, ej10, hf⟩ := lt_e hf
          have hj10 : ∀ (uu : Unit) (H : Heap) (locs : List Loc), hg G (eBC G) 430 q v A s H locs → ∀ (ls : Array Slot), lv_has ls 5 [(0, .ref (q 0)), (1, .int p1), (2, .int p2), (3, .int p3)] → j10 uu = some z → W p l e { frames := 6, cells := 0, slots := 0, locals := 168 } s m [.ref (q 0), .int p1, .int p2, .int p3].toArray below meth c H locs 0 0 (MQ below ((qI z.1) (cB G (eBC G) 430 q z.2 A) A) [.ref (q 0), .int p1, .int p2, .int p3].toArray s 0 0 A) (F0 m 100 ls []) := by
            intro uu H locs h ls hl hf
            rw [ej10] at hf
            refine lv_aload_n hx hb dX8_post_100 rfl (lv_at hl 0 rfl) ?_
            obtain ⟨r12, hy11, hf⟩ := ob_e hf
            refine xv0 h (va_runV (As := []) (rest := []) hC (c_X8_save l G q v hy11 H.size) (xcwV hC lk_X8_63 in_X8 co_X8_save im_X8_save se_X8_save rfl rfl dd_X8_save ⟨Nat.le_of_ble_eq_true rfl, Nat.le_of_ble_eq_true rfl⟩) (preV0 h (Nat.le_of_ble_eq_true rfl) eBC_0 rfl []) rfl rfl hl.1 rfl (lv_room (Nat.le_of_ble_eq_true rfl)) dX8_post_101 ⟨Nat.zero_le _, Nat.zero_le _⟩) (fun H locs h => ?_)
            refine lv_iload_n hx hb dX8_post_104 rfl (lv_at hl 1 rfl) ?_
            refine lv_iconst (v := (1 : Int32)) hx hb dX8_post_105 (by decide) ?_
            refine lv_icmp_ne (tgt := 130) hx hb dX8_post_106 (by decide) (fun c13 => ?_) (fun c13 => ?_)
            · have hf := it_f c13 hf
              refine lv_aload_n hx hb dX8_post_130 rfl (lv_at hl 0 rfl) ?_
              refine xget hC h.o (C := RX8) (T := TX8) (N := 10) (wM_us uw_X8) 0 (Nat.le_of_ble_eq_true rfl) eBC_0 rfl 0 (by decide) (wM_in fl_X8_10) rfl dX8_post_131 ?_
              refine xget hC h.o (C := RX6) (T := TX6) (N := 13) (wM_us uw_X6) 7 (Nat.le_of_ble_eq_true rfl) eBC_7 rfl 5 (by decide) (wM_in fl_X8_180) rfl dX8_post_134 ?_
              refine lv_iload_n hx hb dX8_post_137 rfl (lv_at hl 2 rfl) ?_
              refine lv_iload_n hx hb dX8_post_138 rfl (lv_at hl 3 rfl) ?_
              refine lv_aload_n hx hb dX8_post_139 rfl (lv_at hl 0 rfl) ?_
              refine xget hC h.o (C := RX8) (T := TX8) (N := 10) (wM_us uw_X8) 0 (Nat.le_of_ble_eq_true rfl) eBC_0 rfl 0 (by decide) (wM_in fl_X8_10) rfl dX8_post_140 ?_
              refine xget hC h.o (C := RX6) (T := TX6) (N := 13) (wM_us uw_X6) 7 (Nat.le_of_ble_eq_true rfl) eBC_7 rfl 8 (by decide) (wM_in fl_X8_191) rfl dX8_post_143 ?_
              refine lv_aload_n hx hb dX8_post_146 rfl (lv_at hl 0 rfl) ?_
              refine xget hC h.o (C := RX8) (T := TX8) (N := 10) (wM_us uw_X8) 0 (Nat.le_of_ble_eq_true rfl) eBC_0 rfl 0 (by decide) (wM_in fl_X8_10) rfl dX8_post_147 ?_
              refine xget hC h.o (C := RX6) (T := TX6) (N := 13) (wM_us uw_X6) 7 (Nat.le_of_ble_eq_true rfl) eBC_7 rfl 2 (by decide) (wM_in fl_X8_78) rfl dX8_post_150 ?_
              obtain ⟨r15, hy14, hf⟩ := ob_e hf
              refine xi2 h 21 32 13 2 (x2E1 sBC_21 locLine) (x2E2 sBC_13) (Nat.le_of_ble_eq_true rfl) (Nat.le_of_ble_eq_true rfl) (by omega) (va_runV (As := [.int p2, .int p3, .int (r12 7 8), .ref (q 13)]) (rest := []) hC (c_X1_joinWrite l G (ct 32 (sh 21 q) (sh 13 q)) (ct 32 (sh 21 r12) (sh 13 r12)) p2 p3 (r12 7 8) hy14 H.size) (xcwV hC lk_X8_198 in_X1 co_X1_joinWrite im_X1_joinWrite se_X1_joinWrite rfl rfl dd_X1_joinWrite ⟨Nat.le_of_ble_eq_true rfl, Nat.le_of_ble_eq_true rfl⟩) (preV2 h 21 32 13 2 (x2E1 sBC_21 locLine) (x2E2 sBC_13) (Nat.le_of_ble_eq_true rfl) (Nat.le_of_ble_eq_true rfl) (by omega) (Nat.le_of_ble_eq_true rfl) eBC_21 rfl [.int p2, .int p3, .int (r12 7 8), .ref (q 13)]) rfl rfl hl.1 rfl (lv_room (Nat.le_of_ble_eq_true rfl)) dX8_post_153 ⟨Nat.zero_le _, Nat.zero_le _⟩) (fun H locs h => ?_)
              obtain ⟨v16, ev16, hf⟩ := lt_e hf
              rw [← ev16] at h
              refine lv_istore (lv' := [(4, .int r15.1), (0, .ref (q 0)), (1, .int p1), (2, .int p2), (3, .int p3)]) hx hb dX8_post_156 hl (by decide) rfl (fun ls hl => ?_)
              refine lv_aload_n hx hb dX8_post_158 rfl (lv_at hl 1 rfl) ?_
              refine xget hC h.o (C := RX8) (T := TX8) (N := 10) (wM_us uw_X8) 0 (Nat.le_of_ble_eq_true rfl) eBC_0 rfl 0 (by decide) (wM_in fl_X8_10) rfl dX8_post_159 ?_
              refine xget hC h.o (C := RX6) (T := TX6) (N := 13) (wM_us uw_X6) 7 (Nat.le_of_ble_eq_true rfl) eBC_7 rfl 2 (by decide) (wM_in fl_X8_78) rfl dX8_post_162 ?_
              refine lv_iconst (v := (0 : Int32)) hx hb dX8_post_165 (by decide) ?_
              refine xput hC h (C := RX4) (T := TX4) (N := 2) (wM_us uw_X4) tyX4_ok nmX4 13 (Nat.le_of_ble_eq_true rfl) eBC_13 rfl 1 (by decide) (wM_in fl_X8_82) rfl (ty := .int) (tyX4_ok 1 (by decide)) rfl rfl (Nat.le_of_ble_eq_true rfl) (eBC_13.trans rfl) dX8_post_166 (fun H locs h => ?_)
              obtain ⟨v17, ev17, hf⟩ := lt_e hf
              rw [← ev17] at h
              refine lv_iload hx hb dX8_post_169 (lv_at hl 0 rfl) ?_
              have hf := sm_e hf
              exact xiret hC hr hlk h (by rw [← hf]) (by rw [← hf]) dX8_post_171
            · have hf := it_t c13 hf
              refine lv_aload_n hx hb dX8_post_109 rfl (lv_at hl 0 rfl) ?_
              refine xget hC h.o (C := RX8) (T := TX8) (N := 10) (wM_us uw_X8) 0 (Nat.le_of_ble_eq_true rfl) eBC_0 rfl 0 (by decide) (wM_in fl_X8_10) rfl dX8_post_110 ?_
              refine xget hC h.o (C := RX6) (T := TX6) (N := 13) (wM_us uw_X6) 7 (Nat.le_of_ble_eq_true rfl) eBC_7 rfl 5 (by decide) (wM_in fl_X8_180) rfl dX8_post_113 ?_
              refine lv_iconst (v := (2 : Int32)) hx hb dX8_post_116 (by decide) ?_
              refine lv_iload_n hx hb dX8_post_117 rfl (lv_at hl 2 rfl) ?_
              refine lv_iload_n hx hb dX8_post_118 rfl (lv_at hl 3 rfl) ?_
              refine lv_aload_n hx hb dX8_post_119 rfl (lv_at hl 0 rfl) ?_
              refine xget hC h.o (C := RX8) (T := TX8) (N := 10) (wM_us uw_X8) 0 (Nat.le_of_ble_eq_true rfl) eBC_0 rfl 0 (by decide) (wM_in fl_X8_10) rfl dX8_post_120 ?_
              refine xget hC h.o (C := RX6) (T := TX6) (N := 13) (wM_us uw_X6) 7 (Nat.le_of_ble_eq_true rfl) eBC_7 rfl 8 (by decide) (wM_in fl_X8_191) rfl dX8_post_123 ?_
              obtain ⟨r19, hy18, hf⟩ := ob_e hf
              refine xi1 h 21 32 sBC_21 (Nat.le_of_ble_eq_true rfl) (va_runV (As := [.int (2 : Int32), .int p2, .int p3, .int (r12 7 8)]) (rest := []) hC (c_X1_join l G (sh 21 q) (sh 21 r12) (2 : Int32) p2 p3 (r12 7 8) hy18 H.size) (xcwV hC lk_X8_194 in_X1 co_X1_join im_X1_join se_X1_join rfl rfl dd_X1_join ⟨Nat.le_of_ble_eq_true rfl, Nat.le_of_ble_eq_true rfl⟩) (preV1 h 21 32 sBC_21 (Nat.le_of_ble_eq_true rfl) (Nat.le_of_ble_eq_true rfl) eBC_21 rfl [.int (2 : Int32), .int p2, .int p3, .int (r12 7 8)]) rfl rfl hl.1 rfl (lv_room (Nat.le_of_ble_eq_true rfl)) dX8_post_126 ⟨Nat.zero_le _, Nat.zero_le _⟩) (fun H locs h => ?_)
              obtain ⟨v20, ev20, hf⟩ := lt_e hf
              rw [← ev20] at h
              have hf := sm_e hf
              exact xiret hC hr hlk h (by rw [← hf]) (by rw [← hf]) dX8_post_129
          refine lv_if_ne (tgt := 100) hx hb dX8_post_74 (by decide) (fun c21 => ?_) (fun c21 => ?_)
          · have hf := it_f c21 hf
            exact hj10 () H locs h ls (lv_sub hl [0, 1, 2, 3] rfl) hf
          · have hf := it_t c21 hf
            refine lv_aload_n hx hb dX8_post_77 rfl (lv_at hl 0 rfl) ?_
            refine xget hC h.o (C := RX8) (T := TX8) (N := 10) (wM_us uw_X8) 0 (Nat.le_of_ble_eq_true rfl) eBC_0 rfl 0 (by decide) (wM_in fl_X8_10) rfl dX8_post_78 ?_
            refine xget hC h.o (C := RX6) (T := TX6) (N := 13) (wM_us uw_X6) 7 (Nat.le_of_ble_eq_true rfl) eBC_7 rfl 2 (by decide) (wM_in fl_X8_78) rfl dX8_post_81 ?_
            refine xget hC h.o (C := RX4) (T := TX4) (N := 2) (wM_us uw_X4) 13 (Nat.le_of_ble_eq_true rfl) eBC_13 rfl 1 (by decide) (wM_in fl_X8_82) rfl dX8_post_84 ?_
            refine lv_if_ne (tgt := 100) hx hb dX8_post_87 (by decide) (fun c22 => ?_) (fun c22 => ?_)
            · have hf := it_f c22 hf
              exact hj10 () H locs h ls (lv_sub hl [0, 1, 2, 3] rfl) hf
            · have hf := it_t c22 hf
              cases hf
      refine lv_if_ne (tgt := 43) hx hb dX8_post_30 (by decide) (fun c23 => ?_) (fun c23 => ?_)
      · have hf := it_f c23 hf
        refine lv_iload_n hx hb dX8_post_43 rfl (lv_at hl 2 rfl) ?_
        refine xzG h (va_runS (As := [.int p2]) (rest := []) hC (k_X8_isSector l G q v p2 H.size) (xcwS hC lk_X8_126 in_X8 co_X8_isSector st_X8_isSector rfl rfl dd_X8_isSector ⟨Nat.le_of_ble_eq_true rfl, Nat.le_of_ble_eq_true rfl⟩) (preSN h.o [.int p2]) rfl rfl hl.1 rfl (lv_room (Nat.le_of_ble_eq_true rfl)) dX8_post_44 ⟨Nat.zero_le _, Nat.zero_le _⟩) (fun H locs hz24 h => ?_)
        refine lv_if_ne (tgt := 60) hx hb dX8_post_47 (by decide) (fun c25 => ?_) (fun c25 => ?_)
        · have hf := it_f c25 hf
          exact hj5 () H locs h ls (lv_sub hl [0, 1, 2, 3] rfl) hf
        · have hf := it_t c25 hf
          cases hf
      · have hf := it_t c23 hf
        refine lv_iload_n hx hb dX8_post_33 rfl (lv_at hl 2 rfl) ?_
        refine xzG h (va_runS (As := [.int p2]) (rest := []) hC (k_X8_isCell l G q v p2 H.size) (xcwS hC lk_X8_93 in_X8 co_X8_isCell st_X8_isCell rfl rfl dd_X8_isCell ⟨Nat.le_of_ble_eq_true rfl, Nat.le_of_ble_eq_true rfl⟩) (preSN h.o [.int p2]) rfl rfl hl.1 rfl (lv_room (Nat.le_of_ble_eq_true rfl)) dX8_post_34 ⟨Nat.zero_le _, Nat.zero_le _⟩) (fun H locs hz26 h => ?_)
        refine lv_if_ne (tgt := 60) hx hb dX8_post_37 (by decide) (fun c27 => ?_) (fun c27 => ?_)
        · have hf := it_f c27 hf
          exact hj5 () H locs h ls (lv_sub hl [0, 1, 2, 3] rfl) hf
        · have hf := it_t c27 hf
          cases hf
    · have hf := it_t c4 hf
      cases hf
def m_X8_withdraw_n (v : xSt) (p1 : Int32) : Option (Int32 × xSt) := ob (m_X1_rankOf (sh 21 v) p1) (fun r2 => (if r2 = (-1 : Int32) then none else ob (m_X8_save v) (fun r5 => ob (m_X1_leave (sh 21 r5) r2) (fun r7 => lt (pu 21 32 r5 r7) (fun v8 => some ((v8 21 1), v8))))))
set_option maxHeartbeats 4000000 in
set_option maxRecDepth 100000 in
theorem c_X8_withdraw_n (l : Launch) (G : xGl) (q : Nat → Nat) (v : xSt) (p1 : Int32) {z : (Int32 × xSt)} (hf : m_X8_withdraw_n v p1 = some z) : mRW l yX8_withdraw (wM yX8_withdraw cX8_withdraw 3 (some .int)) { frames := 6, cells := 0, slots := 0, locals := 168 } G (eBC G) 430 q v [.ref (q 0), .int p1] (qI z.1) z.2 := by
  refine xRW (cc := cX8_withdraw) (maxL := 3) (ret := (some .int)) (by decide) rfl (Nat.le_of_ble_eq_true rfl) ?_
  intro p e s m below meth c ls A hC hr hlk h hl
  have hx := hC.1
  have hb := hC.2.1
  have hl : lv_has ls 3 [(0, .ref (q 0)), (1, .int p1)] := hl
  unfold m_X8_withdraw_n at hf
  obtain ⟨H, hH⟩ : ∃ H, H = s.heap := ⟨_, rfl⟩
  obtain ⟨locs, hlo⟩ : ∃ x : List Loc, x = [] := ⟨_, rfl⟩
  have h : hg G (eBC G) 430 q v A s H locs := by rw [hH, hlo]; exact h
  rw [← hlo, ← hH]
  clear hH hlo
  refine lv_aload_n hx hb dX8_withdraw_0 rfl (lv_at hl 0 rfl) ?_
  refine xget hC h.o (C := RX8) (T := TX8) (N := 10) (wM_us uw_X8) 0 (Nat.le_of_ble_eq_true rfl) eBC_0 rfl 0 (by decide) (wM_in fl_X8_10) rfl dX8_withdraw_1 ?_
  refine xget hC h.o (C := RX6) (T := TX6) (N := 13) (wM_us uw_X6) 7 (Nat.le_of_ble_eq_true rfl) eBC_7 rfl 5 (by decide) (wM_in fl_X8_180) rfl dX8_withdraw_4 ?_
  refine lv_iload_n hx hb dX8_withdraw_7 rfl (lv_at hl 1 rfl) ?_
  obtain ⟨r2, hy1, hf⟩ := ob_e hf
  refine xiG h (va_runV (As := [.int p1]) (rest := []) hC (c_X1_rankOf l G (sh 21 q) (sh 21 v) p1 hy1 H.size) (xcwV hC lk_X8_202 in_X1 co_X1_rankOf im_X1_rankOf se_X1_rankOf rfl rfl dd_X1_rankOf ⟨Nat.le_of_ble_eq_true rfl, Nat.le_of_ble_eq_true rfl⟩) (preVO h.o 21 32 sBC_21 (Nat.le_of_ble_eq_true rfl) (Nat.le_of_ble_eq_true rfl) eBC_21 rfl [.int p1]) rfl rfl hl.1 rfl (lv_room (Nat.le_of_ble_eq_true rfl)) dX8_withdraw_8 ⟨Nat.zero_le _, Nat.zero_le _⟩) (fun H locs h => ?_)
  refine lv_istore_n (lv' := [(2, .int r2), (0, .ref (q 0)), (1, .int p1)]) hx hb dX8_withdraw_11 rfl hl (by decide) rfl (fun ls hl => ?_)
  refine lv_iload_n hx hb dX8_withdraw_12 rfl (lv_at hl 0 rfl) ?_
  refine lv_iconst (v := (-1 : Int32)) hx hb dX8_withdraw_13 (by decide) ?_
  refine lv_icmp_ne (tgt := 27) hx hb dX8_withdraw_14 (by decide) (fun c3 => ?_) (fun c3 => ?_)
  · have hf := it_f c3 hf
    refine lv_aload_n hx hb dX8_withdraw_27 rfl (lv_at hl 1 rfl) ?_
    obtain ⟨r5, hy4, hf⟩ := ob_e hf
    refine xv0 h (va_runV (As := []) (rest := []) hC (c_X8_save l G q v hy4 H.size) (xcwV hC lk_X8_63 in_X8 co_X8_save im_X8_save se_X8_save rfl rfl dd_X8_save ⟨Nat.le_of_ble_eq_true rfl, Nat.le_of_ble_eq_true rfl⟩) (preV0 h (Nat.le_of_ble_eq_true rfl) eBC_0 rfl []) rfl rfl hl.1 rfl (lv_room (Nat.le_of_ble_eq_true rfl)) dX8_withdraw_28 ⟨Nat.zero_le _, Nat.zero_le _⟩) (fun H locs h => ?_)
    refine lv_aload_n hx hb dX8_withdraw_31 rfl (lv_at hl 1 rfl) ?_
    refine xget hC h.o (C := RX8) (T := TX8) (N := 10) (wM_us uw_X8) 0 (Nat.le_of_ble_eq_true rfl) eBC_0 rfl 0 (by decide) (wM_in fl_X8_10) rfl dX8_withdraw_32 ?_
    refine xget hC h.o (C := RX6) (T := TX6) (N := 13) (wM_us uw_X6) 7 (Nat.le_of_ble_eq_true rfl) eBC_7 rfl 5 (by decide) (wM_in fl_X8_180) rfl dX8_withdraw_35 ?_
    refine lv_iload_n hx hb dX8_withdraw_38 rfl (lv_at hl 0 rfl) ?_
    obtain ⟨r7, hy6, hf⟩ := ob_e hf
    refine xv1 h 21 32 sBC_21 (Nat.le_of_ble_eq_true rfl) (va_runV (As := [.int r2]) (rest := []) hC (c_X1_leave l G (sh 21 q) (sh 21 r5) r2 hy6 H.size) (xcwV hC lk_X8_207 in_X1 co_X1_leave im_X1_leave se_X1_leave rfl rfl dd_X1_leave ⟨Nat.le_of_ble_eq_true rfl, Nat.le_of_ble_eq_true rfl⟩) (preV1 h 21 32 sBC_21 (Nat.le_of_ble_eq_true rfl) (Nat.le_of_ble_eq_true rfl) eBC_21 rfl [.int r2]) rfl rfl hl.1 rfl (lv_room (Nat.le_of_ble_eq_true rfl)) dX8_withdraw_39 ⟨Nat.zero_le _, Nat.zero_le _⟩) (fun H locs h => ?_)
    obtain ⟨v8, ev8, hf⟩ := lt_e hf
    rw [← ev8] at h
    refine lv_aload_n hx hb dX8_withdraw_42 rfl (lv_at hl 1 rfl) ?_
    refine xget hC h.o (C := RX8) (T := TX8) (N := 10) (wM_us uw_X8) 0 (Nat.le_of_ble_eq_true rfl) eBC_0 rfl 0 (by decide) (wM_in fl_X8_10) rfl dX8_withdraw_43 ?_
    refine xget hC h.o (C := RX6) (T := TX6) (N := 13) (wM_us uw_X6) 7 (Nat.le_of_ble_eq_true rfl) eBC_7 rfl 5 (by decide) (wM_in fl_X8_180) rfl dX8_withdraw_46 ?_
    refine xget hC h.o (C := RX1) (T := TX1) (N := 3) (wM_us uw_X1) 21 (Nat.le_of_ble_eq_true rfl) eBC_21 rfl 1 (by decide) (wM_in fl_X8_210) rfl dX8_withdraw_49 ?_
    have hf := sm_e hf
    exact xiret hC hr hlk h (by rw [← hf]) (by rw [← hf]) dX8_withdraw_52
  · have hf := it_t c3 hf
    cases hf
def m_X8_pass_n (v : xSt) (p1 : Int32) : Option (Int32 × xSt) := (if (xwi p1 (1 : Int32) (200 : Int32)) = 0 then none else ob (m_X8_save v) (fun r4 => lp (fun (rec8 : Int32 × Int32 × xSt → Option (Int32 × xSt)) => un3 (fun (a5 : Int32) (a6 : Int32) (v7 : xSt) => (if p1 ≤ a6 then some (a5, v7) else ob (m_X6_tick (sh 7 v7)) (fun r11 => lt (pu 7 47 v7 r11.2) (fun v13 => lt (fun (a14 : Int32) => rec8 (a14, (a6 + 1), v13)) (fun j15 => (if r11.1 = 0 then j15 a5 else j15 (a5 + 1)))))))) xF ((0 : Int32), (0 : Int32), r4)))
set_option maxHeartbeats 4000000 in
set_option maxRecDepth 100000 in
theorem c_X8_pass_n (l : Launch) (G : xGl) (q : Nat → Nat) (v : xSt) (p1 : Int32) {z : (Int32 × xSt)} (hf : m_X8_pass_n v p1 = some z) : mRW l yX8_pass (wM yX8_pass cX8_pass 4 (some .int)) { frames := 6, cells := 0, slots := 0, locals := 168 } G (eBC G) 430 q v [.ref (q 0), .int p1] (qI z.1) z.2 := by
  refine xRW (cc := cX8_pass) (maxL := 4) (ret := (some .int)) (by decide) rfl (Nat.le_of_ble_eq_true rfl) ?_
  intro p e s m below meth c ls A hC hr hlk h hl
  have hx := hC.1
  have hb := hC.2.1
  have hl : lv_has ls 4 [(0, .ref (q 0)), (1, .int p1)] := hl
  unfold m_X8_pass_n at hf
  obtain ⟨H, hH⟩ : ∃ H, H = s.heap := ⟨_, rfl⟩
  obtain ⟨locs, hlo⟩ : ∃ x : List Loc, x = [] := ⟨_, rfl⟩
  have h : hg G (eBC G) 430 q v A s H locs := by rw [hH, hlo]; exact h
  rw [← hlo, ← hH]
  clear hH hlo
  refine lv_iload_n hx hb dX8_pass_0 rfl (lv_at hl 1 rfl) ?_
  refine lv_iconst (v := (1 : Int32)) hx hb dX8_pass_1 (by decide) ?_
  refine lv_sipush (v := (200 : Int32)) hx hb dX8_pass_2 (by decide) ?_
  refine xzG h (va_runS (As := [.int p1, .int (1 : Int32), .int (200 : Int32)]) (rest := []) hC (k_X8_isWithin l G q v p1 (1 : Int32) (200 : Int32) H.size) (xcwS hC lk_X8_69 in_X8 co_X8_isWithin st_X8_isWithin rfl rfl dd_X8_isWithin ⟨Nat.le_of_ble_eq_true rfl, Nat.le_of_ble_eq_true rfl⟩) (preSN h.o [.int p1, .int (1 : Int32), .int (200 : Int32)]) rfl rfl hl.1 rfl (lv_room (Nat.le_of_ble_eq_true rfl)) dX8_pass_5 ⟨Nat.zero_le _, Nat.zero_le _⟩) (fun H locs hz1 h => ?_)
  refine lv_if_ne (tgt := 21) hx hb dX8_pass_8 (by decide) (fun c2 => ?_) (fun c2 => ?_)
  · have hf := it_f c2 hf
    refine lv_aload_n hx hb dX8_pass_21 rfl (lv_at hl 0 rfl) ?_
    obtain ⟨r4, hy3, hf⟩ := ob_e hf
    refine xv0 h (va_runV (As := []) (rest := []) hC (c_X8_save l G q v hy3 H.size) (xcwV hC lk_X8_63 in_X8 co_X8_save im_X8_save se_X8_save rfl rfl dd_X8_save ⟨Nat.le_of_ble_eq_true rfl, Nat.le_of_ble_eq_true rfl⟩) (preV0 h (Nat.le_of_ble_eq_true rfl) eBC_0 rfl []) rfl rfl hl.1 rfl (lv_room (Nat.le_of_ble_eq_true rfl)) dX8_pass_22 ⟨Nat.zero_le _, Nat.zero_le _⟩) (fun H locs h => ?_)
    refine lv_iconst (v := (0 : Int32)) hx hb dX8_pass_25 (by decide) ?_
    refine lv_istore_n (lv' := [(2, .int (0 : Int32)), (0, .ref (q 0)), (1, .int p1)]) hx hb dX8_pass_26 rfl hl (by decide) rfl (fun ls hl => ?_)
    refine lv_iconst (v := (0 : Int32)) hx hb dX8_pass_27 (by decide) ?_
    refine lv_istore_n (lv' := [(3, .int (0 : Int32)), (2, .int (0 : Int32)), (0, .ref (q 0)), (1, .int p1)]) hx hb dX8_pass_28 rfl hl (by decide) rfl (fun ls hl => ?_)
    refine lp_i (z := z) (P := fun (pp : Int32 × Int32 × xSt) => ∀ (H : Heap) (locs : List Loc), hg G (eBC G) 430 q pp.2.2 A s H locs → ∀ (ls : Array Slot), lv_has ls 4 [(0, .ref (q 0)), (1, .int p1), (2, .int pp.1), (3, .int pp.2.1)] → W p l e { frames := 6, cells := 0, slots := 0, locals := 168 } s m [.ref (q 0), .int p1].toArray below meth c H locs 0 0 (MQ below ((qI z.1) (cB G (eBC G) 430 q z.2 A) A) [.ref (q 0), .int p1].toArray s 0 0 A) (F0 m 29 ls [])) ?_ _ _ hf H locs h ls (lv_sub hl [2, 3, 1, 0] rfl)
    intro rec8 hrec8 pp hf H locs h ls hl
    obtain ⟨a5, a6, v7⟩ := pp
    have h : hg G (eBC G) 430 q v7 A s H locs := h
    have hl : lv_has ls 4 [(0, .ref (q 0)), (1, .int p1), (2, .int a5), (3, .int a6)] := hl
    have hf := un3_e hf
    refine lv_iload_n hx hb dX8_pass_29 rfl (lv_at hl 3 rfl) ?_
    refine lv_iload_n hx hb dX8_pass_30 rfl (lv_at hl 1 rfl) ?_
    refine lv_icmp_ge (tgt := 53) hx hb dX8_pass_31 (by decide) (fun c9 => ?_) (fun c9 => ?_)
    · have hf := it_t c9 hf
      refine lv_iload_n hx hb dX8_pass_53 rfl (lv_at hl 2 rfl) ?_
      have hf := sm_e hf
      exact xiret hC hr hlk h (by rw [← hf]) (by rw [← hf]) dX8_pass_54
    · have hf := it_f c9 hf
      refine lv_aload_n hx hb dX8_pass_34 rfl (lv_at hl 0 rfl) ?_
      refine xget hC h.o (C := RX8) (T := TX8) (N := 10) (wM_us uw_X8) 0 (Nat.le_of_ble_eq_true rfl) eBC_0 rfl 0 (by decide) (wM_in fl_X8_10) rfl dX8_pass_35 ?_
      obtain ⟨r11, hy10, hf⟩ := ob_e hf
      refine xz1 h 7 47 sBC_7 (Nat.le_of_ble_eq_true rfl) (va_runV (As := []) (rest := []) hC (c_X6_tick l G (sh 7 q) (sh 7 v7) hy10 H.size) (xcwV hC lk_X8_213 in_X6 co_X6_tick im_X6_tick se_X6_tick rfl rfl dd_X6_tick ⟨Nat.le_of_ble_eq_true rfl, Nat.le_of_ble_eq_true rfl⟩) (preV1 h 7 47 sBC_7 (Nat.le_of_ble_eq_true rfl) (Nat.le_of_ble_eq_true rfl) eBC_7 rfl []) rfl rfl hl.1 rfl (lv_room (Nat.le_of_ble_eq_true rfl)) dX8_pass_38 ⟨Nat.zero_le _, Nat.zero_le _⟩) (fun H locs hz12 h => ?_)
      obtain ⟨v13, ev13, hf⟩ := lt_e hf
      rw [← ev13] at h
      obtain ⟨j15, ej15, hf⟩ := lt_e hf
      have hj15 : ∀ (a14 : Int32) (H : Heap) (locs : List Loc), hg G (eBC G) 430 q v13 A s H locs → ∀ (ls : Array Slot), lv_has ls 4 [(0, .ref (q 0)), (1, .int p1), (2, .int a14), (3, .int a6)] → j15 a14 = some z → W p l e { frames := 6, cells := 0, slots := 0, locals := 168 } s m [.ref (q 0), .int p1].toArray below meth c H locs 0 0 (MQ below ((qI z.1) (cB G (eBC G) 430 q z.2 A) A) [.ref (q 0), .int p1].toArray s 0 0 A) (F0 m 47 ls []) := by
        intro a14 H locs h ls hl hf
        rw [ej15] at hf
        refine lv_iinc (v := (a6 + 1)) (lv' := [(3, .int (a6 + 1)), (0, .ref (q 0)), (1, .int p1), (2, .int a14)]) hx hb dX8_pass_47 hl (k := 3) rfl rfl (by decide) rfl (fun ls hl => ?_)
        refine lv_goto (tgt := 29) hx hb dX8_pass_50 (by decide) ?_
        exact hrec8 (a14, (a6 + 1), v13) hf H locs h ls (lv_sub hl [1, 2, 3, 0] rfl)
      refine lv_if_eq (tgt := 47) hx hb dX8_pass_41 (by decide) (fun c16 => ?_) (fun c16 => ?_)
      · have hf := it_t c16 hf
        exact hj15 a5 H locs h ls (lv_sub hl [0, 1, 2, 3] rfl) hf
      · have hf := it_f c16 hf
        refine lv_iinc (v := (a5 + 1)) (lv' := [(2, .int (a5 + 1)), (0, .ref (q 0)), (1, .int p1), (3, .int a6)]) hx hb dX8_pass_44 hl (k := 2) rfl rfl (by decide) rfl (fun ls hl => ?_)
        exact hj15 (a5 + 1) H locs h ls (lv_sub hl [1, 2, 0, 3] rfl) hf
  · have hf := it_t c2 hf
    cases hf
def m_X8_set_n (v : xSt) (p1 : Int32) (p2 : Int32) : Option (Int32 × xSt) := (if (xwi p1 0 4) = 0 then none else (if (xwi p2 (xat 5 (xsv 1) p1) (xat 5 (xsv 2) p1)) = 0 then none else ob (m_X8_save v) (fun r6 => ob (m_X6_settingOf (sh 7 r6) p1) (fun r8 => lt (va_up r6 53 (xpt 5 (r6 53) p1 p2)) (fun v9 => some (r8, v9))))))
set_option maxHeartbeats 4000000 in
set_option maxRecDepth 100000 in
theorem c_X8_set_n (l : Launch) (G : xGl) (sa q : Nat → Nat) (v : xSt) (p1 : Int32) (p2 : Int32) {z : (Int32 × xSt)} (hf : m_X8_set_n v p1 p2 = some z) : mRS l yX8_set (wM yX8_set cX8_set 4 (some .int)) { frames := 6, cells := 0, slots := 0, locals := 168 } G sa (eBC G) 430 q v [.ref (q 0), .int p1, .int p2] (qI z.1) z.2 0 0 := by
  refine xRS (cc := cX8_set) (maxL := 4) (ret := (some .int)) (by decide) rfl (Nat.le_of_ble_eq_true rfl) ?_
  intro p e s m below meth c ls A hC hr hlk h hT hl
  have hx := hC.1
  have hb := hC.2.1
  have hl : lv_has ls 4 [(0, .ref (q 0)), (1, .int p1), (2, .int p2)] := hl
  unfold m_X8_set_n at hf
  obtain ⟨H, hH⟩ : ∃ H, H = s.heap := ⟨_, rfl⟩
  obtain ⟨locs, hlo⟩ : ∃ x : List Loc, x = [] := ⟨_, rfl⟩
  have h : hg G (eBC G) 430 q v A s H locs := by rw [hH, hlo]; exact h
  rw [← hlo, ← hH]
  clear hH hlo
  refine lv_iload_n hx hb dX8_set_0 rfl (lv_at hl 1 rfl) ?_
  refine xzT h (va_runS (As := [.int p1]) (rest := []) hC (k_X8_isSetting l G sa q v p1 H.size) (xcwS hC lk_X8_216 in_X8 co_X8_isSetting st_X8_isSetting rfl rfl dd_X8_isSetting ⟨Nat.le_of_ble_eq_true rfl, Nat.le_of_ble_eq_true rfl⟩) (preST h hT [.int p1]) rfl rfl hl.1 rfl (lv_room (Nat.le_of_ble_eq_true rfl)) dX8_set_1 ⟨Nat.zero_le _, Nat.zero_le _⟩) (fun H locs hz1 h => ?_)
  refine lv_if_ne (tgt := 17) hx hb dX8_set_4 (by decide) (fun c2 => ?_) (fun c2 => ?_)
  · have hf := it_f c2 hf
    refine lv_iload_n hx hb dX8_set_17 rfl (lv_at hl 2 rfl) ?_
    refine xgs hC h hT 1 (by decide) (wM_in fl_X8_221) dX8_set_18 ?_
    refine lv_iload_n hx hb dX8_set_21 rfl (lv_at hl 1 rfl) ?_
    refine xiG h (va_runS (As := [.ref (sa 1), .int p1]) (rest := [.int p2]) hC (k_X8_at_tb l G q (sa 1) (xsv 1) p1 H.size) (xcwS hC lk_X8_224 in_X8 co_X8_at st_X8_at rfl rfl dd_X8_at ⟨Nat.le_of_ble_eq_true rfl, Nat.le_of_ble_eq_true rfl⟩) (preSA h hT 1 (by decide) [.ref (sa 1), .int p1]) rfl rfl hl.1 rfl (lv_room (Nat.le_of_ble_eq_true rfl)) dX8_set_22 ⟨Nat.zero_le _, Nat.zero_le _⟩) (fun H locs h => ?_)
    refine lv_nm (z := (xat 5 (xsv 1) p1)) rfl ?_
    refine xgs hC h hT 2 (by decide) (wM_in fl_X8_228) dX8_set_25 ?_
    refine lv_iload_n hx hb dX8_set_28 rfl (lv_at hl 1 rfl) ?_
    refine xiG h (va_runS (As := [.ref (sa 2), .int p1]) (rest := [.int (xat 5 (xsv 1) p1), .int p2]) hC (k_X8_at_tb l G q (sa 2) (xsv 2) p1 H.size) (xcwS hC lk_X8_224 in_X8 co_X8_at st_X8_at rfl rfl dd_X8_at ⟨Nat.le_of_ble_eq_true rfl, Nat.le_of_ble_eq_true rfl⟩) (preSA h hT 2 (by decide) [.ref (sa 2), .int p1]) rfl rfl hl.1 rfl (lv_room (Nat.le_of_ble_eq_true rfl)) dX8_set_29 ⟨Nat.zero_le _, Nat.zero_le _⟩) (fun H locs h => ?_)
    refine lv_nm (z := (xat 5 (xsv 2) p1)) rfl ?_
    refine xzG h (va_runS (As := [.int p2, .int (xat 5 (xsv 1) p1), .int (xat 5 (xsv 2) p1)]) (rest := []) hC (k_X8_isWithin l G q v p2 (xat 5 (xsv 1) p1) (xat 5 (xsv 2) p1) H.size) (xcwS hC lk_X8_69 in_X8 co_X8_isWithin st_X8_isWithin rfl rfl dd_X8_isWithin ⟨Nat.le_of_ble_eq_true rfl, Nat.le_of_ble_eq_true rfl⟩) (preSN h.o [.int p2, .int (xat 5 (xsv 1) p1), .int (xat 5 (xsv 2) p1)]) rfl rfl hl.1 rfl (lv_room (Nat.le_of_ble_eq_true rfl)) dX8_set_32 ⟨Nat.zero_le _, Nat.zero_le _⟩) (fun H locs hz3 h => ?_)
    refine lv_if_ne (tgt := 48) hx hb dX8_set_35 (by decide) (fun c4 => ?_) (fun c4 => ?_)
    · have hf := it_f c4 hf
      refine lv_aload_n hx hb dX8_set_48 rfl (lv_at hl 0 rfl) ?_
      obtain ⟨r6, hy5, hf⟩ := ob_e hf
      refine xv0 h (va_runV (As := []) (rest := []) hC (c_X8_save l G q v hy5 H.size) (xcwV hC lk_X8_63 in_X8 co_X8_save im_X8_save se_X8_save rfl rfl dd_X8_save ⟨Nat.le_of_ble_eq_true rfl, Nat.le_of_ble_eq_true rfl⟩) (preV0 h (Nat.le_of_ble_eq_true rfl) eBC_0 rfl []) rfl rfl hl.1 rfl (lv_room (Nat.le_of_ble_eq_true rfl)) dX8_set_49 ⟨Nat.zero_le _, Nat.zero_le _⟩) (fun H locs h => ?_)
      refine lv_aload_n hx hb dX8_set_52 rfl (lv_at hl 0 rfl) ?_
      refine xget hC h.o (C := RX8) (T := TX8) (N := 10) (wM_us uw_X8) 0 (Nat.le_of_ble_eq_true rfl) eBC_0 rfl 0 (by decide) (wM_in fl_X8_10) rfl dX8_set_53 ?_
      refine lv_iload_n hx hb dX8_set_56 rfl (lv_at hl 1 rfl) ?_
      obtain ⟨r8, hy7, hf⟩ := ob_e hf
      refine xiG h (va_runV (As := [.int p1]) (rest := []) hC (c_X6_settingOf l G (sh 7 q) (sh 7 r6) p1 hy7 H.size) (xcwV hC lk_X8_112 in_X6 co_X6_settingOf im_X6_settingOf se_X6_settingOf rfl rfl dd_X6_settingOf ⟨Nat.le_of_ble_eq_true rfl, Nat.le_of_ble_eq_true rfl⟩) (preVO h.o 7 47 sBC_7 (Nat.le_of_ble_eq_true rfl) (Nat.le_of_ble_eq_true rfl) eBC_7 rfl [.int p1]) rfl rfl hl.1 rfl (lv_room (Nat.le_of_ble_eq_true rfl)) dX8_set_57 ⟨Nat.zero_le _, Nat.zero_le _⟩) (fun H locs h => ?_)
      refine lv_istore_n (lv' := [(3, .int r8), (0, .ref (q 0)), (1, .int p1), (2, .int p2)]) hx hb dX8_set_60 rfl hl (by decide) rfl (fun ls hl => ?_)
      refine lv_aload_n hx hb dX8_set_61 rfl (lv_at hl 1 rfl) ?_
      refine xget hC h.o (C := RX8) (T := TX8) (N := 10) (wM_us uw_X8) 0 (Nat.le_of_ble_eq_true rfl) eBC_0 rfl 0 (by decide) (wM_in fl_X8_10) rfl dX8_set_62 ?_
      refine xget hC h.o (C := RX6) (T := TX6) (N := 13) (wM_us uw_X6) 7 (Nat.le_of_ble_eq_true rfl) eBC_7 rfl 6 (by decide) (wM_in fl_X8_233) rfl dX8_set_65 ?_
      refine lv_iload_n hx hb dX8_set_68 rfl (lv_at hl 2 rfl) ?_
      refine lv_iload_n hx hb dX8_set_69 rfl (lv_at hl 3 rfl) ?_
      refine xv1 h 53 1 sBC_53 (Nat.le_of_ble_eq_true rfl) (va_runS (As := [.ref (q 53), .int p1, .int p2]) (rest := []) hC (k_X8_put l G (sh 53 q) 5 (by decide) (sh 53 r6) p1 p2 H.size) (xcwS hC lk_X8_236 in_X8 co_X8_put st_X8_put rfl rfl dd_X8_put ⟨Nat.le_of_ble_eq_true rfl, Nat.le_of_ble_eq_true rfl⟩) (preS1 h 53 1 sBC_53 (Nat.le_of_ble_eq_true rfl) [.ref (q 53), .int p1, .int p2]) rfl rfl hl.1 rfl (lv_room (Nat.le_of_ble_eq_true rfl)) dX8_set_70 ⟨Nat.zero_le _, Nat.zero_le _⟩) (fun H locs h => ?_)
      obtain ⟨v9, ev9, hf⟩ := lt_e hf
      rw [pu_one (f := (xpt 5 (r6 53) p1 p2)) rfl, ← ev9] at h
      refine lv_iload_n hx hb dX8_set_73 rfl (lv_at hl 0 rfl) ?_
      have hf := sm_e hf
      exact xiret hC hr hlk h (by rw [← hf]) (by rw [← hf]) dX8_set_74
    · have hf := it_t c4 hf
      cases hf
  · have hf := it_t c2 hf
    cases hf
def m_X8_append_n (v : xSt) (p1 : Int32) : Option (Int32 × xSt) := (if (xwi p1 (33 : Int32) (126 : Int32)) = 0 then none else (if (xwi (v 0 7) (0 : Int32) ((60 : Int32) - (1 : Int32))) = 0 then none else ck (¬ ((v 0 7) < 0 ∨ 60 ≤ (v 0 7).toNatClampNeg)) (ck (0 ≤ (p1.toUInt32 % 65536).toInt32 ∧ (p1.toUInt32 % 65536).toInt32 < 65536) (lt (st2 v 2 (v 0 7).toNatClampNeg ((p1.toUInt32 % 65536).toInt32)) (fun v7 => lt (st2 v7 0 7 ((v7 0 7) + (1 : Int32))) (fun v8 => some ((v8 0 7), v8)))))))
set_option maxHeartbeats 4000000 in
set_option maxRecDepth 100000 in
theorem c_X8_append_n (l : Launch) (G : xGl) (q : Nat → Nat) (v : xSt) (p1 : Int32) {z : (Int32 × xSt)} (hf : m_X8_append_n v p1 = some z) : mRW l yX8_append (wM yX8_append cX8_append 2 (some .int)) { frames := 1, cells := 0, slots := 0, locals := 22 } G (eBC G) 430 q v [.ref (q 0), .int p1] (qI z.1) z.2 := by
  refine xRW (cc := cX8_append) (maxL := 2) (ret := (some .int)) (by decide) rfl (Nat.le_of_ble_eq_true rfl) ?_
  intro p e s m below meth c ls A hC hr hlk h hl
  have hx := hC.1
  have hb := hC.2.1
  have hl : lv_has ls 2 [(0, .ref (q 0)), (1, .int p1)] := hl
  unfold m_X8_append_n at hf
  obtain ⟨H, hH⟩ : ∃ H, H = s.heap := ⟨_, rfl⟩
  obtain ⟨locs, hlo⟩ : ∃ x : List Loc, x = [] := ⟨_, rfl⟩
  have h : hg G (eBC G) 430 q v A s H locs := by rw [hH, hlo]; exact h
  rw [← hlo, ← hH]
  clear hH hlo
  refine lv_iload_n hx hb dX8_append_0 rfl (lv_at hl 1 rfl) ?_
  refine lv_bipush (v := (33 : Int32)) hx hb dX8_append_1 (by decide) ?_
  refine lv_bipush (v := (126 : Int32)) hx hb dX8_append_3 (by decide) ?_
  refine xzG h (va_runS (As := [.int p1, .int (33 : Int32), .int (126 : Int32)]) (rest := []) hC (k_X8_isWithin l G q v p1 (33 : Int32) (126 : Int32) H.size) (xcwS hC lk_X8_69 in_X8 co_X8_isWithin st_X8_isWithin rfl rfl dd_X8_isWithin ⟨Nat.le_of_ble_eq_true rfl, Nat.le_of_ble_eq_true rfl⟩) (preSN h.o [.int p1, .int (33 : Int32), .int (126 : Int32)]) rfl rfl hl.1 rfl (lv_room (Nat.le_of_ble_eq_true rfl)) dX8_append_5 ⟨Nat.zero_le _, Nat.zero_le _⟩) (fun H locs hz1 h => ?_)
  refine lv_if_ne (tgt := 21) hx hb dX8_append_8 (by decide) (fun c2 => ?_) (fun c2 => ?_)
  · have hf := it_f c2 hf
    refine lv_aload_n hx hb dX8_append_21 rfl (lv_at hl 0 rfl) ?_
    refine xget hC h.o (C := RX8) (T := TX8) (N := 10) (wM_us uw_X8) 0 (Nat.le_of_ble_eq_true rfl) eBC_0 rfl 7 (by decide) (wM_in fl_X8_38) rfl dX8_append_22 ?_
    refine lv_iconst (v := (0 : Int32)) hx hb dX8_append_25 (by decide) ?_
    refine lv_aload_n hx hb dX8_append_26 rfl (lv_at hl 0 rfl) ?_
    refine xget hC h.o (C := RX8) (T := TX8) (N := 10) (wM_us uw_X8) 0 (Nat.le_of_ble_eq_true rfl) eBC_0 rfl 6 (by decide) (wM_in fl_X8_34) rfl dX8_append_27 ?_
    refine xalen hC h.o 1 rfl 2 (Nat.le_of_ble_eq_true rfl) eBC_2 (z := (60 : Int32)) rfl dX8_append_30 ?_
    refine lv_iconst (v := (1 : Int32)) hx hb dX8_append_31 (by decide) ?_
    refine lv_isub hx hb dX8_append_32 ?_
    refine xzG h (va_runS (As := [.int (v 0 7), .int (0 : Int32), .int ((60 : Int32) - (1 : Int32))]) (rest := []) hC (k_X8_isWithin l G q v (v 0 7) (0 : Int32) ((60 : Int32) - (1 : Int32)) H.size) (xcwS hC lk_X8_69 in_X8 co_X8_isWithin st_X8_isWithin rfl rfl dd_X8_isWithin ⟨Nat.le_of_ble_eq_true rfl, Nat.le_of_ble_eq_true rfl⟩) (preSN h.o [.int (v 0 7), .int (0 : Int32), .int ((60 : Int32) - (1 : Int32))]) rfl rfl hl.1 rfl (lv_room (Nat.le_of_ble_eq_true rfl)) dX8_append_33 ⟨Nat.zero_le _, Nat.zero_le _⟩) (fun H locs hz3 h => ?_)
    refine lv_if_ne (tgt := 49) hx hb dX8_append_36 (by decide) (fun c4 => ?_) (fun c4 => ?_)
    · have hf := it_f c4 hf
      refine lv_aload_n hx hb dX8_append_49 rfl (lv_at hl 0 rfl) ?_
      refine xget hC h.o (C := RX8) (T := TX8) (N := 10) (wM_us uw_X8) 0 (Nat.le_of_ble_eq_true rfl) eBC_0 rfl 6 (by decide) (wM_in fl_X8_34) rfl dX8_append_50 ?_
      refine lv_aload_n hx hb dX8_append_53 rfl (lv_at hl 0 rfl) ?_
      refine xget hC h.o (C := RX8) (T := TX8) (N := 10) (wM_us uw_X8) 0 (Nat.le_of_ble_eq_true rfl) eBC_0 rfl 7 (by decide) (wM_in fl_X8_38) rfl dX8_append_54 ?_
      refine lv_iload_n hx hb dX8_append_57 rfl (lv_at hl 1 rfl) ?_
      refine lv_i2c (v := (p1.toUInt32 % 65536).toInt32) hx hb dX8_append_58 rfl ?_
      obtain ⟨hi5, hf⟩ := ck_e hf
      obtain ⟨hz6, hf⟩ := ck_e hf
      refine xcast hC h 2 (Nat.le_of_ble_eq_true rfl) (fun _ => eBC_2) hi5 (xchr hz6).2.2 dX8_append_59 (fun H locs h => ?_)
      obtain ⟨v7, ev7, hf⟩ := lt_e hf
      rw [← ev7] at h
      refine lv_aload_n hx hb dX8_append_60 rfl (lv_at hl 0 rfl) ?_
      refine lv_dup hx hb dX8_append_61 rfl ?_
      refine xget hC h.o (C := RX8) (T := TX8) (N := 10) (wM_us uw_X8) 0 (Nat.le_of_ble_eq_true rfl) eBC_0 rfl 7 (by decide) (wM_in fl_X8_38) rfl dX8_append_62 ?_
      refine lv_iconst (v := (1 : Int32)) hx hb dX8_append_65 (by decide) ?_
      refine lv_iadd hx hb dX8_append_66 ?_
      refine xput hC h (C := RX8) (T := TX8) (N := 10) (wM_us uw_X8) tyX8_ok nmX8 0 (Nat.le_of_ble_eq_true rfl) eBC_0 rfl 7 (by decide) (wM_in fl_X8_38) rfl (ty := .int) (tyX8_ok 7 (by decide)) rfl rfl (Nat.le_of_ble_eq_true rfl) (eBC_0.trans rfl) dX8_append_67 (fun H locs h => ?_)
      obtain ⟨v8, ev8, hf⟩ := lt_e hf
      rw [← ev8] at h
      refine lv_aload_n hx hb dX8_append_70 rfl (lv_at hl 0 rfl) ?_
      refine xget hC h.o (C := RX8) (T := TX8) (N := 10) (wM_us uw_X8) 0 (Nat.le_of_ble_eq_true rfl) eBC_0 rfl 7 (by decide) (wM_in fl_X8_38) rfl dX8_append_71 ?_
      have hf := sm_e hf
      exact xiret hC hr hlk h (by rw [← hf]) (by rw [← hf]) dX8_append_74
    · have hf := it_t c4 hf
      cases hf
  · have hf := it_t c2 hf
    cases hf
def m_X8_obey_n (v : xSt) : Option (Int32 × xSt) := ob (m_X8_firstError v) (fun r2 => lt (r2.2) (fun v3 => (if r2.1 < (v3 0 7) then none else ob (m_X5_isComplete (sh 3 v3)) (fun r6 => (if r6 = 0 then none else ob (m_X8_save v3) (fun r10 => ob (m_X5_start (sh 3 r10)) (fun r12 => lt (pu 3 3 r10 r12) (fun v13 => lp (fun (rec18 : Int32 × Int32 × Int32 × xSt → Option (Int32 × xSt)) => un4 (fun (a14 : Int32) (a15 : Int32) (a16 : Int32) (v17 : xSt) => lt (fun (_ : Unit) => lt (st2 v17 0 7 (0 : Int32)) (fun v20 => some (a14, v20))) (fun j19 => (if (v17 0 7) < a16 then j19 () else (if a15 = 0 then j19 () else lt (fun (t23 : Int32) => lt (fun (a25 : Int32) (a26 : Int32) (v27 : xSt) => ob (m_X5_goesOnWith (sh 3 v27) t23) (fun r30 => lt (pu 3 3 v27 r30.2) (fun v32 => rec18 (a25, a26, (a16 + 1), v32)))) (fun j28 => (if t23 = (59 : Int32) then ob (m_X8_doPart v17) (fun r35 => lt (r35.2) (fun v37 => lt (fun (t38 : Int32) (t39 : Int32) => j28 (t38 + t39) r35.1 v37) (fun j40 => (if r35.1 = 0 then j40 a14 (0 : Int32) else j40 a14 (1 : Int32))))) else j28 a14 a15 v17))) (fun j24 => lt (fun (_ : Unit) => j24 (59 : Int32)) (fun j42 => (if (v17 0 7) ≤ a16 then j42 () else (if (60 : Int32) ≤ a16 then j42 () else ck (¬ (a16 < 0 ∨ 60 ≤ a16.toNatClampNeg)) (j24 (v17 2 a16.toNatClampNeg))))))))))) xF ((0 : Int32), (1 : Int32), (0 : Int32), v13)))))))))
set_option maxHeartbeats 4000000 in
set_option maxRecDepth 100000 in
theorem c_X8_obey_n (l : Launch) (G : xGl) (q : Nat → Nat) (v : xSt) {z : (Int32 × xSt)} (hf : m_X8_obey_n v = some z) : mRW l yX8_obey (wM yX8_obey cX8_obey 5 (some .int)) { frames := 7, cells := 0, slots := 0, locals := 187 } G (eBC G) 430 q v [.ref (q 0)] (qI z.1) z.2 := by
  refine xRW (cc := cX8_obey) (maxL := 5) (ret := (some .int)) (by decide) rfl (Nat.le_of_ble_eq_true rfl) ?_
  intro p e s m below meth c ls A hC hr hlk h hl
  have hx := hC.1
  have hb := hC.2.1
  have hl : lv_has ls 5 [(0, .ref (q 0))] := hl
  unfold m_X8_obey_n at hf
  obtain ⟨H, hH⟩ : ∃ H, H = s.heap := ⟨_, rfl⟩
  obtain ⟨locs, hlo⟩ : ∃ x : List Loc, x = [] := ⟨_, rfl⟩
  have h : hg G (eBC G) 430 q v A s H locs := by rw [hH, hlo]; exact h
  rw [← hlo, ← hH]
  clear hH hlo
  refine lv_aload_n hx hb dX8_obey_0 rfl (lv_at hl 0 rfl) ?_
  obtain ⟨r2, hy1, hf⟩ := ob_e hf
  refine xi0 h (va_runV (As := []) (rest := []) hC (c_X8_firstError l G q v hy1 H.size) (xcwV hC lk_X8_250 in_X8 co_X8_firstError im_X8_firstError se_X8_firstError rfl rfl dd_X8_firstError ⟨Nat.le_of_ble_eq_true rfl, Nat.le_of_ble_eq_true rfl⟩) (preV0 h (Nat.le_of_ble_eq_true rfl) eBC_0 rfl []) rfl rfl hl.1 rfl (lv_room (Nat.le_of_ble_eq_true rfl)) dX8_obey_1 ⟨Nat.zero_le _, Nat.zero_le _⟩) (fun H locs h => ?_)
  obtain ⟨v3, ev3, hf⟩ := lt_e hf
  rw [← ev3] at h
  refine lv_aload_n hx hb dX8_obey_4 rfl (lv_at hl 0 rfl) ?_
  refine xget hC h.o (C := RX8) (T := TX8) (N := 10) (wM_us uw_X8) 0 (Nat.le_of_ble_eq_true rfl) eBC_0 rfl 7 (by decide) (wM_in fl_X8_38) rfl dX8_obey_5 ?_
  refine lv_icmp_lt (tgt := 21) hx hb dX8_obey_8 (by decide) (fun c4 => ?_) (fun c4 => ?_)
  · have hf := it_t c4 hf
    cases hf
  · have hf := it_f c4 hf
    refine lv_aload_n hx hb dX8_obey_11 rfl (lv_at hl 0 rfl) ?_
    refine xget hC h.o (C := RX8) (T := TX8) (N := 10) (wM_us uw_X8) 0 (Nat.le_of_ble_eq_true rfl) eBC_0 rfl 8 (by decide) (wM_in fl_X8_44) rfl dX8_obey_12 ?_
    obtain ⟨r6, hy5, hf⟩ := ob_e hf
    refine xzG h (va_runV (As := []) (rest := []) hC (c_X5_isComplete l G (sh 3 q) (sh 3 v3) hy5 H.size) (xcwV hC lk_X8_253 in_X5 co_X5_isComplete im_X5_isComplete se_X5_isComplete rfl rfl dd_X5_isComplete ⟨Nat.le_of_ble_eq_true rfl, Nat.le_of_ble_eq_true rfl⟩) (preVO h.o 3 3 sBC_3 (Nat.le_of_ble_eq_true rfl) (Nat.le_of_ble_eq_true rfl) eBC_3 rfl []) rfl rfl hl.1 rfl (lv_room (Nat.le_of_ble_eq_true rfl)) dX8_obey_15 ⟨Nat.zero_le _, Nat.zero_le _⟩) (fun H locs hz7 h => ?_)
    refine lv_if_ne (tgt := 32) hx hb dX8_obey_18 (by decide) (fun c8 => ?_) (fun c8 => ?_)
    · have hf := it_f c8 hf
      refine lv_aload_n hx hb dX8_obey_32 rfl (lv_at hl 0 rfl) ?_
      obtain ⟨r10, hy9, hf⟩ := ob_e hf
      refine xv0 h (va_runV (As := []) (rest := []) hC (c_X8_save l G q v3 hy9 H.size) (xcwV hC lk_X8_63 in_X8 co_X8_save im_X8_save se_X8_save rfl rfl dd_X8_save ⟨Nat.le_of_ble_eq_true rfl, Nat.le_of_ble_eq_true rfl⟩) (preV0 h (Nat.le_of_ble_eq_true rfl) eBC_0 rfl []) rfl rfl hl.1 rfl (lv_room (Nat.le_of_ble_eq_true rfl)) dX8_obey_33 ⟨Nat.zero_le _, Nat.zero_le _⟩) (fun H locs h => ?_)
      refine lv_iconst (v := (0 : Int32)) hx hb dX8_obey_36 (by decide) ?_
      refine lv_istore_n (lv' := [(1, .int (0 : Int32)), (0, .ref (q 0))]) hx hb dX8_obey_37 rfl hl (by decide) rfl (fun ls hl => ?_)
      refine lv_iconst (v := (1 : Int32)) hx hb dX8_obey_38 (by decide) ?_
      refine lv_istore_n (lv' := [(2, .int (1 : Int32)), (1, .int (0 : Int32)), (0, .ref (q 0))]) hx hb dX8_obey_39 rfl hl (by decide) rfl (fun ls hl => ?_)
      refine lv_aload_n hx hb dX8_obey_40 rfl (lv_at hl 2 rfl) ?_
      refine xget hC h.o (C := RX8) (T := TX8) (N := 10) (wM_us uw_X8) 0 (Nat.le_of_ble_eq_true rfl) eBC_0 rfl 8 (by decide) (wM_in fl_X8_44) rfl dX8_obey_41 ?_
      obtain ⟨r12, hy11, hf⟩ := ob_e hf
      refine xv1 h 3 3 sBC_3 (Nat.le_of_ble_eq_true rfl) (va_runV (As := []) (rest := []) hC (c_X5_start l G (sh 3 q) (sh 3 r10) hy11 H.size) (xcwV hC lk_X8_244 in_X5 co_X5_start im_X5_start se_X5_start rfl rfl dd_X5_start ⟨Nat.le_of_ble_eq_true rfl, Nat.le_of_ble_eq_true rfl⟩) (preV1 h 3 3 sBC_3 (Nat.le_of_ble_eq_true rfl) (Nat.le_of_ble_eq_true rfl) eBC_3 rfl []) rfl rfl hl.1 rfl (lv_room (Nat.le_of_ble_eq_true rfl)) dX8_obey_44 ⟨Nat.zero_le _, Nat.zero_le _⟩) (fun H locs h => ?_)
      obtain ⟨v13, ev13, hf⟩ := lt_e hf
      rw [← ev13] at h
      refine lv_iconst (v := (0 : Int32)) hx hb dX8_obey_47 (by decide) ?_
      refine lv_istore_n (lv' := [(3, .int (0 : Int32)), (2, .int (1 : Int32)), (1, .int (0 : Int32)), (0, .ref (q 0))]) hx hb dX8_obey_48 rfl hl (by decide) rfl (fun ls hl => ?_)
      refine lp_i (z := z) (P := fun (pp : Int32 × Int32 × Int32 × xSt) => ∀ (H : Heap) (locs : List Loc), hg G (eBC G) 430 q pp.2.2.2 A s H locs → ∀ (ls : Array Slot), lv_has ls 5 [(0, .ref (q 0)), (1, .int pp.1), (2, .int pp.2.1), (3, .int pp.2.2.1)] → W p l e { frames := 7, cells := 0, slots := 0, locals := 187 } s m [.ref (q 0)].toArray below meth c H locs 0 0 (MQ below ((qI z.1) (cB G (eBC G) 430 q z.2 A) A) [.ref (q 0)].toArray s 0 0 A) (F0 m 49 ls [])) ?_ _ _ hf H locs h ls (lv_sub hl [3, 2, 1, 0] rfl)
      intro rec18 hrec18 pp hf H locs h ls hl
      obtain ⟨a14, a15, a16, v17⟩ := pp
      have h : hg G (eBC G) 430 q v17 A s H locs := h
      have hl : lv_has ls 5 [(0, .ref (q 0)), (1, .int a14), (2, .int a15), (3, .int a16)] := hl
      have hf := un4_e hf
      refine lv_iload_n hx hb dX8_obey_49 rfl (lv_at hl 3 rfl) ?_
      refine lv_aload_n hx hb dX8_obey_50 rfl (lv_at hl 0 rfl) ?_
      refine xget hC h.o (C := RX8) (T := TX8) (N := 10) (wM_us uw_X8) 0 (Nat.le_of_ble_eq_true rfl) eBC_0 rfl 7 (by decide) (wM_in fl_X8_38) rfl dX8_obey_51 ?_
      obtain ⟨j19, ej19, hf⟩ := lt_e hf
      have hj19 : ∀ (uu : Unit) (H : Heap) (locs : List Loc), hg G (eBC G) 430 q v17 A s H locs → ∀ (ls : Array Slot), lv_has ls 5 [(0, .ref (q 0)), (1, .int a14)] → j19 uu = some z → W p l e { frames := 7, cells := 0, slots := 0, locals := 187 } s m [.ref (q 0)].toArray below meth c H locs 0 0 (MQ below ((qI z.1) (cB G (eBC G) 430 q z.2 A) A) [.ref (q 0)].toArray s 0 0 A) (F0 m 131 ls []) := by
        intro uu H locs h ls hl hf
        rw [ej19] at hf
        refine lv_aload_n hx hb dX8_obey_131 rfl (lv_at hl 0 rfl) ?_
        refine lv_iconst (v := (0 : Int32)) hx hb dX8_obey_132 (by decide) ?_
        refine xput hC h (C := RX8) (T := TX8) (N := 10) (wM_us uw_X8) tyX8_ok nmX8 0 (Nat.le_of_ble_eq_true rfl) eBC_0 rfl 7 (by decide) (wM_in fl_X8_38) rfl (ty := .int) (tyX8_ok 7 (by decide)) rfl rfl (Nat.le_of_ble_eq_true rfl) (eBC_0.trans rfl) dX8_obey_133 (fun H locs h => ?_)
        obtain ⟨v20, ev20, hf⟩ := lt_e hf
        rw [← ev20] at h
        refine lv_iload_n hx hb dX8_obey_136 rfl (lv_at hl 1 rfl) ?_
        have hf := sm_e hf
        exact xiret hC hr hlk h (by rw [← hf]) (by rw [← hf]) dX8_obey_137
      refine lv_icmp_gt (tgt := 131) hx hb dX8_obey_54 (by decide) (fun c21 => ?_) (fun c21 => ?_)
      · have hf := it_t c21 hf
        exact hj19 () H locs h ls (lv_sub hl [0, 1] rfl) hf
      · have hf := it_f c21 hf
        refine lv_iload_n hx hb dX8_obey_57 rfl (lv_at hl 2 rfl) ?_
        refine lv_if_eq (tgt := 131) hx hb dX8_obey_58 (by decide) (fun c22 => ?_) (fun c22 => ?_)
        · have hf := it_t c22 hf
          exact hj19 () H locs h ls (lv_sub hl [0, 1] rfl) hf
        · have hf := it_f c22 hf
          refine lv_iload_n hx hb dX8_obey_61 rfl (lv_at hl 3 rfl) ?_
          refine lv_aload_n hx hb dX8_obey_62 rfl (lv_at hl 0 rfl) ?_
          refine xget hC h.o (C := RX8) (T := TX8) (N := 10) (wM_us uw_X8) 0 (Nat.le_of_ble_eq_true rfl) eBC_0 rfl 7 (by decide) (wM_in fl_X8_38) rfl dX8_obey_63 ?_
          obtain ⟨j24, ej24, hf⟩ := lt_e hf
          have hj24 : ∀ (t23 : Int32) (H : Heap) (locs : List Loc), hg G (eBC G) 430 q v17 A s H locs → ∀ (ls : Array Slot), lv_has ls 5 [(0, .ref (q 0)), (1, .int a14), (2, .int a15), (3, .int a16)] → j24 t23 = some z → W p l e { frames := 7, cells := 0, slots := 0, locals := 187 } s m [.ref (q 0)].toArray below meth c H locs 0 0 (MQ below ((qI z.1) (cB G (eBC G) 430 q z.2 A) A) [.ref (q 0)].toArray s 0 0 A) (F0 m 89 ls [.int t23]) := by
            intro t23 H locs h ls hl hf
            rw [ej24] at hf
            refine lv_istore (lv' := [(4, .int t23), (0, .ref (q 0)), (1, .int a14), (2, .int a15), (3, .int a16)]) hx hb dX8_obey_89 hl (by decide) rfl (fun ls hl => ?_)
            refine lv_iload hx hb dX8_obey_91 (lv_at hl 0 rfl) ?_
            refine lv_bipush (v := (59 : Int32)) hx hb dX8_obey_93 (by decide) ?_
            obtain ⟨j28, ej28, hf⟩ := lt_e hf
            have hj28 : ∀ (a25 : Int32) (a26 : Int32) (v27 : xSt) (H : Heap) (locs : List Loc), hg G (eBC G) 430 q v27 A s H locs → ∀ (ls : Array Slot), lv_has ls 5 [(0, .ref (q 0)), (1, .int a25), (2, .int a26), (3, .int a16), (4, .int t23)] → j28 a25 a26 v27 = some z → W p l e { frames := 7, cells := 0, slots := 0, locals := 187 } s m [.ref (q 0)].toArray below meth c H locs 0 0 (MQ below ((qI z.1) (cB G (eBC G) 430 q z.2 A) A) [.ref (q 0)].toArray s 0 0 A) (F0 m 115 ls []) := by
              intro a25 a26 v27 H locs h ls hl hf
              rw [ej28] at hf
              refine lv_aload_n hx hb dX8_obey_115 rfl (lv_at hl 0 rfl) ?_
              refine xget hC h.o (C := RX8) (T := TX8) (N := 10) (wM_us uw_X8) 0 (Nat.le_of_ble_eq_true rfl) eBC_0 rfl 8 (by decide) (wM_in fl_X8_44) rfl dX8_obey_116 ?_
              refine lv_iload hx hb dX8_obey_119 (lv_at hl 4 rfl) ?_
              obtain ⟨r30, hy29, hf⟩ := ob_e hf
              refine xz1 h 3 3 sBC_3 (Nat.le_of_ble_eq_true rfl) (va_runV (As := [.int t23]) (rest := []) hC (c_X5_goesOnWith l G (sh 3 q) (sh 3 v27) t23 hy29 H.size) (xcwV hC lk_X8_246 in_X5 co_X5_goesOnWith im_X5_goesOnWith se_X5_goesOnWith rfl rfl dd_X5_goesOnWith ⟨Nat.le_of_ble_eq_true rfl, Nat.le_of_ble_eq_true rfl⟩) (preV1 h 3 3 sBC_3 (Nat.le_of_ble_eq_true rfl) (Nat.le_of_ble_eq_true rfl) eBC_3 rfl [.int t23]) rfl rfl hl.1 rfl (lv_room (Nat.le_of_ble_eq_true rfl)) dX8_obey_121 ⟨Nat.zero_le _, Nat.zero_le _⟩) (fun H locs hz31 h => ?_)
              obtain ⟨v32, ev32, hf⟩ := lt_e hf
              rw [← ev32] at h
              refine lv_pop hx hb dX8_obey_124 rfl ?_
              refine lv_iinc (v := (a16 + 1)) (lv' := [(3, .int (a16 + 1)), (0, .ref (q 0)), (1, .int a25), (2, .int a26), (4, .int t23)]) hx hb dX8_obey_125 hl (k := 3) rfl rfl (by decide) rfl (fun ls hl => ?_)
              refine lv_goto (tgt := 49) hx hb dX8_obey_128 (by decide) ?_
              exact hrec18 (a25, a26, (a16 + 1), v32) hf H locs h ls (lv_sub hl [1, 2, 3, 0] rfl)
            refine lv_icmp_ne (tgt := 115) hx hb dX8_obey_95 (by decide) (fun c33 => ?_) (fun c33 => ?_)
            · have hf := it_f c33 hf
              exact hj28 a14 a15 v17 H locs h ls (lv_sub hl [1, 2, 3, 4, 0] rfl) hf
            · have hf := it_t c33 hf
              refine lv_aload_n hx hb dX8_obey_98 rfl (lv_at hl 1 rfl) ?_
              obtain ⟨r35, hy34, hf⟩ := ob_e hf
              refine xz0 h (va_runV (As := []) (rest := []) hC (c_X8_doPart l G q v17 hy34 H.size) (xcwV hC lk_X8_258 in_X8 co_X8_doPart im_X8_doPart se_X8_doPart rfl rfl dd_X8_doPart ⟨Nat.le_of_ble_eq_true rfl, Nat.le_of_ble_eq_true rfl⟩) (preV0 h (Nat.le_of_ble_eq_true rfl) eBC_0 rfl []) rfl rfl hl.1 rfl (lv_room (Nat.le_of_ble_eq_true rfl)) dX8_obey_99 ⟨Nat.zero_le _, Nat.zero_le _⟩) (fun H locs hz36 h => ?_)
              obtain ⟨v37, ev37, hf⟩ := lt_e hf
              rw [← ev37] at h
              refine lv_istore_n (lv' := [(2, .int r35.1), (4, .int t23), (0, .ref (q 0)), (1, .int a14), (3, .int a16)]) hx hb dX8_obey_102 rfl hl (by decide) rfl (fun ls hl => ?_)
              refine lv_iload_n hx hb dX8_obey_103 rfl (lv_at hl 3 rfl) ?_
              refine lv_iload_n hx hb dX8_obey_104 rfl (lv_at hl 0 rfl) ?_
              obtain ⟨j40, ej40, hf⟩ := lt_e hf
              have hj40 : ∀ (t38 : Int32) (t39 : Int32) (H : Heap) (locs : List Loc), hg G (eBC G) 430 q v37 A s H locs → ∀ (ls : Array Slot), lv_has ls 5 [(0, .ref (q 0)), (2, .int r35.1), (3, .int a16), (4, .int t23)] → j40 t38 t39 = some z → W p l e { frames := 7, cells := 0, slots := 0, locals := 187 } s m [.ref (q 0)].toArray below meth c H locs 0 0 (MQ below ((qI z.1) (cB G (eBC G) 430 q z.2 A) A) [.ref (q 0)].toArray s 0 0 A) (F0 m 113 ls [.int t39, .int t38]) := by
                intro t38 t39 H locs h ls hl hf
                rw [ej40] at hf
                refine lv_iadd hx hb dX8_obey_113 ?_
                refine lv_istore_n (lv' := [(1, .int (t38 + t39)), (0, .ref (q 0)), (2, .int r35.1), (3, .int a16), (4, .int t23)]) hx hb dX8_obey_114 rfl hl (by decide) rfl (fun ls hl => ?_)
                exact hj28 (t38 + t39) r35.1 v37 H locs h ls (lv_sub hl [1, 0, 2, 3, 4] rfl) hf
              refine lv_if_eq (tgt := 112) hx hb dX8_obey_105 (by decide) (fun c41 => ?_) (fun c41 => ?_)
              · have hf := it_t c41 hf
                refine lv_iconst (v := (0 : Int32)) hx hb dX8_obey_112 (by decide) ?_
                exact hj40 a14 (0 : Int32) H locs h ls (lv_sub hl [2, 0, 4, 1] rfl) hf
              · have hf := it_f c41 hf
                refine lv_iconst (v := (1 : Int32)) hx hb dX8_obey_108 (by decide) ?_
                refine lv_goto (tgt := 113) hx hb dX8_obey_109 (by decide) ?_
                exact hj40 a14 (1 : Int32) H locs h ls (lv_sub hl [2, 0, 4, 1] rfl) hf
          obtain ⟨j42, ej42, hf⟩ := lt_e hf
          have hj42 : ∀ (uu : Unit) (H : Heap) (locs : List Loc), hg G (eBC G) 430 q v17 A s H locs → ∀ (ls : Array Slot), lv_has ls 5 [(0, .ref (q 0)), (1, .int a14), (2, .int a15), (3, .int a16)] → j42 uu = some z → W p l e { frames := 7, cells := 0, slots := 0, locals := 187 } s m [.ref (q 0)].toArray below meth c H locs 0 0 (MQ below ((qI z.1) (cB G (eBC G) 430 q z.2 A) A) [.ref (q 0)].toArray s 0 0 A) (F0 m 87 ls []) := by
            intro uu H locs h ls hl hf
            rw [ej42] at hf
            refine lv_bipush (v := (59 : Int32)) hx hb dX8_obey_87 (by decide) ?_
            exact hj24 (59 : Int32) H locs h ls (lv_sub hl [0, 1, 2, 3] rfl) hf
          refine lv_icmp_ge (tgt := 87) hx hb dX8_obey_66 (by decide) (fun c43 => ?_) (fun c43 => ?_)
          · have hf := it_t c43 hf
            exact hj42 () H locs h ls (lv_sub hl [0, 1, 2, 3] rfl) hf
          · have hf := it_f c43 hf
            refine lv_iload_n hx hb dX8_obey_69 rfl (lv_at hl 3 rfl) ?_
            refine lv_aload_n hx hb dX8_obey_70 rfl (lv_at hl 0 rfl) ?_
            refine xget hC h.o (C := RX8) (T := TX8) (N := 10) (wM_us uw_X8) 0 (Nat.le_of_ble_eq_true rfl) eBC_0 rfl 6 (by decide) (wM_in fl_X8_34) rfl dX8_obey_71 ?_
            refine xalen hC h.o 1 rfl 2 (Nat.le_of_ble_eq_true rfl) eBC_2 (z := (60 : Int32)) rfl dX8_obey_74 ?_
            refine lv_icmp_ge (tgt := 87) hx hb dX8_obey_75 (by decide) (fun c44 => ?_) (fun c44 => ?_)
            · have hf := it_t c44 hf
              exact hj42 () H locs h ls (lv_sub hl [0, 1, 2, 3] rfl) hf
            · have hf := it_f c44 hf
              refine lv_aload_n hx hb dX8_obey_78 rfl (lv_at hl 0 rfl) ?_
              refine xget hC h.o (C := RX8) (T := TX8) (N := 10) (wM_us uw_X8) 0 (Nat.le_of_ble_eq_true rfl) eBC_0 rfl 6 (by decide) (wM_in fl_X8_34) rfl dX8_obey_79 ?_
              refine lv_iload_n hx hb dX8_obey_82 rfl (lv_at hl 3 rfl) ?_
              obtain ⟨hi45, hf⟩ := ck_e hf
              refine xcald hC h.o 2 (Nat.le_of_ble_eq_true rfl) eBC_2 hi45 dX8_obey_83 ?_
              refine lv_goto (tgt := 89) hx hb dX8_obey_84 (by decide) ?_
              exact hj24 (v17 2 a16.toNatClampNeg) H locs h ls (lv_sub hl [0, 1, 2, 3] rfl) hf
    · have hf := it_t c8 hf
      cases hf
def m_X8_goBack_n (v : xSt) : Option (Int32 × xSt) := (if (v 0 3) = 0 then none else ob (m_X8_save v) (fun r3 => ob (m_X6_become (ct 47 (sh 7 r3) (sh 101 r3))) (fun r5 => lt (pu 101 47 (pu 7 47 r3 r5) (sh 47 r5)) (fun v6 => some ((v6 7 8), v6)))))
set_option maxHeartbeats 4000000 in
set_option maxRecDepth 100000 in
theorem c_X8_goBack_n (l : Launch) (G : xGl) (q : Nat → Nat) (v : xSt) {z : (Int32 × xSt)} (hf : m_X8_goBack_n v = some z) : mRW l yX8_goBack (wM yX8_goBack cX8_goBack 1 (some .int)) { frames := 6, cells := 0, slots := 0, locals := 168 } G (eBC G) 430 q v [.ref (q 0)] (qI z.1) z.2 := by
  refine xRW (cc := cX8_goBack) (maxL := 1) (ret := (some .int)) (by decide) rfl (Nat.le_of_ble_eq_true rfl) ?_
  intro p e s m below meth c ls A hC hr hlk h hl
  have hx := hC.1
  have hb := hC.2.1
  have hl : lv_has ls 1 [(0, .ref (q 0))] := hl
  unfold m_X8_goBack_n at hf
  obtain ⟨H, hH⟩ : ∃ H, H = s.heap := ⟨_, rfl⟩
  obtain ⟨locs, hlo⟩ : ∃ x : List Loc, x = [] := ⟨_, rfl⟩
  have h : hg G (eBC G) 430 q v A s H locs := by rw [hH, hlo]; exact h
  rw [← hlo, ← hH]
  clear hH hlo
  refine lv_aload_n hx hb dX8_goBack_0 rfl (lv_at hl 0 rfl) ?_
  refine xget hC h.o (C := RX8) (T := TX8) (N := 10) (wM_us uw_X8) 0 (Nat.le_of_ble_eq_true rfl) eBC_0 rfl 3 (by decide) (wM_in fl_X8_22) rfl dX8_goBack_1 ?_
  refine lv_if_ne (tgt := 18) hx hb dX8_goBack_4 (by decide) (fun c1 => ?_) (fun c1 => ?_)
  · have hf := it_f c1 hf
    refine lv_aload_n hx hb dX8_goBack_18 rfl (lv_at hl 0 rfl) ?_
    obtain ⟨r3, hy2, hf⟩ := ob_e hf
    refine xv0 h (va_runV (As := []) (rest := []) hC (c_X8_save l G q v hy2 H.size) (xcwV hC lk_X8_63 in_X8 co_X8_save im_X8_save se_X8_save rfl rfl dd_X8_save ⟨Nat.le_of_ble_eq_true rfl, Nat.le_of_ble_eq_true rfl⟩) (preV0 h (Nat.le_of_ble_eq_true rfl) eBC_0 rfl []) rfl rfl hl.1 rfl (lv_room (Nat.le_of_ble_eq_true rfl)) dX8_goBack_19 ⟨Nat.zero_le _, Nat.zero_le _⟩) (fun H locs h => ?_)
    refine lv_aload_n hx hb dX8_goBack_22 rfl (lv_at hl 0 rfl) ?_
    refine xget hC h.o (C := RX8) (T := TX8) (N := 10) (wM_us uw_X8) 0 (Nat.le_of_ble_eq_true rfl) eBC_0 rfl 0 (by decide) (wM_in fl_X8_10) rfl dX8_goBack_23 ?_
    refine lv_aload_n hx hb dX8_goBack_26 rfl (lv_at hl 0 rfl) ?_
    refine xget hC h.o (C := RX8) (T := TX8) (N := 10) (wM_us uw_X8) 0 (Nat.le_of_ble_eq_true rfl) eBC_0 rfl 2 (by decide) (wM_in fl_X8_19) rfl dX8_goBack_27 ?_
    obtain ⟨r5, hy4, hf⟩ := ob_e hf
    refine xv2 h 7 47 101 47 (x2E1 sBC_7 locState) (x2E2 sBC_101) (Nat.le_of_ble_eq_true rfl) (Nat.le_of_ble_eq_true rfl) (by omega) (va_runV (As := [.ref (q 101)]) (rest := []) hC (c_X6_become l G (ct 47 (sh 7 q) (sh 101 q)) (ct 47 (sh 7 r3) (sh 101 r3)) hy4 H.size) (xcwV hC lk_X8_261 in_X6 co_X6_become im_X6_become se_X6_become rfl rfl dd_X6_become ⟨Nat.le_of_ble_eq_true rfl, Nat.le_of_ble_eq_true rfl⟩) (preV2 h 7 47 101 47 (x2E1 sBC_7 locState) (x2E2 sBC_101) (Nat.le_of_ble_eq_true rfl) (Nat.le_of_ble_eq_true rfl) (by omega) (Nat.le_of_ble_eq_true rfl) eBC_7 rfl [.ref (q 101)]) rfl rfl hl.1 rfl (lv_room (Nat.le_of_ble_eq_true rfl)) dX8_goBack_30 ⟨Nat.zero_le _, Nat.zero_le _⟩) (fun H locs h => ?_)
    obtain ⟨v6, ev6, hf⟩ := lt_e hf
    rw [← ev6] at h
    refine lv_aload_n hx hb dX8_goBack_33 rfl (lv_at hl 0 rfl) ?_
    refine xget hC h.o (C := RX8) (T := TX8) (N := 10) (wM_us uw_X8) 0 (Nat.le_of_ble_eq_true rfl) eBC_0 rfl 0 (by decide) (wM_in fl_X8_10) rfl dX8_goBack_34 ?_
    refine xget hC h.o (C := RX6) (T := TX6) (N := 13) (wM_us uw_X6) 7 (Nat.le_of_ble_eq_true rfl) eBC_7 rfl 8 (by decide) (wM_in fl_X8_191) rfl dX8_goBack_37 ?_
    have hf := sm_e hf
    exact xiret hC hr hlk h (by rw [← hf]) (by rw [← hf]) dX8_goBack_40
  · have hf := it_t c1 hf
    cases hf
def m_X8_undo_n (v : xSt) : Option (Int32 × xSt) := (if 0 < (v 0 5) then lt (st2 v 0 5 ((v 0 5) - (1 : Int32))) (fun v2 => ob (m_X8_restore v2 (v2 0 5)) (fun r4 => some ((r4 0 5), r4))) else none)
set_option maxHeartbeats 4000000 in
set_option maxRecDepth 100000 in
theorem c_X8_undo_n (l : Launch) (G : xGl) (q : Nat → Nat) (v : xSt) {z : (Int32 × xSt)} (hf : m_X8_undo_n v = some z) : mRW l yX8_undo (wM yX8_undo cX8_undo 1 (some .int)) { frames := 6, cells := 0, slots := 0, locals := 169 } G (eBC G) 430 q v [.ref (q 0)] (qI z.1) z.2 := by
  refine xRW (cc := cX8_undo) (maxL := 1) (ret := (some .int)) (by decide) rfl (Nat.le_of_ble_eq_true rfl) ?_
  intro p e s m below meth c ls A hC hr hlk h hl
  have hx := hC.1
  have hb := hC.2.1
  have hl : lv_has ls 1 [(0, .ref (q 0))] := hl
  unfold m_X8_undo_n at hf
  obtain ⟨H, hH⟩ : ∃ H, H = s.heap := ⟨_, rfl⟩
  obtain ⟨locs, hlo⟩ : ∃ x : List Loc, x = [] := ⟨_, rfl⟩
  have h : hg G (eBC G) 430 q v A s H locs := by rw [hH, hlo]; exact h
  rw [← hlo, ← hH]
  clear hH hlo
  refine lv_aload_n hx hb dX8_undo_0 rfl (lv_at hl 0 rfl) ?_
  refine xget hC h.o (C := RX8) (T := TX8) (N := 10) (wM_us uw_X8) 0 (Nat.le_of_ble_eq_true rfl) eBC_0 rfl 5 (by decide) (wM_in fl_X8_30) rfl dX8_undo_1 ?_
  refine lv_if_gt (tgt := 18) hx hb dX8_undo_4 (by decide) (fun c1 => ?_) (fun c1 => ?_)
  · have hf := it_t c1 hf
    refine lv_aload_n hx hb dX8_undo_18 rfl (lv_at hl 0 rfl) ?_
    refine lv_dup hx hb dX8_undo_19 rfl ?_
    refine xget hC h.o (C := RX8) (T := TX8) (N := 10) (wM_us uw_X8) 0 (Nat.le_of_ble_eq_true rfl) eBC_0 rfl 5 (by decide) (wM_in fl_X8_30) rfl dX8_undo_20 ?_
    refine lv_iconst (v := (1 : Int32)) hx hb dX8_undo_23 (by decide) ?_
    refine lv_isub hx hb dX8_undo_24 ?_
    refine xput hC h (C := RX8) (T := TX8) (N := 10) (wM_us uw_X8) tyX8_ok nmX8 0 (Nat.le_of_ble_eq_true rfl) eBC_0 rfl 5 (by decide) (wM_in fl_X8_30) rfl (ty := .int) (tyX8_ok 5 (by decide)) rfl rfl (Nat.le_of_ble_eq_true rfl) (eBC_0.trans rfl) dX8_undo_25 (fun H locs h => ?_)
    obtain ⟨v2, ev2, hf⟩ := lt_e hf
    rw [← ev2] at h
    refine lv_aload_n hx hb dX8_undo_28 rfl (lv_at hl 0 rfl) ?_
    refine lv_aload_n hx hb dX8_undo_29 rfl (lv_at hl 0 rfl) ?_
    refine xget hC h.o (C := RX8) (T := TX8) (N := 10) (wM_us uw_X8) 0 (Nat.le_of_ble_eq_true rfl) eBC_0 rfl 5 (by decide) (wM_in fl_X8_30) rfl dX8_undo_30 ?_
    obtain ⟨r4, hy3, hf⟩ := ob_e hf
    refine xv0 h (va_runV (As := [.int (v2 0 5)]) (rest := []) hC (c_X8_restore l G q v2 (v2 0 5) hy3 H.size) (xcwV hC lk_X8_269 in_X8 co_X8_restore im_X8_restore se_X8_restore rfl rfl dd_X8_restore ⟨Nat.le_of_ble_eq_true rfl, Nat.le_of_ble_eq_true rfl⟩) (preV0 h (Nat.le_of_ble_eq_true rfl) eBC_0 rfl [.int (v2 0 5)]) rfl rfl hl.1 rfl (lv_room (Nat.le_of_ble_eq_true rfl)) dX8_undo_33 ⟨Nat.zero_le _, Nat.zero_le _⟩) (fun H locs h => ?_)
    refine lv_aload_n hx hb dX8_undo_36 rfl (lv_at hl 0 rfl) ?_
    refine xget hC h.o (C := RX8) (T := TX8) (N := 10) (wM_us uw_X8) 0 (Nat.le_of_ble_eq_true rfl) eBC_0 rfl 5 (by decide) (wM_in fl_X8_30) rfl dX8_undo_37 ?_
    have hf := sm_e hf
    exact xiret hC hr hlk h (by rw [← hf]) (by rw [← hf]) dX8_undo_40
  · have hf := it_f c1 hf
    cases hf
def m_X8_read_n (v : xSt) (p1 : Int32) : Option (Int32) := (if (xwi p1 0 255) = 0 then none else ob (m_X6_isBusy (sh 7 v)) (fun r4 => (if r4 = 0 then ob (m_X7_concerns (sh 18 v) p1) (fun r8 => (if r8 = 0 then some (xat 256 (v 9) p1) else none)) else none)))
set_option maxHeartbeats 4000000 in
set_option maxRecDepth 100000 in
theorem c_X8_read_n (l : Launch) (G : xGl) (q : Nat → Nat) (v : xSt) (p1 : Int32) {z : (Int32)} (hf : m_X8_read_n v p1 = some z) : mRO l yX8_read (wM yX8_read cX8_read 2 (some .int)) { frames := 2, cells := 0, slots := 0, locals := 42 } G (eBC G) 430 q v [.ref (q 0), .int p1] (qI z) := by
  refine xRO (cc := cX8_read) (maxL := 2) (ret := (some .int)) (by decide) rfl (Nat.le_of_ble_eq_true rfl) ?_
  intro p e s m below meth c ls A hC hr hlk h hl
  have hx := hC.1
  have hb := hC.2.1
  have hl : lv_has ls 2 [(0, .ref (q 0)), (1, .int p1)] := hl
  unfold m_X8_read_n at hf
  obtain ⟨H, hH⟩ : ∃ H, H = s.heap := ⟨_, rfl⟩
  obtain ⟨locs, hlo⟩ : ∃ x : List Loc, x = [] := ⟨_, rfl⟩
  have h : ho G (eBC G) 430 q v A s H locs := by rw [hH, hlo]; exact h
  rw [← hlo, ← hH]
  clear hH hlo
  refine lv_iload_n hx hb dX8_read_0 rfl (lv_at hl 1 rfl) ?_
  refine xzO h (va_runS (As := [.int p1]) (rest := []) hC (k_X8_isCell l G q v p1 H.size) (xcwS hC lk_X8_93 in_X8 co_X8_isCell st_X8_isCell rfl rfl dd_X8_isCell ⟨Nat.le_of_ble_eq_true rfl, Nat.le_of_ble_eq_true rfl⟩) (preSN h.o [.int p1]) rfl rfl hl.1 rfl (lv_room (Nat.le_of_ble_eq_true rfl)) dX8_read_1 ⟨Nat.zero_le _, Nat.zero_le _⟩) (fun H locs hz1 h => ?_)
  refine lv_if_ne (tgt := 17) hx hb dX8_read_4 (by decide) (fun c2 => ?_) (fun c2 => ?_)
  · have hf := it_f c2 hf
    refine lv_aload_n hx hb dX8_read_17 rfl (lv_at hl 0 rfl) ?_
    refine xget hC h.o (C := RX8) (T := TX8) (N := 10) (wM_us uw_X8) 0 (Nat.le_of_ble_eq_true rfl) eBC_0 rfl 0 (by decide) (wM_in fl_X8_10) rfl dX8_read_18 ?_
    obtain ⟨r4, hy3, hf⟩ := ob_e hf
    refine xzO h (va_runV (As := []) (rest := []) hC (c_X6_isBusy l G (sh 7 q) (sh 7 v) hy3 H.size) (xcwV hC lk_X8_52 in_X6 co_X6_isBusy im_X6_isBusy se_X6_isBusy rfl rfl dd_X6_isBusy ⟨Nat.le_of_ble_eq_true rfl, Nat.le_of_ble_eq_true rfl⟩) (preVO h.o 7 47 sBC_7 (Nat.le_of_ble_eq_true rfl) (Nat.le_of_ble_eq_true rfl) eBC_7 rfl []) rfl rfl hl.1 rfl (lv_room (Nat.le_of_ble_eq_true rfl)) dX8_read_21 ⟨Nat.zero_le _, Nat.zero_le _⟩) (fun H locs hz5 h => ?_)
    refine lv_if_ne (tgt := 41) hx hb dX8_read_24 (by decide) (fun c6 => ?_) (fun c6 => ?_)
    · have hf := it_f c6 hf
      cases hf
    · have hf := it_t c6 hf
      refine lv_aload_n hx hb dX8_read_27 rfl (lv_at hl 0 rfl) ?_
      refine xget hC h.o (C := RX8) (T := TX8) (N := 10) (wM_us uw_X8) 0 (Nat.le_of_ble_eq_true rfl) eBC_0 rfl 0 (by decide) (wM_in fl_X8_10) rfl dX8_read_28 ?_
      refine xget hC h.o (C := RX6) (T := TX6) (N := 13) (wM_us uw_X6) 7 (Nat.le_of_ble_eq_true rfl) eBC_7 rfl 4 (by decide) (wM_in fl_X8_159) rfl dX8_read_31 ?_
      refine lv_iload_n hx hb dX8_read_34 rfl (lv_at hl 1 rfl) ?_
      obtain ⟨r8, hy7, hf⟩ := ob_e hf
      refine xzO h (va_runV (As := [.int p1]) (rest := []) hC (c_X7_concerns l G (sh 18 q) (sh 18 v) p1 hy7 H.size) (xcwV hC lk_X8_272 in_X7 co_X7_concerns im_X7_concerns se_X7_concerns rfl rfl dd_X7_concerns ⟨Nat.le_of_ble_eq_true rfl, Nat.le_of_ble_eq_true rfl⟩) (preVO h.o 18 3 sBC_18 (Nat.le_of_ble_eq_true rfl) (Nat.le_of_ble_eq_true rfl) eBC_18 rfl [.int p1]) rfl rfl hl.1 rfl (lv_room (Nat.le_of_ble_eq_true rfl)) dX8_read_35 ⟨Nat.zero_le _, Nat.zero_le _⟩) (fun H locs hz9 h => ?_)
      refine lv_if_eq (tgt := 52) hx hb dX8_read_38 (by decide) (fun c10 => ?_) (fun c10 => ?_)
      · have hf := it_t c10 hf
        refine lv_aload_n hx hb dX8_read_52 rfl (lv_at hl 0 rfl) ?_
        refine xget hC h.o (C := RX8) (T := TX8) (N := 10) (wM_us uw_X8) 0 (Nat.le_of_ble_eq_true rfl) eBC_0 rfl 0 (by decide) (wM_in fl_X8_10) rfl dX8_read_53 ?_
        refine xget hC h.o (C := RX6) (T := TX6) (N := 13) (wM_us uw_X6) 7 (Nat.le_of_ble_eq_true rfl) eBC_7 rfl 0 (by decide) (wM_in fl_X8_277) rfl dX8_read_56 ?_
        refine xget hC h.o (C := RX0) (T := TX0) (N := 4) (wM_us uw_X0) 8 (Nat.le_of_ble_eq_true rfl) eBC_8 rfl 0 (by decide) (wM_in fl_X8_281) rfl dX8_read_59 ?_
        refine lv_iload_n hx hb dX8_read_62 rfl (lv_at hl 1 rfl) ?_
        refine xiO h (va_runS (As := [.ref (q 9), .int p1]) (rest := []) hC (k_X8_at l G (sh 9 q) 256 (by decide) (sh 9 v) p1 H.size) (xcwS hC lk_X8_224 in_X8 co_X8_at st_X8_at rfl rfl dd_X8_at ⟨Nat.le_of_ble_eq_true rfl, Nat.le_of_ble_eq_true rfl⟩) (preSO h.o 9 1 sBC_9 (Nat.le_of_ble_eq_true rfl) [.ref (q 9), .int p1]) rfl rfl hl.1 rfl (lv_room (Nat.le_of_ble_eq_true rfl)) dX8_read_63 ⟨Nat.zero_le _, Nat.zero_le _⟩) (fun H locs h => ?_)
        refine lv_nm (z := (xat 256 (v 9) p1)) rfl ?_
        have hf := sm_e hf
        exact oiret hC hr hlk h (by rw [← hf]) dX8_read_66
      · have hf := it_f c10 hf
        cases hf
  · have hf := it_t c2 hf
    cases hf
def m_X8_cell_n (v : xSt) (p1 : Int32) (p2 : Int32) : Option (Int32) := (if (xwi p1 0 255) = 0 then none else (if (xwi p2 (0 : Int32) (3 : Int32)) = 0 then none else (if p2 = 0 then some (xat 256 (v 9) p1) else (if p2 = 1 then some (xat 256 (v 10) p1) else (if p2 = 2 then ob (m_X0_isUnsure (sh 8 v) (p1 / (8 : Int32))) (fun r9 => (if r9 = 0 then some (0 : Int32) else some (1 : Int32))) else ob (m_X4_valueFor (sh 13 v) (p1 - p1 / (8 : Int32) * (8 : Int32))) (fun r13 => some r13))))))
set_option maxHeartbeats 4000000 in
set_option maxRecDepth 100000 in
theorem c_X8_cell_n (l : Launch) (G : xGl) (q : Nat → Nat) (v : xSt) (p1 : Int32) (p2 : Int32) {z : (Int32)} (hf : m_X8_cell_n v p1 p2 = some z) : mRO l yX8_cell (wM yX8_cell cX8_cell 3 (some .int)) { frames := 2, cells := 0, slots := 0, locals := 43 } G (eBC G) 430 q v [.ref (q 0), .int p1, .int p2] (qI z) := by
  refine xRO (cc := cX8_cell) (maxL := 3) (ret := (some .int)) (by decide) rfl (Nat.le_of_ble_eq_true rfl) ?_
  intro p e s m below meth c ls A hC hr hlk h hl
  have hx := hC.1
  have hb := hC.2.1
  have hl : lv_has ls 3 [(0, .ref (q 0)), (1, .int p1), (2, .int p2)] := hl
  unfold m_X8_cell_n at hf
  obtain ⟨H, hH⟩ : ∃ H, H = s.heap := ⟨_, rfl⟩
  obtain ⟨locs, hlo⟩ : ∃ x : List Loc, x = [] := ⟨_, rfl⟩
  have h : ho G (eBC G) 430 q v A s H locs := by rw [hH, hlo]; exact h
  rw [← hlo, ← hH]
  clear hH hlo
  refine lv_iload_n hx hb dX8_cell_0 rfl (lv_at hl 1 rfl) ?_
  refine xzO h (va_runS (As := [.int p1]) (rest := []) hC (k_X8_isCell l G q v p1 H.size) (xcwS hC lk_X8_93 in_X8 co_X8_isCell st_X8_isCell rfl rfl dd_X8_isCell ⟨Nat.le_of_ble_eq_true rfl, Nat.le_of_ble_eq_true rfl⟩) (preSN h.o [.int p1]) rfl rfl hl.1 rfl (lv_room (Nat.le_of_ble_eq_true rfl)) dX8_cell_1 ⟨Nat.zero_le _, Nat.zero_le _⟩) (fun H locs hz1 h => ?_)
  refine lv_if_ne (tgt := 17) hx hb dX8_cell_4 (by decide) (fun c2 => ?_) (fun c2 => ?_)
  · have hf := it_f c2 hf
    refine lv_iload_n hx hb dX8_cell_17 rfl (lv_at hl 2 rfl) ?_
    refine lv_iconst (v := (0 : Int32)) hx hb dX8_cell_18 (by decide) ?_
    refine lv_iconst (v := (3 : Int32)) hx hb dX8_cell_19 (by decide) ?_
    refine xzO h (va_runS (As := [.int p2, .int (0 : Int32), .int (3 : Int32)]) (rest := []) hC (k_X8_isWithin l G q v p2 (0 : Int32) (3 : Int32) H.size) (xcwS hC lk_X8_69 in_X8 co_X8_isWithin st_X8_isWithin rfl rfl dd_X8_isWithin ⟨Nat.le_of_ble_eq_true rfl, Nat.le_of_ble_eq_true rfl⟩) (preSN h.o [.int p2, .int (0 : Int32), .int (3 : Int32)]) rfl rfl hl.1 rfl (lv_room (Nat.le_of_ble_eq_true rfl)) dX8_cell_20 ⟨Nat.zero_le _, Nat.zero_le _⟩) (fun H locs hz3 h => ?_)
    refine lv_if_ne (tgt := 37) hx hb dX8_cell_23 (by decide) (fun c4 => ?_) (fun c4 => ?_)
    · have hf := it_f c4 hf
      refine lv_iload_n hx hb dX8_cell_37 rfl (lv_at hl 2 rfl) ?_
      by_cases c5 : p2 = 0
      · have hf := it_t c5 hf
        refine lv_tableIn (off := 26) (tgt := 64) hx hb dX8_cell_38 (by rw [c5]; decide) (by rw [c5]; decide) (by rw [c5]; decide) (by decide) ?_
        refine lv_aload_n hx hb dX8_cell_64 rfl (lv_at hl 0 rfl) ?_
        refine xget hC h.o (C := RX8) (T := TX8) (N := 10) (wM_us uw_X8) 0 (Nat.le_of_ble_eq_true rfl) eBC_0 rfl 0 (by decide) (wM_in fl_X8_10) rfl dX8_cell_65 ?_
        refine xget hC h.o (C := RX6) (T := TX6) (N := 13) (wM_us uw_X6) 7 (Nat.le_of_ble_eq_true rfl) eBC_7 rfl 0 (by decide) (wM_in fl_X8_277) rfl dX8_cell_68 ?_
        refine xget hC h.o (C := RX0) (T := TX0) (N := 4) (wM_us uw_X0) 8 (Nat.le_of_ble_eq_true rfl) eBC_8 rfl 0 (by decide) (wM_in fl_X8_281) rfl dX8_cell_71 ?_
        refine lv_iload_n hx hb dX8_cell_74 rfl (lv_at hl 1 rfl) ?_
        refine xiO h (va_runS (As := [.ref (q 9), .int p1]) (rest := []) hC (k_X8_at l G (sh 9 q) 256 (by decide) (sh 9 v) p1 H.size) (xcwS hC lk_X8_224 in_X8 co_X8_at st_X8_at rfl rfl dd_X8_at ⟨Nat.le_of_ble_eq_true rfl, Nat.le_of_ble_eq_true rfl⟩) (preSO h.o 9 1 sBC_9 (Nat.le_of_ble_eq_true rfl) [.ref (q 9), .int p1]) rfl rfl hl.1 rfl (lv_room (Nat.le_of_ble_eq_true rfl)) dX8_cell_75 ⟨Nat.zero_le _, Nat.zero_le _⟩) (fun H locs h => ?_)
        refine lv_nm (z := (xat 256 (v 9) p1)) rfl ?_
        have hf := sm_e hf
        exact oiret hC hr hlk h (by rw [← hf]) dX8_cell_78
      have hf := it_f c5 hf
      by_cases c6 : p2 = 1
      · have hf := it_t c6 hf
        refine lv_tableIn (off := 41) (tgt := 79) hx hb dX8_cell_38 (by rw [c6]; decide) (by rw [c6]; decide) (by rw [c6]; decide) (by decide) ?_
        refine lv_aload_n hx hb dX8_cell_79 rfl (lv_at hl 0 rfl) ?_
        refine xget hC h.o (C := RX8) (T := TX8) (N := 10) (wM_us uw_X8) 0 (Nat.le_of_ble_eq_true rfl) eBC_0 rfl 0 (by decide) (wM_in fl_X8_10) rfl dX8_cell_80 ?_
        refine xget hC h.o (C := RX6) (T := TX6) (N := 13) (wM_us uw_X6) 7 (Nat.le_of_ble_eq_true rfl) eBC_7 rfl 0 (by decide) (wM_in fl_X8_277) rfl dX8_cell_83 ?_
        refine xget hC h.o (C := RX0) (T := TX0) (N := 4) (wM_us uw_X0) 8 (Nat.le_of_ble_eq_true rfl) eBC_8 rfl 1 (by decide) (wM_in fl_X8_288) rfl dX8_cell_86 ?_
        refine lv_iload_n hx hb dX8_cell_89 rfl (lv_at hl 1 rfl) ?_
        refine xiO h (va_runS (As := [.ref (q 10), .int p1]) (rest := []) hC (k_X8_at l G (sh 10 q) 256 (by decide) (sh 10 v) p1 H.size) (xcwS hC lk_X8_224 in_X8 co_X8_at st_X8_at rfl rfl dd_X8_at ⟨Nat.le_of_ble_eq_true rfl, Nat.le_of_ble_eq_true rfl⟩) (preSO h.o 10 1 sBC_10 (Nat.le_of_ble_eq_true rfl) [.ref (q 10), .int p1]) rfl rfl hl.1 rfl (lv_room (Nat.le_of_ble_eq_true rfl)) dX8_cell_90 ⟨Nat.zero_le _, Nat.zero_le _⟩) (fun H locs h => ?_)
        refine lv_nm (z := (xat 256 (v 10) p1)) rfl ?_
        have hf := sm_e hf
        exact oiret hC hr hlk h (by rw [← hf]) dX8_cell_93
      have hf := it_f c6 hf
      by_cases c7 : p2 = 2
      · have hf := it_t c7 hf
        refine lv_tableIn (off := 56) (tgt := 94) hx hb dX8_cell_38 (by rw [c7]; decide) (by rw [c7]; decide) (by rw [c7]; decide) (by decide) ?_
        refine lv_aload_n hx hb dX8_cell_94 rfl (lv_at hl 0 rfl) ?_
        refine xget hC h.o (C := RX8) (T := TX8) (N := 10) (wM_us uw_X8) 0 (Nat.le_of_ble_eq_true rfl) eBC_0 rfl 0 (by decide) (wM_in fl_X8_10) rfl dX8_cell_95 ?_
        refine xget hC h.o (C := RX6) (T := TX6) (N := 13) (wM_us uw_X6) 7 (Nat.le_of_ble_eq_true rfl) eBC_7 rfl 0 (by decide) (wM_in fl_X8_277) rfl dX8_cell_98 ?_
        refine lv_iload_n hx hb dX8_cell_101 rfl (lv_at hl 1 rfl) ?_
        refine lv_bipush (v := (8 : Int32)) hx hb dX8_cell_102 (by decide) ?_
        refine lv_idiv hx hb dX8_cell_104 (by decide) ?_
        obtain ⟨r9, hy8, hf⟩ := ob_e hf
        refine xzO h (va_runV (As := [.int (p1 / (8 : Int32))]) (rest := []) hC (c_X0_isUnsure l G (sh 8 q) (sh 8 v) (p1 / (8 : Int32)) hy8 H.size) (xcwV hC lk_X8_291 in_X0 co_X0_isUnsure im_X0_isUnsure se_X0_isUnsure rfl rfl dd_X0_isUnsure ⟨Nat.le_of_ble_eq_true rfl, Nat.le_of_ble_eq_true rfl⟩) (preVO h.o 8 4 sBC_8 (Nat.le_of_ble_eq_true rfl) (Nat.le_of_ble_eq_true rfl) eBC_8 rfl [.int (p1 / (8 : Int32))]) rfl rfl hl.1 rfl (lv_room (Nat.le_of_ble_eq_true rfl)) dX8_cell_105 ⟨Nat.zero_le _, Nat.zero_le _⟩) (fun H locs hz10 h => ?_)
        refine lv_if_eq (tgt := 115) hx hb dX8_cell_108 (by decide) (fun c11 => ?_) (fun c11 => ?_)
        · have hf := it_t c11 hf
          refine lv_iconst (v := (0 : Int32)) hx hb dX8_cell_115 (by decide) ?_
          have hf := sm_e hf
          exact oiret hC hr hlk h (by rw [← hf]) dX8_cell_116
        · have hf := it_f c11 hf
          refine lv_iconst (v := (1 : Int32)) hx hb dX8_cell_111 (by decide) ?_
          refine lv_goto (tgt := 116) hx hb dX8_cell_112 (by decide) ?_
          have hf := sm_e hf
          exact oiret hC hr hlk h (by rw [← hf]) dX8_cell_116
      have hf := it_f c7 hf
      refine lv_tableOut (tgt := 117) hx hb dX8_cell_38 (by have := xne (k := 0) (by decide) c5; have := xne (k := 1) (by decide) c6; have := xne (k := 2) (by decide) c7; omega) (by decide) ?_
      refine lv_aload_n hx hb dX8_cell_117 rfl (lv_at hl 0 rfl) ?_
      refine xget hC h.o (C := RX8) (T := TX8) (N := 10) (wM_us uw_X8) 0 (Nat.le_of_ble_eq_true rfl) eBC_0 rfl 0 (by decide) (wM_in fl_X8_10) rfl dX8_cell_118 ?_
      refine xget hC h.o (C := RX6) (T := TX6) (N := 13) (wM_us uw_X6) 7 (Nat.le_of_ble_eq_true rfl) eBC_7 rfl 2 (by decide) (wM_in fl_X8_78) rfl dX8_cell_121 ?_
      refine lv_iload_n hx hb dX8_cell_124 rfl (lv_at hl 1 rfl) ?_
      refine lv_bipush (v := (8 : Int32)) hx hb dX8_cell_125 (by decide) ?_
      refine lv_irem hx hb dX8_cell_127 (by decide) ?_
      obtain ⟨r13, hy12, hf⟩ := ob_e hf
      refine xiO h (va_runV (As := [.int (p1 - p1 / (8 : Int32) * (8 : Int32))]) (rest := []) hC (c_X4_valueFor l G (sh 13 q) (sh 13 v) (p1 - p1 / (8 : Int32) * (8 : Int32)) hy12 H.size) (xcwV hC lk_X8_294 in_X4 co_X4_valueFor im_X4_valueFor se_X4_valueFor rfl rfl dd_X4_valueFor ⟨Nat.le_of_ble_eq_true rfl, Nat.le_of_ble_eq_true rfl⟩) (preVO h.o 13 2 sBC_13 (Nat.le_of_ble_eq_true rfl) (Nat.le_of_ble_eq_true rfl) eBC_13 rfl [.int (p1 - p1 / (8 : Int32) * (8 : Int32))]) rfl rfl hl.1 rfl (lv_room (Nat.le_of_ble_eq_true rfl)) dX8_cell_128 ⟨Nat.zero_le _, Nat.zero_le _⟩) (fun H locs h => ?_)
      have hf := sm_e hf
      exact oiret hC hr hlk h (by rw [← hf]) dX8_cell_131
    · have hf := it_t c4 hf
      cases hf
  · have hf := it_t c2 hf
    cases hf
def m_X8_sector_n (v : xSt) (p1 : Int32) (p2 : Int32) : Option (Int32) := (if (xwi p1 0 7) = 0 then none else (if (xwi p2 (0 : Int32) (6 : Int32)) = 0 then none else (if p2 = 0 then some (xat 8 (v 11) p1) else (if p2 = 1 then ob (m_X2_hold (sh 12 v) p1) (fun r8 => (if r8 = 0 then some (0 : Int32) else some (1 : Int32))) else (if p2 = 2 then ob (m_X0_ones (sh 8 v) (p1 * (32 : Int32)) (32 : Int32)) (fun r13 => some r13) else (if p2 = 3 then ob (m_X0_fallenPages (sh 8 v) p1) (fun r16 => some r16) else (if p2 = 4 then ob (m_X0_unsurePages (sh 8 v) p1) (fun r19 => some r19) else (if p2 = 5 then ob (m_X6_eraseTicks (sh 7 v) p1) (fun r22 => some r22) else ob (m_X1_ordersFor (sh 21 v) p1) (fun r24 => some r24)))))))))
set_option maxHeartbeats 4000000 in
set_option maxRecDepth 100000 in
theorem c_X8_sector_n (l : Launch) (G : xGl) (q : Nat → Nat) (v : xSt) (p1 : Int32) (p2 : Int32) {z : (Int32)} (hf : m_X8_sector_n v p1 p2 = some z) : mRO l yX8_sector (wM yX8_sector cX8_sector 3 (some .int)) { frames := 3, cells := 0, slots := 0, locals := 68 } G (eBC G) 430 q v [.ref (q 0), .int p1, .int p2] (qI z) := by
  refine xRO (cc := cX8_sector) (maxL := 3) (ret := (some .int)) (by decide) rfl (Nat.le_of_ble_eq_true rfl) ?_
  intro p e s m below meth c ls A hC hr hlk h hl
  have hx := hC.1
  have hb := hC.2.1
  have hl : lv_has ls 3 [(0, .ref (q 0)), (1, .int p1), (2, .int p2)] := hl
  unfold m_X8_sector_n at hf
  obtain ⟨H, hH⟩ : ∃ H, H = s.heap := ⟨_, rfl⟩
  obtain ⟨locs, hlo⟩ : ∃ x : List Loc, x = [] := ⟨_, rfl⟩
  have h : ho G (eBC G) 430 q v A s H locs := by rw [hH, hlo]; exact h
  rw [← hlo, ← hH]
  clear hH hlo
  refine lv_iload_n hx hb dX8_sector_0 rfl (lv_at hl 1 rfl) ?_
  refine xzO h (va_runS (As := [.int p1]) (rest := []) hC (k_X8_isSector l G q v p1 H.size) (xcwS hC lk_X8_126 in_X8 co_X8_isSector st_X8_isSector rfl rfl dd_X8_isSector ⟨Nat.le_of_ble_eq_true rfl, Nat.le_of_ble_eq_true rfl⟩) (preSN h.o [.int p1]) rfl rfl hl.1 rfl (lv_room (Nat.le_of_ble_eq_true rfl)) dX8_sector_1 ⟨Nat.zero_le _, Nat.zero_le _⟩) (fun H locs hz1 h => ?_)
  refine lv_if_ne (tgt := 17) hx hb dX8_sector_4 (by decide) (fun c2 => ?_) (fun c2 => ?_)
  · have hf := it_f c2 hf
    refine lv_iload_n hx hb dX8_sector_17 rfl (lv_at hl 2 rfl) ?_
    refine lv_iconst (v := (0 : Int32)) hx hb dX8_sector_18 (by decide) ?_
    refine lv_bipush (v := (6 : Int32)) hx hb dX8_sector_19 (by decide) ?_
    refine xzO h (va_runS (As := [.int p2, .int (0 : Int32), .int (6 : Int32)]) (rest := []) hC (k_X8_isWithin l G q v p2 (0 : Int32) (6 : Int32) H.size) (xcwS hC lk_X8_69 in_X8 co_X8_isWithin st_X8_isWithin rfl rfl dd_X8_isWithin ⟨Nat.le_of_ble_eq_true rfl, Nat.le_of_ble_eq_true rfl⟩) (preSN h.o [.int p2, .int (0 : Int32), .int (6 : Int32)]) rfl rfl hl.1 rfl (lv_room (Nat.le_of_ble_eq_true rfl)) dX8_sector_21 ⟨Nat.zero_le _, Nat.zero_le _⟩) (fun H locs hz3 h => ?_)
    refine lv_if_ne (tgt := 38) hx hb dX8_sector_24 (by decide) (fun c4 => ?_) (fun c4 => ?_)
    · have hf := it_f c4 hf
      refine lv_iload_n hx hb dX8_sector_38 rfl (lv_at hl 2 rfl) ?_
      by_cases c5 : p2 = 0
      · have hf := it_t c5 hf
        refine lv_tableIn (off := 37) (tgt := 76) hx hb dX8_sector_39 (by rw [c5]; decide) (by rw [c5]; decide) (by rw [c5]; decide) (by decide) ?_
        refine lv_aload_n hx hb dX8_sector_76 rfl (lv_at hl 0 rfl) ?_
        refine xget hC h.o (C := RX8) (T := TX8) (N := 10) (wM_us uw_X8) 0 (Nat.le_of_ble_eq_true rfl) eBC_0 rfl 0 (by decide) (wM_in fl_X8_10) rfl dX8_sector_77 ?_
        refine xget hC h.o (C := RX6) (T := TX6) (N := 13) (wM_us uw_X6) 7 (Nat.le_of_ble_eq_true rfl) eBC_7 rfl 0 (by decide) (wM_in fl_X8_277) rfl dX8_sector_80 ?_
        refine xget hC h.o (C := RX0) (T := TX0) (N := 4) (wM_us uw_X0) 8 (Nat.le_of_ble_eq_true rfl) eBC_8 rfl 2 (by decide) (wM_in fl_X8_299) rfl dX8_sector_83 ?_
        refine lv_iload_n hx hb dX8_sector_86 rfl (lv_at hl 1 rfl) ?_
        refine xiO h (va_runS (As := [.ref (q 11), .int p1]) (rest := []) hC (k_X8_at l G (sh 11 q) 8 (by decide) (sh 11 v) p1 H.size) (xcwS hC lk_X8_224 in_X8 co_X8_at st_X8_at rfl rfl dd_X8_at ⟨Nat.le_of_ble_eq_true rfl, Nat.le_of_ble_eq_true rfl⟩) (preSO h.o 11 1 sBC_11 (Nat.le_of_ble_eq_true rfl) [.ref (q 11), .int p1]) rfl rfl hl.1 rfl (lv_room (Nat.le_of_ble_eq_true rfl)) dX8_sector_87 ⟨Nat.zero_le _, Nat.zero_le _⟩) (fun H locs h => ?_)
        refine lv_nm (z := (xat 8 (v 11) p1)) rfl ?_
        have hf := sm_e hf
        exact oiret hC hr hlk h (by rw [← hf]) dX8_sector_90
      have hf := it_f c5 hf
      by_cases c6 : p2 = 1
      · have hf := it_t c6 hf
        refine lv_tableIn (off := 52) (tgt := 91) hx hb dX8_sector_39 (by rw [c6]; decide) (by rw [c6]; decide) (by rw [c6]; decide) (by decide) ?_
        refine lv_aload_n hx hb dX8_sector_91 rfl (lv_at hl 0 rfl) ?_
        refine xget hC h.o (C := RX8) (T := TX8) (N := 10) (wM_us uw_X8) 0 (Nat.le_of_ble_eq_true rfl) eBC_0 rfl 0 (by decide) (wM_in fl_X8_10) rfl dX8_sector_92 ?_
        refine xget hC h.o (C := RX6) (T := TX6) (N := 13) (wM_us uw_X6) 7 (Nat.le_of_ble_eq_true rfl) eBC_7 rfl 1 (by decide) (wM_in fl_X8_147) rfl dX8_sector_95 ?_
        refine lv_iload_n hx hb dX8_sector_98 rfl (lv_at hl 1 rfl) ?_
        obtain ⟨r8, hy7, hf⟩ := ob_e hf
        refine xzO h (va_runV (As := [.int p1]) (rest := []) hC (c_X2_hold l G (sh 12 q) (sh 12 v) p1 hy7 H.size) (xcwV hC lk_X8_302 in_X2 co_X2_hold im_X2_hold se_X2_hold rfl rfl dd_X2_hold ⟨Nat.le_of_ble_eq_true rfl, Nat.le_of_ble_eq_true rfl⟩) (preVO h.o 12 1 sBC_12 (Nat.le_of_ble_eq_true rfl) (Nat.le_of_ble_eq_true rfl) eBC_12 rfl [.int p1]) rfl rfl hl.1 rfl (lv_room (Nat.le_of_ble_eq_true rfl)) dX8_sector_99 ⟨Nat.zero_le _, Nat.zero_le _⟩) (fun H locs hz9 h => ?_)
        refine lv_if_eq (tgt := 109) hx hb dX8_sector_102 (by decide) (fun c10 => ?_) (fun c10 => ?_)
        · have hf := it_t c10 hf
          refine lv_iconst (v := (0 : Int32)) hx hb dX8_sector_109 (by decide) ?_
          have hf := sm_e hf
          exact oiret hC hr hlk h (by rw [← hf]) dX8_sector_110
        · have hf := it_f c10 hf
          refine lv_iconst (v := (1 : Int32)) hx hb dX8_sector_105 (by decide) ?_
          refine lv_goto (tgt := 110) hx hb dX8_sector_106 (by decide) ?_
          have hf := sm_e hf
          exact oiret hC hr hlk h (by rw [← hf]) dX8_sector_110
      have hf := it_f c6 hf
      by_cases c11 : p2 = 2
      · have hf := it_t c11 hf
        refine lv_tableIn (off := 72) (tgt := 111) hx hb dX8_sector_39 (by rw [c11]; decide) (by rw [c11]; decide) (by rw [c11]; decide) (by decide) ?_
        refine lv_aload_n hx hb dX8_sector_111 rfl (lv_at hl 0 rfl) ?_
        refine xget hC h.o (C := RX8) (T := TX8) (N := 10) (wM_us uw_X8) 0 (Nat.le_of_ble_eq_true rfl) eBC_0 rfl 0 (by decide) (wM_in fl_X8_10) rfl dX8_sector_112 ?_
        refine xget hC h.o (C := RX6) (T := TX6) (N := 13) (wM_us uw_X6) 7 (Nat.le_of_ble_eq_true rfl) eBC_7 rfl 0 (by decide) (wM_in fl_X8_277) rfl dX8_sector_115 ?_
        refine lv_iload_n hx hb dX8_sector_118 rfl (lv_at hl 1 rfl) ?_
        refine lv_bipush (v := (32 : Int32)) hx hb dX8_sector_119 (by decide) ?_
        refine lv_imul hx hb dX8_sector_121 ?_
        refine lv_bipush (v := (32 : Int32)) hx hb dX8_sector_122 (by decide) ?_
        obtain ⟨r13, hy12, hf⟩ := ob_e hf
        refine xiO h (va_runV (As := [.int (p1 * (32 : Int32)), .int (32 : Int32)]) (rest := []) hC (c_X0_ones l G (sh 8 q) (sh 8 v) (p1 * (32 : Int32)) (32 : Int32) hy12 H.size) (xcwV hC lk_X8_305 in_X0 co_X0_ones im_X0_ones se_X0_ones rfl rfl dd_X0_ones ⟨Nat.le_of_ble_eq_true rfl, Nat.le_of_ble_eq_true rfl⟩) (preVO h.o 8 4 sBC_8 (Nat.le_of_ble_eq_true rfl) (Nat.le_of_ble_eq_true rfl) eBC_8 rfl [.int (p1 * (32 : Int32)), .int (32 : Int32)]) rfl rfl hl.1 rfl (lv_room (Nat.le_of_ble_eq_true rfl)) dX8_sector_124 ⟨Nat.zero_le _, Nat.zero_le _⟩) (fun H locs h => ?_)
        have hf := sm_e hf
        exact oiret hC hr hlk h (by rw [← hf]) dX8_sector_127
      have hf := it_f c11 hf
      by_cases c14 : p2 = 3
      · have hf := it_t c14 hf
        refine lv_tableIn (off := 89) (tgt := 128) hx hb dX8_sector_39 (by rw [c14]; decide) (by rw [c14]; decide) (by rw [c14]; decide) (by decide) ?_
        refine lv_aload_n hx hb dX8_sector_128 rfl (lv_at hl 0 rfl) ?_
        refine xget hC h.o (C := RX8) (T := TX8) (N := 10) (wM_us uw_X8) 0 (Nat.le_of_ble_eq_true rfl) eBC_0 rfl 0 (by decide) (wM_in fl_X8_10) rfl dX8_sector_129 ?_
        refine xget hC h.o (C := RX6) (T := TX6) (N := 13) (wM_us uw_X6) 7 (Nat.le_of_ble_eq_true rfl) eBC_7 rfl 0 (by decide) (wM_in fl_X8_277) rfl dX8_sector_132 ?_
        refine lv_iload_n hx hb dX8_sector_135 rfl (lv_at hl 1 rfl) ?_
        obtain ⟨r16, hy15, hf⟩ := ob_e hf
        refine xiO h (va_runV (As := [.int p1]) (rest := []) hC (c_X0_fallenPages l G (sh 8 q) (sh 8 v) p1 hy15 H.size) (xcwV hC lk_X8_308 in_X0 co_X0_fallenPages im_X0_fallenPages se_X0_fallenPages rfl rfl dd_X0_fallenPages ⟨Nat.le_of_ble_eq_true rfl, Nat.le_of_ble_eq_true rfl⟩) (preVO h.o 8 4 sBC_8 (Nat.le_of_ble_eq_true rfl) (Nat.le_of_ble_eq_true rfl) eBC_8 rfl [.int p1]) rfl rfl hl.1 rfl (lv_room (Nat.le_of_ble_eq_true rfl)) dX8_sector_136 ⟨Nat.zero_le _, Nat.zero_le _⟩) (fun H locs h => ?_)
        have hf := sm_e hf
        exact oiret hC hr hlk h (by rw [← hf]) dX8_sector_139
      have hf := it_f c14 hf
      by_cases c17 : p2 = 4
      · have hf := it_t c17 hf
        refine lv_tableIn (off := 101) (tgt := 140) hx hb dX8_sector_39 (by rw [c17]; decide) (by rw [c17]; decide) (by rw [c17]; decide) (by decide) ?_
        refine lv_aload_n hx hb dX8_sector_140 rfl (lv_at hl 0 rfl) ?_
        refine xget hC h.o (C := RX8) (T := TX8) (N := 10) (wM_us uw_X8) 0 (Nat.le_of_ble_eq_true rfl) eBC_0 rfl 0 (by decide) (wM_in fl_X8_10) rfl dX8_sector_141 ?_
        refine xget hC h.o (C := RX6) (T := TX6) (N := 13) (wM_us uw_X6) 7 (Nat.le_of_ble_eq_true rfl) eBC_7 rfl 0 (by decide) (wM_in fl_X8_277) rfl dX8_sector_144 ?_
        refine lv_iload_n hx hb dX8_sector_147 rfl (lv_at hl 1 rfl) ?_
        obtain ⟨r19, hy18, hf⟩ := ob_e hf
        refine xiO h (va_runV (As := [.int p1]) (rest := []) hC (c_X0_unsurePages l G (sh 8 q) (sh 8 v) p1 hy18 H.size) (xcwV hC lk_X8_311 in_X0 co_X0_unsurePages im_X0_unsurePages se_X0_unsurePages rfl rfl dd_X0_unsurePages ⟨Nat.le_of_ble_eq_true rfl, Nat.le_of_ble_eq_true rfl⟩) (preVO h.o 8 4 sBC_8 (Nat.le_of_ble_eq_true rfl) (Nat.le_of_ble_eq_true rfl) eBC_8 rfl [.int p1]) rfl rfl hl.1 rfl (lv_room (Nat.le_of_ble_eq_true rfl)) dX8_sector_148 ⟨Nat.zero_le _, Nat.zero_le _⟩) (fun H locs h => ?_)
        have hf := sm_e hf
        exact oiret hC hr hlk h (by rw [← hf]) dX8_sector_151
      have hf := it_f c17 hf
      by_cases c20 : p2 = 5
      · have hf := it_t c20 hf
        refine lv_tableIn (off := 113) (tgt := 152) hx hb dX8_sector_39 (by rw [c20]; decide) (by rw [c20]; decide) (by rw [c20]; decide) (by decide) ?_
        refine lv_aload_n hx hb dX8_sector_152 rfl (lv_at hl 0 rfl) ?_
        refine xget hC h.o (C := RX8) (T := TX8) (N := 10) (wM_us uw_X8) 0 (Nat.le_of_ble_eq_true rfl) eBC_0 rfl 0 (by decide) (wM_in fl_X8_10) rfl dX8_sector_153 ?_
        refine lv_iload_n hx hb dX8_sector_156 rfl (lv_at hl 1 rfl) ?_
        obtain ⟨r22, hy21, hf⟩ := ob_e hf
        refine xiO h (va_runV (As := [.int p1]) (rest := []) hC (c_X6_eraseTicks l G (sh 7 q) (sh 7 v) p1 hy21 H.size) (xcwV hC lk_X8_133 in_X6 co_X6_eraseTicks im_X6_eraseTicks se_X6_eraseTicks rfl rfl dd_X6_eraseTicks ⟨Nat.le_of_ble_eq_true rfl, Nat.le_of_ble_eq_true rfl⟩) (preVO h.o 7 47 sBC_7 (Nat.le_of_ble_eq_true rfl) (Nat.le_of_ble_eq_true rfl) eBC_7 rfl [.int p1]) rfl rfl hl.1 rfl (lv_room (Nat.le_of_ble_eq_true rfl)) dX8_sector_157 ⟨Nat.zero_le _, Nat.zero_le _⟩) (fun H locs h => ?_)
        have hf := sm_e hf
        exact oiret hC hr hlk h (by rw [← hf]) dX8_sector_160
      have hf := it_f c20 hf
      refine lv_tableOut (tgt := 161) hx hb dX8_sector_39 (by have := xne (k := 0) (by decide) c5; have := xne (k := 1) (by decide) c6; have := xne (k := 2) (by decide) c11; have := xne (k := 3) (by decide) c14; have := xne (k := 4) (by decide) c17; have := xne (k := 5) (by decide) c20; omega) (by decide) ?_
      refine lv_aload_n hx hb dX8_sector_161 rfl (lv_at hl 0 rfl) ?_
      refine xget hC h.o (C := RX8) (T := TX8) (N := 10) (wM_us uw_X8) 0 (Nat.le_of_ble_eq_true rfl) eBC_0 rfl 0 (by decide) (wM_in fl_X8_10) rfl dX8_sector_162 ?_
      refine xget hC h.o (C := RX6) (T := TX6) (N := 13) (wM_us uw_X6) 7 (Nat.le_of_ble_eq_true rfl) eBC_7 rfl 5 (by decide) (wM_in fl_X8_180) rfl dX8_sector_165 ?_
      refine lv_iload_n hx hb dX8_sector_168 rfl (lv_at hl 1 rfl) ?_
      obtain ⟨r24, hy23, hf⟩ := ob_e hf
      refine xiO h (va_runV (As := [.int p1]) (rest := []) hC (c_X1_ordersFor l G (sh 21 q) (sh 21 v) p1 hy23 H.size) (xcwV hC lk_X8_314 in_X1 co_X1_ordersFor im_X1_ordersFor se_X1_ordersFor rfl rfl dd_X1_ordersFor ⟨Nat.le_of_ble_eq_true rfl, Nat.le_of_ble_eq_true rfl⟩) (preVO h.o 21 32 sBC_21 (Nat.le_of_ble_eq_true rfl) (Nat.le_of_ble_eq_true rfl) eBC_21 rfl [.int p1]) rfl rfl hl.1 rfl (lv_room (Nat.le_of_ble_eq_true rfl)) dX8_sector_169 ⟨Nat.zero_le _, Nat.zero_le _⟩) (fun H locs h => ?_)
      have hf := sm_e hf
      exact oiret hC hr hlk h (by rw [← hf]) dX8_sector_172
    · have hf := it_t c4 hf
      cases hf
  · have hf := it_t c2 hf
    cases hf
def m_X8_work_n (v : xSt) (p1 : Int32) (p2 : Int32) : Option (Int32) := (if (xwi p1 (0 : Int32) (1 : Int32)) = 0 then none else (if (xwi p2 (0 : Int32) (4 : Int32)) = 0 then none else (if p1 = (1 : Int32) then (if p2 = 0 then some (v 18 0) else (if p2 = 1 then some (v 18 1) else (if p2 = 2 then ob (m_X7_left (sh 18 v)) (fun r17 => some r17) else (if p2 = 3 then some (v 18 6) else (if (v 18 7) = 0 then some (0 : Int32) else some (1 : Int32)))))) else (if p2 = 0 then some (v 15 0) else (if p2 = 1 then some (v 15 1) else (if p2 = 2 then ob (m_X7_left (sh 15 v)) (fun r10 => some r10) else (if p2 = 3 then some (v 15 6) else (if (v 15 7) = 0 then some (0 : Int32) else some (1 : Int32)))))))))
set_option maxHeartbeats 4000000 in
set_option maxRecDepth 100000 in
theorem c_X8_work_n (l : Launch) (G : xGl) (q : Nat → Nat) (v : xSt) (p1 : Int32) (p2 : Int32) {z : (Int32)} (hf : m_X8_work_n v p1 p2 = some z) : mRO l yX8_work (wM yX8_work cX8_work 4 (some .int)) { frames := 1, cells := 0, slots := 0, locals := 22 } G (eBC G) 430 q v [.ref (q 0), .int p1, .int p2] (qI z) := by
  refine xRO (cc := cX8_work) (maxL := 4) (ret := (some .int)) (by decide) rfl (Nat.le_of_ble_eq_true rfl) ?_
  intro p e s m below meth c ls A hC hr hlk h hl
  have hx := hC.1
  have hb := hC.2.1
  have hl : lv_has ls 4 [(0, .ref (q 0)), (1, .int p1), (2, .int p2)] := hl
  unfold m_X8_work_n at hf
  obtain ⟨H, hH⟩ : ∃ H, H = s.heap := ⟨_, rfl⟩
  obtain ⟨locs, hlo⟩ : ∃ x : List Loc, x = [] := ⟨_, rfl⟩
  have h : ho G (eBC G) 430 q v A s H locs := by rw [hH, hlo]; exact h
  rw [← hlo, ← hH]
  clear hH hlo
  refine lv_iload_n hx hb dX8_work_0 rfl (lv_at hl 1 rfl) ?_
  refine lv_iconst (v := (0 : Int32)) hx hb dX8_work_1 (by decide) ?_
  refine lv_iconst (v := (1 : Int32)) hx hb dX8_work_2 (by decide) ?_
  refine xzO h (va_runS (As := [.int p1, .int (0 : Int32), .int (1 : Int32)]) (rest := []) hC (k_X8_isWithin l G q v p1 (0 : Int32) (1 : Int32) H.size) (xcwS hC lk_X8_69 in_X8 co_X8_isWithin st_X8_isWithin rfl rfl dd_X8_isWithin ⟨Nat.le_of_ble_eq_true rfl, Nat.le_of_ble_eq_true rfl⟩) (preSN h.o [.int p1, .int (0 : Int32), .int (1 : Int32)]) rfl rfl hl.1 rfl (lv_room (Nat.le_of_ble_eq_true rfl)) dX8_work_3 ⟨Nat.zero_le _, Nat.zero_le _⟩) (fun H locs hz1 h => ?_)
  refine lv_if_eq (tgt := 18) hx hb dX8_work_6 (by decide) (fun c2 => ?_) (fun c2 => ?_)
  · have hf := it_t c2 hf
    cases hf
  · have hf := it_f c2 hf
    refine lv_iload_n hx hb dX8_work_9 rfl (lv_at hl 2 rfl) ?_
    refine lv_iconst (v := (0 : Int32)) hx hb dX8_work_10 (by decide) ?_
    refine lv_iconst (v := (4 : Int32)) hx hb dX8_work_11 (by decide) ?_
    refine xzO h (va_runS (As := [.int p2, .int (0 : Int32), .int (4 : Int32)]) (rest := []) hC (k_X8_isWithin l G q v p2 (0 : Int32) (4 : Int32) H.size) (xcwS hC lk_X8_69 in_X8 co_X8_isWithin st_X8_isWithin rfl rfl dd_X8_isWithin ⟨Nat.le_of_ble_eq_true rfl, Nat.le_of_ble_eq_true rfl⟩) (preSN h.o [.int p2, .int (0 : Int32), .int (4 : Int32)]) rfl rfl hl.1 rfl (lv_room (Nat.le_of_ble_eq_true rfl)) dX8_work_12 ⟨Nat.zero_le _, Nat.zero_le _⟩) (fun H locs hz3 h => ?_)
    refine lv_if_ne (tgt := 29) hx hb dX8_work_15 (by decide) (fun c4 => ?_) (fun c4 => ?_)
    · have hf := it_f c4 hf
      refine lv_iload_n hx hb dX8_work_29 rfl (lv_at hl 1 rfl) ?_
      refine lv_iconst (v := (1 : Int32)) hx hb dX8_work_30 (by decide) ?_
      refine lv_icmp_ne (tgt := 44) hx hb dX8_work_31 (by decide) (fun c5 => ?_) (fun c5 => ?_)
      · have hf := it_f c5 hf
        refine lv_aload_n hx hb dX8_work_44 rfl (lv_at hl 0 rfl) ?_
        refine xget hC h.o (C := RX8) (T := TX8) (N := 10) (wM_us uw_X8) 0 (Nat.le_of_ble_eq_true rfl) eBC_0 rfl 0 (by decide) (wM_in fl_X8_10) rfl dX8_work_45 ?_
        refine xget hC h.o (C := RX6) (T := TX6) (N := 13) (wM_us uw_X6) 7 (Nat.le_of_ble_eq_true rfl) eBC_7 rfl 3 (by decide) (wM_in fl_X8_108) rfl dX8_work_48 ?_
        refine lv_astore_n (lv' := [(3, .ref (q 15)), (0, .ref (q 0)), (1, .int p1), (2, .int p2)]) hx hb dX8_work_51 rfl hl (by decide) rfl (fun ls hl => ?_)
        refine lv_iload_n hx hb dX8_work_52 rfl (lv_at hl 3 rfl) ?_
        by_cases c6 : p2 = 0
        · have hf := it_t c6 hf
          refine lv_tableIn (off := 31) (tgt := 84) hx hb dX8_work_53 (by rw [c6]; decide) (by rw [c6]; decide) (by rw [c6]; decide) (by decide) ?_
          refine lv_aload_n hx hb dX8_work_84 rfl (lv_at hl 0 rfl) ?_
          refine xget hC h.o (C := RX7) (T := TX7) (N := 9) (wM_us uw_X7) 15 (Nat.le_of_ble_eq_true rfl) eBC_15 rfl 0 (by decide) (wM_in fl_X8_156) rfl dX8_work_85 ?_
          have hf := sm_e hf
          exact oiret hC hr hlk h (by rw [← hf]) dX8_work_88
        have hf := it_f c6 hf
        by_cases c7 : p2 = 1
        · have hf := it_t c7 hf
          refine lv_tableIn (off := 36) (tgt := 89) hx hb dX8_work_53 (by rw [c7]; decide) (by rw [c7]; decide) (by rw [c7]; decide) (by decide) ?_
          refine lv_aload_n hx hb dX8_work_89 rfl (lv_at hl 0 rfl) ?_
          refine xget hC h.o (C := RX7) (T := TX7) (N := 9) (wM_us uw_X7) 15 (Nat.le_of_ble_eq_true rfl) eBC_15 rfl 1 (by decide) (wM_in fl_X8_319) rfl dX8_work_90 ?_
          have hf := sm_e hf
          exact oiret hC hr hlk h (by rw [← hf]) dX8_work_93
        have hf := it_f c7 hf
        by_cases c8 : p2 = 2
        · have hf := it_t c8 hf
          refine lv_tableIn (off := 41) (tgt := 94) hx hb dX8_work_53 (by rw [c8]; decide) (by rw [c8]; decide) (by rw [c8]; decide) (by decide) ?_
          refine lv_aload_n hx hb dX8_work_94 rfl (lv_at hl 0 rfl) ?_
          obtain ⟨r10, hy9, hf⟩ := ob_e hf
          refine xiO h (va_runV (As := []) (rest := []) hC (c_X7_left l G (sh 15 q) (sh 15 v) hy9 H.size) (xcwV hC lk_X8_122 in_X7 co_X7_left im_X7_left se_X7_left rfl rfl dd_X7_left ⟨Nat.le_of_ble_eq_true rfl, Nat.le_of_ble_eq_true rfl⟩) (preVO h.o 15 3 sBC_15 (Nat.le_of_ble_eq_true rfl) (Nat.le_of_ble_eq_true rfl) eBC_15 rfl []) rfl rfl hl.1 rfl (lv_room (Nat.le_of_ble_eq_true rfl)) dX8_work_95 ⟨Nat.zero_le _, Nat.zero_le _⟩) (fun H locs h => ?_)
          have hf := sm_e hf
          exact oiret hC hr hlk h (by rw [← hf]) dX8_work_98
        have hf := it_f c8 hf
        by_cases c11 : p2 = 3
        · have hf := it_t c11 hf
          refine lv_tableIn (off := 46) (tgt := 99) hx hb dX8_work_53 (by rw [c11]; decide) (by rw [c11]; decide) (by rw [c11]; decide) (by decide) ?_
          refine lv_aload_n hx hb dX8_work_99 rfl (lv_at hl 0 rfl) ?_
          refine xget hC h.o (C := RX7) (T := TX7) (N := 9) (wM_us uw_X7) 15 (Nat.le_of_ble_eq_true rfl) eBC_15 rfl 6 (by decide) (wM_in fl_X8_322) rfl dX8_work_100 ?_
          have hf := sm_e hf
          exact oiret hC hr hlk h (by rw [← hf]) dX8_work_103
        have hf := it_f c11 hf
        refine lv_tableOut (tgt := 104) hx hb dX8_work_53 (by have := xne (k := 0) (by decide) c6; have := xne (k := 1) (by decide) c7; have := xne (k := 2) (by decide) c8; have := xne (k := 3) (by decide) c11; omega) (by decide) ?_
        refine lv_aload_n hx hb dX8_work_104 rfl (lv_at hl 0 rfl) ?_
        refine xget hC h.o (C := RX7) (T := TX7) (N := 9) (wM_us uw_X7) 15 (Nat.le_of_ble_eq_true rfl) eBC_15 rfl 7 (by decide) (wM_in fl_X8_325) rfl dX8_work_105 ?_
        refine lv_if_eq (tgt := 115) hx hb dX8_work_108 (by decide) (fun c12 => ?_) (fun c12 => ?_)
        · have hf := it_t c12 hf
          refine lv_iconst (v := (0 : Int32)) hx hb dX8_work_115 (by decide) ?_
          have hf := sm_e hf
          exact oiret hC hr hlk h (by rw [← hf]) dX8_work_116
        · have hf := it_f c12 hf
          refine lv_iconst (v := (1 : Int32)) hx hb dX8_work_111 (by decide) ?_
          refine lv_goto (tgt := 116) hx hb dX8_work_112 (by decide) ?_
          have hf := sm_e hf
          exact oiret hC hr hlk h (by rw [← hf]) dX8_work_116
      · have hf := it_t c5 hf
        refine lv_aload_n hx hb dX8_work_34 rfl (lv_at hl 0 rfl) ?_
        refine xget hC h.o (C := RX8) (T := TX8) (N := 10) (wM_us uw_X8) 0 (Nat.le_of_ble_eq_true rfl) eBC_0 rfl 0 (by decide) (wM_in fl_X8_10) rfl dX8_work_35 ?_
        refine xget hC h.o (C := RX6) (T := TX6) (N := 13) (wM_us uw_X6) 7 (Nat.le_of_ble_eq_true rfl) eBC_7 rfl 4 (by decide) (wM_in fl_X8_159) rfl dX8_work_38 ?_
        refine lv_goto (tgt := 51) hx hb dX8_work_41 (by decide) ?_
        refine lv_astore_n (lv' := [(3, .ref (q 18)), (0, .ref (q 0)), (1, .int p1), (2, .int p2)]) hx hb dX8_work_51 rfl hl (by decide) rfl (fun ls hl => ?_)
        refine lv_iload_n hx hb dX8_work_52 rfl (lv_at hl 3 rfl) ?_
        by_cases c13 : p2 = 0
        · have hf := it_t c13 hf
          refine lv_tableIn (off := 31) (tgt := 84) hx hb dX8_work_53 (by rw [c13]; decide) (by rw [c13]; decide) (by rw [c13]; decide) (by decide) ?_
          refine lv_aload_n hx hb dX8_work_84 rfl (lv_at hl 0 rfl) ?_
          refine xget hC h.o (C := RX7) (T := TX7) (N := 9) (wM_us uw_X7) 18 (Nat.le_of_ble_eq_true rfl) eBC_18 rfl 0 (by decide) (wM_in fl_X8_156) rfl dX8_work_85 ?_
          have hf := sm_e hf
          exact oiret hC hr hlk h (by rw [← hf]) dX8_work_88
        have hf := it_f c13 hf
        by_cases c14 : p2 = 1
        · have hf := it_t c14 hf
          refine lv_tableIn (off := 36) (tgt := 89) hx hb dX8_work_53 (by rw [c14]; decide) (by rw [c14]; decide) (by rw [c14]; decide) (by decide) ?_
          refine lv_aload_n hx hb dX8_work_89 rfl (lv_at hl 0 rfl) ?_
          refine xget hC h.o (C := RX7) (T := TX7) (N := 9) (wM_us uw_X7) 18 (Nat.le_of_ble_eq_true rfl) eBC_18 rfl 1 (by decide) (wM_in fl_X8_319) rfl dX8_work_90 ?_
          have hf := sm_e hf
          exact oiret hC hr hlk h (by rw [← hf]) dX8_work_93
        have hf := it_f c14 hf
        by_cases c15 : p2 = 2
        · have hf := it_t c15 hf
          refine lv_tableIn (off := 41) (tgt := 94) hx hb dX8_work_53 (by rw [c15]; decide) (by rw [c15]; decide) (by rw [c15]; decide) (by decide) ?_
          refine lv_aload_n hx hb dX8_work_94 rfl (lv_at hl 0 rfl) ?_
          obtain ⟨r17, hy16, hf⟩ := ob_e hf
          refine xiO h (va_runV (As := []) (rest := []) hC (c_X7_left l G (sh 18 q) (sh 18 v) hy16 H.size) (xcwV hC lk_X8_122 in_X7 co_X7_left im_X7_left se_X7_left rfl rfl dd_X7_left ⟨Nat.le_of_ble_eq_true rfl, Nat.le_of_ble_eq_true rfl⟩) (preVO h.o 18 3 sBC_18 (Nat.le_of_ble_eq_true rfl) (Nat.le_of_ble_eq_true rfl) eBC_18 rfl []) rfl rfl hl.1 rfl (lv_room (Nat.le_of_ble_eq_true rfl)) dX8_work_95 ⟨Nat.zero_le _, Nat.zero_le _⟩) (fun H locs h => ?_)
          have hf := sm_e hf
          exact oiret hC hr hlk h (by rw [← hf]) dX8_work_98
        have hf := it_f c15 hf
        by_cases c18 : p2 = 3
        · have hf := it_t c18 hf
          refine lv_tableIn (off := 46) (tgt := 99) hx hb dX8_work_53 (by rw [c18]; decide) (by rw [c18]; decide) (by rw [c18]; decide) (by decide) ?_
          refine lv_aload_n hx hb dX8_work_99 rfl (lv_at hl 0 rfl) ?_
          refine xget hC h.o (C := RX7) (T := TX7) (N := 9) (wM_us uw_X7) 18 (Nat.le_of_ble_eq_true rfl) eBC_18 rfl 6 (by decide) (wM_in fl_X8_322) rfl dX8_work_100 ?_
          have hf := sm_e hf
          exact oiret hC hr hlk h (by rw [← hf]) dX8_work_103
        have hf := it_f c18 hf
        refine lv_tableOut (tgt := 104) hx hb dX8_work_53 (by have := xne (k := 0) (by decide) c13; have := xne (k := 1) (by decide) c14; have := xne (k := 2) (by decide) c15; have := xne (k := 3) (by decide) c18; omega) (by decide) ?_
        refine lv_aload_n hx hb dX8_work_104 rfl (lv_at hl 0 rfl) ?_
        refine xget hC h.o (C := RX7) (T := TX7) (N := 9) (wM_us uw_X7) 18 (Nat.le_of_ble_eq_true rfl) eBC_18 rfl 7 (by decide) (wM_in fl_X8_325) rfl dX8_work_105 ?_
        refine lv_if_eq (tgt := 115) hx hb dX8_work_108 (by decide) (fun c19 => ?_) (fun c19 => ?_)
        · have hf := it_t c19 hf
          refine lv_iconst (v := (0 : Int32)) hx hb dX8_work_115 (by decide) ?_
          have hf := sm_e hf
          exact oiret hC hr hlk h (by rw [← hf]) dX8_work_116
        · have hf := it_f c19 hf
          refine lv_iconst (v := (1 : Int32)) hx hb dX8_work_111 (by decide) ?_
          refine lv_goto (tgt := 116) hx hb dX8_work_112 (by decide) ?_
          have hf := sm_e hf
          exact oiret hC hr hlk h (by rw [← hf]) dX8_work_116
    · have hf := it_t c4 hf
      cases hf
def m_X8_order_n (v : xSt) (p1 : Int32) (p2 : Int32) : Option (Int32) := ob (m_X1_orderAt (sh 21 v) p1) (fun r2 => om r2 (none) (fun k3 => ck (k3 < 10) ((if (xwi p2 (0 : Int32) (5 : Int32)) = 0 then none else (if p2 = 0 then some (v (7 + (14 + (2 + 3 * k3))) 0) else (if p2 = 1 then (if (v (7 + (14 + (2 + 3 * k3))) 1) = (1 : Int32) then some (0 : Int32) else some (1 : Int32)) else (if p2 = 2 then some (v (7 + (14 + (2 + 3 * k3))) 2) else (if p2 = 3 then some (v (7 + (14 + (2 + 3 * k3))) 3) else (if p2 = 4 then some ((v 7 8) - (v (7 + (14 + (2 + 3 * k3))) 4)) else some (v ((7 + (14 + (2 + 3 * k3))) + 1) 1))))))))))
set_option maxHeartbeats 4000000 in
set_option maxRecDepth 100000 in
theorem c_X8_order_n (l : Launch) (G : xGl) (q : Nat → Nat) (v : xSt) (p1 : Int32) (p2 : Int32) {z : (Int32)} (hf : m_X8_order_n v p1 p2 = some z) : mRO l yX8_order (wM yX8_order cX8_order 4 (some .int)) { frames := 1, cells := 0, slots := 0, locals := 22 } G (eBC G) 430 q v [.ref (q 0), .int p1, .int p2] (qI z) := by
  refine xRO (cc := cX8_order) (maxL := 4) (ret := (some .int)) (by decide) rfl (Nat.le_of_ble_eq_true rfl) ?_
  intro p e s m below meth c ls A hC hr hlk h hl
  have hx := hC.1
  have hb := hC.2.1
  have hl : lv_has ls 4 [(0, .ref (q 0)), (1, .int p1), (2, .int p2)] := hl
  unfold m_X8_order_n at hf
  obtain ⟨H, hH⟩ : ∃ H, H = s.heap := ⟨_, rfl⟩
  obtain ⟨locs, hlo⟩ : ∃ x : List Loc, x = [] := ⟨_, rfl⟩
  have h : ho G (eBC G) 430 q v A s H locs := by rw [hH, hlo]; exact h
  rw [← hlo, ← hH]
  clear hH hlo
  refine lv_aload_n hx hb dX8_order_0 rfl (lv_at hl 0 rfl) ?_
  refine xget hC h.o (C := RX8) (T := TX8) (N := 10) (wM_us uw_X8) 0 (Nat.le_of_ble_eq_true rfl) eBC_0 rfl 0 (by decide) (wM_in fl_X8_10) rfl dX8_order_1 ?_
  refine xget hC h.o (C := RX6) (T := TX6) (N := 13) (wM_us uw_X6) 7 (Nat.le_of_ble_eq_true rfl) eBC_7 rfl 5 (by decide) (wM_in fl_X8_180) rfl dX8_order_4 ?_
  refine lv_iload_n hx hb dX8_order_7 rfl (lv_at hl 1 rfl) ?_
  obtain ⟨r2, hy1, hf⟩ := ob_e hf
  refine xqO h (va_runV (As := [.int p1]) (rest := []) hC (c_X1_orderAt l G (sh 21 q) (sh 21 v) p1 hy1 H.size) (xcwV hC lk_X8_328 in_X1 co_X1_orderAt im_X1_orderAt se_X1_orderAt rfl rfl dd_X1_orderAt ⟨Nat.le_of_ble_eq_true rfl, Nat.le_of_ble_eq_true rfl⟩) (preVO h.o 21 32 sBC_21 (Nat.le_of_ble_eq_true rfl) (Nat.le_of_ble_eq_true rfl) eBC_21 rfl [.int p1]) rfl rfl hl.1 rfl (lv_room (Nat.le_of_ble_eq_true rfl)) dX8_order_8 ⟨Nat.zero_le _, Nat.zero_le _⟩) (fun H locs h => ?_)
  refine xqB (g := fun k => q (7 + (14 + (2 + 3 * k)))) (fun k => congrArg q (show 21 + (2 + 3 * k) = 7 + (14 + (2 + 3 * k)) by omega)) ?_
  rcases omm hf with ⟨ho5, gho5⟩ | ⟨k3, ho5, gho5⟩
  · subst ho5
    replace hf := gho5
    refine lv_astore_nN (lv' := [(3, .null), (0, .ref (q 0)), (1, .int p1), (2, .int p2)]) hx hb dX8_order_11 rfl hl (by decide) rfl (fun ls hl => ?_)
    refine lv_aload_nN hx hb dX8_order_12 rfl (lv_at hl 0 rfl) ?_
    refine lv_ifnonnullN hx hb dX8_order_13 ?_
    cases hf
  · subst ho5
    obtain ⟨hk4, hf⟩ := ck_e gho5
    refine lv_astore_n (lv' := [(3, .ref (q (7 + (14 + (2 + 3 * k3))))), (0, .ref (q 0)), (1, .int p1), (2, .int p2)]) hx hb dX8_order_11 rfl hl (by decide) rfl (fun ls hl => ?_)
    refine lv_aload_n hx hb dX8_order_12 rfl (lv_at hl 0 rfl) ?_
    refine lv_ifnonnull (tgt := 27) hx hb dX8_order_13 (by decide) ?_
    refine lv_iload_n hx hb dX8_order_27 rfl (lv_at hl 3 rfl) ?_
    refine lv_iconst (v := (0 : Int32)) hx hb dX8_order_28 (by decide) ?_
    refine lv_iconst (v := (5 : Int32)) hx hb dX8_order_29 (by decide) ?_
    refine xzO h (va_runS (As := [.int p2, .int (0 : Int32), .int (5 : Int32)]) (rest := []) hC (k_X8_isWithin l G q v p2 (0 : Int32) (5 : Int32) H.size) (xcwS hC lk_X8_69 in_X8 co_X8_isWithin st_X8_isWithin rfl rfl dd_X8_isWithin ⟨Nat.le_of_ble_eq_true rfl, Nat.le_of_ble_eq_true rfl⟩) (preSN h.o [.int p2, .int (0 : Int32), .int (5 : Int32)]) rfl rfl hl.1 rfl (lv_room (Nat.le_of_ble_eq_true rfl)) dX8_order_30 ⟨Nat.zero_le _, Nat.zero_le _⟩) (fun H locs hz6 h => ?_)
    refine lv_if_ne (tgt := 47) hx hb dX8_order_33 (by decide) (fun c7 => ?_) (fun c7 => ?_)
    · have hf := it_f c7 hf
      refine lv_iload_n hx hb dX8_order_47 rfl (lv_at hl 3 rfl) ?_
      by_cases c8 : p2 = 0
      · have hf := it_t c8 hf
        refine lv_tableIn (off := 36) (tgt := 84) hx hb dX8_order_48 (by rw [c8]; decide) (by rw [c8]; decide) (by rw [c8]; decide) (by decide) ?_
        refine lv_aload_n hx hb dX8_order_84 rfl (lv_at hl 0 rfl) ?_
        refine xget hC h.o (C := RX3) (T := TX3) (N := 6) (wM_us uw_X3) (7 + (14 + (2 + 3 * k3))) (by omega) (eBC_ord hk4) rfl 0 (by decide) (wM_in fl_X8_336) rfl dX8_order_85 ?_
        have hf := sm_e hf
        exact oiret hC hr hlk h (by rw [← hf]) dX8_order_88
      have hf := it_f c8 hf
      by_cases c9 : p2 = 1
      · have hf := it_t c9 hf
        refine lv_tableIn (off := 41) (tgt := 89) hx hb dX8_order_48 (by rw [c9]; decide) (by rw [c9]; decide) (by rw [c9]; decide) (by decide) ?_
        refine lv_aload_n hx hb dX8_order_89 rfl (lv_at hl 0 rfl) ?_
        refine xget hC h.o (C := RX3) (T := TX3) (N := 6) (wM_us uw_X3) (7 + (14 + (2 + 3 * k3))) (by omega) (eBC_ord hk4) rfl 1 (by decide) (wM_in fl_X8_341) rfl dX8_order_90 ?_
        refine lv_iconst (v := (1 : Int32)) hx hb dX8_order_93 (by decide) ?_
        refine lv_icmp_ne (tgt := 101) hx hb dX8_order_94 (by decide) (fun c10 => ?_) (fun c10 => ?_)
        · have hf := it_f c10 hf
          refine lv_iconst (v := (1 : Int32)) hx hb dX8_order_101 (by decide) ?_
          have hf := sm_e hf
          exact oiret hC hr hlk h (by rw [← hf]) dX8_order_102
        · have hf := it_t c10 hf
          refine lv_iconst (v := (0 : Int32)) hx hb dX8_order_97 (by decide) ?_
          refine lv_goto (tgt := 102) hx hb dX8_order_98 (by decide) ?_
          have hf := sm_e hf
          exact oiret hC hr hlk h (by rw [← hf]) dX8_order_102
      have hf := it_f c9 hf
      by_cases c11 : p2 = 2
      · have hf := it_t c11 hf
        refine lv_tableIn (off := 55) (tgt := 103) hx hb dX8_order_48 (by rw [c11]; decide) (by rw [c11]; decide) (by rw [c11]; decide) (by decide) ?_
        refine lv_aload_n hx hb dX8_order_103 rfl (lv_at hl 0 rfl) ?_
        refine xget hC h.o (C := RX3) (T := TX3) (N := 6) (wM_us uw_X3) (7 + (14 + (2 + 3 * k3))) (by omega) (eBC_ord hk4) rfl 2 (by decide) (wM_in fl_X8_342) rfl dX8_order_104 ?_
        have hf := sm_e hf
        exact oiret hC hr hlk h (by rw [← hf]) dX8_order_107
      have hf := it_f c11 hf
      by_cases c12 : p2 = 3
      · have hf := it_t c12 hf
        refine lv_tableIn (off := 60) (tgt := 108) hx hb dX8_order_48 (by rw [c12]; decide) (by rw [c12]; decide) (by rw [c12]; decide) (by decide) ?_
        refine lv_aload_n hx hb dX8_order_108 rfl (lv_at hl 0 rfl) ?_
        refine xget hC h.o (C := RX3) (T := TX3) (N := 6) (wM_us uw_X3) (7 + (14 + (2 + 3 * k3))) (by omega) (eBC_ord hk4) rfl 3 (by decide) (wM_in fl_X8_343) rfl dX8_order_109 ?_
        have hf := sm_e hf
        exact oiret hC hr hlk h (by rw [← hf]) dX8_order_112
      have hf := it_f c12 hf
      by_cases c13 : p2 = 4
      · have hf := it_t c13 hf
        refine lv_tableIn (off := 65) (tgt := 113) hx hb dX8_order_48 (by rw [c13]; decide) (by rw [c13]; decide) (by rw [c13]; decide) (by decide) ?_
        refine lv_aload_n hx hb dX8_order_113 rfl (lv_at hl 1 rfl) ?_
        refine xget hC h.o (C := RX8) (T := TX8) (N := 10) (wM_us uw_X8) 0 (Nat.le_of_ble_eq_true rfl) eBC_0 rfl 0 (by decide) (wM_in fl_X8_10) rfl dX8_order_114 ?_
        refine xget hC h.o (C := RX6) (T := TX6) (N := 13) (wM_us uw_X6) 7 (Nat.le_of_ble_eq_true rfl) eBC_7 rfl 8 (by decide) (wM_in fl_X8_191) rfl dX8_order_117 ?_
        refine lv_aload_n hx hb dX8_order_120 rfl (lv_at hl 0 rfl) ?_
        refine xget hC h.o (C := RX3) (T := TX3) (N := 6) (wM_us uw_X3) (7 + (14 + (2 + 3 * k3))) (by omega) (eBC_ord hk4) rfl 4 (by decide) (wM_in fl_X8_344) rfl dX8_order_121 ?_
        refine lv_isub hx hb dX8_order_124 ?_
        have hf := sm_e hf
        exact oiret hC hr hlk h (by rw [← hf]) dX8_order_125
      have hf := it_f c13 hf
      refine lv_tableOut (tgt := 126) hx hb dX8_order_48 (by have := xne (k := 0) (by decide) c8; have := xne (k := 1) (by decide) c9; have := xne (k := 2) (by decide) c11; have := xne (k := 3) (by decide) c12; have := xne (k := 4) (by decide) c13; omega) (by decide) ?_
      refine lv_aload_n hx hb dX8_order_126 rfl (lv_at hl 0 rfl) ?_
      refine xget hC h.o (C := RX3) (T := TX3) (N := 6) (wM_us uw_X3) (7 + (14 + (2 + 3 * k3))) (by omega) (eBC_ord hk4) rfl 5 (by decide) (wM_in fl_X8_347) rfl dX8_order_127 ?_
      refine xget hC h.o (C := RX4) (T := TX4) (N := 2) (wM_us uw_X4) ((7 + (14 + (2 + 3 * k3))) + 1) (by omega) (eBC_ordr hk4) rfl 1 (by decide) (wM_in fl_X8_82) rfl dX8_order_130 ?_
      have hf := sm_e hf
      exact oiret hC hr hlk h (by rw [← hf]) dX8_order_133
    · have hf := it_t c7 hf
      cases hf
def m_X8_count_n (v : xSt) (p1 : Int32) : Option (Int32) := (if (xwi p1 (0 : Int32) (15 : Int32)) = 0 then none else (if p1 = 0 then some (v 7 8) else (if p1 = 1 then (if (v 7 7) = 0 then some (0 : Int32) else some (1 : Int32)) else (if p1 = 2 then (if (v 12 2) = 0 then some (0 : Int32) else some (1 : Int32)) else (if p1 = 3 then some (v 12 0) else (if p1 = 4 then some (v 12 1) else (if p1 = 5 then ob (m_X0_ones (sh 8 v) (0 : Int32) (256 : Int32)) (fun r12 => some r12) else (if p1 = 6 then ob (m_X0_allErasures (sh 8 v)) (fun r15 => some r15) else (if p1 = 7 then some (v 7 9) else (if p1 = 8 then some (v 7 10) else (if p1 = 9 then some (v 7 11) else (if p1 = 10 then some (v 21 1) else (if p1 = 11 then some (v 13 1) else (if p1 = 12 then ob (m_X0_stuckBits (sh 8 v)) (fun r23 => some r23) else (if p1 = 13 then some (xbc (v 8 3)) else (if p1 = 14 then some (v 7 12) else some (v 0 5)))))))))))))))))
set_option maxHeartbeats 4000000 in
set_option maxRecDepth 100000 in
theorem c_X8_count_n (l : Launch) (G : xGl) (q : Nat → Nat) (v : xSt) (p1 : Int32) {z : (Int32)} (hf : m_X8_count_n v p1 = some z) : mRO l yX8_count (wM yX8_count cX8_count 2 (some .int)) { frames := 2, cells := 0, slots := 0, locals := 45 } G (eBC G) 430 q v [.ref (q 0), .int p1] (qI z) := by
  refine xRO (cc := cX8_count) (maxL := 2) (ret := (some .int)) (by decide) rfl (Nat.le_of_ble_eq_true rfl) ?_
  intro p e s m below meth c ls A hC hr hlk h hl
  have hx := hC.1
  have hb := hC.2.1
  have hl : lv_has ls 2 [(0, .ref (q 0)), (1, .int p1)] := hl
  unfold m_X8_count_n at hf
  obtain ⟨H, hH⟩ : ∃ H, H = s.heap := ⟨_, rfl⟩
  obtain ⟨locs, hlo⟩ : ∃ x : List Loc, x = [] := ⟨_, rfl⟩
  have h : ho G (eBC G) 430 q v A s H locs := by rw [hH, hlo]; exact h
  rw [← hlo, ← hH]
  clear hH hlo
  refine lv_iload_n hx hb dX8_count_0 rfl (lv_at hl 1 rfl) ?_
  refine lv_iconst (v := (0 : Int32)) hx hb dX8_count_1 (by decide) ?_
  refine lv_bipush (v := (15 : Int32)) hx hb dX8_count_2 (by decide) ?_
  refine xzO h (va_runS (As := [.int p1, .int (0 : Int32), .int (15 : Int32)]) (rest := []) hC (k_X8_isWithin l G q v p1 (0 : Int32) (15 : Int32) H.size) (xcwS hC lk_X8_69 in_X8 co_X8_isWithin st_X8_isWithin rfl rfl dd_X8_isWithin ⟨Nat.le_of_ble_eq_true rfl, Nat.le_of_ble_eq_true rfl⟩) (preSN h.o [.int p1, .int (0 : Int32), .int (15 : Int32)]) rfl rfl hl.1 rfl (lv_room (Nat.le_of_ble_eq_true rfl)) dX8_count_4 ⟨Nat.zero_le _, Nat.zero_le _⟩) (fun H locs hz1 h => ?_)
  refine lv_if_ne (tgt := 21) hx hb dX8_count_7 (by decide) (fun c2 => ?_) (fun c2 => ?_)
  · have hf := it_f c2 hf
    refine lv_iload_n hx hb dX8_count_21 rfl (lv_at hl 1 rfl) ?_
    by_cases c3 : p1 = 0
    · have hf := it_t c3 hf
      refine lv_tableIn (off := 74) (tgt := 96) hx hb dX8_count_22 (by rw [c3]; decide) (by rw [c3]; decide) (by rw [c3]; decide) (by decide) ?_
      refine lv_aload_n hx hb dX8_count_96 rfl (lv_at hl 0 rfl) ?_
      refine xget hC h.o (C := RX8) (T := TX8) (N := 10) (wM_us uw_X8) 0 (Nat.le_of_ble_eq_true rfl) eBC_0 rfl 0 (by decide) (wM_in fl_X8_10) rfl dX8_count_97 ?_
      refine xget hC h.o (C := RX6) (T := TX6) (N := 13) (wM_us uw_X6) 7 (Nat.le_of_ble_eq_true rfl) eBC_7 rfl 8 (by decide) (wM_in fl_X8_191) rfl dX8_count_100 ?_
      have hf := sm_e hf
      exact oiret hC hr hlk h (by rw [← hf]) dX8_count_103
    have hf := it_f c3 hf
    by_cases c4 : p1 = 1
    · have hf := it_t c4 hf
      refine lv_tableIn (off := 82) (tgt := 104) hx hb dX8_count_22 (by rw [c4]; decide) (by rw [c4]; decide) (by rw [c4]; decide) (by decide) ?_
      refine lv_aload_n hx hb dX8_count_104 rfl (lv_at hl 0 rfl) ?_
      refine xget hC h.o (C := RX8) (T := TX8) (N := 10) (wM_us uw_X8) 0 (Nat.le_of_ble_eq_true rfl) eBC_0 rfl 0 (by decide) (wM_in fl_X8_10) rfl dX8_count_105 ?_
      refine xget hC h.o (C := RX6) (T := TX6) (N := 13) (wM_us uw_X6) 7 (Nat.le_of_ble_eq_true rfl) eBC_7 rfl 7 (by decide) (wM_in fl_X8_66) rfl dX8_count_108 ?_
      refine lv_if_eq (tgt := 118) hx hb dX8_count_111 (by decide) (fun c5 => ?_) (fun c5 => ?_)
      · have hf := it_t c5 hf
        refine lv_iconst (v := (0 : Int32)) hx hb dX8_count_118 (by decide) ?_
        have hf := sm_e hf
        exact oiret hC hr hlk h (by rw [← hf]) dX8_count_119
      · have hf := it_f c5 hf
        refine lv_iconst (v := (1 : Int32)) hx hb dX8_count_114 (by decide) ?_
        refine lv_goto (tgt := 119) hx hb dX8_count_115 (by decide) ?_
        have hf := sm_e hf
        exact oiret hC hr hlk h (by rw [← hf]) dX8_count_119
    have hf := it_f c4 hf
    by_cases c6 : p1 = 2
    · have hf := it_t c6 hf
      refine lv_tableIn (off := 98) (tgt := 120) hx hb dX8_count_22 (by rw [c6]; decide) (by rw [c6]; decide) (by rw [c6]; decide) (by decide) ?_
      refine lv_aload_n hx hb dX8_count_120 rfl (lv_at hl 0 rfl) ?_
      refine xget hC h.o (C := RX8) (T := TX8) (N := 10) (wM_us uw_X8) 0 (Nat.le_of_ble_eq_true rfl) eBC_0 rfl 0 (by decide) (wM_in fl_X8_10) rfl dX8_count_121 ?_
      refine xget hC h.o (C := RX6) (T := TX6) (N := 13) (wM_us uw_X6) 7 (Nat.le_of_ble_eq_true rfl) eBC_7 rfl 1 (by decide) (wM_in fl_X8_147) rfl dX8_count_124 ?_
      refine xget hC h.o (C := RX2) (T := TX2) (N := 3) (wM_us uw_X2) 12 (Nat.le_of_ble_eq_true rfl) eBC_12 rfl 2 (by decide) (wM_in fl_X8_151) rfl dX8_count_127 ?_
      refine lv_if_eq (tgt := 137) hx hb dX8_count_130 (by decide) (fun c7 => ?_) (fun c7 => ?_)
      · have hf := it_t c7 hf
        refine lv_iconst (v := (0 : Int32)) hx hb dX8_count_137 (by decide) ?_
        have hf := sm_e hf
        exact oiret hC hr hlk h (by rw [← hf]) dX8_count_138
      · have hf := it_f c7 hf
        refine lv_iconst (v := (1 : Int32)) hx hb dX8_count_133 (by decide) ?_
        refine lv_goto (tgt := 138) hx hb dX8_count_134 (by decide) ?_
        have hf := sm_e hf
        exact oiret hC hr hlk h (by rw [← hf]) dX8_count_138
    have hf := it_f c6 hf
    by_cases c8 : p1 = 3
    · have hf := it_t c8 hf
      refine lv_tableIn (off := 117) (tgt := 139) hx hb dX8_count_22 (by rw [c8]; decide) (by rw [c8]; decide) (by rw [c8]; decide) (by decide) ?_
      refine lv_aload_n hx hb dX8_count_139 rfl (lv_at hl 0 rfl) ?_
      refine xget hC h.o (C := RX8) (T := TX8) (N := 10) (wM_us uw_X8) 0 (Nat.le_of_ble_eq_true rfl) eBC_0 rfl 0 (by decide) (wM_in fl_X8_10) rfl dX8_count_140 ?_
      refine xget hC h.o (C := RX6) (T := TX6) (N := 13) (wM_us uw_X6) 7 (Nat.le_of_ble_eq_true rfl) eBC_7 rfl 1 (by decide) (wM_in fl_X8_147) rfl dX8_count_143 ?_
      refine xget hC h.o (C := RX2) (T := TX2) (N := 3) (wM_us uw_X2) 12 (Nat.le_of_ble_eq_true rfl) eBC_12 rfl 0 (by decide) (wM_in fl_X8_352) rfl dX8_count_146 ?_
      have hf := sm_e hf
      exact oiret hC hr hlk h (by rw [← hf]) dX8_count_149
    have hf := it_f c8 hf
    by_cases c9 : p1 = 4
    · have hf := it_t c9 hf
      refine lv_tableIn (off := 128) (tgt := 150) hx hb dX8_count_22 (by rw [c9]; decide) (by rw [c9]; decide) (by rw [c9]; decide) (by decide) ?_
      refine lv_aload_n hx hb dX8_count_150 rfl (lv_at hl 0 rfl) ?_
      refine xget hC h.o (C := RX8) (T := TX8) (N := 10) (wM_us uw_X8) 0 (Nat.le_of_ble_eq_true rfl) eBC_0 rfl 0 (by decide) (wM_in fl_X8_10) rfl dX8_count_151 ?_
      refine xget hC h.o (C := RX6) (T := TX6) (N := 13) (wM_us uw_X6) 7 (Nat.le_of_ble_eq_true rfl) eBC_7 rfl 1 (by decide) (wM_in fl_X8_147) rfl dX8_count_154 ?_
      refine xget hC h.o (C := RX2) (T := TX2) (N := 3) (wM_us uw_X2) 12 (Nat.le_of_ble_eq_true rfl) eBC_12 rfl 1 (by decide) (wM_in fl_X8_355) rfl dX8_count_157 ?_
      have hf := sm_e hf
      exact oiret hC hr hlk h (by rw [← hf]) dX8_count_160
    have hf := it_f c9 hf
    by_cases c10 : p1 = 5
    · have hf := it_t c10 hf
      refine lv_tableIn (off := 139) (tgt := 161) hx hb dX8_count_22 (by rw [c10]; decide) (by rw [c10]; decide) (by rw [c10]; decide) (by decide) ?_
      refine lv_aload_n hx hb dX8_count_161 rfl (lv_at hl 0 rfl) ?_
      refine xget hC h.o (C := RX8) (T := TX8) (N := 10) (wM_us uw_X8) 0 (Nat.le_of_ble_eq_true rfl) eBC_0 rfl 0 (by decide) (wM_in fl_X8_10) rfl dX8_count_162 ?_
      refine xget hC h.o (C := RX6) (T := TX6) (N := 13) (wM_us uw_X6) 7 (Nat.le_of_ble_eq_true rfl) eBC_7 rfl 0 (by decide) (wM_in fl_X8_277) rfl dX8_count_165 ?_
      refine lv_iconst (v := (0 : Int32)) hx hb dX8_count_168 (by decide) ?_
      refine lv_sipush (v := (256 : Int32)) hx hb dX8_count_169 (by decide) ?_
      obtain ⟨r12, hy11, hf⟩ := ob_e hf
      refine xiO h (va_runV (As := [.int (0 : Int32), .int (256 : Int32)]) (rest := []) hC (c_X0_ones l G (sh 8 q) (sh 8 v) (0 : Int32) (256 : Int32) hy11 H.size) (xcwV hC lk_X8_305 in_X0 co_X0_ones im_X0_ones se_X0_ones rfl rfl dd_X0_ones ⟨Nat.le_of_ble_eq_true rfl, Nat.le_of_ble_eq_true rfl⟩) (preVO h.o 8 4 sBC_8 (Nat.le_of_ble_eq_true rfl) (Nat.le_of_ble_eq_true rfl) eBC_8 rfl [.int (0 : Int32), .int (256 : Int32)]) rfl rfl hl.1 rfl (lv_room (Nat.le_of_ble_eq_true rfl)) dX8_count_172 ⟨Nat.zero_le _, Nat.zero_le _⟩) (fun H locs h => ?_)
      have hf := sm_e hf
      exact oiret hC hr hlk h (by rw [← hf]) dX8_count_175
    have hf := it_f c10 hf
    by_cases c13 : p1 = 6
    · have hf := it_t c13 hf
      refine lv_tableIn (off := 154) (tgt := 176) hx hb dX8_count_22 (by rw [c13]; decide) (by rw [c13]; decide) (by rw [c13]; decide) (by decide) ?_
      refine lv_aload_n hx hb dX8_count_176 rfl (lv_at hl 0 rfl) ?_
      refine xget hC h.o (C := RX8) (T := TX8) (N := 10) (wM_us uw_X8) 0 (Nat.le_of_ble_eq_true rfl) eBC_0 rfl 0 (by decide) (wM_in fl_X8_10) rfl dX8_count_177 ?_
      refine xget hC h.o (C := RX6) (T := TX6) (N := 13) (wM_us uw_X6) 7 (Nat.le_of_ble_eq_true rfl) eBC_7 rfl 0 (by decide) (wM_in fl_X8_277) rfl dX8_count_180 ?_
      obtain ⟨r15, hy14, hf⟩ := ob_e hf
      refine xiO h (va_runV (As := []) (rest := []) hC (c_X0_allErasures l G (sh 8 q) (sh 8 v) hy14 H.size) (xcwV hC lk_X8_356 in_X0 co_X0_allErasures im_X0_allErasures se_X0_allErasures rfl rfl dd_X0_allErasures ⟨Nat.le_of_ble_eq_true rfl, Nat.le_of_ble_eq_true rfl⟩) (preVO h.o 8 4 sBC_8 (Nat.le_of_ble_eq_true rfl) (Nat.le_of_ble_eq_true rfl) eBC_8 rfl []) rfl rfl hl.1 rfl (lv_room (Nat.le_of_ble_eq_true rfl)) dX8_count_183 ⟨Nat.zero_le _, Nat.zero_le _⟩) (fun H locs h => ?_)
      have hf := sm_e hf
      exact oiret hC hr hlk h (by rw [← hf]) dX8_count_186
    have hf := it_f c13 hf
    by_cases c16 : p1 = 7
    · have hf := it_t c16 hf
      refine lv_tableIn (off := 165) (tgt := 187) hx hb dX8_count_22 (by rw [c16]; decide) (by rw [c16]; decide) (by rw [c16]; decide) (by decide) ?_
      refine lv_aload_n hx hb dX8_count_187 rfl (lv_at hl 0 rfl) ?_
      refine xget hC h.o (C := RX8) (T := TX8) (N := 10) (wM_us uw_X8) 0 (Nat.le_of_ble_eq_true rfl) eBC_0 rfl 0 (by decide) (wM_in fl_X8_10) rfl dX8_count_188 ?_
      refine xget hC h.o (C := RX6) (T := TX6) (N := 13) (wM_us uw_X6) 7 (Nat.le_of_ble_eq_true rfl) eBC_7 rfl 9 (by decide) (wM_in fl_X8_359) rfl dX8_count_191 ?_
      have hf := sm_e hf
      exact oiret hC hr hlk h (by rw [← hf]) dX8_count_194
    have hf := it_f c16 hf
    by_cases c17 : p1 = 8
    · have hf := it_t c17 hf
      refine lv_tableIn (off := 173) (tgt := 195) hx hb dX8_count_22 (by rw [c17]; decide) (by rw [c17]; decide) (by rw [c17]; decide) (by decide) ?_
      refine lv_aload_n hx hb dX8_count_195 rfl (lv_at hl 0 rfl) ?_
      refine xget hC h.o (C := RX8) (T := TX8) (N := 10) (wM_us uw_X8) 0 (Nat.le_of_ble_eq_true rfl) eBC_0 rfl 0 (by decide) (wM_in fl_X8_10) rfl dX8_count_196 ?_
      refine xget hC h.o (C := RX6) (T := TX6) (N := 13) (wM_us uw_X6) 7 (Nat.le_of_ble_eq_true rfl) eBC_7 rfl 10 (by decide) (wM_in fl_X8_362) rfl dX8_count_199 ?_
      have hf := sm_e hf
      exact oiret hC hr hlk h (by rw [← hf]) dX8_count_202
    have hf := it_f c17 hf
    by_cases c18 : p1 = 9
    · have hf := it_t c18 hf
      refine lv_tableIn (off := 181) (tgt := 203) hx hb dX8_count_22 (by rw [c18]; decide) (by rw [c18]; decide) (by rw [c18]; decide) (by decide) ?_
      refine lv_aload_n hx hb dX8_count_203 rfl (lv_at hl 0 rfl) ?_
      refine xget hC h.o (C := RX8) (T := TX8) (N := 10) (wM_us uw_X8) 0 (Nat.le_of_ble_eq_true rfl) eBC_0 rfl 0 (by decide) (wM_in fl_X8_10) rfl dX8_count_204 ?_
      refine xget hC h.o (C := RX6) (T := TX6) (N := 13) (wM_us uw_X6) 7 (Nat.le_of_ble_eq_true rfl) eBC_7 rfl 11 (by decide) (wM_in fl_X8_365) rfl dX8_count_207 ?_
      have hf := sm_e hf
      exact oiret hC hr hlk h (by rw [← hf]) dX8_count_210
    have hf := it_f c18 hf
    by_cases c19 : p1 = 10
    · have hf := it_t c19 hf
      refine lv_tableIn (off := 189) (tgt := 211) hx hb dX8_count_22 (by rw [c19]; decide) (by rw [c19]; decide) (by rw [c19]; decide) (by decide) ?_
      refine lv_aload_n hx hb dX8_count_211 rfl (lv_at hl 0 rfl) ?_
      refine xget hC h.o (C := RX8) (T := TX8) (N := 10) (wM_us uw_X8) 0 (Nat.le_of_ble_eq_true rfl) eBC_0 rfl 0 (by decide) (wM_in fl_X8_10) rfl dX8_count_212 ?_
      refine xget hC h.o (C := RX6) (T := TX6) (N := 13) (wM_us uw_X6) 7 (Nat.le_of_ble_eq_true rfl) eBC_7 rfl 5 (by decide) (wM_in fl_X8_180) rfl dX8_count_215 ?_
      refine xget hC h.o (C := RX1) (T := TX1) (N := 3) (wM_us uw_X1) 21 (Nat.le_of_ble_eq_true rfl) eBC_21 rfl 1 (by decide) (wM_in fl_X8_210) rfl dX8_count_218 ?_
      have hf := sm_e hf
      exact oiret hC hr hlk h (by rw [← hf]) dX8_count_221
    have hf := it_f c19 hf
    by_cases c20 : p1 = 11
    · have hf := it_t c20 hf
      refine lv_tableIn (off := 200) (tgt := 222) hx hb dX8_count_22 (by rw [c20]; decide) (by rw [c20]; decide) (by rw [c20]; decide) (by decide) ?_
      refine lv_aload_n hx hb dX8_count_222 rfl (lv_at hl 0 rfl) ?_
      refine xget hC h.o (C := RX8) (T := TX8) (N := 10) (wM_us uw_X8) 0 (Nat.le_of_ble_eq_true rfl) eBC_0 rfl 0 (by decide) (wM_in fl_X8_10) rfl dX8_count_223 ?_
      refine xget hC h.o (C := RX6) (T := TX6) (N := 13) (wM_us uw_X6) 7 (Nat.le_of_ble_eq_true rfl) eBC_7 rfl 2 (by decide) (wM_in fl_X8_78) rfl dX8_count_226 ?_
      refine xget hC h.o (C := RX4) (T := TX4) (N := 2) (wM_us uw_X4) 13 (Nat.le_of_ble_eq_true rfl) eBC_13 rfl 1 (by decide) (wM_in fl_X8_82) rfl dX8_count_229 ?_
      have hf := sm_e hf
      exact oiret hC hr hlk h (by rw [← hf]) dX8_count_232
    have hf := it_f c20 hf
    by_cases c21 : p1 = 12
    · have hf := it_t c21 hf
      refine lv_tableIn (off := 211) (tgt := 233) hx hb dX8_count_22 (by rw [c21]; decide) (by rw [c21]; decide) (by rw [c21]; decide) (by decide) ?_
      refine lv_aload_n hx hb dX8_count_233 rfl (lv_at hl 0 rfl) ?_
      refine xget hC h.o (C := RX8) (T := TX8) (N := 10) (wM_us uw_X8) 0 (Nat.le_of_ble_eq_true rfl) eBC_0 rfl 0 (by decide) (wM_in fl_X8_10) rfl dX8_count_234 ?_
      refine xget hC h.o (C := RX6) (T := TX6) (N := 13) (wM_us uw_X6) 7 (Nat.le_of_ble_eq_true rfl) eBC_7 rfl 0 (by decide) (wM_in fl_X8_277) rfl dX8_count_237 ?_
      obtain ⟨r23, hy22, hf⟩ := ob_e hf
      refine xiO h (va_runV (As := []) (rest := []) hC (c_X0_stuckBits l G (sh 8 q) (sh 8 v) hy22 H.size) (xcwV hC lk_X8_368 in_X0 co_X0_stuckBits im_X0_stuckBits se_X0_stuckBits rfl rfl dd_X0_stuckBits ⟨Nat.le_of_ble_eq_true rfl, Nat.le_of_ble_eq_true rfl⟩) (preVO h.o 8 4 sBC_8 (Nat.le_of_ble_eq_true rfl) (Nat.le_of_ble_eq_true rfl) eBC_8 rfl []) rfl rfl hl.1 rfl (lv_room (Nat.le_of_ble_eq_true rfl)) dX8_count_240 ⟨Nat.zero_le _, Nat.zero_le _⟩) (fun H locs h => ?_)
      have hf := sm_e hf
      exact oiret hC hr hlk h (by rw [← hf]) dX8_count_243
    have hf := it_f c21 hf
    by_cases c24 : p1 = 13
    · have hf := it_t c24 hf
      refine lv_tableIn (off := 222) (tgt := 244) hx hb dX8_count_22 (by rw [c24]; decide) (by rw [c24]; decide) (by rw [c24]; decide) (by decide) ?_
      refine lv_aload_n hx hb dX8_count_244 rfl (lv_at hl 0 rfl) ?_
      refine xget hC h.o (C := RX8) (T := TX8) (N := 10) (wM_us uw_X8) 0 (Nat.le_of_ble_eq_true rfl) eBC_0 rfl 0 (by decide) (wM_in fl_X8_10) rfl dX8_count_245 ?_
      refine xget hC h.o (C := RX6) (T := TX6) (N := 13) (wM_us uw_X6) 7 (Nat.le_of_ble_eq_true rfl) eBC_7 rfl 0 (by decide) (wM_in fl_X8_277) rfl dX8_count_248 ?_
      refine xget hC h.o (C := RX0) (T := TX0) (N := 4) (wM_us uw_X0) 8 (Nat.le_of_ble_eq_true rfl) eBC_8 rfl 3 (by decide) (wM_in fl_X8_371) rfl dX8_count_251 ?_
      refine xiO h (va_runS (As := [.int (v 8 3)]) (rest := []) hC (k_J6_bitCount_0f7a4 l G q v (v 8 3) H.size) (xcwS hC lk_X8_374 in_J6 co_J6_bitCount_0f7a4 st_J6_bitCount_0f7a4 rfl rfl dd_J6_bitCount_0f7a4 ⟨Nat.le_of_ble_eq_true rfl, Nat.le_of_ble_eq_true rfl⟩) (preSN h.o [.int (v 8 3)]) rfl rfl hl.1 rfl (lv_room (Nat.le_of_ble_eq_true rfl)) dX8_count_254 ⟨Nat.zero_le _, Nat.zero_le _⟩) (fun H locs h => ?_)
      have hf := sm_e hf
      exact oiret hC hr hlk h (by rw [← hf]) dX8_count_257
    have hf := it_f c24 hf
    by_cases c25 : p1 = 14
    · have hf := it_t c25 hf
      refine lv_tableIn (off := 236) (tgt := 258) hx hb dX8_count_22 (by rw [c25]; decide) (by rw [c25]; decide) (by rw [c25]; decide) (by decide) ?_
      refine lv_aload_n hx hb dX8_count_258 rfl (lv_at hl 0 rfl) ?_
      refine xget hC h.o (C := RX8) (T := TX8) (N := 10) (wM_us uw_X8) 0 (Nat.le_of_ble_eq_true rfl) eBC_0 rfl 0 (by decide) (wM_in fl_X8_10) rfl dX8_count_259 ?_
      refine xget hC h.o (C := RX6) (T := TX6) (N := 13) (wM_us uw_X6) 7 (Nat.le_of_ble_eq_true rfl) eBC_7 rfl 12 (by decide) (wM_in fl_X8_379) rfl dX8_count_262 ?_
      have hf := sm_e hf
      exact oiret hC hr hlk h (by rw [← hf]) dX8_count_265
    have hf := it_f c25 hf
    refine lv_tableOut (tgt := 266) hx hb dX8_count_22 (by have := xne (k := 0) (by decide) c3; have := xne (k := 1) (by decide) c4; have := xne (k := 2) (by decide) c6; have := xne (k := 3) (by decide) c8; have := xne (k := 4) (by decide) c9; have := xne (k := 5) (by decide) c10; have := xne (k := 6) (by decide) c13; have := xne (k := 7) (by decide) c16; have := xne (k := 8) (by decide) c17; have := xne (k := 9) (by decide) c18; have := xne (k := 10) (by decide) c19; have := xne (k := 11) (by decide) c20; have := xne (k := 12) (by decide) c21; have := xne (k := 13) (by decide) c24; have := xne (k := 14) (by decide) c25; omega) (by decide) ?_
    refine lv_aload_n hx hb dX8_count_266 rfl (lv_at hl 0 rfl) ?_
    refine xget hC h.o (C := RX8) (T := TX8) (N := 10) (wM_us uw_X8) 0 (Nat.le_of_ble_eq_true rfl) eBC_0 rfl 5 (by decide) (wM_in fl_X8_30) rfl dX8_count_267 ?_
    have hf := sm_e hf
    exact oiret hC hr hlk h (by rw [← hf]) dX8_count_270
  · have hf := it_t c2 hf
    cases hf
def m_X8_setting_n (v : xSt) (p1 : Int32) : Option (Int32 × xSt) := (if (xwi p1 0 4) = 0 then none else ob (m_X6_settingOf (sh 7 v) p1) (fun r4 => some (r4, v)))
set_option maxHeartbeats 4000000 in
set_option maxRecDepth 100000 in
theorem c_X8_setting_n (l : Launch) (G : xGl) (sa q : Nat → Nat) (v : xSt) (p1 : Int32) {z : (Int32 × xSt)} (hf : m_X8_setting_n v p1 = some z) : mRS l yX8_setting (wM yX8_setting cX8_setting 2 (some .int)) { frames := 2, cells := 0, slots := 0, locals := 42 } G sa (eBC G) 430 q v [.ref (q 0), .int p1] (qI z.1) z.2 0 0 := by
  refine xRS (cc := cX8_setting) (maxL := 2) (ret := (some .int)) (by decide) rfl (Nat.le_of_ble_eq_true rfl) ?_
  intro p e s m below meth c ls A hC hr hlk h hT hl
  have hx := hC.1
  have hb := hC.2.1
  have hl : lv_has ls 2 [(0, .ref (q 0)), (1, .int p1)] := hl
  unfold m_X8_setting_n at hf
  obtain ⟨H, hH⟩ : ∃ H, H = s.heap := ⟨_, rfl⟩
  obtain ⟨locs, hlo⟩ : ∃ x : List Loc, x = [] := ⟨_, rfl⟩
  have h : hg G (eBC G) 430 q v A s H locs := by rw [hH, hlo]; exact h
  rw [← hlo, ← hH]
  clear hH hlo
  refine lv_iload_n hx hb dX8_setting_0 rfl (lv_at hl 1 rfl) ?_
  refine xzT h (va_runS (As := [.int p1]) (rest := []) hC (k_X8_isSetting l G sa q v p1 H.size) (xcwS hC lk_X8_216 in_X8 co_X8_isSetting st_X8_isSetting rfl rfl dd_X8_isSetting ⟨Nat.le_of_ble_eq_true rfl, Nat.le_of_ble_eq_true rfl⟩) (preST h hT [.int p1]) rfl rfl hl.1 rfl (lv_room (Nat.le_of_ble_eq_true rfl)) dX8_setting_1 ⟨Nat.zero_le _, Nat.zero_le _⟩) (fun H locs hz1 h => ?_)
  refine lv_if_ne (tgt := 17) hx hb dX8_setting_4 (by decide) (fun c2 => ?_) (fun c2 => ?_)
  · have hf := it_f c2 hf
    refine lv_aload_n hx hb dX8_setting_17 rfl (lv_at hl 0 rfl) ?_
    refine xget hC h.o (C := RX8) (T := TX8) (N := 10) (wM_us uw_X8) 0 (Nat.le_of_ble_eq_true rfl) eBC_0 rfl 0 (by decide) (wM_in fl_X8_10) rfl dX8_setting_18 ?_
    refine lv_iload_n hx hb dX8_setting_21 rfl (lv_at hl 1 rfl) ?_
    obtain ⟨r4, hy3, hf⟩ := ob_e hf
    refine xiG h (va_runV (As := [.int p1]) (rest := []) hC (c_X6_settingOf l G (sh 7 q) (sh 7 v) p1 hy3 H.size) (xcwV hC lk_X8_112 in_X6 co_X6_settingOf im_X6_settingOf se_X6_settingOf rfl rfl dd_X6_settingOf ⟨Nat.le_of_ble_eq_true rfl, Nat.le_of_ble_eq_true rfl⟩) (preVO h.o 7 47 sBC_7 (Nat.le_of_ble_eq_true rfl) (Nat.le_of_ble_eq_true rfl) eBC_7 rfl [.int p1]) rfl rfl hl.1 rfl (lv_room (Nat.le_of_ble_eq_true rfl)) dX8_setting_22 ⟨Nat.zero_le _, Nat.zero_le _⟩) (fun H locs h => ?_)
    have hf := sm_e hf
    exact xiret hC hr hlk h (by rw [← hf]) (by rw [← hf]) dX8_setting_25
  · have hf := it_t c2 hf
    cases hf
def m_X8_why_n (v : xSt) (p1 : Int32) (p2 : Int32) : Option (Int32) := (if (xwi p1 (1 : Int32) (3 : Int32)) = 0 then none else ob (m_X8_isPlace p1 p2) (fun r4 => (if r4 = 0 then none else ob (m_X6_hindrance (sh 7 v) p1 p2) (fun r8 => some r8))))
set_option maxHeartbeats 4000000 in
set_option maxRecDepth 100000 in
theorem c_X8_why_n (l : Launch) (G : xGl) (q : Nat → Nat) (v : xSt) (p1 : Int32) (p2 : Int32) {z : (Int32)} (hf : m_X8_why_n v p1 p2 = some z) : mRO l yX8_why (wM yX8_why cX8_why 3 (some .int)) { frames := 3, cells := 0, slots := 0, locals := 65 } G (eBC G) 430 q v [.ref (q 0), .int p1, .int p2] (qI z) := by
  refine xRO (cc := cX8_why) (maxL := 3) (ret := (some .int)) (by decide) rfl (Nat.le_of_ble_eq_true rfl) ?_
  intro p e s m below meth c ls A hC hr hlk h hl
  have hx := hC.1
  have hb := hC.2.1
  have hl : lv_has ls 3 [(0, .ref (q 0)), (1, .int p1), (2, .int p2)] := hl
  unfold m_X8_why_n at hf
  obtain ⟨H, hH⟩ : ∃ H, H = s.heap := ⟨_, rfl⟩
  obtain ⟨locs, hlo⟩ : ∃ x : List Loc, x = [] := ⟨_, rfl⟩
  have h : ho G (eBC G) 430 q v A s H locs := by rw [hH, hlo]; exact h
  rw [← hlo, ← hH]
  clear hH hlo
  refine lv_iload_n hx hb dX8_why_0 rfl (lv_at hl 1 rfl) ?_
  refine lv_iconst (v := (1 : Int32)) hx hb dX8_why_1 (by decide) ?_
  refine lv_iconst (v := (3 : Int32)) hx hb dX8_why_2 (by decide) ?_
  refine xzO h (va_runS (As := [.int p1, .int (1 : Int32), .int (3 : Int32)]) (rest := []) hC (k_X8_isWithin l G q v p1 (1 : Int32) (3 : Int32) H.size) (xcwS hC lk_X8_69 in_X8 co_X8_isWithin st_X8_isWithin rfl rfl dd_X8_isWithin ⟨Nat.le_of_ble_eq_true rfl, Nat.le_of_ble_eq_true rfl⟩) (preSN h.o [.int p1, .int (1 : Int32), .int (3 : Int32)]) rfl rfl hl.1 rfl (lv_room (Nat.le_of_ble_eq_true rfl)) dX8_why_3 ⟨Nat.zero_le _, Nat.zero_le _⟩) (fun H locs hz1 h => ?_)
  refine lv_if_ne (tgt := 20) hx hb dX8_why_6 (by decide) (fun c2 => ?_) (fun c2 => ?_)
  · have hf := it_f c2 hf
    refine lv_iload_n hx hb dX8_why_20 rfl (lv_at hl 1 rfl) ?_
    refine lv_iload_n hx hb dX8_why_21 rfl (lv_at hl 2 rfl) ?_
    obtain ⟨r4, hy3, hf⟩ := ob_e hf
    refine xzO h (va_runS (As := [.int p1, .int p2]) (rest := []) hC (c_X8_isPlace l G q v p1 p2 hy3 H.size) (xcwS hC lk_X8_384 in_X8 co_X8_isPlace st_X8_isPlace rfl rfl dd_X8_isPlace ⟨Nat.le_of_ble_eq_true rfl, Nat.le_of_ble_eq_true rfl⟩) (preSN h.o [.int p1, .int p2]) rfl rfl hl.1 rfl (lv_room (Nat.le_of_ble_eq_true rfl)) dX8_why_22 ⟨Nat.zero_le _, Nat.zero_le _⟩) (fun H locs hz5 h => ?_)
    refine lv_if_ne (tgt := 39) hx hb dX8_why_25 (by decide) (fun c6 => ?_) (fun c6 => ?_)
    · have hf := it_f c6 hf
      refine lv_aload_n hx hb dX8_why_39 rfl (lv_at hl 0 rfl) ?_
      refine xget hC h.o (C := RX8) (T := TX8) (N := 10) (wM_us uw_X8) 0 (Nat.le_of_ble_eq_true rfl) eBC_0 rfl 0 (by decide) (wM_in fl_X8_10) rfl dX8_why_40 ?_
      refine lv_iload_n hx hb dX8_why_43 rfl (lv_at hl 1 rfl) ?_
      refine lv_iload_n hx hb dX8_why_44 rfl (lv_at hl 2 rfl) ?_
      obtain ⟨r8, hy7, hf⟩ := ob_e hf
      refine xiO h (va_runV (As := [.int p1, .int p2]) (rest := []) hC (c_X6_hindrance l G (sh 7 q) (sh 7 v) p1 p2 hy7 H.size) (xcwV hC lk_X8_102 in_X6 co_X6_hindrance im_X6_hindrance se_X6_hindrance rfl rfl dd_X6_hindrance ⟨Nat.le_of_ble_eq_true rfl, Nat.le_of_ble_eq_true rfl⟩) (preVO h.o 7 47 sBC_7 (Nat.le_of_ble_eq_true rfl) (Nat.le_of_ble_eq_true rfl) eBC_7 rfl [.int p1, .int p2]) rfl rfl hl.1 rfl (lv_room (Nat.le_of_ble_eq_true rfl)) dX8_why_45 ⟨Nat.zero_le _, Nat.zero_le _⟩) (fun H locs h => ?_)
      have hf := sm_e hf
      exact oiret hC hr hlk h (by rw [← hf]) dX8_why_48
    · have hf := it_t c6 hf
      cases hf
  · have hf := it_t c2 hf
    cases hf
def m_X8_misses_n (v : xSt) (p1 : Int32) : Option (Int32) := (if (xwi p1 0 255) = 0 then none else ob (m_X6_missesAt (sh 7 v) p1) (fun r4 => some r4))
set_option maxHeartbeats 4000000 in
set_option maxRecDepth 100000 in
theorem c_X8_misses_n (l : Launch) (G : xGl) (q : Nat → Nat) (v : xSt) (p1 : Int32) {z : (Int32)} (hf : m_X8_misses_n v p1 = some z) : mRO l yX8_misses (wM yX8_misses cX8_misses 2 (some .int)) { frames := 3, cells := 0, slots := 0, locals := 75 } G (eBC G) 430 q v [.ref (q 0), .int p1] (qI z) := by
  refine xRO (cc := cX8_misses) (maxL := 2) (ret := (some .int)) (by decide) rfl (Nat.le_of_ble_eq_true rfl) ?_
  intro p e s m below meth c ls A hC hr hlk h hl
  have hx := hC.1
  have hb := hC.2.1
  have hl : lv_has ls 2 [(0, .ref (q 0)), (1, .int p1)] := hl
  unfold m_X8_misses_n at hf
  obtain ⟨H, hH⟩ : ∃ H, H = s.heap := ⟨_, rfl⟩
  obtain ⟨locs, hlo⟩ : ∃ x : List Loc, x = [] := ⟨_, rfl⟩
  have h : ho G (eBC G) 430 q v A s H locs := by rw [hH, hlo]; exact h
  rw [← hlo, ← hH]
  clear hH hlo
  refine lv_iload_n hx hb dX8_misses_0 rfl (lv_at hl 1 rfl) ?_
  refine xzO h (va_runS (As := [.int p1]) (rest := []) hC (k_X8_isCell l G q v p1 H.size) (xcwS hC lk_X8_93 in_X8 co_X8_isCell st_X8_isCell rfl rfl dd_X8_isCell ⟨Nat.le_of_ble_eq_true rfl, Nat.le_of_ble_eq_true rfl⟩) (preSN h.o [.int p1]) rfl rfl hl.1 rfl (lv_room (Nat.le_of_ble_eq_true rfl)) dX8_misses_1 ⟨Nat.zero_le _, Nat.zero_le _⟩) (fun H locs hz1 h => ?_)
  refine lv_if_ne (tgt := 17) hx hb dX8_misses_4 (by decide) (fun c2 => ?_) (fun c2 => ?_)
  · have hf := it_f c2 hf
    refine lv_aload_n hx hb dX8_misses_17 rfl (lv_at hl 0 rfl) ?_
    refine xget hC h.o (C := RX8) (T := TX8) (N := 10) (wM_us uw_X8) 0 (Nat.le_of_ble_eq_true rfl) eBC_0 rfl 0 (by decide) (wM_in fl_X8_10) rfl dX8_misses_18 ?_
    refine lv_iload_n hx hb dX8_misses_21 rfl (lv_at hl 1 rfl) ?_
    obtain ⟨r4, hy3, hf⟩ := ob_e hf
    refine xiO h (va_runV (As := [.int p1]) (rest := []) hC (c_X6_missesAt l G (sh 7 q) (sh 7 v) p1 hy3 H.size) (xcwV hC lk_X8_390 in_X6 co_X6_missesAt im_X6_missesAt se_X6_missesAt rfl rfl dd_X6_missesAt ⟨Nat.le_of_ble_eq_true rfl, Nat.le_of_ble_eq_true rfl⟩) (preVO h.o 7 47 sBC_7 (Nat.le_of_ble_eq_true rfl) (Nat.le_of_ble_eq_true rfl) eBC_7 rfl [.int p1]) rfl rfl hl.1 rfl (lv_room (Nat.le_of_ble_eq_true rfl)) dX8_misses_22 ⟨Nat.zero_le _, Nat.zero_le _⟩) (fun H locs h => ?_)
    have hf := sm_e hf
    exact oiret hC hr hlk h (by rw [← hf]) dX8_misses_25
  · have hf := it_t c2 hf
    cases hf
def m_X8_arm_t (v : xSt) : Option (String × xSt) := ob (m_X6_isBusy (sh 7 v)) (fun r2 => (if r2 = 0 then none else some (xISE, v)))
set_option maxHeartbeats 4000000 in
set_option maxRecDepth 100000 in
theorem c_X8_arm_t (l : Launch) (hst : l.stackTraces = false) (G : xGl) (sa q : Nat → Nat) (v : xSt) {z : (String × xSt)} (hf : m_X8_arm_t v = some z) : mTH l yX8_arm (wM yX8_arm cX8_arm 2 (some .int)) { frames := 6, cells := 1, slots := 6, locals := 90 } G sa (eBC G) 430 q v [.ref (q 0)] z.2 z.1 := by
  refine xTH (cc := cX8_arm) (maxL := 2) (ret := (some .int)) (by decide) rfl (Nat.le_of_ble_eq_true rfl) ?_
  intro p e s m below meth c ls A hC ht hlk h hT hl
  have hx := hC.1
  have hb := hC.2.1
  have hl : lv_has ls 2 [(0, .ref (q 0))] := hl
  unfold m_X8_arm_t at hf
  obtain ⟨H, hH⟩ : ∃ H, H = s.heap := ⟨_, rfl⟩
  obtain ⟨locs, hlo⟩ : ∃ x : List Loc, x = [] := ⟨_, rfl⟩
  have h : hg G (eBC G) 430 q v A s H locs := by rw [hH, hlo]; exact h
  rw [← hlo, ← hH]
  clear hH hlo
  refine lv_aload_n hx hb dX8_arm_0 rfl (lv_at hl 0 rfl) ?_
  refine xget hC h.o (C := RX8) (T := TX8) (N := 10) (wM_us uw_X8) 0 (Nat.le_of_ble_eq_true rfl) eBC_0 rfl 0 (by decide) (wM_in fl_X8_10) rfl dX8_arm_1 ?_
  obtain ⟨r2, hy1, hf⟩ := ob_e hf
  refine xzG h (va_runV (As := []) (rest := []) hC (c_X6_isBusy l G (sh 7 q) (sh 7 v) hy1 H.size) (xcwV hC lk_X8_52 in_X6 co_X6_isBusy im_X6_isBusy se_X6_isBusy rfl rfl dd_X6_isBusy ⟨Nat.le_of_ble_eq_true rfl, Nat.le_of_ble_eq_true rfl⟩) (preVO h.o 7 47 sBC_7 (Nat.le_of_ble_eq_true rfl) (Nat.le_of_ble_eq_true rfl) eBC_7 rfl []) rfl rfl hl.1 rfl (lv_room (Nat.le_of_ble_eq_true rfl)) dX8_arm_4 ⟨Nat.zero_le _, Nat.zero_le _⟩) (fun H locs hz3 h => ?_)
  refine lv_if_eq (tgt := 20) hx hb dX8_arm_7 (by decide) (fun c4 => ?_) (fun c4 => ?_)
  · have hf := it_t c4 hf
    cases hf
  · have hf := it_f c4 hf
    have hf := sm_e hf
    subst hf
    exact xthr hC hst ht hlk h hT hl.1 (cls := xISE) (by decide) (text := "the chip is busy") (by decide) (wM_in ck_56) (wM_in in_xISE) (fun w hw => wM_in (at_xISE w hw)) ng_xISE ot_xISE (by decide +kernel) dX8_arm_10 dX8_arm_13 dX8_arm_14 dX8_arm_16 dX8_arm_19 ⟨Nat.le_of_ble_eq_true rfl, Nat.le_of_ble_eq_true rfl, Nat.le_refl _, Nat.le_refl _⟩
def m_X8_load_t (v : xSt) (p1 : Int32) : Option (String × xSt) := (if (xwi p1 (0 : Int32) (255 : Int32)) = 0 then some (xIAE, v) else (if (v 13 1) < (12 : Int32) then none else some (xISE, v)))
set_option maxHeartbeats 4000000 in
set_option maxRecDepth 100000 in
theorem c_X8_load_t (l : Launch) (hst : l.stackTraces = false) (G : xGl) (sa q : Nat → Nat) (v : xSt) (p1 : Int32) {z : (String × xSt)} (hf : m_X8_load_t v p1 = some z) : mTH l yX8_load (wM yX8_load cX8_load 2 (some .int)) { frames := 6, cells := 1, slots := 6, locals := 90 } G sa (eBC G) 430 q v [.ref (q 0), .int p1] z.2 z.1 := by
  refine xTH (cc := cX8_load) (maxL := 2) (ret := (some .int)) (by decide) rfl (Nat.le_of_ble_eq_true rfl) ?_
  intro p e s m below meth c ls A hC ht hlk h hT hl
  have hx := hC.1
  have hb := hC.2.1
  have hl : lv_has ls 2 [(0, .ref (q 0)), (1, .int p1)] := hl
  unfold m_X8_load_t at hf
  obtain ⟨H, hH⟩ : ∃ H, H = s.heap := ⟨_, rfl⟩
  obtain ⟨locs, hlo⟩ : ∃ x : List Loc, x = [] := ⟨_, rfl⟩
  have h : hg G (eBC G) 430 q v A s H locs := by rw [hH, hlo]; exact h
  rw [← hlo, ← hH]
  clear hH hlo
  refine lv_iload_n hx hb dX8_load_0 rfl (lv_at hl 1 rfl) ?_
  refine lv_iconst (v := (0 : Int32)) hx hb dX8_load_1 (by decide) ?_
  refine lv_sipush (v := (255 : Int32)) hx hb dX8_load_2 (by decide) ?_
  refine xzG h (va_runS (As := [.int p1, .int (0 : Int32), .int (255 : Int32)]) (rest := []) hC (k_X8_isWithin l G q v p1 (0 : Int32) (255 : Int32) H.size) (xcwS hC lk_X8_69 in_X8 co_X8_isWithin st_X8_isWithin rfl rfl dd_X8_isWithin ⟨Nat.le_of_ble_eq_true rfl, Nat.le_of_ble_eq_true rfl⟩) (preSN h.o [.int p1, .int (0 : Int32), .int (255 : Int32)]) rfl rfl hl.1 rfl (lv_room (Nat.le_of_ble_eq_true rfl)) dX8_load_5 ⟨Nat.zero_le _, Nat.zero_le _⟩) (fun H locs hz1 h => ?_)
  refine lv_if_ne (tgt := 21) hx hb dX8_load_8 (by decide) (fun c2 => ?_) (fun c2 => ?_)
  · have hf := it_f c2 hf
    refine lv_aload_n hx hb dX8_load_21 rfl (lv_at hl 0 rfl) ?_
    refine xget hC h.o (C := RX8) (T := TX8) (N := 10) (wM_us uw_X8) 0 (Nat.le_of_ble_eq_true rfl) eBC_0 rfl 0 (by decide) (wM_in fl_X8_10) rfl dX8_load_22 ?_
    refine xget hC h.o (C := RX6) (T := TX6) (N := 13) (wM_us uw_X6) 7 (Nat.le_of_ble_eq_true rfl) eBC_7 rfl 2 (by decide) (wM_in fl_X8_78) rfl dX8_load_25 ?_
    refine xget hC h.o (C := RX4) (T := TX4) (N := 2) (wM_us uw_X4) 13 (Nat.le_of_ble_eq_true rfl) eBC_13 rfl 1 (by decide) (wM_in fl_X8_82) rfl dX8_load_28 ?_
    refine lv_bipush (v := (12 : Int32)) hx hb dX8_load_31 (by decide) ?_
    refine lv_icmp_lt (tgt := 46) hx hb dX8_load_33 (by decide) (fun c3 => ?_) (fun c3 => ?_)
    · have hf := it_t c3 hf
      cases hf
    · have hf := it_f c3 hf
      have hf := sm_e hf
      subst hf
      exact xthr hC hst ht hlk h hT hl.1 (cls := xISE) (by decide) (text := "12 values are loaded") (by decide) (wM_in ck_56) (wM_in in_xISE) (fun w hw => wM_in (at_xISE w hw)) ng_xISE ot_xISE (by decide +kernel) dX8_load_36 dX8_load_39 dX8_load_40 dX8_load_42 dX8_load_45 ⟨Nat.le_of_ble_eq_true rfl, Nat.le_of_ble_eq_true rfl, Nat.le_refl _, Nat.le_refl _⟩
  · have hf := it_t c2 hf
    have hf := sm_e hf
    subst hf
    exact xthr hC hst ht hlk h hT hl.1 (cls := xIAE) (by decide) (text := "a value is 0 to 255") (by decide) (wM_in ck_73) (wM_in in_xIAE) (fun w hw => wM_in (at_xIAE w hw)) ng_xIAE ot_xIAE (by decide +kernel) dX8_load_11 dX8_load_14 dX8_load_15 dX8_load_17 dX8_load_20 ⟨Nat.le_of_ble_eq_true rfl, Nat.le_of_ble_eq_true rfl, Nat.le_refl _, Nat.le_refl _⟩
def m_X8_write_t (v : xSt) (p1 : Int32) : Option (String × xSt) := (if (xwi p1 0 255) = 0 then some (xIOB, v) else ob (m_X6_hindrance (sh 7 v) (1 : Int32) p1) (fun r4 => (if r4 = 0 then none else some (xISE, v))))
set_option maxHeartbeats 4000000 in
set_option maxRecDepth 100000 in
theorem c_X8_write_t (l : Launch) (hst : l.stackTraces = false) (G : xGl) (sa q : Nat → Nat) (v : xSt) (p1 : Int32) {z : (String × xSt)} (hf : m_X8_write_t v p1 = some z) : mTH l yX8_write (wM yX8_write cX8_write 2 (some .int)) { frames := 6, cells := 1, slots := 6, locals := 90 } G sa (eBC G) 430 q v [.ref (q 0), .int p1] z.2 z.1 := by
  refine xTH (cc := cX8_write) (maxL := 2) (ret := (some .int)) (by decide) rfl (Nat.le_of_ble_eq_true rfl) ?_
  intro p e s m below meth c ls A hC ht hlk h hT hl
  have hx := hC.1
  have hb := hC.2.1
  have hl : lv_has ls 2 [(0, .ref (q 0)), (1, .int p1)] := hl
  unfold m_X8_write_t at hf
  obtain ⟨H, hH⟩ : ∃ H, H = s.heap := ⟨_, rfl⟩
  obtain ⟨locs, hlo⟩ : ∃ x : List Loc, x = [] := ⟨_, rfl⟩
  have h : hg G (eBC G) 430 q v A s H locs := by rw [hH, hlo]; exact h
  rw [← hlo, ← hH]
  clear hH hlo
  refine lv_iload_n hx hb dX8_write_0 rfl (lv_at hl 1 rfl) ?_
  refine xzG h (va_runS (As := [.int p1]) (rest := []) hC (k_X8_isCell l G q v p1 H.size) (xcwS hC lk_X8_93 in_X8 co_X8_isCell st_X8_isCell rfl rfl dd_X8_isCell ⟨Nat.le_of_ble_eq_true rfl, Nat.le_of_ble_eq_true rfl⟩) (preSN h.o [.int p1]) rfl rfl hl.1 rfl (lv_room (Nat.le_of_ble_eq_true rfl)) dX8_write_1 ⟨Nat.zero_le _, Nat.zero_le _⟩) (fun H locs hz1 h => ?_)
  refine lv_if_ne (tgt := 17) hx hb dX8_write_4 (by decide) (fun c2 => ?_) (fun c2 => ?_)
  · have hf := it_f c2 hf
    refine lv_aload_n hx hb dX8_write_17 rfl (lv_at hl 0 rfl) ?_
    refine xget hC h.o (C := RX8) (T := TX8) (N := 10) (wM_us uw_X8) 0 (Nat.le_of_ble_eq_true rfl) eBC_0 rfl 0 (by decide) (wM_in fl_X8_10) rfl dX8_write_18 ?_
    refine lv_iconst (v := (1 : Int32)) hx hb dX8_write_21 (by decide) ?_
    refine lv_iload_n hx hb dX8_write_22 rfl (lv_at hl 1 rfl) ?_
    obtain ⟨r4, hy3, hf⟩ := ob_e hf
    refine xiG h (va_runV (As := [.int (1 : Int32), .int p1]) (rest := []) hC (c_X6_hindrance l G (sh 7 q) (sh 7 v) (1 : Int32) p1 hy3 H.size) (xcwV hC lk_X8_102 in_X6 co_X6_hindrance im_X6_hindrance se_X6_hindrance rfl rfl dd_X6_hindrance ⟨Nat.le_of_ble_eq_true rfl, Nat.le_of_ble_eq_true rfl⟩) (preVO h.o 7 47 sBC_7 (Nat.le_of_ble_eq_true rfl) (Nat.le_of_ble_eq_true rfl) eBC_7 rfl [.int (1 : Int32), .int p1]) rfl rfl hl.1 rfl (lv_room (Nat.le_of_ble_eq_true rfl)) dX8_write_23 ⟨Nat.zero_le _, Nat.zero_le _⟩) (fun H locs h => ?_)
    refine lv_if_eq (tgt := 39) hx hb dX8_write_26 (by decide) (fun c5 => ?_) (fun c5 => ?_)
    · have hf := it_t c5 hf
      cases hf
    · have hf := it_f c5 hf
      have hf := sm_e hf
      subst hf
      exact xthr hC hst ht hlk h hT hl.1 (cls := xISE) (by decide) (text := "the write can not be begun") (by decide) (wM_in ck_56) (wM_in in_xISE) (fun w hw => wM_in (at_xISE w hw)) ng_xISE ot_xISE (by decide +kernel) dX8_write_29 dX8_write_32 dX8_write_33 dX8_write_35 dX8_write_38 ⟨Nat.le_of_ble_eq_true rfl, Nat.le_of_ble_eq_true rfl, Nat.le_refl _, Nat.le_refl _⟩
  · have hf := it_t c2 hf
    have hf := sm_e hf
    subst hf
    exact xthr hC hst ht hlk h hT hl.1 (cls := xIOB) (by decide) (text := "no such cell") (by decide) (wM_in ck_97) (wM_in in_xIOB) (fun w hw => wM_in (at_xIOB w hw)) ng_xIOB ot_xIOB (by decide +kernel) dX8_write_7 dX8_write_10 dX8_write_11 dX8_write_13 dX8_write_16 ⟨Nat.le_of_ble_eq_true rfl, Nat.le_of_ble_eq_true rfl, Nat.le_refl _, Nat.le_refl _⟩
def m_X8_erase_t (v : xSt) (p1 : Int32) : Option (String × xSt) := (if (xwi p1 0 7) = 0 then some (xIOB, v) else ob (m_X6_hindrance (sh 7 v) (2 : Int32) p1) (fun r4 => (if r4 = 0 then none else some (xISE, v))))
set_option maxHeartbeats 4000000 in
set_option maxRecDepth 100000 in
theorem c_X8_erase_t (l : Launch) (hst : l.stackTraces = false) (G : xGl) (sa q : Nat → Nat) (v : xSt) (p1 : Int32) {z : (String × xSt)} (hf : m_X8_erase_t v p1 = some z) : mTH l yX8_erase (wM yX8_erase cX8_erase 2 (some .int)) { frames := 6, cells := 1, slots := 6, locals := 90 } G sa (eBC G) 430 q v [.ref (q 0), .int p1] z.2 z.1 := by
  refine xTH (cc := cX8_erase) (maxL := 2) (ret := (some .int)) (by decide) rfl (Nat.le_of_ble_eq_true rfl) ?_
  intro p e s m below meth c ls A hC ht hlk h hT hl
  have hx := hC.1
  have hb := hC.2.1
  have hl : lv_has ls 2 [(0, .ref (q 0)), (1, .int p1)] := hl
  unfold m_X8_erase_t at hf
  obtain ⟨H, hH⟩ : ∃ H, H = s.heap := ⟨_, rfl⟩
  obtain ⟨locs, hlo⟩ : ∃ x : List Loc, x = [] := ⟨_, rfl⟩
  have h : hg G (eBC G) 430 q v A s H locs := by rw [hH, hlo]; exact h
  rw [← hlo, ← hH]
  clear hH hlo
  refine lv_iload_n hx hb dX8_erase_0 rfl (lv_at hl 1 rfl) ?_
  refine xzG h (va_runS (As := [.int p1]) (rest := []) hC (k_X8_isSector l G q v p1 H.size) (xcwS hC lk_X8_126 in_X8 co_X8_isSector st_X8_isSector rfl rfl dd_X8_isSector ⟨Nat.le_of_ble_eq_true rfl, Nat.le_of_ble_eq_true rfl⟩) (preSN h.o [.int p1]) rfl rfl hl.1 rfl (lv_room (Nat.le_of_ble_eq_true rfl)) dX8_erase_1 ⟨Nat.zero_le _, Nat.zero_le _⟩) (fun H locs hz1 h => ?_)
  refine lv_if_ne (tgt := 17) hx hb dX8_erase_4 (by decide) (fun c2 => ?_) (fun c2 => ?_)
  · have hf := it_f c2 hf
    refine lv_aload_n hx hb dX8_erase_17 rfl (lv_at hl 0 rfl) ?_
    refine xget hC h.o (C := RX8) (T := TX8) (N := 10) (wM_us uw_X8) 0 (Nat.le_of_ble_eq_true rfl) eBC_0 rfl 0 (by decide) (wM_in fl_X8_10) rfl dX8_erase_18 ?_
    refine lv_iconst (v := (2 : Int32)) hx hb dX8_erase_21 (by decide) ?_
    refine lv_iload_n hx hb dX8_erase_22 rfl (lv_at hl 1 rfl) ?_
    obtain ⟨r4, hy3, hf⟩ := ob_e hf
    refine xiG h (va_runV (As := [.int (2 : Int32), .int p1]) (rest := []) hC (c_X6_hindrance l G (sh 7 q) (sh 7 v) (2 : Int32) p1 hy3 H.size) (xcwV hC lk_X8_102 in_X6 co_X6_hindrance im_X6_hindrance se_X6_hindrance rfl rfl dd_X6_hindrance ⟨Nat.le_of_ble_eq_true rfl, Nat.le_of_ble_eq_true rfl⟩) (preVO h.o 7 47 sBC_7 (Nat.le_of_ble_eq_true rfl) (Nat.le_of_ble_eq_true rfl) eBC_7 rfl [.int (2 : Int32), .int p1]) rfl rfl hl.1 rfl (lv_room (Nat.le_of_ble_eq_true rfl)) dX8_erase_23 ⟨Nat.zero_le _, Nat.zero_le _⟩) (fun H locs h => ?_)
    refine lv_if_eq (tgt := 39) hx hb dX8_erase_26 (by decide) (fun c5 => ?_) (fun c5 => ?_)
    · have hf := it_t c5 hf
      cases hf
    · have hf := it_f c5 hf
      have hf := sm_e hf
      subst hf
      exact xthr hC hst ht hlk h hT hl.1 (cls := xISE) (by decide) (text := "the erase can not be begun") (by decide) (wM_in ck_56) (wM_in in_xISE) (fun w hw => wM_in (at_xISE w hw)) ng_xISE ot_xISE (by decide +kernel) dX8_erase_29 dX8_erase_32 dX8_erase_33 dX8_erase_35 dX8_erase_38 ⟨Nat.le_of_ble_eq_true rfl, Nat.le_of_ble_eq_true rfl, Nat.le_refl _, Nat.le_refl _⟩
  · have hf := it_t c2 hf
    have hf := sm_e hf
    subst hf
    exact xthr hC hst ht hlk h hT hl.1 (cls := xIOB) (by decide) (text := "no such sector") (by decide) (wM_in ck_97) (wM_in in_xIOB) (fun w hw => wM_in (at_xIOB w hw)) ng_xIOB ot_xIOB (by decide +kernel) dX8_erase_7 dX8_erase_10 dX8_erase_11 dX8_erase_13 dX8_erase_16 ⟨Nat.le_of_ble_eq_true rfl, Nat.le_of_ble_eq_true rfl, Nat.le_refl _, Nat.le_refl _⟩
def m_X8_lock_t (v : xSt) (p1 : Int32) (p2 : Int32) : Option (String × xSt) := (if (xwi p1 (0 : Int32) (4 : Int32)) = 0 then some (xIAE, v) else (if (xwi p2 (0 : Int32) (1 : Int32)) = 0 then some (xIAE, v) else ob (m_X6_hindrance (sh 7 v) (3 : Int32) p1) (fun r6 => (if r6 = 0 then none else some (xISE, v)))))
set_option maxHeartbeats 4000000 in
set_option maxRecDepth 100000 in
theorem c_X8_lock_t (l : Launch) (hst : l.stackTraces = false) (G : xGl) (sa q : Nat → Nat) (v : xSt) (p1 : Int32) (p2 : Int32) {z : (String × xSt)} (hf : m_X8_lock_t v p1 p2 = some z) : mTH l yX8_lock (wM yX8_lock cX8_lock 3 (some .int)) { frames := 6, cells := 1, slots := 6, locals := 90 } G sa (eBC G) 430 q v [.ref (q 0), .int p1, .int p2] z.2 z.1 := by
  refine xTH (cc := cX8_lock) (maxL := 3) (ret := (some .int)) (by decide) rfl (Nat.le_of_ble_eq_true rfl) ?_
  intro p e s m below meth c ls A hC ht hlk h hT hl
  have hx := hC.1
  have hb := hC.2.1
  have hl : lv_has ls 3 [(0, .ref (q 0)), (1, .int p1), (2, .int p2)] := hl
  unfold m_X8_lock_t at hf
  obtain ⟨H, hH⟩ : ∃ H, H = s.heap := ⟨_, rfl⟩
  obtain ⟨locs, hlo⟩ : ∃ x : List Loc, x = [] := ⟨_, rfl⟩
  have h : hg G (eBC G) 430 q v A s H locs := by rw [hH, hlo]; exact h
  rw [← hlo, ← hH]
  clear hH hlo
  refine lv_iload_n hx hb dX8_lock_0 rfl (lv_at hl 1 rfl) ?_
  refine lv_iconst (v := (0 : Int32)) hx hb dX8_lock_1 (by decide) ?_
  refine lv_iconst (v := (4 : Int32)) hx hb dX8_lock_2 (by decide) ?_
  refine xzG h (va_runS (As := [.int p1, .int (0 : Int32), .int (4 : Int32)]) (rest := []) hC (k_X8_isWithin l G q v p1 (0 : Int32) (4 : Int32) H.size) (xcwS hC lk_X8_69 in_X8 co_X8_isWithin st_X8_isWithin rfl rfl dd_X8_isWithin ⟨Nat.le_of_ble_eq_true rfl, Nat.le_of_ble_eq_true rfl⟩) (preSN h.o [.int p1, .int (0 : Int32), .int (4 : Int32)]) rfl rfl hl.1 rfl (lv_room (Nat.le_of_ble_eq_true rfl)) dX8_lock_3 ⟨Nat.zero_le _, Nat.zero_le _⟩) (fun H locs hz1 h => ?_)
  refine lv_if_eq (tgt := 18) hx hb dX8_lock_6 (by decide) (fun c2 => ?_) (fun c2 => ?_)
  · have hf := it_t c2 hf
    have hf := sm_e hf
    subst hf
    exact xthr hC hst ht hlk h hT hl.1 (cls := xIAE) (by decide) (text := "a level is 0 to 4, a side 0 or 1") (by decide) (wM_in ck_73) (wM_in in_xIAE) (fun w hw => wM_in (at_xIAE w hw)) ng_xIAE ot_xIAE (by decide +kernel) dX8_lock_18 dX8_lock_21 dX8_lock_22 dX8_lock_24 dX8_lock_27 ⟨Nat.le_of_ble_eq_true rfl, Nat.le_of_ble_eq_true rfl, Nat.le_refl _, Nat.le_refl _⟩
  · have hf := it_f c2 hf
    refine lv_iload_n hx hb dX8_lock_9 rfl (lv_at hl 2 rfl) ?_
    refine lv_iconst (v := (0 : Int32)) hx hb dX8_lock_10 (by decide) ?_
    refine lv_iconst (v := (1 : Int32)) hx hb dX8_lock_11 (by decide) ?_
    refine xzG h (va_runS (As := [.int p2, .int (0 : Int32), .int (1 : Int32)]) (rest := []) hC (k_X8_isWithin l G q v p2 (0 : Int32) (1 : Int32) H.size) (xcwS hC lk_X8_69 in_X8 co_X8_isWithin st_X8_isWithin rfl rfl dd_X8_isWithin ⟨Nat.le_of_ble_eq_true rfl, Nat.le_of_ble_eq_true rfl⟩) (preSN h.o [.int p2, .int (0 : Int32), .int (1 : Int32)]) rfl rfl hl.1 rfl (lv_room (Nat.le_of_ble_eq_true rfl)) dX8_lock_12 ⟨Nat.zero_le _, Nat.zero_le _⟩) (fun H locs hz3 h => ?_)
    refine lv_if_ne (tgt := 28) hx hb dX8_lock_15 (by decide) (fun c4 => ?_) (fun c4 => ?_)
    · have hf := it_f c4 hf
      refine lv_aload_n hx hb dX8_lock_28 rfl (lv_at hl 0 rfl) ?_
      refine xget hC h.o (C := RX8) (T := TX8) (N := 10) (wM_us uw_X8) 0 (Nat.le_of_ble_eq_true rfl) eBC_0 rfl 0 (by decide) (wM_in fl_X8_10) rfl dX8_lock_29 ?_
      refine lv_iconst (v := (3 : Int32)) hx hb dX8_lock_32 (by decide) ?_
      refine lv_iload_n hx hb dX8_lock_33 rfl (lv_at hl 1 rfl) ?_
      obtain ⟨r6, hy5, hf⟩ := ob_e hf
      refine xiG h (va_runV (As := [.int (3 : Int32), .int p1]) (rest := []) hC (c_X6_hindrance l G (sh 7 q) (sh 7 v) (3 : Int32) p1 hy5 H.size) (xcwV hC lk_X8_102 in_X6 co_X6_hindrance im_X6_hindrance se_X6_hindrance rfl rfl dd_X6_hindrance ⟨Nat.le_of_ble_eq_true rfl, Nat.le_of_ble_eq_true rfl⟩) (preVO h.o 7 47 sBC_7 (Nat.le_of_ble_eq_true rfl) (Nat.le_of_ble_eq_true rfl) eBC_7 rfl [.int (3 : Int32), .int p1]) rfl rfl hl.1 rfl (lv_room (Nat.le_of_ble_eq_true rfl)) dX8_lock_34 ⟨Nat.zero_le _, Nat.zero_le _⟩) (fun H locs h => ?_)
      refine lv_if_eq (tgt := 50) hx hb dX8_lock_37 (by decide) (fun c7 => ?_) (fun c7 => ?_)
      · have hf := it_t c7 hf
        cases hf
      · have hf := it_f c7 hf
        have hf := sm_e hf
        subst hf
        exact xthr hC hst ht hlk h hT hl.1 (cls := xISE) (by decide) (text := "the change of the locks can not be begun") (by decide) (wM_in ck_56) (wM_in in_xISE) (fun w hw => wM_in (at_xISE w hw)) ng_xISE ot_xISE (by decide +kernel) dX8_lock_40 dX8_lock_43 dX8_lock_44 dX8_lock_46 dX8_lock_49 ⟨Nat.le_of_ble_eq_true rfl, Nat.le_of_ble_eq_true rfl, Nat.le_refl _, Nat.le_refl _⟩
    · have hf := it_t c4 hf
      have hf := sm_e hf
      subst hf
      exact xthr hC hst ht hlk h hT hl.1 (cls := xIAE) (by decide) (text := "a level is 0 to 4, a side 0 or 1") (by decide) (wM_in ck_73) (wM_in in_xIAE) (fun w hw => wM_in (at_xIAE w hw)) ng_xIAE ot_xIAE (by decide +kernel) dX8_lock_18 dX8_lock_21 dX8_lock_22 dX8_lock_24 dX8_lock_27 ⟨Nat.le_of_ble_eq_true rfl, Nat.le_of_ble_eq_true rfl, Nat.le_refl _, Nat.le_refl _⟩
def m_X8_freeze_t (v : xSt) : Option (String × xSt) := ob (m_X6_isBusy (sh 7 v)) (fun r2 => (if r2 = 0 then none else some (xISE, v)))
set_option maxHeartbeats 4000000 in
set_option maxRecDepth 100000 in
theorem c_X8_freeze_t (l : Launch) (hst : l.stackTraces = false) (G : xGl) (sa q : Nat → Nat) (v : xSt) {z : (String × xSt)} (hf : m_X8_freeze_t v = some z) : mTH l yX8_freeze (wM yX8_freeze cX8_freeze 2 (some .int)) { frames := 6, cells := 1, slots := 6, locals := 90 } G sa (eBC G) 430 q v [.ref (q 0)] z.2 z.1 := by
  refine xTH (cc := cX8_freeze) (maxL := 2) (ret := (some .int)) (by decide) rfl (Nat.le_of_ble_eq_true rfl) ?_
  intro p e s m below meth c ls A hC ht hlk h hT hl
  have hx := hC.1
  have hb := hC.2.1
  have hl : lv_has ls 2 [(0, .ref (q 0))] := hl
  unfold m_X8_freeze_t at hf
  obtain ⟨H, hH⟩ : ∃ H, H = s.heap := ⟨_, rfl⟩
  obtain ⟨locs, hlo⟩ : ∃ x : List Loc, x = [] := ⟨_, rfl⟩
  have h : hg G (eBC G) 430 q v A s H locs := by rw [hH, hlo]; exact h
  rw [← hlo, ← hH]
  clear hH hlo
  refine lv_aload_n hx hb dX8_freeze_0 rfl (lv_at hl 0 rfl) ?_
  refine xget hC h.o (C := RX8) (T := TX8) (N := 10) (wM_us uw_X8) 0 (Nat.le_of_ble_eq_true rfl) eBC_0 rfl 0 (by decide) (wM_in fl_X8_10) rfl dX8_freeze_1 ?_
  obtain ⟨r2, hy1, hf⟩ := ob_e hf
  refine xzG h (va_runV (As := []) (rest := []) hC (c_X6_isBusy l G (sh 7 q) (sh 7 v) hy1 H.size) (xcwV hC lk_X8_52 in_X6 co_X6_isBusy im_X6_isBusy se_X6_isBusy rfl rfl dd_X6_isBusy ⟨Nat.le_of_ble_eq_true rfl, Nat.le_of_ble_eq_true rfl⟩) (preVO h.o 7 47 sBC_7 (Nat.le_of_ble_eq_true rfl) (Nat.le_of_ble_eq_true rfl) eBC_7 rfl []) rfl rfl hl.1 rfl (lv_room (Nat.le_of_ble_eq_true rfl)) dX8_freeze_4 ⟨Nat.zero_le _, Nat.zero_le _⟩) (fun H locs hz3 h => ?_)
  refine lv_if_eq (tgt := 20) hx hb dX8_freeze_7 (by decide) (fun c4 => ?_) (fun c4 => ?_)
  · have hf := it_t c4 hf
    cases hf
  · have hf := it_f c4 hf
    have hf := sm_e hf
    subst hf
    exact xthr hC hst ht hlk h hT hl.1 (cls := xISE) (by decide) (text := "the chip is busy") (by decide) (wM_in ck_56) (wM_in in_xISE) (fun w hw => wM_in (at_xISE w hw)) ng_xISE ot_xISE (by decide +kernel) dX8_freeze_10 dX8_freeze_13 dX8_freeze_14 dX8_freeze_16 dX8_freeze_19 ⟨Nat.le_of_ble_eq_true rfl, Nat.le_of_ble_eq_true rfl, Nat.le_refl _, Nat.le_refl _⟩
def m_X8_suspend_t (v : xSt) : Option (String × xSt) := lt (fun (t1 : Int32) => (if t1 = 0 then some (xISE, v) else (if (v 18 0) = 0 then none else some (xISE, v)))) (fun j2 => lt (fun (_ : Unit) => j2 (1 : Int32)) (fun j5 => (if (v 15 0) = (1 : Int32) then j5 () else (if (v 15 0) = (2 : Int32) then j5 () else j2 (0 : Int32)))))
set_option maxHeartbeats 4000000 in
set_option maxRecDepth 100000 in
theorem c_X8_suspend_t (l : Launch) (hst : l.stackTraces = false) (G : xGl) (sa q : Nat → Nat) (v : xSt) {z : (String × xSt)} (hf : m_X8_suspend_t v = some z) : mTH l yX8_suspend (wM yX8_suspend cX8_suspend 2 (some .int)) { frames := 6, cells := 1, slots := 6, locals := 90 } G sa (eBC G) 430 q v [.ref (q 0)] z.2 z.1 := by
  refine xTH (cc := cX8_suspend) (maxL := 2) (ret := (some .int)) (by decide) rfl (Nat.le_of_ble_eq_true rfl) ?_
  intro p e s m below meth c ls A hC ht hlk h hT hl
  have hx := hC.1
  have hb := hC.2.1
  have hl : lv_has ls 2 [(0, .ref (q 0))] := hl
  unfold m_X8_suspend_t at hf
  obtain ⟨H, hH⟩ : ∃ H, H = s.heap := ⟨_, rfl⟩
  obtain ⟨locs, hlo⟩ : ∃ x : List Loc, x = [] := ⟨_, rfl⟩
  have h : hg G (eBC G) 430 q v A s H locs := by rw [hH, hlo]; exact h
  rw [← hlo, ← hH]
  clear hH hlo
  refine lv_aload_n hx hb dX8_suspend_0 rfl (lv_at hl 0 rfl) ?_
  refine xget hC h.o (C := RX8) (T := TX8) (N := 10) (wM_us uw_X8) 0 (Nat.le_of_ble_eq_true rfl) eBC_0 rfl 0 (by decide) (wM_in fl_X8_10) rfl dX8_suspend_1 ?_
  refine xget hC h.o (C := RX6) (T := TX6) (N := 13) (wM_us uw_X6) 7 (Nat.le_of_ble_eq_true rfl) eBC_7 rfl 3 (by decide) (wM_in fl_X8_108) rfl dX8_suspend_4 ?_
  refine xget hC h.o (C := RX7) (T := TX7) (N := 9) (wM_us uw_X7) 15 (Nat.le_of_ble_eq_true rfl) eBC_15 rfl 0 (by decide) (wM_in fl_X8_156) rfl dX8_suspend_7 ?_
  refine lv_iconst (v := (1 : Int32)) hx hb dX8_suspend_10 (by decide) ?_
  obtain ⟨j2, ej2, hf⟩ := lt_e hf
  have hj2 : ∀ (t1 : Int32) (H : Heap) (locs : List Loc), hg G (eBC G) 430 q v A s H locs → ∀ (ls : Array Slot), lv_has ls 2 [(0, .ref (q 0))] → j2 t1 = some z → W p l e { frames := 6, cells := 1, slots := 6, locals := 90 } s m [.ref (q 0)].toArray below meth c H locs 0 0 (xMT below G (eBC G) 430 q z.2 A z.1 [.ref (q 0)].toArray s) (F0 m 33 ls [.int t1]) := by
    intro t1 H locs h ls hl hf
    rw [ej2] at hf
    refine lv_istore_n (lv' := [(1, .int t1), (0, .ref (q 0))]) hx hb dX8_suspend_33 rfl hl (by decide) rfl (fun ls hl => ?_)
    refine lv_iload_n hx hb dX8_suspend_34 rfl (lv_at hl 0 rfl) ?_
    refine lv_if_eq (tgt := 51) hx hb dX8_suspend_35 (by decide) (fun c3 => ?_) (fun c3 => ?_)
    · have hf := it_t c3 hf
      have hf := sm_e hf
      subst hf
      exact xthr hC hst ht hlk h hT hl.1 (cls := xISE) (by decide) (text := "nothing can be set aside") (by decide) (wM_in ck_56) (wM_in in_xISE) (fun w hw => wM_in (at_xISE w hw)) ng_xISE ot_xISE (by decide +kernel) dX8_suspend_51 dX8_suspend_54 dX8_suspend_55 dX8_suspend_57 dX8_suspend_60 ⟨Nat.le_of_ble_eq_true rfl, Nat.le_of_ble_eq_true rfl, Nat.le_refl _, Nat.le_refl _⟩
    · have hf := it_f c3 hf
      refine lv_aload_n hx hb dX8_suspend_38 rfl (lv_at hl 1 rfl) ?_
      refine xget hC h.o (C := RX8) (T := TX8) (N := 10) (wM_us uw_X8) 0 (Nat.le_of_ble_eq_true rfl) eBC_0 rfl 0 (by decide) (wM_in fl_X8_10) rfl dX8_suspend_39 ?_
      refine xget hC h.o (C := RX6) (T := TX6) (N := 13) (wM_us uw_X6) 7 (Nat.le_of_ble_eq_true rfl) eBC_7 rfl 4 (by decide) (wM_in fl_X8_159) rfl dX8_suspend_42 ?_
      refine xget hC h.o (C := RX7) (T := TX7) (N := 9) (wM_us uw_X7) 18 (Nat.le_of_ble_eq_true rfl) eBC_18 rfl 0 (by decide) (wM_in fl_X8_156) rfl dX8_suspend_45 ?_
      refine lv_if_eq (tgt := 61) hx hb dX8_suspend_48 (by decide) (fun c4 => ?_) (fun c4 => ?_)
      · have hf := it_t c4 hf
        cases hf
      · have hf := it_f c4 hf
        have hf := sm_e hf
        subst hf
        exact xthr hC hst ht hlk h hT hl.1 (cls := xISE) (by decide) (text := "nothing can be set aside") (by decide) (wM_in ck_56) (wM_in in_xISE) (fun w hw => wM_in (at_xISE w hw)) ng_xISE ot_xISE (by decide +kernel) dX8_suspend_51 dX8_suspend_54 dX8_suspend_55 dX8_suspend_57 dX8_suspend_60 ⟨Nat.le_of_ble_eq_true rfl, Nat.le_of_ble_eq_true rfl, Nat.le_refl _, Nat.le_refl _⟩
  obtain ⟨j5, ej5, hf⟩ := lt_e hf
  have hj5 : ∀ (uu : Unit) (H : Heap) (locs : List Loc), hg G (eBC G) 430 q v A s H locs → ∀ (ls : Array Slot), lv_has ls 2 [(0, .ref (q 0))] → j5 uu = some z → W p l e { frames := 6, cells := 1, slots := 6, locals := 90 } s m [.ref (q 0)].toArray below meth c H locs 0 0 (xMT below G (eBC G) 430 q z.2 A z.1 [.ref (q 0)].toArray s) (F0 m 28 ls []) := by
    intro uu H locs h ls hl hf
    rw [ej5] at hf
    refine lv_iconst (v := (1 : Int32)) hx hb dX8_suspend_28 (by decide) ?_
    refine lv_goto (tgt := 33) hx hb dX8_suspend_29 (by decide) ?_
    exact hj2 (1 : Int32) H locs h ls (lv_sub hl [0] rfl) hf
  refine lv_icmp_eq (tgt := 28) hx hb dX8_suspend_11 (by decide) (fun c6 => ?_) (fun c6 => ?_)
  · have hf := it_t c6 hf
    exact hj5 () H locs h ls (lv_sub hl [0] rfl) hf
  · have hf := it_f c6 hf
    refine lv_aload_n hx hb dX8_suspend_14 rfl (lv_at hl 0 rfl) ?_
    refine xget hC h.o (C := RX8) (T := TX8) (N := 10) (wM_us uw_X8) 0 (Nat.le_of_ble_eq_true rfl) eBC_0 rfl 0 (by decide) (wM_in fl_X8_10) rfl dX8_suspend_15 ?_
    refine xget hC h.o (C := RX6) (T := TX6) (N := 13) (wM_us uw_X6) 7 (Nat.le_of_ble_eq_true rfl) eBC_7 rfl 3 (by decide) (wM_in fl_X8_108) rfl dX8_suspend_18 ?_
    refine xget hC h.o (C := RX7) (T := TX7) (N := 9) (wM_us uw_X7) 15 (Nat.le_of_ble_eq_true rfl) eBC_15 rfl 0 (by decide) (wM_in fl_X8_156) rfl dX8_suspend_21 ?_
    refine lv_iconst (v := (2 : Int32)) hx hb dX8_suspend_24 (by decide) ?_
    refine lv_icmp_ne (tgt := 32) hx hb dX8_suspend_25 (by decide) (fun c7 => ?_) (fun c7 => ?_)
    · have hf := it_f c7 hf
      refine lv_iconst (v := (0 : Int32)) hx hb dX8_suspend_32 (by decide) ?_
      exact hj2 (0 : Int32) H locs h ls (lv_sub hl [0] rfl) hf
    · have hf := it_t c7 hf
      exact hj5 () H locs h ls (lv_sub hl [0] rfl) hf
def m_X8_resume_t (v : xSt) : Option (String × xSt) := (if (v 18 0) = 0 then some (xISE, v) else ob (m_X6_isBusy (sh 7 v)) (fun r3 => (if r3 = 0 then none else some (xISE, v))))
set_option maxHeartbeats 4000000 in
set_option maxRecDepth 100000 in
theorem c_X8_resume_t (l : Launch) (hst : l.stackTraces = false) (G : xGl) (sa q : Nat → Nat) (v : xSt) {z : (String × xSt)} (hf : m_X8_resume_t v = some z) : mTH l yX8_resume (wM yX8_resume cX8_resume 1 (some .int)) { frames := 6, cells := 1, slots := 6, locals := 90 } G sa (eBC G) 430 q v [.ref (q 0)] z.2 z.1 := by
  refine xTH (cc := cX8_resume) (maxL := 1) (ret := (some .int)) (by decide) rfl (Nat.le_of_ble_eq_true rfl) ?_
  intro p e s m below meth c ls A hC ht hlk h hT hl
  have hx := hC.1
  have hb := hC.2.1
  have hl : lv_has ls 1 [(0, .ref (q 0))] := hl
  unfold m_X8_resume_t at hf
  obtain ⟨H, hH⟩ : ∃ H, H = s.heap := ⟨_, rfl⟩
  obtain ⟨locs, hlo⟩ : ∃ x : List Loc, x = [] := ⟨_, rfl⟩
  have h : hg G (eBC G) 430 q v A s H locs := by rw [hH, hlo]; exact h
  rw [← hlo, ← hH]
  clear hH hlo
  refine lv_aload_n hx hb dX8_resume_0 rfl (lv_at hl 0 rfl) ?_
  refine xget hC h.o (C := RX8) (T := TX8) (N := 10) (wM_us uw_X8) 0 (Nat.le_of_ble_eq_true rfl) eBC_0 rfl 0 (by decide) (wM_in fl_X8_10) rfl dX8_resume_1 ?_
  refine xget hC h.o (C := RX6) (T := TX6) (N := 13) (wM_us uw_X6) 7 (Nat.le_of_ble_eq_true rfl) eBC_7 rfl 4 (by decide) (wM_in fl_X8_159) rfl dX8_resume_4 ?_
  refine xget hC h.o (C := RX7) (T := TX7) (N := 9) (wM_us uw_X7) 18 (Nat.le_of_ble_eq_true rfl) eBC_18 rfl 0 (by decide) (wM_in fl_X8_156) rfl dX8_resume_7 ?_
  refine lv_if_eq (tgt := 23) hx hb dX8_resume_10 (by decide) (fun c1 => ?_) (fun c1 => ?_)
  · have hf := it_t c1 hf
    have hf := sm_e hf
    subst hf
    exact xthr hC hst ht hlk h hT hl.1 (cls := xISE) (by decide) (text := "nothing can go on") (by decide) (wM_in ck_56) (wM_in in_xISE) (fun w hw => wM_in (at_xISE w hw)) ng_xISE ot_xISE (by decide +kernel) dX8_resume_23 dX8_resume_26 dX8_resume_27 dX8_resume_29 dX8_resume_32 ⟨Nat.le_of_ble_eq_true rfl, Nat.le_of_ble_eq_true rfl, Nat.le_refl _, Nat.le_refl _⟩
  · have hf := it_f c1 hf
    refine lv_aload_n hx hb dX8_resume_13 rfl (lv_at hl 0 rfl) ?_
    refine xget hC h.o (C := RX8) (T := TX8) (N := 10) (wM_us uw_X8) 0 (Nat.le_of_ble_eq_true rfl) eBC_0 rfl 0 (by decide) (wM_in fl_X8_10) rfl dX8_resume_14 ?_
    obtain ⟨r3, hy2, hf⟩ := ob_e hf
    refine xzG h (va_runV (As := []) (rest := []) hC (c_X6_isBusy l G (sh 7 q) (sh 7 v) hy2 H.size) (xcwV hC lk_X8_52 in_X6 co_X6_isBusy im_X6_isBusy se_X6_isBusy rfl rfl dd_X6_isBusy ⟨Nat.le_of_ble_eq_true rfl, Nat.le_of_ble_eq_true rfl⟩) (preVO h.o 7 47 sBC_7 (Nat.le_of_ble_eq_true rfl) (Nat.le_of_ble_eq_true rfl) eBC_7 rfl []) rfl rfl hl.1 rfl (lv_room (Nat.le_of_ble_eq_true rfl)) dX8_resume_17 ⟨Nat.zero_le _, Nat.zero_le _⟩) (fun H locs hz4 h => ?_)
    refine lv_if_eq (tgt := 33) hx hb dX8_resume_20 (by decide) (fun c5 => ?_) (fun c5 => ?_)
    · have hf := it_t c5 hf
      cases hf
    · have hf := it_f c5 hf
      have hf := sm_e hf
      subst hf
      exact xthr hC hst ht hlk h hT hl.1 (cls := xISE) (by decide) (text := "nothing can go on") (by decide) (wM_in ck_56) (wM_in in_xISE) (fun w hw => wM_in (at_xISE w hw)) ng_xISE ot_xISE (by decide +kernel) dX8_resume_23 dX8_resume_26 dX8_resume_27 dX8_resume_29 dX8_resume_32 ⟨Nat.le_of_ble_eq_true rfl, Nat.le_of_ble_eq_true rfl, Nat.le_refl _, Nat.le_refl _⟩
def m_X8_post_t (v : xSt) (p1 : Int32) (p2 : Int32) (p3 : Int32) : Option (String × xSt) := (if (xwi p1 (0 : Int32) (1 : Int32)) = 0 then some (xIAE, v) else (if (xwi p3 (0 : Int32) (9 : Int32)) = 0 then some (xIAE, v) else lt (fun (_ : Unit) => ob (m_X1_isFull (sh 21 v)) (fun r7 => (if r7 = 0 then (if p1 = 0 then (if (v 13 1) = 0 then some (xISE, v) else none) else none) else some (xISE, v)))) (fun j5 => (if p1 = 0 then (if (xwi p2 0 255) = 0 then some (xIOB, v) else j5 ()) else (if (xwi p2 0 7) = 0 then some (xIOB, v) else j5 ())))))
set_option maxHeartbeats 4000000 in
set_option maxRecDepth 100000 in
theorem c_X8_post_t (l : Launch) (hst : l.stackTraces = false) (G : xGl) (sa q : Nat → Nat) (v : xSt) (p1 : Int32) (p2 : Int32) (p3 : Int32) {z : (String × xSt)} (hf : m_X8_post_t v p1 p2 p3 = some z) : mTH l yX8_post (wM yX8_post cX8_post 5 (some .int)) { frames := 6, cells := 1, slots := 6, locals := 90 } G sa (eBC G) 430 q v [.ref (q 0), .int p1, .int p2, .int p3] z.2 z.1 := by
  refine xTH (cc := cX8_post) (maxL := 5) (ret := (some .int)) (by decide) rfl (Nat.le_of_ble_eq_true rfl) ?_
  intro p e s m below meth c ls A hC ht hlk h hT hl
  have hx := hC.1
  have hb := hC.2.1
  have hl : lv_has ls 5 [(0, .ref (q 0)), (1, .int p1), (2, .int p2), (3, .int p3)] := hl
  unfold m_X8_post_t at hf
  obtain ⟨H, hH⟩ : ∃ H, H = s.heap := ⟨_, rfl⟩
  obtain ⟨locs, hlo⟩ : ∃ x : List Loc, x = [] := ⟨_, rfl⟩
  have h : hg G (eBC G) 430 q v A s H locs := by rw [hH, hlo]; exact h
  rw [← hlo, ← hH]
  clear hH hlo
  refine lv_iload_n hx hb dX8_post_0 rfl (lv_at hl 1 rfl) ?_
  refine lv_iconst (v := (0 : Int32)) hx hb dX8_post_1 (by decide) ?_
  refine lv_iconst (v := (1 : Int32)) hx hb dX8_post_2 (by decide) ?_
  refine xzG h (va_runS (As := [.int p1, .int (0 : Int32), .int (1 : Int32)]) (rest := []) hC (k_X8_isWithin l G q v p1 (0 : Int32) (1 : Int32) H.size) (xcwS hC lk_X8_69 in_X8 co_X8_isWithin st_X8_isWithin rfl rfl dd_X8_isWithin ⟨Nat.le_of_ble_eq_true rfl, Nat.le_of_ble_eq_true rfl⟩) (preSN h.o [.int p1, .int (0 : Int32), .int (1 : Int32)]) rfl rfl hl.1 rfl (lv_room (Nat.le_of_ble_eq_true rfl)) dX8_post_3 ⟨Nat.zero_le _, Nat.zero_le _⟩) (fun H locs hz1 h => ?_)
  refine lv_if_eq (tgt := 19) hx hb dX8_post_6 (by decide) (fun c2 => ?_) (fun c2 => ?_)
  · have hf := it_t c2 hf
    have hf := sm_e hf
    subst hf
    exact xthr hC hst ht hlk h hT hl.1 (cls := xIAE) (by decide) (text := "a kind is 0 or 1, an urgency 0 to 9") (by decide) (wM_in ck_73) (wM_in in_xIAE) (fun w hw => wM_in (at_xIAE w hw)) ng_xIAE ot_xIAE (by decide +kernel) dX8_post_19 dX8_post_22 dX8_post_23 dX8_post_25 dX8_post_28 ⟨Nat.le_of_ble_eq_true rfl, Nat.le_of_ble_eq_true rfl, Nat.le_refl _, Nat.le_refl _⟩
  · have hf := it_f c2 hf
    refine lv_iload_n hx hb dX8_post_9 rfl (lv_at hl 3 rfl) ?_
    refine lv_iconst (v := (0 : Int32)) hx hb dX8_post_10 (by decide) ?_
    refine lv_bipush (v := (9 : Int32)) hx hb dX8_post_11 (by decide) ?_
    refine xzG h (va_runS (As := [.int p3, .int (0 : Int32), .int (9 : Int32)]) (rest := []) hC (k_X8_isWithin l G q v p3 (0 : Int32) (9 : Int32) H.size) (xcwS hC lk_X8_69 in_X8 co_X8_isWithin st_X8_isWithin rfl rfl dd_X8_isWithin ⟨Nat.le_of_ble_eq_true rfl, Nat.le_of_ble_eq_true rfl⟩) (preSN h.o [.int p3, .int (0 : Int32), .int (9 : Int32)]) rfl rfl hl.1 rfl (lv_room (Nat.le_of_ble_eq_true rfl)) dX8_post_13 ⟨Nat.zero_le _, Nat.zero_le _⟩) (fun H locs hz3 h => ?_)
    refine lv_if_ne (tgt := 29) hx hb dX8_post_16 (by decide) (fun c4 => ?_) (fun c4 => ?_)
    · have hf := it_f c4 hf
      refine lv_iload_n hx hb dX8_post_29 rfl (lv_at hl 1 rfl) ?_
      obtain ⟨j5, ej5, hf⟩ := lt_e hf
      have hj5 : ∀ (uu : Unit) (H : Heap) (locs : List Loc), hg G (eBC G) 430 q v A s H locs → ∀ (ls : Array Slot), lv_has ls 5 [(0, .ref (q 0)), (1, .int p1)] → j5 uu = some z → W p l e { frames := 6, cells := 1, slots := 6, locals := 90 } s m [.ref (q 0), .int p1, .int p2, .int p3].toArray below meth c H locs 0 0 (xMT below G (eBC G) 430 q z.2 A z.1 [.ref (q 0), .int p1, .int p2, .int p3].toArray s) (F0 m 60 ls []) := by
        intro uu H locs h ls hl hf
        rw [ej5] at hf
        refine lv_aload_n hx hb dX8_post_60 rfl (lv_at hl 0 rfl) ?_
        refine xget hC h.o (C := RX8) (T := TX8) (N := 10) (wM_us uw_X8) 0 (Nat.le_of_ble_eq_true rfl) eBC_0 rfl 0 (by decide) (wM_in fl_X8_10) rfl dX8_post_61 ?_
        refine xget hC h.o (C := RX6) (T := TX6) (N := 13) (wM_us uw_X6) 7 (Nat.le_of_ble_eq_true rfl) eBC_7 rfl 5 (by decide) (wM_in fl_X8_180) rfl dX8_post_64 ?_
        obtain ⟨r7, hy6, hf⟩ := ob_e hf
        refine xzG h (va_runV (As := []) (rest := []) hC (c_X1_isFull l G (sh 21 q) (sh 21 v) hy6 H.size) (xcwV hC lk_X8_184 in_X1 co_X1_isFull im_X1_isFull se_X1_isFull rfl rfl dd_X1_isFull ⟨Nat.le_of_ble_eq_true rfl, Nat.le_of_ble_eq_true rfl⟩) (preVO h.o 21 32 sBC_21 (Nat.le_of_ble_eq_true rfl) (Nat.le_of_ble_eq_true rfl) eBC_21 rfl []) rfl rfl hl.1 rfl (lv_room (Nat.le_of_ble_eq_true rfl)) dX8_post_67 ⟨Nat.zero_le _, Nat.zero_le _⟩) (fun H locs hz8 h => ?_)
        refine lv_if_ne (tgt := 90) hx hb dX8_post_70 (by decide) (fun c9 => ?_) (fun c9 => ?_)
        · have hf := it_f c9 hf
          have hf := sm_e hf
          subst hf
          exact xthr hC hst ht hlk h hT hl.1 (cls := xISE) (by decide) (text := "10 orders wait, or nothing is loaded") (by decide) (wM_in ck_56) (wM_in in_xISE) (fun w hw => wM_in (at_xISE w hw)) ng_xISE ot_xISE (by decide +kernel) dX8_post_90 dX8_post_93 dX8_post_94 dX8_post_96 dX8_post_99 ⟨Nat.le_of_ble_eq_true rfl, Nat.le_of_ble_eq_true rfl, Nat.le_refl _, Nat.le_refl _⟩
        · have hf := it_t c9 hf
          refine lv_iload_n hx hb dX8_post_73 rfl (lv_at hl 1 rfl) ?_
          refine lv_if_ne (tgt := 100) hx hb dX8_post_74 (by decide) (fun c10 => ?_) (fun c10 => ?_)
          · have hf := it_f c10 hf
            cases hf
          · have hf := it_t c10 hf
            refine lv_aload_n hx hb dX8_post_77 rfl (lv_at hl 0 rfl) ?_
            refine xget hC h.o (C := RX8) (T := TX8) (N := 10) (wM_us uw_X8) 0 (Nat.le_of_ble_eq_true rfl) eBC_0 rfl 0 (by decide) (wM_in fl_X8_10) rfl dX8_post_78 ?_
            refine xget hC h.o (C := RX6) (T := TX6) (N := 13) (wM_us uw_X6) 7 (Nat.le_of_ble_eq_true rfl) eBC_7 rfl 2 (by decide) (wM_in fl_X8_78) rfl dX8_post_81 ?_
            refine xget hC h.o (C := RX4) (T := TX4) (N := 2) (wM_us uw_X4) 13 (Nat.le_of_ble_eq_true rfl) eBC_13 rfl 1 (by decide) (wM_in fl_X8_82) rfl dX8_post_84 ?_
            refine lv_if_ne (tgt := 100) hx hb dX8_post_87 (by decide) (fun c11 => ?_) (fun c11 => ?_)
            · have hf := it_f c11 hf
              cases hf
            · have hf := it_t c11 hf
              have hf := sm_e hf
              subst hf
              exact xthr hC hst ht hlk h hT hl.1 (cls := xISE) (by decide) (text := "10 orders wait, or nothing is loaded") (by decide) (wM_in ck_56) (wM_in in_xISE) (fun w hw => wM_in (at_xISE w hw)) ng_xISE ot_xISE (by decide +kernel) dX8_post_90 dX8_post_93 dX8_post_94 dX8_post_96 dX8_post_99 ⟨Nat.le_of_ble_eq_true rfl, Nat.le_of_ble_eq_true rfl, Nat.le_refl _, Nat.le_refl _⟩
      refine lv_if_ne (tgt := 43) hx hb dX8_post_30 (by decide) (fun c12 => ?_) (fun c12 => ?_)
      · have hf := it_f c12 hf
        refine lv_iload_n hx hb dX8_post_43 rfl (lv_at hl 2 rfl) ?_
        refine xzG h (va_runS (As := [.int p2]) (rest := []) hC (k_X8_isSector l G q v p2 H.size) (xcwS hC lk_X8_126 in_X8 co_X8_isSector st_X8_isSector rfl rfl dd_X8_isSector ⟨Nat.le_of_ble_eq_true rfl, Nat.le_of_ble_eq_true rfl⟩) (preSN h.o [.int p2]) rfl rfl hl.1 rfl (lv_room (Nat.le_of_ble_eq_true rfl)) dX8_post_44 ⟨Nat.zero_le _, Nat.zero_le _⟩) (fun H locs hz13 h => ?_)
        refine lv_if_ne (tgt := 60) hx hb dX8_post_47 (by decide) (fun c14 => ?_) (fun c14 => ?_)
        · have hf := it_f c14 hf
          exact hj5 () H locs h ls (lv_sub hl [0, 1] rfl) hf
        · have hf := it_t c14 hf
          have hf := sm_e hf
          subst hf
          exact xthr hC hst ht hlk h hT hl.1 (cls := xIOB) (by decide) (text := "no such cell or sector") (by decide) (wM_in ck_97) (wM_in in_xIOB) (fun w hw => wM_in (at_xIOB w hw)) ng_xIOB ot_xIOB (by decide +kernel) dX8_post_50 dX8_post_53 dX8_post_54 dX8_post_56 dX8_post_59 ⟨Nat.le_of_ble_eq_true rfl, Nat.le_of_ble_eq_true rfl, Nat.le_refl _, Nat.le_refl _⟩
      · have hf := it_t c12 hf
        refine lv_iload_n hx hb dX8_post_33 rfl (lv_at hl 2 rfl) ?_
        refine xzG h (va_runS (As := [.int p2]) (rest := []) hC (k_X8_isCell l G q v p2 H.size) (xcwS hC lk_X8_93 in_X8 co_X8_isCell st_X8_isCell rfl rfl dd_X8_isCell ⟨Nat.le_of_ble_eq_true rfl, Nat.le_of_ble_eq_true rfl⟩) (preSN h.o [.int p2]) rfl rfl hl.1 rfl (lv_room (Nat.le_of_ble_eq_true rfl)) dX8_post_34 ⟨Nat.zero_le _, Nat.zero_le _⟩) (fun H locs hz15 h => ?_)
        refine lv_if_ne (tgt := 60) hx hb dX8_post_37 (by decide) (fun c16 => ?_) (fun c16 => ?_)
        · have hf := it_f c16 hf
          exact hj5 () H locs h ls (lv_sub hl [0, 1] rfl) hf
        · have hf := it_t c16 hf
          refine lv_goto (tgt := 50) hx hb dX8_post_40 (by decide) ?_
          have hf := sm_e hf
          subst hf
          exact xthr hC hst ht hlk h hT hl.1 (cls := xIOB) (by decide) (text := "no such cell or sector") (by decide) (wM_in ck_97) (wM_in in_xIOB) (fun w hw => wM_in (at_xIOB w hw)) ng_xIOB ot_xIOB (by decide +kernel) dX8_post_50 dX8_post_53 dX8_post_54 dX8_post_56 dX8_post_59 ⟨Nat.le_of_ble_eq_true rfl, Nat.le_of_ble_eq_true rfl, Nat.le_refl _, Nat.le_refl _⟩
    · have hf := it_t c4 hf
      have hf := sm_e hf
      subst hf
      exact xthr hC hst ht hlk h hT hl.1 (cls := xIAE) (by decide) (text := "a kind is 0 or 1, an urgency 0 to 9") (by decide) (wM_in ck_73) (wM_in in_xIAE) (fun w hw => wM_in (at_xIAE w hw)) ng_xIAE ot_xIAE (by decide +kernel) dX8_post_19 dX8_post_22 dX8_post_23 dX8_post_25 dX8_post_28 ⟨Nat.le_of_ble_eq_true rfl, Nat.le_of_ble_eq_true rfl, Nat.le_refl _, Nat.le_refl _⟩
def m_X8_withdraw_t (v : xSt) (p1 : Int32) : Option (String × xSt) := ob (m_X1_rankOf (sh 21 v) p1) (fun r2 => (if r2 = (-1 : Int32) then some (xIOB, v) else none))
set_option maxHeartbeats 4000000 in
set_option maxRecDepth 100000 in
theorem c_X8_withdraw_t (l : Launch) (hst : l.stackTraces = false) (G : xGl) (sa q : Nat → Nat) (v : xSt) (p1 : Int32) {z : (String × xSt)} (hf : m_X8_withdraw_t v p1 = some z) : mTH l yX8_withdraw (wM yX8_withdraw cX8_withdraw 3 (some .int)) { frames := 6, cells := 1, slots := 6, locals := 90 } G sa (eBC G) 430 q v [.ref (q 0), .int p1] z.2 z.1 := by
  refine xTH (cc := cX8_withdraw) (maxL := 3) (ret := (some .int)) (by decide) rfl (Nat.le_of_ble_eq_true rfl) ?_
  intro p e s m below meth c ls A hC ht hlk h hT hl
  have hx := hC.1
  have hb := hC.2.1
  have hl : lv_has ls 3 [(0, .ref (q 0)), (1, .int p1)] := hl
  unfold m_X8_withdraw_t at hf
  obtain ⟨H, hH⟩ : ∃ H, H = s.heap := ⟨_, rfl⟩
  obtain ⟨locs, hlo⟩ : ∃ x : List Loc, x = [] := ⟨_, rfl⟩
  have h : hg G (eBC G) 430 q v A s H locs := by rw [hH, hlo]; exact h
  rw [← hlo, ← hH]
  clear hH hlo
  refine lv_aload_n hx hb dX8_withdraw_0 rfl (lv_at hl 0 rfl) ?_
  refine xget hC h.o (C := RX8) (T := TX8) (N := 10) (wM_us uw_X8) 0 (Nat.le_of_ble_eq_true rfl) eBC_0 rfl 0 (by decide) (wM_in fl_X8_10) rfl dX8_withdraw_1 ?_
  refine xget hC h.o (C := RX6) (T := TX6) (N := 13) (wM_us uw_X6) 7 (Nat.le_of_ble_eq_true rfl) eBC_7 rfl 5 (by decide) (wM_in fl_X8_180) rfl dX8_withdraw_4 ?_
  refine lv_iload_n hx hb dX8_withdraw_7 rfl (lv_at hl 1 rfl) ?_
  obtain ⟨r2, hy1, hf⟩ := ob_e hf
  refine xiG h (va_runV (As := [.int p1]) (rest := []) hC (c_X1_rankOf l G (sh 21 q) (sh 21 v) p1 hy1 H.size) (xcwV hC lk_X8_202 in_X1 co_X1_rankOf im_X1_rankOf se_X1_rankOf rfl rfl dd_X1_rankOf ⟨Nat.le_of_ble_eq_true rfl, Nat.le_of_ble_eq_true rfl⟩) (preVO h.o 21 32 sBC_21 (Nat.le_of_ble_eq_true rfl) (Nat.le_of_ble_eq_true rfl) eBC_21 rfl [.int p1]) rfl rfl hl.1 rfl (lv_room (Nat.le_of_ble_eq_true rfl)) dX8_withdraw_8 ⟨Nat.zero_le _, Nat.zero_le _⟩) (fun H locs h => ?_)
  refine lv_istore_n (lv' := [(2, .int r2), (0, .ref (q 0)), (1, .int p1)]) hx hb dX8_withdraw_11 rfl hl (by decide) rfl (fun ls hl => ?_)
  refine lv_iload_n hx hb dX8_withdraw_12 rfl (lv_at hl 0 rfl) ?_
  refine lv_iconst (v := (-1 : Int32)) hx hb dX8_withdraw_13 (by decide) ?_
  refine lv_icmp_ne (tgt := 27) hx hb dX8_withdraw_14 (by decide) (fun c3 => ?_) (fun c3 => ?_)
  · have hf := it_f c3 hf
    cases hf
  · have hf := it_t c3 hf
    have hf := sm_e hf
    subst hf
    exact xthr hC hst ht hlk h hT hl.1 (cls := xIOB) (by decide) (text := "no order with this number waits") (by decide) (wM_in ck_97) (wM_in in_xIOB) (fun w hw => wM_in (at_xIOB w hw)) ng_xIOB ot_xIOB (by decide +kernel) dX8_withdraw_17 dX8_withdraw_20 dX8_withdraw_21 dX8_withdraw_23 dX8_withdraw_26 ⟨Nat.le_of_ble_eq_true rfl, Nat.le_of_ble_eq_true rfl, Nat.le_refl _, Nat.le_refl _⟩
def m_X8_pass_t (v : xSt) (p1 : Int32) : Option (String × xSt) := (if (xwi p1 (1 : Int32) (200 : Int32)) = 0 then some (xIAE, v) else none)
set_option maxHeartbeats 4000000 in
set_option maxRecDepth 100000 in
theorem c_X8_pass_t (l : Launch) (hst : l.stackTraces = false) (G : xGl) (sa q : Nat → Nat) (v : xSt) (p1 : Int32) {z : (String × xSt)} (hf : m_X8_pass_t v p1 = some z) : mTH l yX8_pass (wM yX8_pass cX8_pass 4 (some .int)) { frames := 6, cells := 1, slots := 6, locals := 90 } G sa (eBC G) 430 q v [.ref (q 0), .int p1] z.2 z.1 := by
  refine xTH (cc := cX8_pass) (maxL := 4) (ret := (some .int)) (by decide) rfl (Nat.le_of_ble_eq_true rfl) ?_
  intro p e s m below meth c ls A hC ht hlk h hT hl
  have hx := hC.1
  have hb := hC.2.1
  have hl : lv_has ls 4 [(0, .ref (q 0)), (1, .int p1)] := hl
  unfold m_X8_pass_t at hf
  obtain ⟨H, hH⟩ : ∃ H, H = s.heap := ⟨_, rfl⟩
  obtain ⟨locs, hlo⟩ : ∃ x : List Loc, x = [] := ⟨_, rfl⟩
  have h : hg G (eBC G) 430 q v A s H locs := by rw [hH, hlo]; exact h
  rw [← hlo, ← hH]
  clear hH hlo
  refine lv_iload_n hx hb dX8_pass_0 rfl (lv_at hl 1 rfl) ?_
  refine lv_iconst (v := (1 : Int32)) hx hb dX8_pass_1 (by decide) ?_
  refine lv_sipush (v := (200 : Int32)) hx hb dX8_pass_2 (by decide) ?_
  refine xzG h (va_runS (As := [.int p1, .int (1 : Int32), .int (200 : Int32)]) (rest := []) hC (k_X8_isWithin l G q v p1 (1 : Int32) (200 : Int32) H.size) (xcwS hC lk_X8_69 in_X8 co_X8_isWithin st_X8_isWithin rfl rfl dd_X8_isWithin ⟨Nat.le_of_ble_eq_true rfl, Nat.le_of_ble_eq_true rfl⟩) (preSN h.o [.int p1, .int (1 : Int32), .int (200 : Int32)]) rfl rfl hl.1 rfl (lv_room (Nat.le_of_ble_eq_true rfl)) dX8_pass_5 ⟨Nat.zero_le _, Nat.zero_le _⟩) (fun H locs hz1 h => ?_)
  refine lv_if_ne (tgt := 21) hx hb dX8_pass_8 (by decide) (fun c2 => ?_) (fun c2 => ?_)
  · have hf := it_f c2 hf
    cases hf
  · have hf := it_t c2 hf
    have hf := sm_e hf
    subst hf
    exact xthr hC hst ht hlk h hT hl.1 (cls := xIAE) (by decide) (text := "ticks are 1 to 200") (by decide) (wM_in ck_73) (wM_in in_xIAE) (fun w hw => wM_in (at_xIAE w hw)) ng_xIAE ot_xIAE (by decide +kernel) dX8_pass_11 dX8_pass_14 dX8_pass_15 dX8_pass_17 dX8_pass_20 ⟨Nat.le_of_ble_eq_true rfl, Nat.le_of_ble_eq_true rfl, Nat.le_refl _, Nat.le_refl _⟩
def m_X8_set_t (v : xSt) (p1 : Int32) (p2 : Int32) : Option (String × xSt) := (if (xwi p1 0 4) = 0 then some (xIOB, v) else (if (xwi p2 (xat 5 (xsv 1) p1) (xat 5 (xsv 2) p1)) = 0 then some (xIAE, v) else none))
set_option maxHeartbeats 4000000 in
set_option maxRecDepth 100000 in
theorem c_X8_set_t (l : Launch) (hst : l.stackTraces = false) (G : xGl) (sa q : Nat → Nat) (v : xSt) (p1 : Int32) (p2 : Int32) {z : (String × xSt)} (hf : m_X8_set_t v p1 p2 = some z) : mTH l yX8_set (wM yX8_set cX8_set 4 (some .int)) { frames := 6, cells := 1, slots := 6, locals := 90 } G sa (eBC G) 430 q v [.ref (q 0), .int p1, .int p2] z.2 z.1 := by
  refine xTH (cc := cX8_set) (maxL := 4) (ret := (some .int)) (by decide) rfl (Nat.le_of_ble_eq_true rfl) ?_
  intro p e s m below meth c ls A hC ht hlk h hT hl
  have hx := hC.1
  have hb := hC.2.1
  have hl : lv_has ls 4 [(0, .ref (q 0)), (1, .int p1), (2, .int p2)] := hl
  unfold m_X8_set_t at hf
  obtain ⟨H, hH⟩ : ∃ H, H = s.heap := ⟨_, rfl⟩
  obtain ⟨locs, hlo⟩ : ∃ x : List Loc, x = [] := ⟨_, rfl⟩
  have h : hg G (eBC G) 430 q v A s H locs := by rw [hH, hlo]; exact h
  rw [← hlo, ← hH]
  clear hH hlo
  refine lv_iload_n hx hb dX8_set_0 rfl (lv_at hl 1 rfl) ?_
  refine xzT h (va_runS (As := [.int p1]) (rest := []) hC (k_X8_isSetting l G sa q v p1 H.size) (xcwS hC lk_X8_216 in_X8 co_X8_isSetting st_X8_isSetting rfl rfl dd_X8_isSetting ⟨Nat.le_of_ble_eq_true rfl, Nat.le_of_ble_eq_true rfl⟩) (preST h hT [.int p1]) rfl rfl hl.1 rfl (lv_room (Nat.le_of_ble_eq_true rfl)) dX8_set_1 ⟨Nat.zero_le _, Nat.zero_le _⟩) (fun H locs hz1 h => ?_)
  refine lv_if_ne (tgt := 17) hx hb dX8_set_4 (by decide) (fun c2 => ?_) (fun c2 => ?_)
  · have hf := it_f c2 hf
    refine lv_iload_n hx hb dX8_set_17 rfl (lv_at hl 2 rfl) ?_
    refine xgs hC h hT 1 (by decide) (wM_in fl_X8_221) dX8_set_18 ?_
    refine lv_iload_n hx hb dX8_set_21 rfl (lv_at hl 1 rfl) ?_
    refine xiG h (va_runS (As := [.ref (sa 1), .int p1]) (rest := [.int p2]) hC (k_X8_at_tb l G q (sa 1) (xsv 1) p1 H.size) (xcwS hC lk_X8_224 in_X8 co_X8_at st_X8_at rfl rfl dd_X8_at ⟨Nat.le_of_ble_eq_true rfl, Nat.le_of_ble_eq_true rfl⟩) (preSA h hT 1 (by decide) [.ref (sa 1), .int p1]) rfl rfl hl.1 rfl (lv_room (Nat.le_of_ble_eq_true rfl)) dX8_set_22 ⟨Nat.zero_le _, Nat.zero_le _⟩) (fun H locs h => ?_)
    refine lv_nm (z := (xat 5 (xsv 1) p1)) rfl ?_
    refine xgs hC h hT 2 (by decide) (wM_in fl_X8_228) dX8_set_25 ?_
    refine lv_iload_n hx hb dX8_set_28 rfl (lv_at hl 1 rfl) ?_
    refine xiG h (va_runS (As := [.ref (sa 2), .int p1]) (rest := [.int (xat 5 (xsv 1) p1), .int p2]) hC (k_X8_at_tb l G q (sa 2) (xsv 2) p1 H.size) (xcwS hC lk_X8_224 in_X8 co_X8_at st_X8_at rfl rfl dd_X8_at ⟨Nat.le_of_ble_eq_true rfl, Nat.le_of_ble_eq_true rfl⟩) (preSA h hT 2 (by decide) [.ref (sa 2), .int p1]) rfl rfl hl.1 rfl (lv_room (Nat.le_of_ble_eq_true rfl)) dX8_set_29 ⟨Nat.zero_le _, Nat.zero_le _⟩) (fun H locs h => ?_)
    refine lv_nm (z := (xat 5 (xsv 2) p1)) rfl ?_
    refine xzG h (va_runS (As := [.int p2, .int (xat 5 (xsv 1) p1), .int (xat 5 (xsv 2) p1)]) (rest := []) hC (k_X8_isWithin l G q v p2 (xat 5 (xsv 1) p1) (xat 5 (xsv 2) p1) H.size) (xcwS hC lk_X8_69 in_X8 co_X8_isWithin st_X8_isWithin rfl rfl dd_X8_isWithin ⟨Nat.le_of_ble_eq_true rfl, Nat.le_of_ble_eq_true rfl⟩) (preSN h.o [.int p2, .int (xat 5 (xsv 1) p1), .int (xat 5 (xsv 2) p1)]) rfl rfl hl.1 rfl (lv_room (Nat.le_of_ble_eq_true rfl)) dX8_set_32 ⟨Nat.zero_le _, Nat.zero_le _⟩) (fun H locs hz3 h => ?_)
    refine lv_if_ne (tgt := 48) hx hb dX8_set_35 (by decide) (fun c4 => ?_) (fun c4 => ?_)
    · have hf := it_f c4 hf
      cases hf
    · have hf := it_t c4 hf
      have hf := sm_e hf
      subst hf
      exact xthr hC hst ht hlk h hT hl.1 (cls := xIAE) (by decide) (text := "the value is out of range") (by decide) (wM_in ck_73) (wM_in in_xIAE) (fun w hw => wM_in (at_xIAE w hw)) ng_xIAE ot_xIAE (by decide +kernel) dX8_set_38 dX8_set_41 dX8_set_42 dX8_set_44 dX8_set_47 ⟨Nat.le_of_ble_eq_true rfl, Nat.le_of_ble_eq_true rfl, Nat.le_refl _, Nat.le_refl _⟩
  · have hf := it_t c2 hf
    have hf := sm_e hf
    subst hf
    exact xthr hC hst ht hlk h hT hl.1 (cls := xIOB) (by decide) (text := "no such setting") (by decide) (wM_in ck_97) (wM_in in_xIOB) (fun w hw => wM_in (at_xIOB w hw)) ng_xIOB ot_xIOB (by decide +kernel) dX8_set_7 dX8_set_10 dX8_set_11 dX8_set_13 dX8_set_16 ⟨Nat.le_of_ble_eq_true rfl, Nat.le_of_ble_eq_true rfl, Nat.le_refl _, Nat.le_refl _⟩
def m_X8_append_t (v : xSt) (p1 : Int32) : Option (String × xSt) := (if (xwi p1 (33 : Int32) (126 : Int32)) = 0 then some (xIAE, v) else (if (xwi (v 0 7) (0 : Int32) ((60 : Int32) - (1 : Int32))) = 0 then some (xISE, v) else none))
set_option maxHeartbeats 4000000 in
set_option maxRecDepth 100000 in
theorem c_X8_append_t (l : Launch) (hst : l.stackTraces = false) (G : xGl) (sa q : Nat → Nat) (v : xSt) (p1 : Int32) {z : (String × xSt)} (hf : m_X8_append_t v p1 = some z) : mTH l yX8_append (wM yX8_append cX8_append 2 (some .int)) { frames := 6, cells := 1, slots := 6, locals := 90 } G sa (eBC G) 430 q v [.ref (q 0), .int p1] z.2 z.1 := by
  refine xTH (cc := cX8_append) (maxL := 2) (ret := (some .int)) (by decide) rfl (Nat.le_of_ble_eq_true rfl) ?_
  intro p e s m below meth c ls A hC ht hlk h hT hl
  have hx := hC.1
  have hb := hC.2.1
  have hl : lv_has ls 2 [(0, .ref (q 0)), (1, .int p1)] := hl
  unfold m_X8_append_t at hf
  obtain ⟨H, hH⟩ : ∃ H, H = s.heap := ⟨_, rfl⟩
  obtain ⟨locs, hlo⟩ : ∃ x : List Loc, x = [] := ⟨_, rfl⟩
  have h : hg G (eBC G) 430 q v A s H locs := by rw [hH, hlo]; exact h
  rw [← hlo, ← hH]
  clear hH hlo
  refine lv_iload_n hx hb dX8_append_0 rfl (lv_at hl 1 rfl) ?_
  refine lv_bipush (v := (33 : Int32)) hx hb dX8_append_1 (by decide) ?_
  refine lv_bipush (v := (126 : Int32)) hx hb dX8_append_3 (by decide) ?_
  refine xzG h (va_runS (As := [.int p1, .int (33 : Int32), .int (126 : Int32)]) (rest := []) hC (k_X8_isWithin l G q v p1 (33 : Int32) (126 : Int32) H.size) (xcwS hC lk_X8_69 in_X8 co_X8_isWithin st_X8_isWithin rfl rfl dd_X8_isWithin ⟨Nat.le_of_ble_eq_true rfl, Nat.le_of_ble_eq_true rfl⟩) (preSN h.o [.int p1, .int (33 : Int32), .int (126 : Int32)]) rfl rfl hl.1 rfl (lv_room (Nat.le_of_ble_eq_true rfl)) dX8_append_5 ⟨Nat.zero_le _, Nat.zero_le _⟩) (fun H locs hz1 h => ?_)
  refine lv_if_ne (tgt := 21) hx hb dX8_append_8 (by decide) (fun c2 => ?_) (fun c2 => ?_)
  · have hf := it_f c2 hf
    refine lv_aload_n hx hb dX8_append_21 rfl (lv_at hl 0 rfl) ?_
    refine xget hC h.o (C := RX8) (T := TX8) (N := 10) (wM_us uw_X8) 0 (Nat.le_of_ble_eq_true rfl) eBC_0 rfl 7 (by decide) (wM_in fl_X8_38) rfl dX8_append_22 ?_
    refine lv_iconst (v := (0 : Int32)) hx hb dX8_append_25 (by decide) ?_
    refine lv_aload_n hx hb dX8_append_26 rfl (lv_at hl 0 rfl) ?_
    refine xget hC h.o (C := RX8) (T := TX8) (N := 10) (wM_us uw_X8) 0 (Nat.le_of_ble_eq_true rfl) eBC_0 rfl 6 (by decide) (wM_in fl_X8_34) rfl dX8_append_27 ?_
    refine xalen hC h.o 1 rfl 2 (Nat.le_of_ble_eq_true rfl) eBC_2 (z := (60 : Int32)) rfl dX8_append_30 ?_
    refine lv_iconst (v := (1 : Int32)) hx hb dX8_append_31 (by decide) ?_
    refine lv_isub hx hb dX8_append_32 ?_
    refine xzG h (va_runS (As := [.int (v 0 7), .int (0 : Int32), .int ((60 : Int32) - (1 : Int32))]) (rest := []) hC (k_X8_isWithin l G q v (v 0 7) (0 : Int32) ((60 : Int32) - (1 : Int32)) H.size) (xcwS hC lk_X8_69 in_X8 co_X8_isWithin st_X8_isWithin rfl rfl dd_X8_isWithin ⟨Nat.le_of_ble_eq_true rfl, Nat.le_of_ble_eq_true rfl⟩) (preSN h.o [.int (v 0 7), .int (0 : Int32), .int ((60 : Int32) - (1 : Int32))]) rfl rfl hl.1 rfl (lv_room (Nat.le_of_ble_eq_true rfl)) dX8_append_33 ⟨Nat.zero_le _, Nat.zero_le _⟩) (fun H locs hz3 h => ?_)
    refine lv_if_ne (tgt := 49) hx hb dX8_append_36 (by decide) (fun c4 => ?_) (fun c4 => ?_)
    · have hf := it_f c4 hf
      cases hf
    · have hf := it_t c4 hf
      have hf := sm_e hf
      subst hf
      exact xthr hC hst ht hlk h hT hl.1 (cls := xISE) (by decide) (text := "the buffer has 60 characters") (by decide) (wM_in ck_56) (wM_in in_xISE) (fun w hw => wM_in (at_xISE w hw)) ng_xISE ot_xISE (by decide +kernel) dX8_append_39 dX8_append_42 dX8_append_43 dX8_append_45 dX8_append_48 ⟨Nat.le_of_ble_eq_true rfl, Nat.le_of_ble_eq_true rfl, Nat.le_refl _, Nat.le_refl _⟩
  · have hf := it_t c2 hf
    have hf := sm_e hf
    subst hf
    exact xthr hC hst ht hlk h hT hl.1 (cls := xIAE) (by decide) (text := "a code is 33 to 126") (by decide) (wM_in ck_73) (wM_in in_xIAE) (fun w hw => wM_in (at_xIAE w hw)) ng_xIAE ot_xIAE (by decide +kernel) dX8_append_11 dX8_append_14 dX8_append_15 dX8_append_17 dX8_append_20 ⟨Nat.le_of_ble_eq_true rfl, Nat.le_of_ble_eq_true rfl, Nat.le_refl _, Nat.le_refl _⟩
def m_X8_obey_t (v : xSt) : Option (String × xSt) := ob (m_X8_firstError v) (fun r2 => lt (r2.2) (fun v3 => (if r2.1 < (v3 0 7) then some (xIAE, v3) else ob (m_X5_isComplete (sh 3 v3)) (fun r6 => (if r6 = 0 then some (xIAE, v3) else none)))))
set_option maxHeartbeats 4000000 in
set_option maxRecDepth 100000 in
theorem c_X8_obey_t (l : Launch) (hst : l.stackTraces = false) (G : xGl) (sa q : Nat → Nat) (v : xSt) {z : (String × xSt)} (hf : m_X8_obey_t v = some z) : mTH l yX8_obey (wM yX8_obey cX8_obey 5 (some .int)) { frames := 6, cells := 1, slots := 6, locals := 106 } G sa (eBC G) 430 q v [.ref (q 0)] z.2 z.1 := by
  refine xTH (cc := cX8_obey) (maxL := 5) (ret := (some .int)) (by decide) rfl (Nat.le_of_ble_eq_true rfl) ?_
  intro p e s m below meth c ls A hC ht hlk h hT hl
  have hx := hC.1
  have hb := hC.2.1
  have hl : lv_has ls 5 [(0, .ref (q 0))] := hl
  unfold m_X8_obey_t at hf
  obtain ⟨H, hH⟩ : ∃ H, H = s.heap := ⟨_, rfl⟩
  obtain ⟨locs, hlo⟩ : ∃ x : List Loc, x = [] := ⟨_, rfl⟩
  have h : hg G (eBC G) 430 q v A s H locs := by rw [hH, hlo]; exact h
  rw [← hlo, ← hH]
  clear hH hlo
  refine lv_aload_n hx hb dX8_obey_0 rfl (lv_at hl 0 rfl) ?_
  obtain ⟨r2, hy1, hf⟩ := ob_e hf
  refine xi0 h (va_runV (As := []) (rest := []) hC (c_X8_firstError l G q v hy1 H.size) (xcwV hC lk_X8_250 in_X8 co_X8_firstError im_X8_firstError se_X8_firstError rfl rfl dd_X8_firstError ⟨Nat.le_of_ble_eq_true rfl, Nat.le_of_ble_eq_true rfl⟩) (preV0 h (Nat.le_of_ble_eq_true rfl) eBC_0 rfl []) rfl rfl hl.1 rfl (lv_room (Nat.le_of_ble_eq_true rfl)) dX8_obey_1 ⟨Nat.zero_le _, Nat.zero_le _⟩) (fun H locs h => ?_)
  obtain ⟨v3, ev3, hf⟩ := lt_e hf
  rw [← ev3] at h
  refine lv_aload_n hx hb dX8_obey_4 rfl (lv_at hl 0 rfl) ?_
  refine xget hC h.o (C := RX8) (T := TX8) (N := 10) (wM_us uw_X8) 0 (Nat.le_of_ble_eq_true rfl) eBC_0 rfl 7 (by decide) (wM_in fl_X8_38) rfl dX8_obey_5 ?_
  refine lv_icmp_lt (tgt := 21) hx hb dX8_obey_8 (by decide) (fun c4 => ?_) (fun c4 => ?_)
  · have hf := it_t c4 hf
    have hf := sm_e hf
    subst hf
    exact xthrW hC hst ht hlk h hT hl.1 (cls := xIAE) (by decide) (text := "the buffer is not complete orders as a text") (by decide) (wM_in ck_73) (wM_in in_xIAE) (fun w hw => wM_in (at_xIAE w hw)) ng_xIAE ot_xIAE (by decide +kernel) dX8_obey_21 dX8_obey_24 dX8_obey_25 dX8_obey_28 dX8_obey_31 ⟨Nat.le_of_ble_eq_true rfl, Nat.le_of_ble_eq_true rfl, Nat.le_refl _, Nat.le_refl _⟩
  · have hf := it_f c4 hf
    refine lv_aload_n hx hb dX8_obey_11 rfl (lv_at hl 0 rfl) ?_
    refine xget hC h.o (C := RX8) (T := TX8) (N := 10) (wM_us uw_X8) 0 (Nat.le_of_ble_eq_true rfl) eBC_0 rfl 8 (by decide) (wM_in fl_X8_44) rfl dX8_obey_12 ?_
    obtain ⟨r6, hy5, hf⟩ := ob_e hf
    refine xzG h (va_runV (As := []) (rest := []) hC (c_X5_isComplete l G (sh 3 q) (sh 3 v3) hy5 H.size) (xcwV hC lk_X8_253 in_X5 co_X5_isComplete im_X5_isComplete se_X5_isComplete rfl rfl dd_X5_isComplete ⟨Nat.le_of_ble_eq_true rfl, Nat.le_of_ble_eq_true rfl⟩) (preVO h.o 3 3 sBC_3 (Nat.le_of_ble_eq_true rfl) (Nat.le_of_ble_eq_true rfl) eBC_3 rfl []) rfl rfl hl.1 rfl (lv_room (Nat.le_of_ble_eq_true rfl)) dX8_obey_15 ⟨Nat.zero_le _, Nat.zero_le _⟩) (fun H locs hz7 h => ?_)
    refine lv_if_ne (tgt := 32) hx hb dX8_obey_18 (by decide) (fun c8 => ?_) (fun c8 => ?_)
    · have hf := it_f c8 hf
      cases hf
    · have hf := it_t c8 hf
      have hf := sm_e hf
      subst hf
      exact xthrW hC hst ht hlk h hT hl.1 (cls := xIAE) (by decide) (text := "the buffer is not complete orders as a text") (by decide) (wM_in ck_73) (wM_in in_xIAE) (fun w hw => wM_in (at_xIAE w hw)) ng_xIAE ot_xIAE (by decide +kernel) dX8_obey_21 dX8_obey_24 dX8_obey_25 dX8_obey_28 dX8_obey_31 ⟨Nat.le_of_ble_eq_true rfl, Nat.le_of_ble_eq_true rfl, Nat.le_refl _, Nat.le_refl _⟩
def m_X8_goBack_t (v : xSt) : Option (String × xSt) := (if (v 0 3) = 0 then some (xISE, v) else none)
set_option maxHeartbeats 4000000 in
set_option maxRecDepth 100000 in
theorem c_X8_goBack_t (l : Launch) (hst : l.stackTraces = false) (G : xGl) (sa q : Nat → Nat) (v : xSt) {z : (String × xSt)} (hf : m_X8_goBack_t v = some z) : mTH l yX8_goBack (wM yX8_goBack cX8_goBack 1 (some .int)) { frames := 6, cells := 1, slots := 6, locals := 90 } G sa (eBC G) 430 q v [.ref (q 0)] z.2 z.1 := by
  refine xTH (cc := cX8_goBack) (maxL := 1) (ret := (some .int)) (by decide) rfl (Nat.le_of_ble_eq_true rfl) ?_
  intro p e s m below meth c ls A hC ht hlk h hT hl
  have hx := hC.1
  have hb := hC.2.1
  have hl : lv_has ls 1 [(0, .ref (q 0))] := hl
  unfold m_X8_goBack_t at hf
  obtain ⟨H, hH⟩ : ∃ H, H = s.heap := ⟨_, rfl⟩
  obtain ⟨locs, hlo⟩ : ∃ x : List Loc, x = [] := ⟨_, rfl⟩
  have h : hg G (eBC G) 430 q v A s H locs := by rw [hH, hlo]; exact h
  rw [← hlo, ← hH]
  clear hH hlo
  refine lv_aload_n hx hb dX8_goBack_0 rfl (lv_at hl 0 rfl) ?_
  refine xget hC h.o (C := RX8) (T := TX8) (N := 10) (wM_us uw_X8) 0 (Nat.le_of_ble_eq_true rfl) eBC_0 rfl 3 (by decide) (wM_in fl_X8_22) rfl dX8_goBack_1 ?_
  refine lv_if_ne (tgt := 18) hx hb dX8_goBack_4 (by decide) (fun c1 => ?_) (fun c1 => ?_)
  · have hf := it_f c1 hf
    cases hf
  · have hf := it_t c1 hf
    have hf := sm_e hf
    subst hf
    exact xthrW hC hst ht hlk h hT hl.1 (cls := xISE) (by decide) (text := "there is no snapshot") (by decide) (wM_in ck_56) (wM_in in_xISE) (fun w hw => wM_in (at_xISE w hw)) ng_xISE ot_xISE (by decide +kernel) dX8_goBack_7 dX8_goBack_10 dX8_goBack_11 dX8_goBack_14 dX8_goBack_17 ⟨Nat.le_of_ble_eq_true rfl, Nat.le_of_ble_eq_true rfl, Nat.le_refl _, Nat.le_refl _⟩
def m_X8_undo_t (v : xSt) : Option (String × xSt) := (if 0 < (v 0 5) then none else some (xISE, v))
set_option maxHeartbeats 4000000 in
set_option maxRecDepth 100000 in
theorem c_X8_undo_t (l : Launch) (hst : l.stackTraces = false) (G : xGl) (sa q : Nat → Nat) (v : xSt) {z : (String × xSt)} (hf : m_X8_undo_t v = some z) : mTH l yX8_undo (wM yX8_undo cX8_undo 1 (some .int)) { frames := 6, cells := 1, slots := 6, locals := 90 } G sa (eBC G) 430 q v [.ref (q 0)] z.2 z.1 := by
  refine xTH (cc := cX8_undo) (maxL := 1) (ret := (some .int)) (by decide) rfl (Nat.le_of_ble_eq_true rfl) ?_
  intro p e s m below meth c ls A hC ht hlk h hT hl
  have hx := hC.1
  have hb := hC.2.1
  have hl : lv_has ls 1 [(0, .ref (q 0))] := hl
  unfold m_X8_undo_t at hf
  obtain ⟨H, hH⟩ : ∃ H, H = s.heap := ⟨_, rfl⟩
  obtain ⟨locs, hlo⟩ : ∃ x : List Loc, x = [] := ⟨_, rfl⟩
  have h : hg G (eBC G) 430 q v A s H locs := by rw [hH, hlo]; exact h
  rw [← hlo, ← hH]
  clear hH hlo
  refine lv_aload_n hx hb dX8_undo_0 rfl (lv_at hl 0 rfl) ?_
  refine xget hC h.o (C := RX8) (T := TX8) (N := 10) (wM_us uw_X8) 0 (Nat.le_of_ble_eq_true rfl) eBC_0 rfl 5 (by decide) (wM_in fl_X8_30) rfl dX8_undo_1 ?_
  refine lv_if_gt (tgt := 18) hx hb dX8_undo_4 (by decide) (fun c1 => ?_) (fun c1 => ?_)
  · have hf := it_t c1 hf
    cases hf
  · have hf := it_f c1 hf
    have hf := sm_e hf
    subst hf
    exact xthrW hC hst ht hlk h hT hl.1 (cls := xISE) (by decide) (text := "there is no saved state") (by decide) (wM_in ck_56) (wM_in in_xISE) (fun w hw => wM_in (at_xISE w hw)) ng_xISE ot_xISE (by decide +kernel) dX8_undo_7 dX8_undo_10 dX8_undo_11 dX8_undo_14 dX8_undo_17 ⟨Nat.le_of_ble_eq_true rfl, Nat.le_of_ble_eq_true rfl, Nat.le_refl _, Nat.le_refl _⟩
def m_X8_read_t (v : xSt) (p1 : Int32) : Option (String × xSt) := (if (xwi p1 0 255) = 0 then some (xIOB, v) else ob (m_X6_isBusy (sh 7 v)) (fun r4 => (if r4 = 0 then ob (m_X7_concerns (sh 18 v) p1) (fun r8 => (if r8 = 0 then none else some (xISE, v))) else some (xISE, v))))
set_option maxHeartbeats 4000000 in
set_option maxRecDepth 100000 in
theorem c_X8_read_t (l : Launch) (hst : l.stackTraces = false) (G : xGl) (sa q : Nat → Nat) (v : xSt) (p1 : Int32) {z : (String × xSt)} (hf : m_X8_read_t v p1 = some z) : mTH l yX8_read (wM yX8_read cX8_read 2 (some .int)) { frames := 6, cells := 1, slots := 6, locals := 90 } G sa (eBC G) 430 q v [.ref (q 0), .int p1] z.2 z.1 := by
  refine xTH (cc := cX8_read) (maxL := 2) (ret := (some .int)) (by decide) rfl (Nat.le_of_ble_eq_true rfl) ?_
  intro p e s m below meth c ls A hC ht hlk h hT hl
  have hx := hC.1
  have hb := hC.2.1
  have hl : lv_has ls 2 [(0, .ref (q 0)), (1, .int p1)] := hl
  unfold m_X8_read_t at hf
  obtain ⟨H, hH⟩ : ∃ H, H = s.heap := ⟨_, rfl⟩
  obtain ⟨locs, hlo⟩ : ∃ x : List Loc, x = [] := ⟨_, rfl⟩
  have h : hg G (eBC G) 430 q v A s H locs := by rw [hH, hlo]; exact h
  rw [← hlo, ← hH]
  clear hH hlo
  refine lv_iload_n hx hb dX8_read_0 rfl (lv_at hl 1 rfl) ?_
  refine xzG h (va_runS (As := [.int p1]) (rest := []) hC (k_X8_isCell l G q v p1 H.size) (xcwS hC lk_X8_93 in_X8 co_X8_isCell st_X8_isCell rfl rfl dd_X8_isCell ⟨Nat.le_of_ble_eq_true rfl, Nat.le_of_ble_eq_true rfl⟩) (preSN h.o [.int p1]) rfl rfl hl.1 rfl (lv_room (Nat.le_of_ble_eq_true rfl)) dX8_read_1 ⟨Nat.zero_le _, Nat.zero_le _⟩) (fun H locs hz1 h => ?_)
  refine lv_if_ne (tgt := 17) hx hb dX8_read_4 (by decide) (fun c2 => ?_) (fun c2 => ?_)
  · have hf := it_f c2 hf
    refine lv_aload_n hx hb dX8_read_17 rfl (lv_at hl 0 rfl) ?_
    refine xget hC h.o (C := RX8) (T := TX8) (N := 10) (wM_us uw_X8) 0 (Nat.le_of_ble_eq_true rfl) eBC_0 rfl 0 (by decide) (wM_in fl_X8_10) rfl dX8_read_18 ?_
    obtain ⟨r4, hy3, hf⟩ := ob_e hf
    refine xzG h (va_runV (As := []) (rest := []) hC (c_X6_isBusy l G (sh 7 q) (sh 7 v) hy3 H.size) (xcwV hC lk_X8_52 in_X6 co_X6_isBusy im_X6_isBusy se_X6_isBusy rfl rfl dd_X6_isBusy ⟨Nat.le_of_ble_eq_true rfl, Nat.le_of_ble_eq_true rfl⟩) (preVO h.o 7 47 sBC_7 (Nat.le_of_ble_eq_true rfl) (Nat.le_of_ble_eq_true rfl) eBC_7 rfl []) rfl rfl hl.1 rfl (lv_room (Nat.le_of_ble_eq_true rfl)) dX8_read_21 ⟨Nat.zero_le _, Nat.zero_le _⟩) (fun H locs hz5 h => ?_)
    refine lv_if_ne (tgt := 41) hx hb dX8_read_24 (by decide) (fun c6 => ?_) (fun c6 => ?_)
    · have hf := it_f c6 hf
      have hf := sm_e hf
      subst hf
      exact xthrW hC hst ht hlk h hT hl.1 (cls := xISE) (by decide) (text := "the cell can not be read") (by decide) (wM_in ck_56) (wM_in in_xISE) (fun w hw => wM_in (at_xISE w hw)) ng_xISE ot_xISE (by decide +kernel) dX8_read_41 dX8_read_44 dX8_read_45 dX8_read_48 dX8_read_51 ⟨Nat.le_of_ble_eq_true rfl, Nat.le_of_ble_eq_true rfl, Nat.le_refl _, Nat.le_refl _⟩
    · have hf := it_t c6 hf
      refine lv_aload_n hx hb dX8_read_27 rfl (lv_at hl 0 rfl) ?_
      refine xget hC h.o (C := RX8) (T := TX8) (N := 10) (wM_us uw_X8) 0 (Nat.le_of_ble_eq_true rfl) eBC_0 rfl 0 (by decide) (wM_in fl_X8_10) rfl dX8_read_28 ?_
      refine xget hC h.o (C := RX6) (T := TX6) (N := 13) (wM_us uw_X6) 7 (Nat.le_of_ble_eq_true rfl) eBC_7 rfl 4 (by decide) (wM_in fl_X8_159) rfl dX8_read_31 ?_
      refine lv_iload_n hx hb dX8_read_34 rfl (lv_at hl 1 rfl) ?_
      obtain ⟨r8, hy7, hf⟩ := ob_e hf
      refine xzG h (va_runV (As := [.int p1]) (rest := []) hC (c_X7_concerns l G (sh 18 q) (sh 18 v) p1 hy7 H.size) (xcwV hC lk_X8_272 in_X7 co_X7_concerns im_X7_concerns se_X7_concerns rfl rfl dd_X7_concerns ⟨Nat.le_of_ble_eq_true rfl, Nat.le_of_ble_eq_true rfl⟩) (preVO h.o 18 3 sBC_18 (Nat.le_of_ble_eq_true rfl) (Nat.le_of_ble_eq_true rfl) eBC_18 rfl [.int p1]) rfl rfl hl.1 rfl (lv_room (Nat.le_of_ble_eq_true rfl)) dX8_read_35 ⟨Nat.zero_le _, Nat.zero_le _⟩) (fun H locs hz9 h => ?_)
      refine lv_if_eq (tgt := 52) hx hb dX8_read_38 (by decide) (fun c10 => ?_) (fun c10 => ?_)
      · have hf := it_t c10 hf
        cases hf
      · have hf := it_f c10 hf
        have hf := sm_e hf
        subst hf
        exact xthrW hC hst ht hlk h hT hl.1 (cls := xISE) (by decide) (text := "the cell can not be read") (by decide) (wM_in ck_56) (wM_in in_xISE) (fun w hw => wM_in (at_xISE w hw)) ng_xISE ot_xISE (by decide +kernel) dX8_read_41 dX8_read_44 dX8_read_45 dX8_read_48 dX8_read_51 ⟨Nat.le_of_ble_eq_true rfl, Nat.le_of_ble_eq_true rfl, Nat.le_refl _, Nat.le_refl _⟩
  · have hf := it_t c2 hf
    have hf := sm_e hf
    subst hf
    exact xthr hC hst ht hlk h hT hl.1 (cls := xIOB) (by decide) (text := "no such cell") (by decide) (wM_in ck_97) (wM_in in_xIOB) (fun w hw => wM_in (at_xIOB w hw)) ng_xIOB ot_xIOB (by decide +kernel) dX8_read_7 dX8_read_10 dX8_read_11 dX8_read_13 dX8_read_16 ⟨Nat.le_of_ble_eq_true rfl, Nat.le_of_ble_eq_true rfl, Nat.le_refl _, Nat.le_refl _⟩
def m_X8_cell_t (v : xSt) (p1 : Int32) (p2 : Int32) : Option (String × xSt) := (if (xwi p1 0 255) = 0 then some (xIOB, v) else (if (xwi p2 (0 : Int32) (3 : Int32)) = 0 then some (xIAE, v) else none))
set_option maxHeartbeats 4000000 in
set_option maxRecDepth 100000 in
theorem c_X8_cell_t (l : Launch) (hst : l.stackTraces = false) (G : xGl) (sa q : Nat → Nat) (v : xSt) (p1 : Int32) (p2 : Int32) {z : (String × xSt)} (hf : m_X8_cell_t v p1 p2 = some z) : mTH l yX8_cell (wM yX8_cell cX8_cell 3 (some .int)) { frames := 6, cells := 1, slots := 6, locals := 90 } G sa (eBC G) 430 q v [.ref (q 0), .int p1, .int p2] z.2 z.1 := by
  refine xTH (cc := cX8_cell) (maxL := 3) (ret := (some .int)) (by decide) rfl (Nat.le_of_ble_eq_true rfl) ?_
  intro p e s m below meth c ls A hC ht hlk h hT hl
  have hx := hC.1
  have hb := hC.2.1
  have hl : lv_has ls 3 [(0, .ref (q 0)), (1, .int p1), (2, .int p2)] := hl
  unfold m_X8_cell_t at hf
  obtain ⟨H, hH⟩ : ∃ H, H = s.heap := ⟨_, rfl⟩
  obtain ⟨locs, hlo⟩ : ∃ x : List Loc, x = [] := ⟨_, rfl⟩
  have h : hg G (eBC G) 430 q v A s H locs := by rw [hH, hlo]; exact h
  rw [← hlo, ← hH]
  clear hH hlo
  refine lv_iload_n hx hb dX8_cell_0 rfl (lv_at hl 1 rfl) ?_
  refine xzG h (va_runS (As := [.int p1]) (rest := []) hC (k_X8_isCell l G q v p1 H.size) (xcwS hC lk_X8_93 in_X8 co_X8_isCell st_X8_isCell rfl rfl dd_X8_isCell ⟨Nat.le_of_ble_eq_true rfl, Nat.le_of_ble_eq_true rfl⟩) (preSN h.o [.int p1]) rfl rfl hl.1 rfl (lv_room (Nat.le_of_ble_eq_true rfl)) dX8_cell_1 ⟨Nat.zero_le _, Nat.zero_le _⟩) (fun H locs hz1 h => ?_)
  refine lv_if_ne (tgt := 17) hx hb dX8_cell_4 (by decide) (fun c2 => ?_) (fun c2 => ?_)
  · have hf := it_f c2 hf
    refine lv_iload_n hx hb dX8_cell_17 rfl (lv_at hl 2 rfl) ?_
    refine lv_iconst (v := (0 : Int32)) hx hb dX8_cell_18 (by decide) ?_
    refine lv_iconst (v := (3 : Int32)) hx hb dX8_cell_19 (by decide) ?_
    refine xzG h (va_runS (As := [.int p2, .int (0 : Int32), .int (3 : Int32)]) (rest := []) hC (k_X8_isWithin l G q v p2 (0 : Int32) (3 : Int32) H.size) (xcwS hC lk_X8_69 in_X8 co_X8_isWithin st_X8_isWithin rfl rfl dd_X8_isWithin ⟨Nat.le_of_ble_eq_true rfl, Nat.le_of_ble_eq_true rfl⟩) (preSN h.o [.int p2, .int (0 : Int32), .int (3 : Int32)]) rfl rfl hl.1 rfl (lv_room (Nat.le_of_ble_eq_true rfl)) dX8_cell_20 ⟨Nat.zero_le _, Nat.zero_le _⟩) (fun H locs hz3 h => ?_)
    refine lv_if_ne (tgt := 37) hx hb dX8_cell_23 (by decide) (fun c4 => ?_) (fun c4 => ?_)
    · have hf := it_f c4 hf
      cases hf
    · have hf := it_t c4 hf
      have hf := sm_e hf
      subst hf
      exact xthrW hC hst ht hlk h hT hl.1 (cls := xIAE) (by decide) (text := "what is 0 to 3") (by decide) (wM_in ck_73) (wM_in in_xIAE) (fun w hw => wM_in (at_xIAE w hw)) ng_xIAE ot_xIAE (by decide +kernel) dX8_cell_26 dX8_cell_29 dX8_cell_30 dX8_cell_33 dX8_cell_36 ⟨Nat.le_of_ble_eq_true rfl, Nat.le_of_ble_eq_true rfl, Nat.le_refl _, Nat.le_refl _⟩
  · have hf := it_t c2 hf
    have hf := sm_e hf
    subst hf
    exact xthr hC hst ht hlk h hT hl.1 (cls := xIOB) (by decide) (text := "no such cell") (by decide) (wM_in ck_97) (wM_in in_xIOB) (fun w hw => wM_in (at_xIOB w hw)) ng_xIOB ot_xIOB (by decide +kernel) dX8_cell_7 dX8_cell_10 dX8_cell_11 dX8_cell_13 dX8_cell_16 ⟨Nat.le_of_ble_eq_true rfl, Nat.le_of_ble_eq_true rfl, Nat.le_refl _, Nat.le_refl _⟩
def m_X8_sector_t (v : xSt) (p1 : Int32) (p2 : Int32) : Option (String × xSt) := (if (xwi p1 0 7) = 0 then some (xIOB, v) else (if (xwi p2 (0 : Int32) (6 : Int32)) = 0 then some (xIAE, v) else none))
set_option maxHeartbeats 4000000 in
set_option maxRecDepth 100000 in
theorem c_X8_sector_t (l : Launch) (hst : l.stackTraces = false) (G : xGl) (sa q : Nat → Nat) (v : xSt) (p1 : Int32) (p2 : Int32) {z : (String × xSt)} (hf : m_X8_sector_t v p1 p2 = some z) : mTH l yX8_sector (wM yX8_sector cX8_sector 3 (some .int)) { frames := 6, cells := 1, slots := 6, locals := 90 } G sa (eBC G) 430 q v [.ref (q 0), .int p1, .int p2] z.2 z.1 := by
  refine xTH (cc := cX8_sector) (maxL := 3) (ret := (some .int)) (by decide) rfl (Nat.le_of_ble_eq_true rfl) ?_
  intro p e s m below meth c ls A hC ht hlk h hT hl
  have hx := hC.1
  have hb := hC.2.1
  have hl : lv_has ls 3 [(0, .ref (q 0)), (1, .int p1), (2, .int p2)] := hl
  unfold m_X8_sector_t at hf
  obtain ⟨H, hH⟩ : ∃ H, H = s.heap := ⟨_, rfl⟩
  obtain ⟨locs, hlo⟩ : ∃ x : List Loc, x = [] := ⟨_, rfl⟩
  have h : hg G (eBC G) 430 q v A s H locs := by rw [hH, hlo]; exact h
  rw [← hlo, ← hH]
  clear hH hlo
  refine lv_iload_n hx hb dX8_sector_0 rfl (lv_at hl 1 rfl) ?_
  refine xzG h (va_runS (As := [.int p1]) (rest := []) hC (k_X8_isSector l G q v p1 H.size) (xcwS hC lk_X8_126 in_X8 co_X8_isSector st_X8_isSector rfl rfl dd_X8_isSector ⟨Nat.le_of_ble_eq_true rfl, Nat.le_of_ble_eq_true rfl⟩) (preSN h.o [.int p1]) rfl rfl hl.1 rfl (lv_room (Nat.le_of_ble_eq_true rfl)) dX8_sector_1 ⟨Nat.zero_le _, Nat.zero_le _⟩) (fun H locs hz1 h => ?_)
  refine lv_if_ne (tgt := 17) hx hb dX8_sector_4 (by decide) (fun c2 => ?_) (fun c2 => ?_)
  · have hf := it_f c2 hf
    refine lv_iload_n hx hb dX8_sector_17 rfl (lv_at hl 2 rfl) ?_
    refine lv_iconst (v := (0 : Int32)) hx hb dX8_sector_18 (by decide) ?_
    refine lv_bipush (v := (6 : Int32)) hx hb dX8_sector_19 (by decide) ?_
    refine xzG h (va_runS (As := [.int p2, .int (0 : Int32), .int (6 : Int32)]) (rest := []) hC (k_X8_isWithin l G q v p2 (0 : Int32) (6 : Int32) H.size) (xcwS hC lk_X8_69 in_X8 co_X8_isWithin st_X8_isWithin rfl rfl dd_X8_isWithin ⟨Nat.le_of_ble_eq_true rfl, Nat.le_of_ble_eq_true rfl⟩) (preSN h.o [.int p2, .int (0 : Int32), .int (6 : Int32)]) rfl rfl hl.1 rfl (lv_room (Nat.le_of_ble_eq_true rfl)) dX8_sector_21 ⟨Nat.zero_le _, Nat.zero_le _⟩) (fun H locs hz3 h => ?_)
    refine lv_if_ne (tgt := 38) hx hb dX8_sector_24 (by decide) (fun c4 => ?_) (fun c4 => ?_)
    · have hf := it_f c4 hf
      cases hf
    · have hf := it_t c4 hf
      have hf := sm_e hf
      subst hf
      exact xthrW hC hst ht hlk h hT hl.1 (cls := xIAE) (by decide) (text := "what is 0 to 6") (by decide) (wM_in ck_73) (wM_in in_xIAE) (fun w hw => wM_in (at_xIAE w hw)) ng_xIAE ot_xIAE (by decide +kernel) dX8_sector_27 dX8_sector_30 dX8_sector_31 dX8_sector_34 dX8_sector_37 ⟨Nat.le_of_ble_eq_true rfl, Nat.le_of_ble_eq_true rfl, Nat.le_refl _, Nat.le_refl _⟩
  · have hf := it_t c2 hf
    have hf := sm_e hf
    subst hf
    exact xthr hC hst ht hlk h hT hl.1 (cls := xIOB) (by decide) (text := "no such sector") (by decide) (wM_in ck_97) (wM_in in_xIOB) (fun w hw => wM_in (at_xIOB w hw)) ng_xIOB ot_xIOB (by decide +kernel) dX8_sector_7 dX8_sector_10 dX8_sector_11 dX8_sector_13 dX8_sector_16 ⟨Nat.le_of_ble_eq_true rfl, Nat.le_of_ble_eq_true rfl, Nat.le_refl _, Nat.le_refl _⟩
def m_X8_work_t (v : xSt) (p1 : Int32) (p2 : Int32) : Option (String × xSt) := (if (xwi p1 (0 : Int32) (1 : Int32)) = 0 then some (xIAE, v) else (if (xwi p2 (0 : Int32) (4 : Int32)) = 0 then some (xIAE, v) else none))
set_option maxHeartbeats 4000000 in
set_option maxRecDepth 100000 in
theorem c_X8_work_t (l : Launch) (hst : l.stackTraces = false) (G : xGl) (sa q : Nat → Nat) (v : xSt) (p1 : Int32) (p2 : Int32) {z : (String × xSt)} (hf : m_X8_work_t v p1 p2 = some z) : mTH l yX8_work (wM yX8_work cX8_work 4 (some .int)) { frames := 6, cells := 1, slots := 6, locals := 90 } G sa (eBC G) 430 q v [.ref (q 0), .int p1, .int p2] z.2 z.1 := by
  refine xTH (cc := cX8_work) (maxL := 4) (ret := (some .int)) (by decide) rfl (Nat.le_of_ble_eq_true rfl) ?_
  intro p e s m below meth c ls A hC ht hlk h hT hl
  have hx := hC.1
  have hb := hC.2.1
  have hl : lv_has ls 4 [(0, .ref (q 0)), (1, .int p1), (2, .int p2)] := hl
  unfold m_X8_work_t at hf
  obtain ⟨H, hH⟩ : ∃ H, H = s.heap := ⟨_, rfl⟩
  obtain ⟨locs, hlo⟩ : ∃ x : List Loc, x = [] := ⟨_, rfl⟩
  have h : hg G (eBC G) 430 q v A s H locs := by rw [hH, hlo]; exact h
  rw [← hlo, ← hH]
  clear hH hlo
  refine lv_iload_n hx hb dX8_work_0 rfl (lv_at hl 1 rfl) ?_
  refine lv_iconst (v := (0 : Int32)) hx hb dX8_work_1 (by decide) ?_
  refine lv_iconst (v := (1 : Int32)) hx hb dX8_work_2 (by decide) ?_
  refine xzG h (va_runS (As := [.int p1, .int (0 : Int32), .int (1 : Int32)]) (rest := []) hC (k_X8_isWithin l G q v p1 (0 : Int32) (1 : Int32) H.size) (xcwS hC lk_X8_69 in_X8 co_X8_isWithin st_X8_isWithin rfl rfl dd_X8_isWithin ⟨Nat.le_of_ble_eq_true rfl, Nat.le_of_ble_eq_true rfl⟩) (preSN h.o [.int p1, .int (0 : Int32), .int (1 : Int32)]) rfl rfl hl.1 rfl (lv_room (Nat.le_of_ble_eq_true rfl)) dX8_work_3 ⟨Nat.zero_le _, Nat.zero_le _⟩) (fun H locs hz1 h => ?_)
  refine lv_if_eq (tgt := 18) hx hb dX8_work_6 (by decide) (fun c2 => ?_) (fun c2 => ?_)
  · have hf := it_t c2 hf
    have hf := sm_e hf
    subst hf
    exact xthrW hC hst ht hlk h hT hl.1 (cls := xIAE) (by decide) (text := "aside is 0 or 1, what 0 to 4") (by decide) (wM_in ck_73) (wM_in in_xIAE) (fun w hw => wM_in (at_xIAE w hw)) ng_xIAE ot_xIAE (by decide +kernel) dX8_work_18 dX8_work_21 dX8_work_22 dX8_work_25 dX8_work_28 ⟨Nat.le_of_ble_eq_true rfl, Nat.le_of_ble_eq_true rfl, Nat.le_refl _, Nat.le_refl _⟩
  · have hf := it_f c2 hf
    refine lv_iload_n hx hb dX8_work_9 rfl (lv_at hl 2 rfl) ?_
    refine lv_iconst (v := (0 : Int32)) hx hb dX8_work_10 (by decide) ?_
    refine lv_iconst (v := (4 : Int32)) hx hb dX8_work_11 (by decide) ?_
    refine xzG h (va_runS (As := [.int p2, .int (0 : Int32), .int (4 : Int32)]) (rest := []) hC (k_X8_isWithin l G q v p2 (0 : Int32) (4 : Int32) H.size) (xcwS hC lk_X8_69 in_X8 co_X8_isWithin st_X8_isWithin rfl rfl dd_X8_isWithin ⟨Nat.le_of_ble_eq_true rfl, Nat.le_of_ble_eq_true rfl⟩) (preSN h.o [.int p2, .int (0 : Int32), .int (4 : Int32)]) rfl rfl hl.1 rfl (lv_room (Nat.le_of_ble_eq_true rfl)) dX8_work_12 ⟨Nat.zero_le _, Nat.zero_le _⟩) (fun H locs hz3 h => ?_)
    refine lv_if_ne (tgt := 29) hx hb dX8_work_15 (by decide) (fun c4 => ?_) (fun c4 => ?_)
    · have hf := it_f c4 hf
      cases hf
    · have hf := it_t c4 hf
      have hf := sm_e hf
      subst hf
      exact xthrW hC hst ht hlk h hT hl.1 (cls := xIAE) (by decide) (text := "aside is 0 or 1, what 0 to 4") (by decide) (wM_in ck_73) (wM_in in_xIAE) (fun w hw => wM_in (at_xIAE w hw)) ng_xIAE ot_xIAE (by decide +kernel) dX8_work_18 dX8_work_21 dX8_work_22 dX8_work_25 dX8_work_28 ⟨Nat.le_of_ble_eq_true rfl, Nat.le_of_ble_eq_true rfl, Nat.le_refl _, Nat.le_refl _⟩
def m_X8_order_t (v : xSt) (p1 : Int32) (p2 : Int32) : Option (String × xSt) := ob (m_X1_orderAt (sh 21 v) p1) (fun r2 => om r2 (some (xIOB, v)) (fun k3 => ck (k3 < 10) ((if (xwi p2 (0 : Int32) (5 : Int32)) = 0 then some (xIAE, v) else none))))
set_option maxHeartbeats 4000000 in
set_option maxRecDepth 100000 in
theorem c_X8_order_t (l : Launch) (hst : l.stackTraces = false) (G : xGl) (sa q : Nat → Nat) (v : xSt) (p1 : Int32) (p2 : Int32) {z : (String × xSt)} (hf : m_X8_order_t v p1 p2 = some z) : mTH l yX8_order (wM yX8_order cX8_order 4 (some .int)) { frames := 6, cells := 1, slots := 6, locals := 90 } G sa (eBC G) 430 q v [.ref (q 0), .int p1, .int p2] z.2 z.1 := by
  refine xTH (cc := cX8_order) (maxL := 4) (ret := (some .int)) (by decide) rfl (Nat.le_of_ble_eq_true rfl) ?_
  intro p e s m below meth c ls A hC ht hlk h hT hl
  have hx := hC.1
  have hb := hC.2.1
  have hl : lv_has ls 4 [(0, .ref (q 0)), (1, .int p1), (2, .int p2)] := hl
  unfold m_X8_order_t at hf
  obtain ⟨H, hH⟩ : ∃ H, H = s.heap := ⟨_, rfl⟩
  obtain ⟨locs, hlo⟩ : ∃ x : List Loc, x = [] := ⟨_, rfl⟩
  have h : hg G (eBC G) 430 q v A s H locs := by rw [hH, hlo]; exact h
  rw [← hlo, ← hH]
  clear hH hlo
  refine lv_aload_n hx hb dX8_order_0 rfl (lv_at hl 0 rfl) ?_
  refine xget hC h.o (C := RX8) (T := TX8) (N := 10) (wM_us uw_X8) 0 (Nat.le_of_ble_eq_true rfl) eBC_0 rfl 0 (by decide) (wM_in fl_X8_10) rfl dX8_order_1 ?_
  refine xget hC h.o (C := RX6) (T := TX6) (N := 13) (wM_us uw_X6) 7 (Nat.le_of_ble_eq_true rfl) eBC_7 rfl 5 (by decide) (wM_in fl_X8_180) rfl dX8_order_4 ?_
  refine lv_iload_n hx hb dX8_order_7 rfl (lv_at hl 1 rfl) ?_
  obtain ⟨r2, hy1, hf⟩ := ob_e hf
  refine xqG h (va_runV (As := [.int p1]) (rest := []) hC (c_X1_orderAt l G (sh 21 q) (sh 21 v) p1 hy1 H.size) (xcwV hC lk_X8_328 in_X1 co_X1_orderAt im_X1_orderAt se_X1_orderAt rfl rfl dd_X1_orderAt ⟨Nat.le_of_ble_eq_true rfl, Nat.le_of_ble_eq_true rfl⟩) (preVO h.o 21 32 sBC_21 (Nat.le_of_ble_eq_true rfl) (Nat.le_of_ble_eq_true rfl) eBC_21 rfl [.int p1]) rfl rfl hl.1 rfl (lv_room (Nat.le_of_ble_eq_true rfl)) dX8_order_8 ⟨Nat.zero_le _, Nat.zero_le _⟩) (fun H locs h => ?_)
  refine xqB (g := fun k => q (7 + (14 + (2 + 3 * k)))) (fun k => congrArg q (show 21 + (2 + 3 * k) = 7 + (14 + (2 + 3 * k)) by omega)) ?_
  rcases omm hf with ⟨ho5, gho5⟩ | ⟨k3, ho5, gho5⟩
  · subst ho5
    replace hf := gho5
    refine lv_astore_nN (lv' := [(3, .null), (0, .ref (q 0)), (1, .int p1), (2, .int p2)]) hx hb dX8_order_11 rfl hl (by decide) rfl (fun ls hl => ?_)
    refine lv_aload_nN hx hb dX8_order_12 rfl (lv_at hl 0 rfl) ?_
    refine lv_ifnonnullN hx hb dX8_order_13 ?_
    have hf := sm_e hf
    subst hf
    exact xthrW hC hst ht hlk h hT hl.1 (cls := xIOB) (by decide) (text := "no such rank") (by decide) (wM_in ck_97) (wM_in in_xIOB) (fun w hw => wM_in (at_xIOB w hw)) ng_xIOB ot_xIOB (by decide +kernel) dX8_order_16 dX8_order_19 dX8_order_20 dX8_order_23 dX8_order_26 ⟨Nat.le_of_ble_eq_true rfl, Nat.le_of_ble_eq_true rfl, Nat.le_refl _, Nat.le_refl _⟩
  · subst ho5
    obtain ⟨hk4, hf⟩ := ck_e gho5
    refine lv_astore_n (lv' := [(3, .ref (q (7 + (14 + (2 + 3 * k3))))), (0, .ref (q 0)), (1, .int p1), (2, .int p2)]) hx hb dX8_order_11 rfl hl (by decide) rfl (fun ls hl => ?_)
    refine lv_aload_n hx hb dX8_order_12 rfl (lv_at hl 0 rfl) ?_
    refine lv_ifnonnull (tgt := 27) hx hb dX8_order_13 (by decide) ?_
    refine lv_iload_n hx hb dX8_order_27 rfl (lv_at hl 3 rfl) ?_
    refine lv_iconst (v := (0 : Int32)) hx hb dX8_order_28 (by decide) ?_
    refine lv_iconst (v := (5 : Int32)) hx hb dX8_order_29 (by decide) ?_
    refine xzG h (va_runS (As := [.int p2, .int (0 : Int32), .int (5 : Int32)]) (rest := []) hC (k_X8_isWithin l G q v p2 (0 : Int32) (5 : Int32) H.size) (xcwS hC lk_X8_69 in_X8 co_X8_isWithin st_X8_isWithin rfl rfl dd_X8_isWithin ⟨Nat.le_of_ble_eq_true rfl, Nat.le_of_ble_eq_true rfl⟩) (preSN h.o [.int p2, .int (0 : Int32), .int (5 : Int32)]) rfl rfl hl.1 rfl (lv_room (Nat.le_of_ble_eq_true rfl)) dX8_order_30 ⟨Nat.zero_le _, Nat.zero_le _⟩) (fun H locs hz6 h => ?_)
    refine lv_if_ne (tgt := 47) hx hb dX8_order_33 (by decide) (fun c7 => ?_) (fun c7 => ?_)
    · have hf := it_f c7 hf
      cases hf
    · have hf := it_t c7 hf
      have hf := sm_e hf
      subst hf
      exact xthrW hC hst ht hlk h hT hl.1 (cls := xIAE) (by decide) (text := "what is 0 to 5") (by decide) (wM_in ck_73) (wM_in in_xIAE) (fun w hw => wM_in (at_xIAE w hw)) ng_xIAE ot_xIAE (by decide +kernel) dX8_order_36 dX8_order_39 dX8_order_40 dX8_order_43 dX8_order_46 ⟨Nat.le_of_ble_eq_true rfl, Nat.le_of_ble_eq_true rfl, Nat.le_refl _, Nat.le_refl _⟩
def m_X8_count_t (v : xSt) (p1 : Int32) : Option (String × xSt) := (if (xwi p1 (0 : Int32) (15 : Int32)) = 0 then some (xIAE, v) else none)
set_option maxHeartbeats 4000000 in
set_option maxRecDepth 100000 in
theorem c_X8_count_t (l : Launch) (hst : l.stackTraces = false) (G : xGl) (sa q : Nat → Nat) (v : xSt) (p1 : Int32) {z : (String × xSt)} (hf : m_X8_count_t v p1 = some z) : mTH l yX8_count (wM yX8_count cX8_count 2 (some .int)) { frames := 6, cells := 1, slots := 6, locals := 90 } G sa (eBC G) 430 q v [.ref (q 0), .int p1] z.2 z.1 := by
  refine xTH (cc := cX8_count) (maxL := 2) (ret := (some .int)) (by decide) rfl (Nat.le_of_ble_eq_true rfl) ?_
  intro p e s m below meth c ls A hC ht hlk h hT hl
  have hx := hC.1
  have hb := hC.2.1
  have hl : lv_has ls 2 [(0, .ref (q 0)), (1, .int p1)] := hl
  unfold m_X8_count_t at hf
  obtain ⟨H, hH⟩ : ∃ H, H = s.heap := ⟨_, rfl⟩
  obtain ⟨locs, hlo⟩ : ∃ x : List Loc, x = [] := ⟨_, rfl⟩
  have h : hg G (eBC G) 430 q v A s H locs := by rw [hH, hlo]; exact h
  rw [← hlo, ← hH]
  clear hH hlo
  refine lv_iload_n hx hb dX8_count_0 rfl (lv_at hl 1 rfl) ?_
  refine lv_iconst (v := (0 : Int32)) hx hb dX8_count_1 (by decide) ?_
  refine lv_bipush (v := (15 : Int32)) hx hb dX8_count_2 (by decide) ?_
  refine xzG h (va_runS (As := [.int p1, .int (0 : Int32), .int (15 : Int32)]) (rest := []) hC (k_X8_isWithin l G q v p1 (0 : Int32) (15 : Int32) H.size) (xcwS hC lk_X8_69 in_X8 co_X8_isWithin st_X8_isWithin rfl rfl dd_X8_isWithin ⟨Nat.le_of_ble_eq_true rfl, Nat.le_of_ble_eq_true rfl⟩) (preSN h.o [.int p1, .int (0 : Int32), .int (15 : Int32)]) rfl rfl hl.1 rfl (lv_room (Nat.le_of_ble_eq_true rfl)) dX8_count_4 ⟨Nat.zero_le _, Nat.zero_le _⟩) (fun H locs hz1 h => ?_)
  refine lv_if_ne (tgt := 21) hx hb dX8_count_7 (by decide) (fun c2 => ?_) (fun c2 => ?_)
  · have hf := it_f c2 hf
    cases hf
  · have hf := it_t c2 hf
    have hf := sm_e hf
    subst hf
    exact xthrW hC hst ht hlk h hT hl.1 (cls := xIAE) (by decide) (text := "what is 0 to 15") (by decide) (wM_in ck_73) (wM_in in_xIAE) (fun w hw => wM_in (at_xIAE w hw)) ng_xIAE ot_xIAE (by decide +kernel) dX8_count_10 dX8_count_13 dX8_count_14 dX8_count_17 dX8_count_20 ⟨Nat.le_of_ble_eq_true rfl, Nat.le_of_ble_eq_true rfl, Nat.le_refl _, Nat.le_refl _⟩
def m_X8_setting_t (v : xSt) (p1 : Int32) : Option (String × xSt) := (if (xwi p1 0 4) = 0 then some (xIOB, v) else none)
set_option maxHeartbeats 4000000 in
set_option maxRecDepth 100000 in
theorem c_X8_setting_t (l : Launch) (hst : l.stackTraces = false) (G : xGl) (sa q : Nat → Nat) (v : xSt) (p1 : Int32) {z : (String × xSt)} (hf : m_X8_setting_t v p1 = some z) : mTH l yX8_setting (wM yX8_setting cX8_setting 2 (some .int)) { frames := 6, cells := 1, slots := 6, locals := 90 } G sa (eBC G) 430 q v [.ref (q 0), .int p1] z.2 z.1 := by
  refine xTH (cc := cX8_setting) (maxL := 2) (ret := (some .int)) (by decide) rfl (Nat.le_of_ble_eq_true rfl) ?_
  intro p e s m below meth c ls A hC ht hlk h hT hl
  have hx := hC.1
  have hb := hC.2.1
  have hl : lv_has ls 2 [(0, .ref (q 0)), (1, .int p1)] := hl
  unfold m_X8_setting_t at hf
  obtain ⟨H, hH⟩ : ∃ H, H = s.heap := ⟨_, rfl⟩
  obtain ⟨locs, hlo⟩ : ∃ x : List Loc, x = [] := ⟨_, rfl⟩
  have h : hg G (eBC G) 430 q v A s H locs := by rw [hH, hlo]; exact h
  rw [← hlo, ← hH]
  clear hH hlo
  refine lv_iload_n hx hb dX8_setting_0 rfl (lv_at hl 1 rfl) ?_
  refine xzT h (va_runS (As := [.int p1]) (rest := []) hC (k_X8_isSetting l G sa q v p1 H.size) (xcwS hC lk_X8_216 in_X8 co_X8_isSetting st_X8_isSetting rfl rfl dd_X8_isSetting ⟨Nat.le_of_ble_eq_true rfl, Nat.le_of_ble_eq_true rfl⟩) (preST h hT [.int p1]) rfl rfl hl.1 rfl (lv_room (Nat.le_of_ble_eq_true rfl)) dX8_setting_1 ⟨Nat.zero_le _, Nat.zero_le _⟩) (fun H locs hz1 h => ?_)
  refine lv_if_ne (tgt := 17) hx hb dX8_setting_4 (by decide) (fun c2 => ?_) (fun c2 => ?_)
  · have hf := it_f c2 hf
    cases hf
  · have hf := it_t c2 hf
    have hf := sm_e hf
    subst hf
    exact xthr hC hst ht hlk h hT hl.1 (cls := xIOB) (by decide) (text := "no such setting") (by decide) (wM_in ck_97) (wM_in in_xIOB) (fun w hw => wM_in (at_xIOB w hw)) ng_xIOB ot_xIOB (by decide +kernel) dX8_setting_7 dX8_setting_10 dX8_setting_11 dX8_setting_13 dX8_setting_16 ⟨Nat.le_of_ble_eq_true rfl, Nat.le_of_ble_eq_true rfl, Nat.le_refl _, Nat.le_refl _⟩
def m_X8_why_t (v : xSt) (p1 : Int32) (p2 : Int32) : Option (String × xSt) := (if (xwi p1 (1 : Int32) (3 : Int32)) = 0 then some (xIAE, v) else ob (m_X8_isPlace p1 p2) (fun r4 => (if r4 = 0 then some (xIOB, v) else none)))
set_option maxHeartbeats 4000000 in
set_option maxRecDepth 100000 in
theorem c_X8_why_t (l : Launch) (hst : l.stackTraces = false) (G : xGl) (sa q : Nat → Nat) (v : xSt) (p1 : Int32) (p2 : Int32) {z : (String × xSt)} (hf : m_X8_why_t v p1 p2 = some z) : mTH l yX8_why (wM yX8_why cX8_why 3 (some .int)) { frames := 6, cells := 1, slots := 6, locals := 90 } G sa (eBC G) 430 q v [.ref (q 0), .int p1, .int p2] z.2 z.1 := by
  refine xTH (cc := cX8_why) (maxL := 3) (ret := (some .int)) (by decide) rfl (Nat.le_of_ble_eq_true rfl) ?_
  intro p e s m below meth c ls A hC ht hlk h hT hl
  have hx := hC.1
  have hb := hC.2.1
  have hl : lv_has ls 3 [(0, .ref (q 0)), (1, .int p1), (2, .int p2)] := hl
  unfold m_X8_why_t at hf
  obtain ⟨H, hH⟩ : ∃ H, H = s.heap := ⟨_, rfl⟩
  obtain ⟨locs, hlo⟩ : ∃ x : List Loc, x = [] := ⟨_, rfl⟩
  have h : hg G (eBC G) 430 q v A s H locs := by rw [hH, hlo]; exact h
  rw [← hlo, ← hH]
  clear hH hlo
  refine lv_iload_n hx hb dX8_why_0 rfl (lv_at hl 1 rfl) ?_
  refine lv_iconst (v := (1 : Int32)) hx hb dX8_why_1 (by decide) ?_
  refine lv_iconst (v := (3 : Int32)) hx hb dX8_why_2 (by decide) ?_
  refine xzG h (va_runS (As := [.int p1, .int (1 : Int32), .int (3 : Int32)]) (rest := []) hC (k_X8_isWithin l G q v p1 (1 : Int32) (3 : Int32) H.size) (xcwS hC lk_X8_69 in_X8 co_X8_isWithin st_X8_isWithin rfl rfl dd_X8_isWithin ⟨Nat.le_of_ble_eq_true rfl, Nat.le_of_ble_eq_true rfl⟩) (preSN h.o [.int p1, .int (1 : Int32), .int (3 : Int32)]) rfl rfl hl.1 rfl (lv_room (Nat.le_of_ble_eq_true rfl)) dX8_why_3 ⟨Nat.zero_le _, Nat.zero_le _⟩) (fun H locs hz1 h => ?_)
  refine lv_if_ne (tgt := 20) hx hb dX8_why_6 (by decide) (fun c2 => ?_) (fun c2 => ?_)
  · have hf := it_f c2 hf
    refine lv_iload_n hx hb dX8_why_20 rfl (lv_at hl 1 rfl) ?_
    refine lv_iload_n hx hb dX8_why_21 rfl (lv_at hl 2 rfl) ?_
    obtain ⟨r4, hy3, hf⟩ := ob_e hf
    refine xzG h (va_runS (As := [.int p1, .int p2]) (rest := []) hC (c_X8_isPlace l G q v p1 p2 hy3 H.size) (xcwS hC lk_X8_384 in_X8 co_X8_isPlace st_X8_isPlace rfl rfl dd_X8_isPlace ⟨Nat.le_of_ble_eq_true rfl, Nat.le_of_ble_eq_true rfl⟩) (preSN h.o [.int p1, .int p2]) rfl rfl hl.1 rfl (lv_room (Nat.le_of_ble_eq_true rfl)) dX8_why_22 ⟨Nat.zero_le _, Nat.zero_le _⟩) (fun H locs hz5 h => ?_)
    refine lv_if_ne (tgt := 39) hx hb dX8_why_25 (by decide) (fun c6 => ?_) (fun c6 => ?_)
    · have hf := it_f c6 hf
      cases hf
    · have hf := it_t c6 hf
      have hf := sm_e hf
      subst hf
      exact xthrW hC hst ht hlk h hT hl.1 (cls := xIOB) (by decide) (text := "no such cell, sector or level") (by decide) (wM_in ck_97) (wM_in in_xIOB) (fun w hw => wM_in (at_xIOB w hw)) ng_xIOB ot_xIOB (by decide +kernel) dX8_why_28 dX8_why_31 dX8_why_32 dX8_why_35 dX8_why_38 ⟨Nat.le_of_ble_eq_true rfl, Nat.le_of_ble_eq_true rfl, Nat.le_refl _, Nat.le_refl _⟩
  · have hf := it_t c2 hf
    have hf := sm_e hf
    subst hf
    exact xthrW hC hst ht hlk h hT hl.1 (cls := xIAE) (by decide) (text := "a kind is 1 to 3") (by decide) (wM_in ck_73) (wM_in in_xIAE) (fun w hw => wM_in (at_xIAE w hw)) ng_xIAE ot_xIAE (by decide +kernel) dX8_why_9 dX8_why_12 dX8_why_13 dX8_why_16 dX8_why_19 ⟨Nat.le_of_ble_eq_true rfl, Nat.le_of_ble_eq_true rfl, Nat.le_refl _, Nat.le_refl _⟩
def m_X8_misses_t (v : xSt) (p1 : Int32) : Option (String × xSt) := (if (xwi p1 0 255) = 0 then some (xIOB, v) else none)
set_option maxHeartbeats 4000000 in
set_option maxRecDepth 100000 in
theorem c_X8_misses_t (l : Launch) (hst : l.stackTraces = false) (G : xGl) (sa q : Nat → Nat) (v : xSt) (p1 : Int32) {z : (String × xSt)} (hf : m_X8_misses_t v p1 = some z) : mTH l yX8_misses (wM yX8_misses cX8_misses 2 (some .int)) { frames := 6, cells := 1, slots := 6, locals := 90 } G sa (eBC G) 430 q v [.ref (q 0), .int p1] z.2 z.1 := by
  refine xTH (cc := cX8_misses) (maxL := 2) (ret := (some .int)) (by decide) rfl (Nat.le_of_ble_eq_true rfl) ?_
  intro p e s m below meth c ls A hC ht hlk h hT hl
  have hx := hC.1
  have hb := hC.2.1
  have hl : lv_has ls 2 [(0, .ref (q 0)), (1, .int p1)] := hl
  unfold m_X8_misses_t at hf
  obtain ⟨H, hH⟩ : ∃ H, H = s.heap := ⟨_, rfl⟩
  obtain ⟨locs, hlo⟩ : ∃ x : List Loc, x = [] := ⟨_, rfl⟩
  have h : hg G (eBC G) 430 q v A s H locs := by rw [hH, hlo]; exact h
  rw [← hlo, ← hH]
  clear hH hlo
  refine lv_iload_n hx hb dX8_misses_0 rfl (lv_at hl 1 rfl) ?_
  refine xzG h (va_runS (As := [.int p1]) (rest := []) hC (k_X8_isCell l G q v p1 H.size) (xcwS hC lk_X8_93 in_X8 co_X8_isCell st_X8_isCell rfl rfl dd_X8_isCell ⟨Nat.le_of_ble_eq_true rfl, Nat.le_of_ble_eq_true rfl⟩) (preSN h.o [.int p1]) rfl rfl hl.1 rfl (lv_room (Nat.le_of_ble_eq_true rfl)) dX8_misses_1 ⟨Nat.zero_le _, Nat.zero_le _⟩) (fun H locs hz1 h => ?_)
  refine lv_if_ne (tgt := 17) hx hb dX8_misses_4 (by decide) (fun c2 => ?_) (fun c2 => ?_)
  · have hf := it_f c2 hf
    cases hf
  · have hf := it_t c2 hf
    have hf := sm_e hf
    subst hf
    exact xthr hC hst ht hlk h hT hl.1 (cls := xIOB) (by decide) (text := "no such cell") (by decide) (wM_in ck_97) (wM_in in_xIOB) (fun w hw => wM_in (at_xIOB w hw)) ng_xIOB ot_xIOB (by decide +kernel) dX8_misses_7 dX8_misses_10 dX8_misses_11 dX8_misses_13 dX8_misses_16 ⟨Nat.le_of_ble_eq_true rfl, Nat.le_of_ble_eq_true rfl, Nat.le_refl _, Nat.le_refl _⟩
def m_X8_onesShare (v : xSt) : Option (UInt64) := ob (m_X0_ones (sh 8 v) (0 : Int32) (256 : Int32)) (fun r2 => ck (xn64 (FP.ddiv (FP.i2d r2) (4656722014701092864 : UInt64))) (some (FP.ddiv (FP.i2d r2) (4656722014701092864 : UInt64))))
set_option maxHeartbeats 4000000 in
set_option maxRecDepth 100000 in
theorem c_X8_onesShare (l : Launch) (G : xGl) (q : Nat → Nat) (v : xSt) {z : (UInt64)} (hf : m_X8_onesShare v = some z) : mRO l yX8_onesShare (wM yX8_onesShare cX8_onesShare 1 (some .double)) { frames := 2, cells := 0, slots := 0, locals := 45 } G (eBC G) 430 q v [.ref (q 0)] (qD z) := by
  refine xRO (cc := cX8_onesShare) (maxL := 1) (ret := (some .double)) (by decide) rfl (Nat.le_of_ble_eq_true rfl) ?_
  intro p e s m below meth c ls A hC hr hlk h hl
  have hx := hC.1
  have hb := hC.2.1
  have hl : lv_has ls 1 [(0, .ref (q 0))] := hl
  unfold m_X8_onesShare at hf
  obtain ⟨H, hH⟩ : ∃ H, H = s.heap := ⟨_, rfl⟩
  obtain ⟨locs, hlo⟩ : ∃ x : List Loc, x = [] := ⟨_, rfl⟩
  have h : ho G (eBC G) 430 q v A s H locs := by rw [hH, hlo]; exact h
  rw [← hlo, ← hH]
  clear hH hlo
  refine lv_aload_n hx hb dX8_onesShare_0 rfl (lv_at hl 0 rfl) ?_
  refine xget hC h.o (C := RX8) (T := TX8) (N := 10) (wM_us uw_X8) 0 (Nat.le_of_ble_eq_true rfl) eBC_0 rfl 0 (by decide) (wM_in fl_X8_10) rfl dX8_onesShare_1 ?_
  refine xget hC h.o (C := RX6) (T := TX6) (N := 13) (wM_us uw_X6) 7 (Nat.le_of_ble_eq_true rfl) eBC_7 rfl 0 (by decide) (wM_in fl_X8_277) rfl dX8_onesShare_4 ?_
  refine lv_iconst (v := (0 : Int32)) hx hb dX8_onesShare_7 (by decide) ?_
  refine lv_sipush (v := (256 : Int32)) hx hb dX8_onesShare_8 (by decide) ?_
  obtain ⟨r2, hy1, hf⟩ := ob_e hf
  refine xiO h (va_runV (As := [.int (0 : Int32), .int (256 : Int32)]) (rest := []) hC (c_X0_ones l G (sh 8 q) (sh 8 v) (0 : Int32) (256 : Int32) hy1 H.size) (xcwV hC lk_X8_305 in_X0 co_X0_ones im_X0_ones se_X0_ones rfl rfl dd_X0_ones ⟨Nat.le_of_ble_eq_true rfl, Nat.le_of_ble_eq_true rfl⟩) (preVO h.o 8 4 sBC_8 (Nat.le_of_ble_eq_true rfl) (Nat.le_of_ble_eq_true rfl) eBC_8 rfl [.int (0 : Int32), .int (256 : Int32)]) rfl rfl hl.1 rfl (lv_room (Nat.le_of_ble_eq_true rfl)) dX8_onesShare_11 ⟨Nat.zero_le _, Nat.zero_le _⟩) (fun H locs h => ?_)
  refine lv_i2d hx hb dX8_onesShare_14 ?_
  refine lv_ldc2d hx hb hC.2.2.2.1 (hC.2.2.2.2 _ (wM_in cn_X8_402)) dX8_onesShare_15 ?_
  obtain ⟨hn3, hf⟩ := ck_e hf
  refine lv_ddiv hx hb dX8_onesShare_18 hn3 ?_
  have hf := sm_e hf
  exact odret hC hr hlk h (by rw [← hf]) dX8_onesShare_19
def m_X8_meanWear (v : xSt) : Option (UInt32) := ob (m_X0_allErasures (sh 8 v)) (fun r2 => ck (xn32 (FP.fdiv (FP.i2f r2) (1090519040 : UInt32))) (some (FP.fdiv (FP.i2f r2) (1090519040 : UInt32))))
set_option maxHeartbeats 4000000 in
set_option maxRecDepth 100000 in
theorem c_X8_meanWear (l : Launch) (G : xGl) (q : Nat → Nat) (v : xSt) {z : (UInt32)} (hf : m_X8_meanWear v = some z) : mRO l yX8_meanWear (wM yX8_meanWear cX8_meanWear 1 (some .float)) { frames := 1, cells := 0, slots := 0, locals := 22 } G (eBC G) 430 q v [.ref (q 0)] (qF z) := by
  refine xRO (cc := cX8_meanWear) (maxL := 1) (ret := (some .float)) (by decide) rfl (Nat.le_of_ble_eq_true rfl) ?_
  intro p e s m below meth c ls A hC hr hlk h hl
  have hx := hC.1
  have hb := hC.2.1
  have hl : lv_has ls 1 [(0, .ref (q 0))] := hl
  unfold m_X8_meanWear at hf
  obtain ⟨H, hH⟩ : ∃ H, H = s.heap := ⟨_, rfl⟩
  obtain ⟨locs, hlo⟩ : ∃ x : List Loc, x = [] := ⟨_, rfl⟩
  have h : ho G (eBC G) 430 q v A s H locs := by rw [hH, hlo]; exact h
  rw [← hlo, ← hH]
  clear hH hlo
  refine lv_aload_n hx hb dX8_meanWear_0 rfl (lv_at hl 0 rfl) ?_
  refine xget hC h.o (C := RX8) (T := TX8) (N := 10) (wM_us uw_X8) 0 (Nat.le_of_ble_eq_true rfl) eBC_0 rfl 0 (by decide) (wM_in fl_X8_10) rfl dX8_meanWear_1 ?_
  refine xget hC h.o (C := RX6) (T := TX6) (N := 13) (wM_us uw_X6) 7 (Nat.le_of_ble_eq_true rfl) eBC_7 rfl 0 (by decide) (wM_in fl_X8_277) rfl dX8_meanWear_4 ?_
  obtain ⟨r2, hy1, hf⟩ := ob_e hf
  refine xiO h (va_runV (As := []) (rest := []) hC (c_X0_allErasures l G (sh 8 q) (sh 8 v) hy1 H.size) (xcwV hC lk_X8_356 in_X0 co_X0_allErasures im_X0_allErasures se_X0_allErasures rfl rfl dd_X0_allErasures ⟨Nat.le_of_ble_eq_true rfl, Nat.le_of_ble_eq_true rfl⟩) (preVO h.o 8 4 sBC_8 (Nat.le_of_ble_eq_true rfl) (Nat.le_of_ble_eq_true rfl) eBC_8 rfl []) rfl rfl hl.1 rfl (lv_room (Nat.le_of_ble_eq_true rfl)) dX8_meanWear_7 ⟨Nat.zero_le _, Nat.zero_le _⟩) (fun H locs h => ?_)
  refine lv_i2f hx hb dX8_meanWear_10 ?_
  refine xldcf hC (wM_in cn_X8_404) dX8_meanWear_11 ?_
  obtain ⟨hn3, hf⟩ := ck_e hf
  refine lv_fdiv hx hb dX8_meanWear_14 hn3 ?_
  have hf := sm_e hf
  exact ofret hC hr hlk h (by rw [← hf]) dX8_meanWear_15
