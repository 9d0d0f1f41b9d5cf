def m_X9_withdraw (v : xSt) (p1 : Int32) : Option (Int32 × xSt) := lt (st2 v 0 8 (0 : Int32)) (fun v1 => ob (m_X9_rankOf v1 p1) (fun r3 => (if r3 = (-1 : Int32) then ob (m_X9_fails v1 (1 : Int32)) (fun r11 => lt (r11.2) (fun v12 => some (r11.1, v12))) else ob (m_X9_saves v1) (fun r6 => ob (m_X9_removes r6 r3) (fun r8 => ck (¬ ((580 : Int32) < 0 ∨ 797 ≤ (580 : Int32).toNatClampNeg)) (some ((r8 1 (580 : Int32).toNatClampNeg), r8)))))))
set_option maxHeartbeats 4000000 in
set_option maxRecDepth 100000 in
theorem c_X9_withdraw (l : Launch) (G : xGl) (q : Nat → Nat) (v : xSt) (p1 : Int32) {z : (Int32 × xSt)} (hf : m_X9_withdraw v p1 = some z) : mRW l yX9_withdraw (wM yX9_withdraw cX9_withdraw 3 (some .int)) { frames := 2, cells := 0, slots := 0, locals := 45 } G (eMod G) 8 q v [.ref (q 0), .int p1] (qI z.1) z.2 := by
  refine xRW (cc := cX9_withdraw) (maxL := 3) (ret := (some .int)) (by decide) rfl (Nat.le_of_ble_eq_true rfl) ?_
  intro p e s m below meth c ls A hC hr hlk h hl
  have hx := hC.1
  have hb := hC.2.1
  have hl : lv_has ls 3 [(0, .ref (q 0)), (1, .int p1)] := hl
  unfold m_X9_withdraw at hf
  obtain ⟨H, hH⟩ : ∃ H, H = s.heap := ⟨_, rfl⟩
  obtain ⟨locs, hlo⟩ : ∃ x : List Loc, x = [] := ⟨_, rfl⟩
  have h : hg G (eMod G) 8 q v A s H locs := by rw [hH, hlo]; exact h
  rw [← hlo, ← hH]
  clear hH hlo
  refine lv_aload_n hx hb dX9_withdraw_0 rfl (lv_at hl 0 rfl) ?_
  refine lv_iconst (v := (0 : Int32)) hx hb dX9_withdraw_1 (by decide) ?_
  refine xput hC h (C := RX9) (T := TX9) (N := 17) (wM_us uw_X9) tyX9_ok nmX9 0 (Nat.le_of_ble_eq_true rfl) eMod_0 rfl 8 (by decide) (wM_in fl_X9_31) rfl (ty := .int) (tyX9_ok 8 (by decide)) rfl rfl (Nat.le_of_ble_eq_true rfl) (eMod_0.trans rfl) dX9_withdraw_2 (fun H locs h => ?_)
  obtain ⟨v1, ev1, hf⟩ := lt_e hf
  rw [← ev1] at h
  refine lv_aload_n hx hb dX9_withdraw_5 rfl (lv_at hl 0 rfl) ?_
  refine lv_iload_n hx hb dX9_withdraw_6 rfl (lv_at hl 1 rfl) ?_
  obtain ⟨r3, hy2, hf⟩ := ob_e hf
  refine xiG h (va_runV (As := [.int p1]) (rest := []) hC (c_X9_rankOf l G q v1 p1 hy2 H.size) (xcwV hC lk_X9_170 in_X9 co_X9_rankOf im_X9_rankOf se_X9_rankOf rfl rfl dd_X9_rankOf ⟨Nat.le_of_ble_eq_true rfl, Nat.le_of_ble_eq_true rfl⟩) (preVO0 h.o (Nat.le_of_ble_eq_true rfl) eMod_0 rfl [.int p1]) rfl rfl hl.1 rfl (lv_room (Nat.le_of_ble_eq_true rfl)) dX9_withdraw_7 ⟨Nat.zero_le _, Nat.zero_le _⟩) (fun H locs h => ?_)
  refine lv_istore_n (lv' := [(2, .int r3), (0, .ref (q 0)), (1, .int p1)]) hx hb dX9_withdraw_10 rfl hl (by decide) rfl (fun ls hl => ?_)
  refine lv_iload_n hx hb dX9_withdraw_11 rfl (lv_at hl 0 rfl) ?_
  refine lv_iconst (v := (-1 : Int32)) hx hb dX9_withdraw_12 (by decide) ?_
  refine lv_icmp_ne (tgt := 22) hx hb dX9_withdraw_13 (by decide) (fun c4 => ?_) (fun c4 => ?_)
  · have hf := it_f c4 hf
    refine lv_aload_n hx hb dX9_withdraw_22 rfl (lv_at hl 1 rfl) ?_
    obtain ⟨r6, hy5, hf⟩ := ob_e hf
    refine xv0 h (va_runV (As := []) (rest := []) hC (c_X9_saves l G q v1 hy5 H.size) (xcwV hC lk_X9_145 in_X9 co_X9_saves im_X9_saves se_X9_saves rfl rfl dd_X9_saves ⟨Nat.le_of_ble_eq_true rfl, Nat.le_of_ble_eq_true rfl⟩) (preV0 h (Nat.le_of_ble_eq_true rfl) eMod_0 rfl []) rfl rfl hl.1 rfl (lv_room (Nat.le_of_ble_eq_true rfl)) dX9_withdraw_23 ⟨Nat.zero_le _, Nat.zero_le _⟩) (fun H locs h => ?_)
    refine lv_aload_n hx hb dX9_withdraw_26 rfl (lv_at hl 1 rfl) ?_
    refine lv_iload_n hx hb dX9_withdraw_27 rfl (lv_at hl 0 rfl) ?_
    obtain ⟨r8, hy7, hf⟩ := ob_e hf
    refine xv0 h (va_runV (As := [.int r3]) (rest := []) hC (c_X9_removes l G q r6 r3 hy7 H.size) (xcwV hC lk_X9_75 in_X9 co_X9_removes im_X9_removes se_X9_removes rfl rfl dd_X9_removes ⟨Nat.le_of_ble_eq_true rfl, Nat.le_of_ble_eq_true rfl⟩) (preV0 h (Nat.le_of_ble_eq_true rfl) eMod_0 rfl [.int r3]) rfl rfl hl.1 rfl (lv_room (Nat.le_of_ble_eq_true rfl)) dX9_withdraw_28 ⟨Nat.zero_le _, Nat.zero_le _⟩) (fun H locs h => ?_)
    refine lv_aload_n hx hb dX9_withdraw_31 rfl (lv_at hl 1 rfl) ?_
    refine xget hC h.o (C := RX9) (T := TX9) (N := 17) (wM_us uw_X9) 0 (Nat.le_of_ble_eq_true rfl) eMod_0 rfl 0 (by decide) (wM_in fl_X9_7) rfl dX9_withdraw_32 ?_
    refine lv_sipush (v := (580 : Int32)) hx hb dX9_withdraw_35 (by decide) ?_
    obtain ⟨hi9, hf⟩ := ck_e hf
    refine xiald hC h.o 1 (Nat.le_of_ble_eq_true rfl) eMod_1 hi9 dX9_withdraw_38 ?_
    have hf := sm_e hf
    exact xiret hC hr hlk h (by rw [← hf]) (by rw [← hf]) dX9_withdraw_39
  · have hf := it_t c4 hf
    refine lv_aload_n hx hb dX9_withdraw_16 rfl (lv_at hl 1 rfl) ?_
    refine lv_iconst (v := (1 : Int32)) hx hb dX9_withdraw_17 (by decide) ?_
    obtain ⟨r11, hy10, hf⟩ := ob_e hf
    refine xi0 h (va_runV (As := [.int (1 : Int32)]) (rest := []) hC (c_X9_fails l G q v1 (1 : Int32) hy10 H.size) (xcwV hC lk_X9_142 in_X9 co_X9_fails im_X9_fails se_X9_fails rfl rfl dd_X9_fails ⟨Nat.le_of_ble_eq_true rfl, Nat.le_of_ble_eq_true rfl⟩) (preV0 h (Nat.le_of_ble_eq_true rfl) eMod_0 rfl [.int (1 : Int32)]) rfl rfl hl.1 rfl (lv_room (Nat.le_of_ble_eq_true rfl)) dX9_withdraw_18 ⟨Nat.zero_le _, Nat.zero_le _⟩) (fun H locs h => ?_)
    obtain ⟨v12, ev12, hf⟩ := lt_e hf
    rw [← ev12] at h
    have hf := sm_e hf
    exact xiret hC hr hlk h (by rw [← hf]) (by rw [← hf]) dX9_withdraw_21
def m_X9_pass (v : xSt) (p1 : Int32) : Option (Int32 × xSt) := lt (st2 v 0 8 (0 : Int32)) (fun v1 => (if (xwi p1 (1 : Int32) (200 : Int32)) = 0 then ob (m_X9_fails v1 (1 : Int32)) (fun r10 => lt (r10.2) (fun v11 => some (r10.1, v11))) else ob (m_X9_saves v1) (fun r5 => ob (m_X9_passes r5 p1) (fun r7 => lt (r7.2) (fun v8 => some (r7.1, v8))))))
set_option maxHeartbeats 4000000 in
set_option maxRecDepth 100000 in
theorem c_X9_pass (l : Launch) (G : xGl) (q : Nat → Nat) (v : xSt) (p1 : Int32) {z : (Int32 × xSt)} (hf : m_X9_pass v p1 = some z) : mRW l yX9_pass (wM yX9_pass cX9_pass 2 (some .int)) { frames := 6, cells := 0, slots := 0, locals := 137 } G (eMod G) 8 q v [.ref (q 0), .int p1] (qI z.1) z.2 := by
  refine xRW (cc := cX9_pass) (maxL := 2) (ret := (some .int)) (by decide) rfl (Nat.le_of_ble_eq_true rfl) ?_
  intro p e s m below meth c ls A hC hr hlk h hl
  have hx := hC.1
  have hb := hC.2.1
  have hl : lv_has ls 2 [(0, .ref (q 0)), (1, .int p1)] := hl
  unfold m_X9_pass at hf
  obtain ⟨H, hH⟩ : ∃ H, H = s.heap := ⟨_, rfl⟩
  obtain ⟨locs, hlo⟩ : ∃ x : List Loc, x = [] := ⟨_, rfl⟩
  have h : hg G (eMod G) 8 q v A s H locs := by rw [hH, hlo]; exact h
  rw [← hlo, ← hH]
  clear hH hlo
  refine lv_aload_n hx hb dX9_pass_0 rfl (lv_at hl 0 rfl) ?_
  refine lv_iconst (v := (0 : Int32)) hx hb dX9_pass_1 (by decide) ?_
  refine xput hC h (C := RX9) (T := TX9) (N := 17) (wM_us uw_X9) tyX9_ok nmX9 0 (Nat.le_of_ble_eq_true rfl) eMod_0 rfl 8 (by decide) (wM_in fl_X9_31) rfl (ty := .int) (tyX9_ok 8 (by decide)) rfl rfl (Nat.le_of_ble_eq_true rfl) (eMod_0.trans rfl) dX9_pass_2 (fun H locs h => ?_)
  obtain ⟨v1, ev1, hf⟩ := lt_e hf
  rw [← ev1] at h
  refine lv_iload_n hx hb dX9_pass_5 rfl (lv_at hl 1 rfl) ?_
  refine lv_iconst (v := (1 : Int32)) hx hb dX9_pass_6 (by decide) ?_
  refine lv_sipush (v := (200 : Int32)) hx hb dX9_pass_7 (by decide) ?_
  refine xzG h (va_runS (As := [.int p1, .int (1 : Int32), .int (200 : Int32)]) (rest := []) hC (k_X9_in l G q v1 p1 (1 : Int32) (200 : Int32) H.size) (xcwS hC lk_X9_42 in_X9 co_X9_in st_X9_in rfl rfl dd_X9_in ⟨Nat.le_of_ble_eq_true rfl, Nat.le_of_ble_eq_true rfl⟩) (preSN h.o [.int p1, .int (1 : Int32), .int (200 : Int32)]) rfl rfl hl.1 rfl (lv_room (Nat.le_of_ble_eq_true rfl)) dX9_pass_10 ⟨Nat.zero_le _, Nat.zero_le _⟩) (fun H locs hz2 h => ?_)
  refine lv_if_ne (tgt := 22) hx hb dX9_pass_13 (by decide) (fun c3 => ?_) (fun c3 => ?_)
  · have hf := it_f c3 hf
    refine lv_aload_n hx hb dX9_pass_22 rfl (lv_at hl 0 rfl) ?_
    obtain ⟨r5, hy4, hf⟩ := ob_e hf
    refine xv0 h (va_runV (As := []) (rest := []) hC (c_X9_saves l G q v1 hy4 H.size) (xcwV hC lk_X9_145 in_X9 co_X9_saves im_X9_saves se_X9_saves rfl rfl dd_X9_saves ⟨Nat.le_of_ble_eq_true rfl, Nat.le_of_ble_eq_true rfl⟩) (preV0 h (Nat.le_of_ble_eq_true rfl) eMod_0 rfl []) rfl rfl hl.1 rfl (lv_room (Nat.le_of_ble_eq_true rfl)) dX9_pass_23 ⟨Nat.zero_le _, Nat.zero_le _⟩) (fun H locs h => ?_)
    refine lv_aload_n hx hb dX9_pass_26 rfl (lv_at hl 0 rfl) ?_
    refine lv_iload_n hx hb dX9_pass_27 rfl (lv_at hl 1 rfl) ?_
    obtain ⟨r7, hy6, hf⟩ := ob_e hf
    refine xi0 h (va_runV (As := [.int p1]) (rest := []) hC (c_X9_passes l G q r5 p1 hy6 H.size) (xcwV hC lk_X9_173 in_X9 co_X9_passes im_X9_passes se_X9_passes rfl rfl dd_X9_passes ⟨Nat.le_of_ble_eq_true rfl, Nat.le_of_ble_eq_true rfl⟩) (preV0 h (Nat.le_of_ble_eq_true rfl) eMod_0 rfl [.int p1]) rfl rfl hl.1 rfl (lv_room (Nat.le_of_ble_eq_true rfl)) dX9_pass_28 ⟨Nat.zero_le _, Nat.zero_le _⟩) (fun H locs h => ?_)
    obtain ⟨v8, ev8, hf⟩ := lt_e hf
    rw [← ev8] at h
    have hf := sm_e hf
    exact xiret hC hr hlk h (by rw [← hf]) (by rw [← hf]) dX9_pass_31
  · have hf := it_t c3 hf
    refine lv_aload_n hx hb dX9_pass_16 rfl (lv_at hl 0 rfl) ?_
    refine lv_iconst (v := (1 : Int32)) hx hb dX9_pass_17 (by decide) ?_
    obtain ⟨r10, hy9, hf⟩ := ob_e hf
    refine xi0 h (va_runV (As := [.int (1 : Int32)]) (rest := []) hC (c_X9_fails l G q v1 (1 : Int32) hy9 H.size) (xcwV hC lk_X9_142 in_X9 co_X9_fails im_X9_fails se_X9_fails rfl rfl dd_X9_fails ⟨Nat.le_of_ble_eq_true rfl, Nat.le_of_ble_eq_true rfl⟩) (preV0 h (Nat.le_of_ble_eq_true rfl) eMod_0 rfl [.int (1 : Int32)]) rfl rfl hl.1 rfl (lv_room (Nat.le_of_ble_eq_true rfl)) dX9_pass_18 ⟨Nat.zero_le _, Nat.zero_le _⟩) (fun H locs h => ?_)
    obtain ⟨v11, ev11, hf⟩ := lt_e hf
    rw [← ev11] at h
    have hf := sm_e hf
    exact xiret hC hr hlk h (by rw [← hf]) (by rw [← hf]) dX9_pass_21
def m_X9_mostOf (p0 : Int32) : Option (Int32) := lt (fun (_ : Unit) => some (9 : Int32)) (fun j1 => (if p0 = 0 then j1 () else (if p0 = (4 : Int32) then j1 () else (if p0 = (3 : Int32) then some (20 : Int32) else some (99 : Int32)))))
set_option maxHeartbeats 4000000 in
set_option maxRecDepth 100000 in
theorem c_X9_mostOf (l : Launch) (G : xGl) (q : Nat → Nat) (v : xSt) (p0 : Int32) {z : (Int32)} (hf : m_X9_mostOf p0 = some z) : mRO l yX9_mostOf (wM yX9_mostOf cX9_mostOf 1 (some .int)) { frames := 0, cells := 0, slots := 0, locals := 0 } G (e0) 0 q v [.int p0] (qI z) := by
  refine xRO (cc := cX9_mostOf) (maxL := 1) (ret := (some .int)) (by decide) rfl (Nat.le_of_ble_eq_true rfl) ?_
  intro p e s m below meth c ls A hC hr hlk h hl
  have hx := hC.1
  have hb := hC.2.1
  have hl : lv_has ls 1 [(0, .int p0)] := hl
  unfold m_X9_mostOf at hf
  obtain ⟨H, hH⟩ : ∃ H, H = s.heap := ⟨_, rfl⟩
  obtain ⟨locs, hlo⟩ : ∃ x : List Loc, x = [] := ⟨_, rfl⟩
  have h : ho G (e0) 0 q v A s H locs := by rw [hH, hlo]; exact h
  rw [← hlo, ← hH]
  clear hH hlo
  refine lv_iload_n hx hb dX9_mostOf_0 rfl (lv_at hl 0 rfl) ?_
  obtain ⟨j1, ej1, hf⟩ := lt_e hf
  have hj1 : ∀ (uu : Unit) (H : Heap) (locs : List Loc), ho G (e0) 0 q v A s H locs → ∀ (ls : Array Slot), lv_has ls 1 [] → j1 uu = some z → W p l e { frames := 0, cells := 0, slots := 0, locals := 0 } s m [.int p0].toArray below meth c H locs 0 0 (MQ below ((qI z) (fun _ => True) A) [.int p0].toArray s 0 0 A) (F0 m 9 ls []) := by
    intro uu H locs h ls hl hf
    rw [ej1] at hf
    refine lv_bipush (v := (9 : Int32)) hx hb dX9_mostOf_9 (by decide) ?_
    refine lv_goto (tgt := 26) hx hb dX9_mostOf_11 (by decide) ?_
    have hf := sm_e hf
    exact oiret hC hr hlk h (by rw [← hf]) dX9_mostOf_26
  refine lv_if_eq (tgt := 9) hx hb dX9_mostOf_1 (by decide) (fun c2 => ?_) (fun c2 => ?_)
  · have hf := it_t c2 hf
    exact hj1 () H locs h ls (lv_sub hl [] rfl) hf
  · have hf := it_f c2 hf
    refine lv_iload_n hx hb dX9_mostOf_4 rfl (lv_at hl 0 rfl) ?_
    refine lv_iconst (v := (4 : Int32)) hx hb dX9_mostOf_5 (by decide) ?_
    refine lv_icmp_ne (tgt := 14) hx hb dX9_mostOf_6 (by decide) (fun c3 => ?_) (fun c3 => ?_)
    · have hf := it_f c3 hf
      refine lv_iload_n hx hb dX9_mostOf_14 rfl (lv_at hl 0 rfl) ?_
      refine lv_iconst (v := (3 : Int32)) hx hb dX9_mostOf_15 (by decide) ?_
      refine lv_icmp_ne (tgt := 24) hx hb dX9_mostOf_16 (by decide) (fun c4 => ?_) (fun c4 => ?_)
      · have hf := it_f c4 hf
        refine lv_bipush (v := (99 : Int32)) hx hb dX9_mostOf_24 (by decide) ?_
        have hf := sm_e hf
        exact oiret hC hr hlk h (by rw [← hf]) dX9_mostOf_26
      · have hf := it_t c4 hf
        refine lv_bipush (v := (20 : Int32)) hx hb dX9_mostOf_19 (by decide) ?_
        refine lv_goto (tgt := 26) hx hb dX9_mostOf_21 (by decide) ?_
        have hf := sm_e hf
        exact oiret hC hr hlk h (by rw [← hf]) dX9_mostOf_26
    · have hf := it_t c3 hf
      exact hj1 () H locs h ls (lv_sub hl [] rfl) hf
def m_X9_set (v : xSt) (p1 : Int32) (p2 : Int32) : Option (Int32 × xSt) := lt (st2 v 0 8 (0 : Int32)) (fun v1 => (if (xwi p1 (0 : Int32) (4 : Int32)) = 0 then ob (m_X9_fails v1 (1 : Int32)) (fun r18 => lt (r18.2) (fun v19 => some (r18.1, v19))) else ob (m_X9_mostOf p1) (fun r5 => (if (xwi p2 (1 : Int32) r5) = 0 then ob (m_X9_fails v1 (2 : Int32)) (fun r15 => lt (r15.2) (fun v16 => some (r15.1, v16))) else ob (m_X9_saves v1) (fun r9 => ck (¬ (((556 : Int32) + p1) < 0 ∨ 797 ≤ ((556 : Int32) + p1).toNatClampNeg)) (lt ((r9 1 ((556 : Int32) + p1).toNatClampNeg)) (fun x11 => ck (¬ (((556 : Int32) + p1) < 0 ∨ 797 ≤ ((556 : Int32) + p1).toNatClampNeg)) (lt (st2 r9 1 ((556 : Int32) + p1).toNatClampNeg p2) (fun v13 => some (x11, v13))))))))))
set_option maxHeartbeats 4000000 in
set_option maxRecDepth 100000 in
theorem c_X9_set (l : Launch) (G : xGl) (q : Nat → Nat) (v : xSt) (p1 : Int32) (p2 : Int32) {z : (Int32 × xSt)} (hf : m_X9_set v p1 p2 = some z) : mRW l yX9_set (wM yX9_set cX9_set 4 (some .int)) { frames := 2, cells := 0, slots := 0, locals := 45 } G (eMod G) 8 q v [.ref (q 0), .int p1, .int p2] (qI z.1) z.2 := by
  refine xRW (cc := cX9_set) (maxL := 4) (ret := (some .int)) (by decide) rfl (Nat.le_of_ble_eq_true rfl) ?_
  intro p e s m below meth c ls A hC hr hlk h hl
  have hx := hC.1
  have hb := hC.2.1
  have hl : lv_has ls 4 [(0, .ref (q 0)), (1, .int p1), (2, .int p2)] := hl
  unfold m_X9_set at hf
  obtain ⟨H, hH⟩ : ∃ H, H = s.heap := ⟨_, rfl⟩
  obtain ⟨locs, hlo⟩ : ∃ x : List Loc, x = [] := ⟨_, rfl⟩
  have h : hg G (eMod G) 8 q v A s H locs := by rw [hH, hlo]; exact h
  rw [← hlo, ← hH]
  clear hH hlo
  refine lv_aload_n hx hb dX9_set_0 rfl (lv_at hl 0 rfl) ?_
  refine lv_iconst (v := (0 : Int32)) hx hb dX9_set_1 (by decide) ?_
  refine xput hC h (C := RX9) (T := TX9) (N := 17) (wM_us uw_X9) tyX9_ok nmX9 0 (Nat.le_of_ble_eq_true rfl) eMod_0 rfl 8 (by decide) (wM_in fl_X9_31) rfl (ty := .int) (tyX9_ok 8 (by decide)) rfl rfl (Nat.le_of_ble_eq_true rfl) (eMod_0.trans rfl) dX9_set_2 (fun H locs h => ?_)
  obtain ⟨v1, ev1, hf⟩ := lt_e hf
  rw [← ev1] at h
  refine lv_iload_n hx hb dX9_set_5 rfl (lv_at hl 1 rfl) ?_
  refine lv_iconst (v := (0 : Int32)) hx hb dX9_set_6 (by decide) ?_
  refine lv_iconst (v := (4 : Int32)) hx hb dX9_set_7 (by decide) ?_
  refine xzG h (va_runS (As := [.int p1, .int (0 : Int32), .int (4 : Int32)]) (rest := []) hC (k_X9_in l G q v1 p1 (0 : Int32) (4 : Int32) H.size) (xcwS hC lk_X9_42 in_X9 co_X9_in st_X9_in rfl rfl dd_X9_in ⟨Nat.le_of_ble_eq_true rfl, Nat.le_of_ble_eq_true rfl⟩) (preSN h.o [.int p1, .int (0 : Int32), .int (4 : Int32)]) rfl rfl hl.1 rfl (lv_room (Nat.le_of_ble_eq_true rfl)) dX9_set_8 ⟨Nat.zero_le _, Nat.zero_le _⟩) (fun H locs hz2 h => ?_)
  refine lv_if_ne (tgt := 20) hx hb dX9_set_11 (by decide) (fun c3 => ?_) (fun c3 => ?_)
  · have hf := it_f c3 hf
    refine lv_iload_n hx hb dX9_set_20 rfl (lv_at hl 2 rfl) ?_
    refine lv_iconst (v := (1 : Int32)) hx hb dX9_set_21 (by decide) ?_
    refine lv_iload_n hx hb dX9_set_22 rfl (lv_at hl 1 rfl) ?_
    obtain ⟨r5, hy4, hf⟩ := ob_e hf
    refine xiG h (va_runS (As := [.int p1]) (rest := [.int (1 : Int32), .int p2]) hC (c_X9_mostOf l G q v1 p1 hy4 H.size) (xcwS hC lk_X9_176 in_X9 co_X9_mostOf st_X9_mostOf rfl rfl dd_X9_mostOf ⟨Nat.le_of_ble_eq_true rfl, Nat.le_of_ble_eq_true rfl⟩) (preSN h.o [.int p1]) rfl rfl hl.1 rfl (lv_room (Nat.le_of_ble_eq_true rfl)) dX9_set_23 ⟨Nat.zero_le _, Nat.zero_le _⟩) (fun H locs h => ?_)
    refine xzG h (va_runS (As := [.int p2, .int (1 : Int32), .int r5]) (rest := []) hC (k_X9_in l G q v1 p2 (1 : Int32) r5 H.size) (xcwS hC lk_X9_42 in_X9 co_X9_in st_X9_in rfl rfl dd_X9_in ⟨Nat.le_of_ble_eq_true rfl, Nat.le_of_ble_eq_true rfl⟩) (preSN h.o [.int p2, .int (1 : Int32), .int r5]) rfl rfl hl.1 rfl (lv_room (Nat.le_of_ble_eq_true rfl)) dX9_set_26 ⟨Nat.zero_le _, Nat.zero_le _⟩) (fun H locs hz6 h => ?_)
    refine lv_if_ne (tgt := 38) hx hb dX9_set_29 (by decide) (fun c7 => ?_) (fun c7 => ?_)
    · have hf := it_f c7 hf
      refine lv_aload_n hx hb dX9_set_38 rfl (lv_at hl 0 rfl) ?_
      obtain ⟨r9, hy8, hf⟩ := ob_e hf
      refine xv0 h (va_runV (As := []) (rest := []) hC (c_X9_saves l G q v1 hy8 H.size) (xcwV hC lk_X9_145 in_X9 co_X9_saves im_X9_saves se_X9_saves rfl rfl dd_X9_saves ⟨Nat.le_of_ble_eq_true rfl, Nat.le_of_ble_eq_true rfl⟩) (preV0 h (Nat.le_of_ble_eq_true rfl) eMod_0 rfl []) rfl rfl hl.1 rfl (lv_room (Nat.le_of_ble_eq_true rfl)) dX9_set_39 ⟨Nat.zero_le _, Nat.zero_le _⟩) (fun H locs h => ?_)
      refine lv_aload_n hx hb dX9_set_42 rfl (lv_at hl 0 rfl) ?_
      refine xget hC h.o (C := RX9) (T := TX9) (N := 17) (wM_us uw_X9) 0 (Nat.le_of_ble_eq_true rfl) eMod_0 rfl 0 (by decide) (wM_in fl_X9_7) rfl dX9_set_43 ?_
      refine lv_sipush (v := (556 : Int32)) hx hb dX9_set_46 (by decide) ?_
      refine lv_iload_n hx hb dX9_set_49 rfl (lv_at hl 1 rfl) ?_
      refine lv_iadd hx hb dX9_set_50 ?_
      obtain ⟨hi10, hf⟩ := ck_e hf
      refine xiald hC h.o 1 (Nat.le_of_ble_eq_true rfl) eMod_1 hi10 dX9_set_51 ?_
      obtain ⟨x11, ex11, hf⟩ := lt_e hf
      refine lv_nm ex11 ?_
      refine lv_istore_n (lv' := [(3, .int x11), (0, .ref (q 0)), (1, .int p1), (2, .int p2)]) hx hb dX9_set_52 rfl hl (by decide) rfl (fun ls hl => ?_)
      refine lv_aload_n hx hb dX9_set_53 rfl (lv_at hl 1 rfl) ?_
      refine xget hC h.o (C := RX9) (T := TX9) (N := 17) (wM_us uw_X9) 0 (Nat.le_of_ble_eq_true rfl) eMod_0 rfl 0 (by decide) (wM_in fl_X9_7) rfl dX9_set_54 ?_
      refine lv_sipush (v := (556 : Int32)) hx hb dX9_set_57 (by decide) ?_
      refine lv_iload_n hx hb dX9_set_60 rfl (lv_at hl 2 rfl) ?_
      refine lv_iadd hx hb dX9_set_61 ?_
      refine lv_iload_n hx hb dX9_set_62 rfl (lv_at hl 3 rfl) ?_
      obtain ⟨hi12, hf⟩ := ck_e hf
      refine xiast hC h 1 (Nat.le_of_ble_eq_true rfl) (fun _ => eMod_1) hi12 dX9_set_63 (fun H locs h => ?_)
      obtain ⟨v13, ev13, hf⟩ := lt_e hf
      rw [← ev13] at h
      refine lv_iload_n hx hb dX9_set_64 rfl (lv_at hl 0 rfl) ?_
      have hf := sm_e hf
      exact xiret hC hr hlk h (by rw [← hf]) (by rw [← hf]) dX9_set_65
    · have hf := it_t c7 hf
      refine lv_aload_n hx hb dX9_set_32 rfl (lv_at hl 0 rfl) ?_
      refine lv_iconst (v := (2 : Int32)) hx hb dX9_set_33 (by decide) ?_
      obtain ⟨r15, hy14, hf⟩ := ob_e hf
      refine xi0 h (va_runV (As := [.int (2 : Int32)]) (rest := []) hC (c_X9_fails l G q v1 (2 : Int32) hy14 H.size) (xcwV hC lk_X9_142 in_X9 co_X9_fails im_X9_fails se_X9_fails rfl rfl dd_X9_fails ⟨Nat.le_of_ble_eq_true rfl, Nat.le_of_ble_eq_true rfl⟩) (preV0 h (Nat.le_of_ble_eq_true rfl) eMod_0 rfl [.int (2 : Int32)]) rfl rfl hl.1 rfl (lv_room (Nat.le_of_ble_eq_true rfl)) dX9_set_34 ⟨Nat.zero_le _, Nat.zero_le _⟩) (fun H locs h => ?_)
      obtain ⟨v16, ev16, hf⟩ := lt_e hf
      rw [← ev16] at h
      have hf := sm_e hf
      exact xiret hC hr hlk h (by rw [← hf]) (by rw [← hf]) dX9_set_37
  · have hf := it_t c3 hf
    refine lv_aload_n hx hb dX9_set_14 rfl (lv_at hl 0 rfl) ?_
    refine lv_iconst (v := (1 : Int32)) hx hb dX9_set_15 (by decide) ?_
    obtain ⟨r18, hy17, hf⟩ := ob_e hf
    refine xi0 h (va_runV (As := [.int (1 : Int32)]) (rest := []) hC (c_X9_fails l G q v1 (1 : Int32) hy17 H.size) (xcwV hC lk_X9_142 in_X9 co_X9_fails im_X9_fails se_X9_fails rfl rfl dd_X9_fails ⟨Nat.le_of_ble_eq_true rfl, Nat.le_of_ble_eq_true rfl⟩) (preV0 h (Nat.le_of_ble_eq_true rfl) eMod_0 rfl [.int (1 : Int32)]) rfl rfl hl.1 rfl (lv_room (Nat.le_of_ble_eq_true rfl)) dX9_set_16 ⟨Nat.zero_le _, Nat.zero_le _⟩) (fun H locs h => ?_)
    obtain ⟨v19, ev19, hf⟩ := lt_e hf
    rw [← ev19] at h
    have hf := sm_e hf
    exact xiret hC hr hlk h (by rw [← hf]) (by rw [← hf]) dX9_set_19
def m_X9_append (v : xSt) (p1 : Int32) : Option (Int32 × xSt) := lt (st2 v 0 8 (0 : Int32)) (fun v1 => (if (xwi p1 (33 : Int32) (126 : Int32)) = 0 then ob (m_X9_fails v1 (1 : Int32)) (fun r12 => lt (r12.2) (fun v13 => some (r12.1, v13))) else (if (v1 0 7) = (60 : Int32) then ob (m_X9_fails v1 (2 : Int32)) (fun r9 => lt (r9.2) (fun v10 => some (r9.1, v10))) else ck (¬ ((v1 0 7) < 0 ∨ 60 ≤ (v1 0 7).toNatClampNeg)) (lt (st2 v1 5 (v1 0 7).toNatClampNeg p1) (fun v6 => lt (st2 v6 0 7 ((v6 0 7) + (1 : Int32))) (fun v7 => some ((v7 0 7), v7)))))))
set_option maxHeartbeats 4000000 in
set_option maxRecDepth 100000 in
theorem c_X9_append (l : Launch) (G : xGl) (q : Nat → Nat) (v : xSt) (p1 : Int32) {z : (Int32 × xSt)} (hf : m_X9_append v p1 = some z) : mRW l yX9_append (wM yX9_append cX9_append 2 (some .int)) { frames := 1, cells := 0, slots := 0, locals := 22 } G (eMod G) 8 q v [.ref (q 0), .int p1] (qI z.1) z.2 := by
  refine xRW (cc := cX9_append) (maxL := 2) (ret := (some .int)) (by decide) rfl (Nat.le_of_ble_eq_true rfl) ?_
  intro p e s m below meth c ls A hC hr hlk h hl
  have hx := hC.1
  have hb := hC.2.1
  have hl : lv_has ls 2 [(0, .ref (q 0)), (1, .int p1)] := hl
  unfold m_X9_append at hf
  obtain ⟨H, hH⟩ : ∃ H, H = s.heap := ⟨_, rfl⟩
  obtain ⟨locs, hlo⟩ : ∃ x : List Loc, x = [] := ⟨_, rfl⟩
  have h : hg G (eMod G) 8 q v A s H locs := by rw [hH, hlo]; exact h
  rw [← hlo, ← hH]
  clear hH hlo
  refine lv_aload_n hx hb dX9_append_0 rfl (lv_at hl 0 rfl) ?_
  refine lv_iconst (v := (0 : Int32)) hx hb dX9_append_1 (by decide) ?_
  refine xput hC h (C := RX9) (T := TX9) (N := 17) (wM_us uw_X9) tyX9_ok nmX9 0 (Nat.le_of_ble_eq_true rfl) eMod_0 rfl 8 (by decide) (wM_in fl_X9_31) rfl (ty := .int) (tyX9_ok 8 (by decide)) rfl rfl (Nat.le_of_ble_eq_true rfl) (eMod_0.trans rfl) dX9_append_2 (fun H locs h => ?_)
  obtain ⟨v1, ev1, hf⟩ := lt_e hf
  rw [← ev1] at h
  refine lv_iload_n hx hb dX9_append_5 rfl (lv_at hl 1 rfl) ?_
  refine lv_bipush (v := (33 : Int32)) hx hb dX9_append_6 (by decide) ?_
  refine lv_bipush (v := (126 : Int32)) hx hb dX9_append_8 (by decide) ?_
  refine xzG h (va_runS (As := [.int p1, .int (33 : Int32), .int (126 : Int32)]) (rest := []) hC (k_X9_in l G q v1 p1 (33 : Int32) (126 : Int32) H.size) (xcwS hC lk_X9_42 in_X9 co_X9_in st_X9_in rfl rfl dd_X9_in ⟨Nat.le_of_ble_eq_true rfl, Nat.le_of_ble_eq_true rfl⟩) (preSN h.o [.int p1, .int (33 : Int32), .int (126 : Int32)]) rfl rfl hl.1 rfl (lv_room (Nat.le_of_ble_eq_true rfl)) dX9_append_10 ⟨Nat.zero_le _, Nat.zero_le _⟩) (fun H locs hz2 h => ?_)
  refine lv_if_ne (tgt := 22) hx hb dX9_append_13 (by decide) (fun c3 => ?_) (fun c3 => ?_)
  · have hf := it_f c3 hf
    refine lv_aload_n hx hb dX9_append_22 rfl (lv_at hl 0 rfl) ?_
    refine xget hC h.o (C := RX9) (T := TX9) (N := 17) (wM_us uw_X9) 0 (Nat.le_of_ble_eq_true rfl) eMod_0 rfl 7 (by decide) (wM_in fl_X9_179) rfl dX9_append_23 ?_
    refine lv_bipush (v := (60 : Int32)) hx hb dX9_append_26 (by decide) ?_
    refine lv_icmp_ne (tgt := 37) hx hb dX9_append_28 (by decide) (fun c4 => ?_) (fun c4 => ?_)
    · have hf := it_f c4 hf
      refine lv_aload_n hx hb dX9_append_37 rfl (lv_at hl 0 rfl) ?_
      refine xget hC h.o (C := RX9) (T := TX9) (N := 17) (wM_us uw_X9) 0 (Nat.le_of_ble_eq_true rfl) eMod_0 rfl 6 (by decide) (wM_in fl_X9_22) rfl dX9_append_38 ?_
      refine lv_aload_n hx hb dX9_append_41 rfl (lv_at hl 0 rfl) ?_
      refine xget hC h.o (C := RX9) (T := TX9) (N := 17) (wM_us uw_X9) 0 (Nat.le_of_ble_eq_true rfl) eMod_0 rfl 7 (by decide) (wM_in fl_X9_179) rfl dX9_append_42 ?_
      refine lv_iload_n hx hb dX9_append_45 rfl (lv_at hl 1 rfl) ?_
      obtain ⟨hi5, hf⟩ := ck_e hf
      refine xiast hC h 5 (Nat.le_of_ble_eq_true rfl) (fun _ => eMod_5) hi5 dX9_append_46 (fun H locs h => ?_)
      obtain ⟨v6, ev6, hf⟩ := lt_e hf
      rw [← ev6] at h
      refine lv_aload_n hx hb dX9_append_47 rfl (lv_at hl 0 rfl) ?_
      refine lv_dup hx hb dX9_append_48 rfl ?_
      refine xget hC h.o (C := RX9) (T := TX9) (N := 17) (wM_us uw_X9) 0 (Nat.le_of_ble_eq_true rfl) eMod_0 rfl 7 (by decide) (wM_in fl_X9_179) rfl dX9_append_49 ?_
      refine lv_iconst (v := (1 : Int32)) hx hb dX9_append_52 (by decide) ?_
      refine lv_iadd hx hb dX9_append_53 ?_
      refine xput hC h (C := RX9) (T := TX9) (N := 17) (wM_us uw_X9) tyX9_ok nmX9 0 (Nat.le_of_ble_eq_true rfl) eMod_0 rfl 7 (by decide) (wM_in fl_X9_179) rfl (ty := .int) (tyX9_ok 7 (by decide)) rfl rfl (Nat.le_of_ble_eq_true rfl) (eMod_0.trans rfl) dX9_append_54 (fun H locs h => ?_)
      obtain ⟨v7, ev7, hf⟩ := lt_e hf
      rw [← ev7] at h
      refine lv_aload_n hx hb dX9_append_57 rfl (lv_at hl 0 rfl) ?_
      refine xget hC h.o (C := RX9) (T := TX9) (N := 17) (wM_us uw_X9) 0 (Nat.le_of_ble_eq_true rfl) eMod_0 rfl 7 (by decide) (wM_in fl_X9_179) rfl dX9_append_58 ?_
      have hf := sm_e hf
      exact xiret hC hr hlk h (by rw [← hf]) (by rw [← hf]) dX9_append_61
    · have hf := it_t c4 hf
      refine lv_aload_n hx hb dX9_append_31 rfl (lv_at hl 0 rfl) ?_
      refine lv_iconst (v := (2 : Int32)) hx hb dX9_append_32 (by decide) ?_
      obtain ⟨r9, hy8, hf⟩ := ob_e hf
      refine xi0 h (va_runV (As := [.int (2 : Int32)]) (rest := []) hC (c_X9_fails l G q v1 (2 : Int32) hy8 H.size) (xcwV hC lk_X9_142 in_X9 co_X9_fails im_X9_fails se_X9_fails rfl rfl dd_X9_fails ⟨Nat.le_of_ble_eq_true rfl, Nat.le_of_ble_eq_true rfl⟩) (preV0 h (Nat.le_of_ble_eq_true rfl) eMod_0 rfl [.int (2 : Int32)]) rfl rfl hl.1 rfl (lv_room (Nat.le_of_ble_eq_true rfl)) dX9_append_33 ⟨Nat.zero_le _, Nat.zero_le _⟩) (fun H locs h => ?_)
      obtain ⟨v10, ev10, hf⟩ := lt_e hf
      rw [← ev10] at h
      have hf := sm_e hf
      exact xiret hC hr hlk h (by rw [← hf]) (by rw [← hf]) dX9_append_36
  · have hf := it_t c3 hf
    refine lv_aload_n hx hb dX9_append_16 rfl (lv_at hl 0 rfl) ?_
    refine lv_iconst (v := (1 : Int32)) hx hb dX9_append_17 (by decide) ?_
    obtain ⟨r12, hy11, hf⟩ := ob_e hf
    refine xi0 h (va_runV (As := [.int (1 : Int32)]) (rest := []) hC (c_X9_fails l G q v1 (1 : Int32) hy11 H.size) (xcwV hC lk_X9_142 in_X9 co_X9_fails im_X9_fails se_X9_fails rfl rfl dd_X9_fails ⟨Nat.le_of_ble_eq_true rfl, Nat.le_of_ble_eq_true rfl⟩) (preV0 h (Nat.le_of_ble_eq_true rfl) eMod_0 rfl [.int (1 : Int32)]) rfl rfl hl.1 rfl (lv_room (Nat.le_of_ble_eq_true rfl)) dX9_append_18 ⟨Nat.zero_le _, Nat.zero_le _⟩) (fun H locs h => ?_)
    obtain ⟨v13, ev13, hf⟩ := lt_e hf
    rw [← ev13] at h
    have hf := sm_e hf
    exact xiret hC hr hlk h (by rw [← hf]) (by rw [← hf]) dX9_append_21
def m_X9_clearBuffer (v : xSt) : Option (Int32 × xSt) := lt (st2 v 0 8 (0 : Int32)) (fun v1 => lt (st2 v1 0 7 (0 : Int32)) (fun v2 => some ((v1 0 7), v2)))
set_option maxHeartbeats 4000000 in
set_option maxRecDepth 100000 in
theorem c_X9_clearBuffer (l : Launch) (G : xGl) (q : Nat → Nat) (v : xSt) {z : (Int32 × xSt)} (hf : m_X9_clearBuffer v = some z) : mRW l yX9_clearBuffer (wM yX9_clearBuffer cX9_clearBuffer 2 (some .int)) { frames := 0, cells := 0, slots := 0, locals := 0 } G (eMod G) 8 q v [.ref (q 0)] (qI z.1) z.2 := by
  refine xRW (cc := cX9_clearBuffer) (maxL := 2) (ret := (some .int)) (by decide) rfl (Nat.le_of_ble_eq_true rfl) ?_
  intro p e s m below meth c ls A hC hr hlk h hl
  have hx := hC.1
  have hb := hC.2.1
  have hl : lv_has ls 2 [(0, .ref (q 0))] := hl
  unfold m_X9_clearBuffer at hf
  obtain ⟨H, hH⟩ : ∃ H, H = s.heap := ⟨_, rfl⟩
  obtain ⟨locs, hlo⟩ : ∃ x : List Loc, x = [] := ⟨_, rfl⟩
  have h : hg G (eMod G) 8 q v A s H locs := by rw [hH, hlo]; exact h
  rw [← hlo, ← hH]
  clear hH hlo
  refine lv_aload_n hx hb dX9_clearBuffer_0 rfl (lv_at hl 0 rfl) ?_
  refine lv_iconst (v := (0 : Int32)) hx hb dX9_clearBuffer_1 (by decide) ?_
  refine xput hC h (C := RX9) (T := TX9) (N := 17) (wM_us uw_X9) tyX9_ok nmX9 0 (Nat.le_of_ble_eq_true rfl) eMod_0 rfl 8 (by decide) (wM_in fl_X9_31) rfl (ty := .int) (tyX9_ok 8 (by decide)) rfl rfl (Nat.le_of_ble_eq_true rfl) (eMod_0.trans rfl) dX9_clearBuffer_2 (fun H locs h => ?_)
  obtain ⟨v1, ev1, hf⟩ := lt_e hf
  rw [← ev1] at h
  refine lv_aload_n hx hb dX9_clearBuffer_5 rfl (lv_at hl 0 rfl) ?_
  refine xget hC h.o (C := RX9) (T := TX9) (N := 17) (wM_us uw_X9) 0 (Nat.le_of_ble_eq_true rfl) eMod_0 rfl 7 (by decide) (wM_in fl_X9_179) rfl dX9_clearBuffer_6 ?_
  refine lv_istore_n (lv' := [(1, .int (v1 0 7)), (0, .ref (q 0))]) hx hb dX9_clearBuffer_9 rfl hl (by decide) rfl (fun ls hl => ?_)
  refine lv_aload_n hx hb dX9_clearBuffer_10 rfl (lv_at hl 1 rfl) ?_
  refine lv_iconst (v := (0 : Int32)) hx hb dX9_clearBuffer_11 (by decide) ?_
  refine xput hC h (C := RX9) (T := TX9) (N := 17) (wM_us uw_X9) tyX9_ok nmX9 0 (Nat.le_of_ble_eq_true rfl) eMod_0 rfl 7 (by decide) (wM_in fl_X9_179) rfl (ty := .int) (tyX9_ok 7 (by decide)) rfl rfl (Nat.le_of_ble_eq_true rfl) (eMod_0.trans rfl) dX9_clearBuffer_12 (fun H locs h => ?_)
  obtain ⟨v2, ev2, hf⟩ := lt_e hf
  rw [← ev2] at h
  refine lv_iload_n hx hb dX9_clearBuffer_15 rfl (lv_at hl 0 rfl) ?_
  have hf := sm_e hf
  exact xiret hC hr hlk h (by rw [← hf]) (by rw [← hf]) dX9_clearBuffer_16
def m_X9_here (v : xSt) : Option (Int32) := (if (v 0 7) ≤ (v 0 9) then some (-1 : Int32) else ck (¬ ((v 0 9) < 0 ∨ 60 ≤ (v 0 9).toNatClampNeg)) (some (v 5 (v 0 9).toNatClampNeg)))
set_option maxHeartbeats 4000000 in
set_option maxRecDepth 100000 in
theorem c_X9_here (l : Launch) (G : xGl) (q : Nat → Nat) (v : xSt) {z : (Int32)} (hf : m_X9_here v = some z) : mRO l yX9_here (wM yX9_here cX9_here 1 (some .int)) { frames := 0, cells := 0, slots := 0, locals := 0 } G (eMod G) 8 q v [.ref (q 0)] (qI z) := by
  refine xRO (cc := cX9_here) (maxL := 1) (ret := (some .int)) (by decide) rfl (Nat.le_of_ble_eq_true rfl) ?_
  intro p e s m below meth c ls A hC hr hlk h hl
  have hx := hC.1
  have hb := hC.2.1
  have hl : lv_has ls 1 [(0, .ref (q 0))] := hl
  unfold m_X9_here at hf
  obtain ⟨H, hH⟩ : ∃ H, H = s.heap := ⟨_, rfl⟩
  obtain ⟨locs, hlo⟩ : ∃ x : List Loc, x = [] := ⟨_, rfl⟩
  have h : ho G (eMod G) 8 q v A s H locs := by rw [hH, hlo]; exact h
  rw [← hlo, ← hH]
  clear hH hlo
  refine lv_aload_n hx hb dX9_here_0 rfl (lv_at hl 0 rfl) ?_
  refine xget hC h.o (C := RX9) (T := TX9) (N := 17) (wM_us uw_X9) 0 (Nat.le_of_ble_eq_true rfl) eMod_0 rfl 9 (by decide) (wM_in fl_X9_182) rfl dX9_here_1 ?_
  refine lv_aload_n hx hb dX9_here_4 rfl (lv_at hl 0 rfl) ?_
  refine xget hC h.o (C := RX9) (T := TX9) (N := 17) (wM_us uw_X9) 0 (Nat.le_of_ble_eq_true rfl) eMod_0 rfl 7 (by decide) (wM_in fl_X9_179) rfl dX9_here_5 ?_
  refine lv_icmp_ge (tgt := 23) hx hb dX9_here_8 (by decide) (fun c1 => ?_) (fun c1 => ?_)
  · have hf := it_t c1 hf
    refine lv_iconst (v := (-1 : Int32)) hx hb dX9_here_23 (by decide) ?_
    have hf := sm_e hf
    exact oiret hC hr hlk h (by rw [← hf]) dX9_here_24
  · have hf := it_f c1 hf
    refine lv_aload_n hx hb dX9_here_11 rfl (lv_at hl 0 rfl) ?_
    refine xget hC h.o (C := RX9) (T := TX9) (N := 17) (wM_us uw_X9) 0 (Nat.le_of_ble_eq_true rfl) eMod_0 rfl 6 (by decide) (wM_in fl_X9_22) rfl dX9_here_12 ?_
    refine lv_aload_n hx hb dX9_here_15 rfl (lv_at hl 0 rfl) ?_
    refine xget hC h.o (C := RX9) (T := TX9) (N := 17) (wM_us uw_X9) 0 (Nat.le_of_ble_eq_true rfl) eMod_0 rfl 9 (by decide) (wM_in fl_X9_182) rfl dX9_here_16 ?_
    obtain ⟨hi2, hf⟩ := ck_e hf
    refine xiald hC h.o 5 (Nat.le_of_ble_eq_true rfl) eMod_5 hi2 dX9_here_19 ?_
    refine lv_goto (tgt := 24) hx hb dX9_here_20 (by decide) ?_
    have hf := sm_e hf
    exact oiret hC hr hlk h (by rw [← hf]) dX9_here_24
def m_X9_takes (v : xSt) (p1 : Int32) : Option xSt := lt (fun (t1 : Int32) => ck (t1 = 0 ∨ t1 = 1) (lt (st2 v 0 10 t1) (fun v4 => lt (fun (t5 : Int32) (t6 : Int32) => lt (st2 v4 0 9 (t5 + t6)) (fun v8 => some v8)) (fun j7 => (if (v4 0 10) = 0 then j7 (v4 0 9) (0 : Int32) else j7 (v4 0 9) (1 : Int32)))))) (fun j2 => lt (fun (_ : Unit) => j2 (0 : Int32)) (fun j10 => (if (v 0 10) = 0 then j10 () else (if p1 = 0 then j10 () else j2 (1 : Int32)))))
set_option maxHeartbeats 4000000 in
set_option maxRecDepth 100000 in
theorem c_X9_takes (l : Launch) (G : xGl) (q : Nat → Nat) (v : xSt) (p1 : Int32) {z : xSt} (hf : m_X9_takes v p1 = some z) : mRW l yX9_takes (wM yX9_takes cX9_takes 2 none) { frames := 0, cells := 0, slots := 0, locals := 0 } G (eMod G) 8 q v [.ref (q 0), .int p1] qV z := by
  refine xRW (cc := cX9_takes) (maxL := 2) (ret := none) (by decide) rfl (Nat.le_of_ble_eq_true rfl) ?_
  intro p e s m below meth c ls A hC hr hlk h hl
  have hx := hC.1
  have hb := hC.2.1
  have hl : lv_has ls 2 [(0, .ref (q 0)), (1, .int p1)] := hl
  unfold m_X9_takes at hf
  obtain ⟨H, hH⟩ : ∃ H, H = s.heap := ⟨_, rfl⟩
  obtain ⟨locs, hlo⟩ : ∃ x : List Loc, x = [] := ⟨_, rfl⟩
  have h : hg G (eMod G) 8 q v A s H locs := by rw [hH, hlo]; exact h
  rw [← hlo, ← hH]
  clear hH hlo
  refine lv_aload_n hx hb dX9_takes_0 rfl (lv_at hl 0 rfl) ?_
  refine lv_aload_n hx hb dX9_takes_1 rfl (lv_at hl 0 rfl) ?_
  refine xget hC h.o (C := RX9) (T := TX9) (N := 17) (wM_us uw_X9) 0 (Nat.le_of_ble_eq_true rfl) eMod_0 rfl 10 (by decide) (wM_in fl_X9_185) rfl dX9_takes_2 ?_
  obtain ⟨j2, ej2, hf⟩ := lt_e hf
  have hj2 : ∀ (t1 : Int32) (H : Heap) (locs : List Loc), hg G (eMod G) 8 q v A s H locs → ∀ (ls : Array Slot), lv_has ls 2 [(0, .ref (q 0))] → j2 t1 = some z → W p l e { frames := 0, cells := 0, slots := 0, locals := 0 } s m [.ref (q 0), .int p1].toArray below meth c H locs 0 0 (MQ below (qV (cB G (eMod G) 8 q z A) A) [.ref (q 0), .int p1].toArray s 0 0 A) (F0 m 17 ls [.int t1, .ref (q 0)]) := by
    intro t1 H locs h ls hl hf
    rw [ej2] at hf
    obtain ⟨hz3, hf⟩ := ck_e hf
    refine xput hC h (C := RX9) (T := TX9) (N := 17) (wM_us uw_X9) tyX9_ok nmX9 0 (Nat.le_of_ble_eq_true rfl) eMod_0 rfl 10 (by decide) (wM_in fl_X9_185) rfl (ty := .boolean) (tyX9_ok 10 (by decide)) (xbit hz3) (xbitf hz3) (Nat.le_of_ble_eq_true rfl) (eMod_0.trans rfl) dX9_takes_17 (fun H locs h => ?_)
    obtain ⟨v4, ev4, hf⟩ := lt_e hf
    rw [← ev4] at h
    refine lv_aload_n hx hb dX9_takes_20 rfl (lv_at hl 0 rfl) ?_
    refine lv_dup hx hb dX9_takes_21 rfl ?_
    refine xget hC h.o (C := RX9) (T := TX9) (N := 17) (wM_us uw_X9) 0 (Nat.le_of_ble_eq_true rfl) eMod_0 rfl 9 (by decide) (wM_in fl_X9_182) rfl dX9_takes_22 ?_
    refine lv_aload_n hx hb dX9_takes_25 rfl (lv_at hl 0 rfl) ?_
    refine xget hC h.o (C := RX9) (T := TX9) (N := 17) (wM_us uw_X9) 0 (Nat.le_of_ble_eq_true rfl) eMod_0 rfl 10 (by decide) (wM_in fl_X9_185) rfl dX9_takes_26 ?_
    obtain ⟨j7, ej7, hf⟩ := lt_e hf
    have hj7 : ∀ (t5 : Int32) (t6 : Int32) (H : Heap) (locs : List Loc), hg G (eMod G) 8 q v4 A s H locs → ∀ (ls : Array Slot), lv_has ls 2 [] → j7 t5 t6 = some z → W p l e { frames := 0, cells := 0, slots := 0, locals := 0 } s m [.ref (q 0), .int p1].toArray below meth c H locs 0 0 (MQ below (qV (cB G (eMod G) 8 q z A) A) [.ref (q 0), .int p1].toArray s 0 0 A) (F0 m 37 ls [.int t6, .int t5, .ref (q 0)]) := by
      intro t5 t6 H locs h ls hl hf
      rw [ej7] at hf
      refine lv_iadd hx hb dX9_takes_37 ?_
      refine xput hC h (C := RX9) (T := TX9) (N := 17) (wM_us uw_X9) tyX9_ok nmX9 0 (Nat.le_of_ble_eq_true rfl) eMod_0 rfl 9 (by decide) (wM_in fl_X9_182) rfl (ty := .int) (tyX9_ok 9 (by decide)) rfl rfl (Nat.le_of_ble_eq_true rfl) (eMod_0.trans rfl) dX9_takes_38 (fun H locs h => ?_)
      obtain ⟨v8, ev8, hf⟩ := lt_e hf
      rw [← ev8] at h
      have hf := sm_e hf
      exact xvret hC hr hlk h hf dX9_takes_41
    refine lv_if_eq (tgt := 36) hx hb dX9_takes_29 (by decide) (fun c9 => ?_) (fun c9 => ?_)
    · have hf := it_t c9 hf
      refine lv_iconst (v := (0 : Int32)) hx hb dX9_takes_36 (by decide) ?_
      exact hj7 (v4 0 9) (0 : Int32) H locs h ls (lv_sub hl [] rfl) hf
    · have hf := it_f c9 hf
      refine lv_iconst (v := (1 : Int32)) hx hb dX9_takes_32 (by decide) ?_
      refine lv_goto (tgt := 37) hx hb dX9_takes_33 (by decide) ?_
      exact hj7 (v4 0 9) (1 : Int32) H locs h ls (lv_sub hl [] rfl) hf
  obtain ⟨j10, ej10, hf⟩ := lt_e hf
  have hj10 : ∀ (uu : Unit) (H : Heap) (locs : List Loc), hg G (eMod G) 8 q v A s H locs → ∀ (ls : Array Slot), lv_has ls 2 [(0, .ref (q 0))] → j10 uu = some z → W p l e { frames := 0, cells := 0, slots := 0, locals := 0 } s m [.ref (q 0), .int p1].toArray below meth c H locs 0 0 (MQ below (qV (cB G (eMod G) 8 q z A) A) [.ref (q 0), .int p1].toArray s 0 0 A) (F0 m 16 ls [.ref (q 0)]) := by
    intro uu H locs h ls hl hf
    rw [ej10] at hf
    refine lv_iconst (v := (0 : Int32)) hx hb dX9_takes_16 (by decide) ?_
    exact hj2 (0 : Int32) H locs h ls (lv_sub hl [0] rfl) hf
  refine lv_if_eq (tgt := 16) hx hb dX9_takes_5 (by decide) (fun c11 => ?_) (fun c11 => ?_)
  · have hf := it_t c11 hf
    exact hj10 () H locs h ls (lv_sub hl [0] rfl) hf
  · have hf := it_f c11 hf
    refine lv_iload_n hx hb dX9_takes_8 rfl (lv_at hl 1 rfl) ?_
    refine lv_if_eq (tgt := 16) hx hb dX9_takes_9 (by decide) (fun c12 => ?_) (fun c12 => ?_)
    · have hf := it_t c12 hf
      exact hj10 () H locs h ls (lv_sub hl [0] rfl) hf
    · have hf := it_f c12 hf
      refine lv_iconst (v := (1 : Int32)) hx hb dX9_takes_12 (by decide) ?_
      refine lv_goto (tgt := 17) hx hb dX9_takes_13 (by decide) ?_
      exact hj2 (1 : Int32) H locs h ls (lv_sub hl [0] rfl) hf
def m_X9_takesNumber (v : xSt) (p1 : Int32) (p2 : Int32) : Option xSt := ob (m_X9_here v) (fun r2 => lt (st2 v 0 12 (r2 - (48 : Int32))) (fun v3 => ob (m_X9_here v3) (fun r5 => lt (fun (t7 : Int32) => ob (m_X9_takes v3 t7) (fun r10 => lp (fun (rec12 : xSt → Option xSt) => un1 (fun (v11 : xSt) => (if (v11 0 10) = 0 then some v11 else (if (v11 0 12) ≤ 0 then some v11 else ob (m_X9_here v11) (fun r16 => (if (xwi r16 (48 : Int32) (57 : Int32)) = 0 then some v11 else ob (m_X9_here v11) (fun r20 => (if p2 < ((((10 : Int32) * (v11 0 12)) + r20) - (48 : Int32)) then some v11 else ob (m_X9_here v11) (fun r23 => lt (st2 v11 0 12 ((((10 : Int32) * (v11 0 12)) + r23) - (48 : Int32))) (fun v24 => lt (st2 v24 0 9 ((v24 0 9) + (1 : Int32))) (fun v25 => rec12 v25))))))))))) xF r10)) (fun j8 => lt (fun (_ : Unit) => j8 (0 : Int32)) (fun j26 => (if (xwi r5 (48 : Int32) (57 : Int32)) = 0 then j26 () else (if (v3 0 12) < p1 then j26 () else (if p2 < (v3 0 12) then j26 () else j8 (1 : Int32)))))))))
set_option maxHeartbeats 4000000 in
set_option maxRecDepth 100000 in
theorem c_X9_takesNumber (l : Launch) (G : xGl) (q : Nat → Nat) (v : xSt) (p1 : Int32) (p2 : Int32) {z : xSt} (hf : m_X9_takesNumber v p1 p2 = some z) : mRW l yX9_takesNumber (wM yX9_takesNumber cX9_takesNumber 3 none) { frames := 1, cells := 0, slots := 0, locals := 22 } G (eMod G) 8 q v [.ref (q 0), .int p1, .int p2] qV z := by
  refine xRW (cc := cX9_takesNumber) (maxL := 3) (ret := none) (by decide) rfl (Nat.le_of_ble_eq_true rfl) ?_
  intro p e s m below meth c ls A hC hr hlk h hl
  have hx := hC.1
  have hb := hC.2.1
  have hl : lv_has ls 3 [(0, .ref (q 0)), (1, .int p1), (2, .int p2)] := hl
  unfold m_X9_takesNumber at hf
  obtain ⟨H, hH⟩ : ∃ H, H = s.heap := ⟨_, rfl⟩
  obtain ⟨locs, hlo⟩ : ∃ x : List Loc, x = [] := ⟨_, rfl⟩
  have h : hg G (eMod G) 8 q v A s H locs := by rw [hH, hlo]; exact h
  rw [← hlo, ← hH]
  clear hH hlo
  refine lv_aload_n hx hb dX9_takesNumber_0 rfl (lv_at hl 0 rfl) ?_
  refine lv_aload_n hx hb dX9_takesNumber_1 rfl (lv_at hl 0 rfl) ?_
  obtain ⟨r2, hy1, hf⟩ := ob_e hf
  refine xiG h (va_runV (As := []) (rest := [.ref (q 0)]) hC (c_X9_here l G q v hy1 H.size) (xcwV hC lk_X9_189 in_X9 co_X9_here im_X9_here se_X9_here rfl rfl dd_X9_here ⟨Nat.le_of_ble_eq_true rfl, Nat.le_of_ble_eq_true rfl⟩) (preVO0 h.o (Nat.le_of_ble_eq_true rfl) eMod_0 rfl []) rfl rfl hl.1 rfl (lv_room (Nat.le_of_ble_eq_true rfl)) dX9_takesNumber_2 ⟨Nat.zero_le _, Nat.zero_le _⟩) (fun H locs h => ?_)
  refine lv_bipush (v := (48 : Int32)) hx hb dX9_takesNumber_5 (by decide) ?_
  refine lv_isub hx hb dX9_takesNumber_7 ?_
  refine xput hC h (C := RX9) (T := TX9) (N := 17) (wM_us uw_X9) tyX9_ok nmX9 0 (Nat.le_of_ble_eq_true rfl) eMod_0 rfl 12 (by decide) (wM_in fl_X9_192) rfl (ty := .int) (tyX9_ok 12 (by decide)) rfl rfl (Nat.le_of_ble_eq_true rfl) (eMod_0.trans rfl) dX9_takesNumber_8 (fun H locs h => ?_)
  obtain ⟨v3, ev3, hf⟩ := lt_e hf
  rw [← ev3] at h
  refine lv_aload_n hx hb dX9_takesNumber_11 rfl (lv_at hl 0 rfl) ?_
  refine lv_aload_n hx hb dX9_takesNumber_12 rfl (lv_at hl 0 rfl) ?_
  obtain ⟨r5, hy4, hf⟩ := ob_e hf
  refine xiG h (va_runV (As := []) (rest := [.ref (q 0)]) hC (c_X9_here l G q v3 hy4 H.size) (xcwV hC lk_X9_189 in_X9 co_X9_here im_X9_here se_X9_here rfl rfl dd_X9_here ⟨Nat.le_of_ble_eq_true rfl, Nat.le_of_ble_eq_true rfl⟩) (preVO0 h.o (Nat.le_of_ble_eq_true rfl) eMod_0 rfl []) rfl rfl hl.1 rfl (lv_room (Nat.le_of_ble_eq_true rfl)) dX9_takesNumber_13 ⟨Nat.zero_le _, Nat.zero_le _⟩) (fun H locs h => ?_)
  refine lv_bipush (v := (48 : Int32)) hx hb dX9_takesNumber_16 (by decide) ?_
  refine lv_bipush (v := (57 : Int32)) hx hb dX9_takesNumber_18 (by decide) ?_
  refine xzG h (va_runS (As := [.int r5, .int (48 : Int32), .int (57 : Int32)]) (rest := [.ref (q 0)]) hC (k_X9_in l G q v3 r5 (48 : Int32) (57 : Int32) H.size) (xcwS hC lk_X9_42 in_X9 co_X9_in st_X9_in rfl rfl dd_X9_in ⟨Nat.le_of_ble_eq_true rfl, Nat.le_of_ble_eq_true rfl⟩) (preSN h.o [.int r5, .int (48 : Int32), .int (57 : Int32)]) rfl rfl hl.1 rfl (lv_room (Nat.le_of_ble_eq_true rfl)) dX9_takesNumber_20 ⟨Nat.zero_le _, Nat.zero_le _⟩) (fun H locs hz6 h => ?_)
  obtain ⟨j8, ej8, hf⟩ := lt_e hf
  have hj8 : ∀ (t7 : Int32) (H : Heap) (locs : List Loc), hg G (eMod G) 8 q v3 A s H locs → ∀ (ls : Array Slot), lv_has ls 3 [(0, .ref (q 0)), (2, .int p2)] → j8 t7 = some z → W p l e { frames := 1, cells := 0, slots := 0, locals := 22 } s m [.ref (q 0), .int p1, .int p2].toArray below meth c H locs 0 0 (MQ below (qV (cB G (eMod G) 8 q z A) A) [.ref (q 0), .int p1, .int p2].toArray s 0 0 A) (F0 m 47 ls [.int t7, .ref (q 0)]) := by
    intro t7 H locs h ls hl hf
    rw [ej8] at hf
    obtain ⟨r10, hy9, hf⟩ := ob_e hf
    refine xv0 h (va_runV (As := [.int t7]) (rest := []) hC (c_X9_takes l G q v3 t7 hy9 H.size) (xcwV hC lk_X9_195 in_X9 co_X9_takes im_X9_takes se_X9_takes rfl rfl dd_X9_takes ⟨Nat.le_of_ble_eq_true rfl, Nat.le_of_ble_eq_true rfl⟩) (preV0 h (Nat.le_of_ble_eq_true rfl) eMod_0 rfl [.int t7]) rfl rfl hl.1 rfl (lv_room (Nat.le_of_ble_eq_true rfl)) dX9_takesNumber_47 ⟨Nat.zero_le _, Nat.zero_le _⟩) (fun H locs h => ?_)
    refine lp_i (z := z) (P := fun (pp : xSt) => ∀ (H : Heap) (locs : List Loc), hg G (eMod G) 8 q pp A s H locs → ∀ (ls : Array Slot), lv_has ls 3 [(0, .ref (q 0)), (2, .int p2)] → W p l e { frames := 1, cells := 0, slots := 0, locals := 22 } s m [.ref (q 0), .int p1, .int p2].toArray below meth c H locs 0 0 (MQ below (qV (cB G (eMod G) 8 q z A) A) [.ref (q 0), .int p1, .int p2].toArray s 0 0 A) (F0 m 50 ls [])) ?_ _ _ hf H locs h ls (lv_sub hl [0, 1] rfl)
    intro rec12 hrec12 pp hf H locs h ls hl
    obtain ⟨v11, hpp⟩ : ∃ y, y = pp := ⟨_, rfl⟩
    subst hpp
    have h : hg G (eMod G) 8 q v11 A s H locs := h
    have hl : lv_has ls 3 [(0, .ref (q 0)), (2, .int p2)] := hl
    have hf := un1_e hf
    refine lv_aload_n hx hb dX9_takesNumber_50 rfl (lv_at hl 0 rfl) ?_
    refine xget hC h.o (C := RX9) (T := TX9) (N := 17) (wM_us uw_X9) 0 (Nat.le_of_ble_eq_true rfl) eMod_0 rfl 10 (by decide) (wM_in fl_X9_185) rfl dX9_takesNumber_51 ?_
    refine lv_if_eq (tgt := 129) hx hb dX9_takesNumber_54 (by decide) (fun c13 => ?_) (fun c13 => ?_)
    · have hf := it_t c13 hf
      have hf := sm_e hf
      exact xvret hC hr hlk h hf dX9_takesNumber_129
    · have hf := it_f c13 hf
      refine lv_aload_n hx hb dX9_takesNumber_57 rfl (lv_at hl 0 rfl) ?_
      refine xget hC h.o (C := RX9) (T := TX9) (N := 17) (wM_us uw_X9) 0 (Nat.le_of_ble_eq_true rfl) eMod_0 rfl 12 (by decide) (wM_in fl_X9_192) rfl dX9_takesNumber_58 ?_
      refine lv_if_le (tgt := 129) hx hb dX9_takesNumber_61 (by decide) (fun c14 => ?_) (fun c14 => ?_)
      · have hf := it_t c14 hf
        have hf := sm_e hf
        exact xvret hC hr hlk h hf dX9_takesNumber_129
      · have hf := it_f c14 hf
        refine lv_aload_n hx hb dX9_takesNumber_64 rfl (lv_at hl 0 rfl) ?_
        obtain ⟨r16, hy15, hf⟩ := ob_e hf
        refine xiG h (va_runV (As := []) (rest := []) hC (c_X9_here l G q v11 hy15 H.size) (xcwV hC lk_X9_189 in_X9 co_X9_here im_X9_here se_X9_here rfl rfl dd_X9_here ⟨Nat.le_of_ble_eq_true rfl, Nat.le_of_ble_eq_true rfl⟩) (preVO0 h.o (Nat.le_of_ble_eq_true rfl) eMod_0 rfl []) rfl rfl hl.1 rfl (lv_room (Nat.le_of_ble_eq_true rfl)) dX9_takesNumber_65 ⟨Nat.zero_le _, Nat.zero_le _⟩) (fun H locs h => ?_)
        refine lv_bipush (v := (48 : Int32)) hx hb dX9_takesNumber_68 (by decide) ?_
        refine lv_bipush (v := (57 : Int32)) hx hb dX9_takesNumber_70 (by decide) ?_
        refine xzG h (va_runS (As := [.int r16, .int (48 : Int32), .int (57 : Int32)]) (rest := []) hC (k_X9_in l G q v11 r16 (48 : Int32) (57 : Int32) H.size) (xcwS hC lk_X9_42 in_X9 co_X9_in st_X9_in rfl rfl dd_X9_in ⟨Nat.le_of_ble_eq_true rfl, Nat.le_of_ble_eq_true rfl⟩) (preSN h.o [.int r16, .int (48 : Int32), .int (57 : Int32)]) rfl rfl hl.1 rfl (lv_room (Nat.le_of_ble_eq_true rfl)) dX9_takesNumber_72 ⟨Nat.zero_le _, Nat.zero_le _⟩) (fun H locs hz17 h => ?_)
        refine lv_if_eq (tgt := 129) hx hb dX9_takesNumber_75 (by decide) (fun c18 => ?_) (fun c18 => ?_)
        · have hf := it_t c18 hf
          have hf := sm_e hf
          exact xvret hC hr hlk h hf dX9_takesNumber_129
        · have hf := it_f c18 hf
          refine lv_bipush (v := (10 : Int32)) hx hb dX9_takesNumber_78 (by decide) ?_
          refine lv_aload_n hx hb dX9_takesNumber_80 rfl (lv_at hl 0 rfl) ?_
          refine xget hC h.o (C := RX9) (T := TX9) (N := 17) (wM_us uw_X9) 0 (Nat.le_of_ble_eq_true rfl) eMod_0 rfl 12 (by decide) (wM_in fl_X9_192) rfl dX9_takesNumber_81 ?_
          refine lv_imul hx hb dX9_takesNumber_84 ?_
          refine lv_aload_n hx hb dX9_takesNumber_85 rfl (lv_at hl 0 rfl) ?_
          obtain ⟨r20, hy19, hf⟩ := ob_e hf
          refine xiG h (va_runV (As := []) (rest := [.int ((10 : Int32) * (v11 0 12))]) hC (c_X9_here l G q v11 hy19 H.size) (xcwV hC lk_X9_189 in_X9 co_X9_here im_X9_here se_X9_here rfl rfl dd_X9_here ⟨Nat.le_of_ble_eq_true rfl, Nat.le_of_ble_eq_true rfl⟩) (preVO0 h.o (Nat.le_of_ble_eq_true rfl) eMod_0 rfl []) rfl rfl hl.1 rfl (lv_room (Nat.le_of_ble_eq_true rfl)) dX9_takesNumber_86 ⟨Nat.zero_le _, Nat.zero_le _⟩) (fun H locs h => ?_)
          refine lv_iadd hx hb dX9_takesNumber_89 ?_
          refine lv_bipush (v := (48 : Int32)) hx hb dX9_takesNumber_90 (by decide) ?_
          refine lv_isub hx hb dX9_takesNumber_92 ?_
          refine lv_iload_n hx hb dX9_takesNumber_93 rfl (lv_at hl 1 rfl) ?_
          refine lv_icmp_gt (tgt := 129) hx hb dX9_takesNumber_94 (by decide) (fun c21 => ?_) (fun c21 => ?_)
          · have hf := it_t c21 hf
            have hf := sm_e hf
            exact xvret hC hr hlk h hf dX9_takesNumber_129
          · have hf := it_f c21 hf
            refine lv_aload_n hx hb dX9_takesNumber_97 rfl (lv_at hl 0 rfl) ?_
            refine lv_bipush (v := (10 : Int32)) hx hb dX9_takesNumber_98 (by decide) ?_
            refine lv_aload_n hx hb dX9_takesNumber_100 rfl (lv_at hl 0 rfl) ?_
            refine xget hC h.o (C := RX9) (T := TX9) (N := 17) (wM_us uw_X9) 0 (Nat.le_of_ble_eq_true rfl) eMod_0 rfl 12 (by decide) (wM_in fl_X9_192) rfl dX9_takesNumber_101 ?_
            refine lv_imul hx hb dX9_takesNumber_104 ?_
            refine lv_aload_n hx hb dX9_takesNumber_105 rfl (lv_at hl 0 rfl) ?_
            obtain ⟨r23, hy22, hf⟩ := ob_e hf
            refine xiG h (va_runV (As := []) (rest := [.int ((10 : Int32) * (v11 0 12)), .ref (q 0)]) hC (c_X9_here l G q v11 hy22 H.size) (xcwV hC lk_X9_189 in_X9 co_X9_here im_X9_here se_X9_here rfl rfl dd_X9_here ⟨Nat.le_of_ble_eq_true rfl, Nat.le_of_ble_eq_true rfl⟩) (preVO0 h.o (Nat.le_of_ble_eq_true rfl) eMod_0 rfl []) rfl rfl hl.1 rfl (lv_room (Nat.le_of_ble_eq_true rfl)) dX9_takesNumber_106 ⟨Nat.zero_le _, Nat.zero_le _⟩) (fun H locs h => ?_)
            refine lv_iadd hx hb dX9_takesNumber_109 ?_
            refine lv_bipush (v := (48 : Int32)) hx hb dX9_takesNumber_110 (by decide) ?_
            refine lv_isub hx hb dX9_takesNumber_112 ?_
            refine xput hC h (C := RX9) (T := TX9) (N := 17) (wM_us uw_X9) tyX9_ok nmX9 0 (Nat.le_of_ble_eq_true rfl) eMod_0 rfl 12 (by decide) (wM_in fl_X9_192) rfl (ty := .int) (tyX9_ok 12 (by decide)) rfl rfl (Nat.le_of_ble_eq_true rfl) (eMod_0.trans rfl) dX9_takesNumber_113 (fun H locs h => ?_)
            obtain ⟨v24, ev24, hf⟩ := lt_e hf
            rw [← ev24] at h
            refine lv_aload_n hx hb dX9_takesNumber_116 rfl (lv_at hl 0 rfl) ?_
            refine lv_dup hx hb dX9_takesNumber_117 rfl ?_
            refine xget hC h.o (C := RX9) (T := TX9) (N := 17) (wM_us uw_X9) 0 (Nat.le_of_ble_eq_true rfl) eMod_0 rfl 9 (by decide) (wM_in fl_X9_182) rfl dX9_takesNumber_118 ?_
            refine lv_iconst (v := (1 : Int32)) hx hb dX9_takesNumber_121 (by decide) ?_
            refine lv_iadd hx hb dX9_takesNumber_122 ?_
            refine xput hC h (C := RX9) (T := TX9) (N := 17) (wM_us uw_X9) tyX9_ok nmX9 0 (Nat.le_of_ble_eq_true rfl) eMod_0 rfl 9 (by decide) (wM_in fl_X9_182) rfl (ty := .int) (tyX9_ok 9 (by decide)) rfl rfl (Nat.le_of_ble_eq_true rfl) (eMod_0.trans rfl) dX9_takesNumber_123 (fun H locs h => ?_)
            obtain ⟨v25, ev25, hf⟩ := lt_e hf
            rw [← ev25] at h
            refine lv_goto (tgt := 50) hx hb dX9_takesNumber_126 (by decide) ?_
            exact hrec12 v25 hf H locs h ls (lv_sub hl [0, 1] rfl)
  obtain ⟨j26, ej26, hf⟩ := lt_e hf
  have hj26 : ∀ (uu : Unit) (H : Heap) (locs : List Loc), hg G (eMod G) 8 q v3 A s H locs → ∀ (ls : Array Slot), lv_has ls 3 [(0, .ref (q 0)), (2, .int p2)] → j26 uu = some z → W p l e { frames := 1, cells := 0, slots := 0, locals := 22 } s m [.ref (q 0), .int p1, .int p2].toArray below meth c H locs 0 0 (MQ below (qV (cB G (eMod G) 8 q z A) A) [.ref (q 0), .int p1, .int p2].toArray s 0 0 A) (F0 m 46 ls [.ref (q 0)]) := by
    intro uu H locs h ls hl hf
    rw [ej26] at hf
    refine lv_iconst (v := (0 : Int32)) hx hb dX9_takesNumber_46 (by decide) ?_
    exact hj8 (0 : Int32) H locs h ls (lv_sub hl [0, 1] rfl) hf
  refine lv_if_eq (tgt := 46) hx hb dX9_takesNumber_23 (by decide) (fun c27 => ?_) (fun c27 => ?_)
  · have hf := it_t c27 hf
    exact hj26 () H locs h ls (lv_sub hl [0, 2] rfl) hf
  · have hf := it_f c27 hf
    refine lv_aload_n hx hb dX9_takesNumber_26 rfl (lv_at hl 0 rfl) ?_
    refine xget hC h.o (C := RX9) (T := TX9) (N := 17) (wM_us uw_X9) 0 (Nat.le_of_ble_eq_true rfl) eMod_0 rfl 12 (by decide) (wM_in fl_X9_192) rfl dX9_takesNumber_27 ?_
    refine lv_iload_n hx hb dX9_takesNumber_30 rfl (lv_at hl 1 rfl) ?_
    refine lv_icmp_lt (tgt := 46) hx hb dX9_takesNumber_31 (by decide) (fun c28 => ?_) (fun c28 => ?_)
    · have hf := it_t c28 hf
      exact hj26 () H locs h ls (lv_sub hl [0, 2] rfl) hf
    · have hf := it_f c28 hf
      refine lv_aload_n hx hb dX9_takesNumber_34 rfl (lv_at hl 0 rfl) ?_
      refine xget hC h.o (C := RX9) (T := TX9) (N := 17) (wM_us uw_X9) 0 (Nat.le_of_ble_eq_true rfl) eMod_0 rfl 12 (by decide) (wM_in fl_X9_192) rfl dX9_takesNumber_35 ?_
      refine lv_iload_n hx hb dX9_takesNumber_38 rfl (lv_at hl 2 rfl) ?_
      refine lv_icmp_gt (tgt := 46) hx hb dX9_takesNumber_39 (by decide) (fun c29 => ?_) (fun c29 => ?_)
      · have hf := it_t c29 hf
        exact hj26 () H locs h ls (lv_sub hl [0, 2] rfl) hf
      · have hf := it_f c29 hf
        refine lv_iconst (v := (1 : Int32)) hx hb dX9_takesNumber_42 (by decide) ?_
        refine lv_goto (tgt := 47) hx hb dX9_takesNumber_43 (by decide) ?_
        exact hj8 (1 : Int32) H locs h ls (lv_sub hl [0, 2] rfl) hf
def m_X9_figure (p0 : Int32) : Option (Int32) := (if (xwi p0 (48 : Int32) (57 : Int32)) = 0 then (if (xwi p0 (97 : Int32) (102 : Int32)) = 0 then some (-1 : Int32) else some ((p0 - (97 : Int32)) + (10 : Int32))) else some (p0 - (48 : Int32)))
set_option maxHeartbeats 4000000 in
set_option maxRecDepth 100000 in
theorem c_X9_figure (l : Launch) (G : xGl) (q : Nat → Nat) (v : xSt) (p0 : Int32) {z : (Int32)} (hf : m_X9_figure p0 = some z) : mRO l yX9_figure (wM yX9_figure cX9_figure 1 (some .int)) { frames := 1, cells := 0, slots := 0, locals := 22 } G (e0) 0 q v [.int p0] (qI z) := by
  refine xRO (cc := cX9_figure) (maxL := 1) (ret := (some .int)) (by decide) rfl (Nat.le_of_ble_eq_true rfl) ?_
  intro p e s m below meth c ls A hC hr hlk h hl
  have hx := hC.1
  have hb := hC.2.1
  have hl : lv_has ls 1 [(0, .int p0)] := hl
  unfold m_X9_figure at hf
  obtain ⟨H, hH⟩ : ∃ H, H = s.heap := ⟨_, rfl⟩
  obtain ⟨locs, hlo⟩ : ∃ x : List Loc, x = [] := ⟨_, rfl⟩
  have h : ho G (e0) 0 q v A s H locs := by rw [hH, hlo]; exact h
  rw [← hlo, ← hH]
  clear hH hlo
  refine lv_iload_n hx hb dX9_figure_0 rfl (lv_at hl 0 rfl) ?_
  refine lv_bipush (v := (48 : Int32)) hx hb dX9_figure_1 (by decide) ?_
  refine lv_bipush (v := (57 : Int32)) hx hb dX9_figure_3 (by decide) ?_
  refine xzO h (va_runS (As := [.int p0, .int (48 : Int32), .int (57 : Int32)]) (rest := []) hC (k_X9_in l G q v p0 (48 : Int32) (57 : Int32) H.size) (xcwS hC lk_X9_42 in_X9 co_X9_in st_X9_in rfl rfl dd_X9_in ⟨Nat.le_of_ble_eq_true rfl, Nat.le_of_ble_eq_true rfl⟩) (preSN h.o [.int p0, .int (48 : Int32), .int (57 : Int32)]) rfl rfl hl.1 rfl (lv_room (Nat.le_of_ble_eq_true rfl)) dX9_figure_5 ⟨Nat.zero_le _, Nat.zero_le _⟩) (fun H locs hz1 h => ?_)
  refine lv_if_eq (tgt := 18) hx hb dX9_figure_8 (by decide) (fun c2 => ?_) (fun c2 => ?_)
  · have hf := it_t c2 hf
    refine lv_iload_n hx hb dX9_figure_18 rfl (lv_at hl 0 rfl) ?_
    refine lv_bipush (v := (97 : Int32)) hx hb dX9_figure_19 (by decide) ?_
    refine lv_bipush (v := (102 : Int32)) hx hb dX9_figure_21 (by decide) ?_
    refine xzO h (va_runS (As := [.int p0, .int (97 : Int32), .int (102 : Int32)]) (rest := []) hC (k_X9_in l G q v p0 (97 : Int32) (102 : Int32) H.size) (xcwS hC lk_X9_42 in_X9 co_X9_in st_X9_in rfl rfl dd_X9_in ⟨Nat.le_of_ble_eq_true rfl, Nat.le_of_ble_eq_true rfl⟩) (preSN h.o [.int p0, .int (97 : Int32), .int (102 : Int32)]) rfl rfl hl.1 rfl (lv_room (Nat.le_of_ble_eq_true rfl)) dX9_figure_23 ⟨Nat.zero_le _, Nat.zero_le _⟩) (fun H locs hz3 h => ?_)
    refine lv_if_eq (tgt := 39) hx hb dX9_figure_26 (by decide) (fun c4 => ?_) (fun c4 => ?_)
    · have hf := it_t c4 hf
      refine lv_iconst (v := (-1 : Int32)) hx hb dX9_figure_39 (by decide) ?_
      have hf := sm_e hf
      exact oiret hC hr hlk h (by rw [← hf]) dX9_figure_40
    · have hf := it_f c4 hf
      refine lv_iload_n hx hb dX9_figure_29 rfl (lv_at hl 0 rfl) ?_
      refine lv_bipush (v := (97 : Int32)) hx hb dX9_figure_30 (by decide) ?_
      refine lv_isub hx hb dX9_figure_32 ?_
      refine lv_bipush (v := (10 : Int32)) hx hb dX9_figure_33 (by decide) ?_
      refine lv_iadd hx hb dX9_figure_35 ?_
      refine lv_goto (tgt := 40) hx hb dX9_figure_36 (by decide) ?_
      have hf := sm_e hf
      exact oiret hC hr hlk h (by rw [← hf]) dX9_figure_40
  · have hf := it_f c2 hf
    refine lv_iload_n hx hb dX9_figure_11 rfl (lv_at hl 0 rfl) ?_
    refine lv_bipush (v := (48 : Int32)) hx hb dX9_figure_12 (by decide) ?_
    refine lv_isub hx hb dX9_figure_14 ?_
    refine lv_goto (tgt := 40) hx hb dX9_figure_15 (by decide) ?_
    have hf := sm_e hf
    exact oiret hC hr hlk h (by rw [← hf]) dX9_figure_40
def m_X9_takesValue (v : xSt) : Option xSt := ob (m_X9_here v) (fun r2 => ob (m_X9_figure r2) (fun r4 => lt (fun (t5 : Int32) => ob (m_X9_takes v t5) (fun r8 => ob (m_X9_here r8) (fun r10 => ob (m_X9_figure r10) (fun r12 => lt (fun (t13 : Int32) => ob (m_X9_takes r8 t13) (fun r16 => ck (¬ ((r16 0 14) < 0 ∨ 8 ≤ (r16 0 14).toNatClampNeg)) (lt (st2 r16 6 (r16 0 14).toNatClampNeg (((16 : Int32) * r4) + r12)) (fun v18 => lt (st2 v18 0 14 ((v18 0 14) + (1 : Int32))) (fun v19 => some v19))))) (fun j14 => (if r12 < 0 then j14 (0 : Int32) else j14 (1 : Int32))))))) (fun j6 => (if r4 < 0 then j6 (0 : Int32) else j6 (1 : Int32)))))
set_option maxHeartbeats 4000000 in
set_option maxRecDepth 100000 in
theorem c_X9_takesValue (l : Launch) (G : xGl) (q : Nat → Nat) (v : xSt) {z : xSt} (hf : m_X9_takesValue v = some z) : mRW l yX9_takesValue (wM yX9_takesValue cX9_takesValue 3 none) { frames := 2, cells := 0, slots := 0, locals := 42 } G (eMod G) 8 q v [.ref (q 0)] qV z := by
  refine xRW (cc := cX9_takesValue) (maxL := 3) (ret := none) (by decide) rfl (Nat.le_of_ble_eq_true rfl) ?_
  intro p e s m below meth c ls A hC hr hlk h hl
  have hx := hC.1
  have hb := hC.2.1
  have hl : lv_has ls 3 [(0, .ref (q 0))] := hl
  unfold m_X9_takesValue at hf
  obtain ⟨H, hH⟩ : ∃ H, H = s.heap := ⟨_, rfl⟩
  obtain ⟨locs, hlo⟩ : ∃ x : List Loc, x = [] := ⟨_, rfl⟩
  have h : hg G (eMod G) 8 q v A s H locs := by rw [hH, hlo]; exact h
  rw [← hlo, ← hH]
  clear hH hlo
  refine lv_aload_n hx hb dX9_takesValue_0 rfl (lv_at hl 0 rfl) ?_
  obtain ⟨r2, hy1, hf⟩ := ob_e hf
  refine xiG h (va_runV (As := []) (rest := []) hC (c_X9_here l G q v hy1 H.size) (xcwV hC lk_X9_189 in_X9 co_X9_here im_X9_here se_X9_here rfl rfl dd_X9_here ⟨Nat.le_of_ble_eq_true rfl, Nat.le_of_ble_eq_true rfl⟩) (preVO0 h.o (Nat.le_of_ble_eq_true rfl) eMod_0 rfl []) rfl rfl hl.1 rfl (lv_room (Nat.le_of_ble_eq_true rfl)) dX9_takesValue_1 ⟨Nat.zero_le _, Nat.zero_le _⟩) (fun H locs h => ?_)
  obtain ⟨r4, hy3, hf⟩ := ob_e hf
  refine xiG h (va_runS (As := [.int r2]) (rest := []) hC (c_X9_figure l G q v r2 hy3 H.size) (xcwS hC lk_X9_199 in_X9 co_X9_figure st_X9_figure rfl rfl dd_X9_figure ⟨Nat.le_of_ble_eq_true rfl, Nat.le_of_ble_eq_true rfl⟩) (preSN h.o [.int r2]) rfl rfl hl.1 rfl (lv_room (Nat.le_of_ble_eq_true rfl)) dX9_takesValue_4 ⟨Nat.zero_le _, Nat.zero_le _⟩) (fun H locs h => ?_)
  refine lv_istore_n (lv' := [(1, .int r4), (0, .ref (q 0))]) hx hb dX9_takesValue_7 rfl hl (by decide) rfl (fun ls hl => ?_)
  refine lv_aload_n hx hb dX9_takesValue_8 rfl (lv_at hl 1 rfl) ?_
  refine lv_iload_n hx hb dX9_takesValue_9 rfl (lv_at hl 0 rfl) ?_
  obtain ⟨j6, ej6, hf⟩ := lt_e hf
  have hj6 : ∀ (t5 : Int32) (H : Heap) (locs : List Loc), hg G (eMod G) 8 q v A s H locs → ∀ (ls : Array Slot), lv_has ls 3 [(0, .ref (q 0)), (1, .int r4)] → j6 t5 = some z → W p l e { frames := 2, cells := 0, slots := 0, locals := 42 } s m [.ref (q 0)].toArray below meth c H locs 0 0 (MQ below (qV (cB G (eMod G) 8 q z A) A) [.ref (q 0)].toArray s 0 0 A) (F0 m 18 ls [.int t5, .ref (q 0)]) := by
    intro t5 H locs h ls hl hf
    rw [ej6] at hf
    obtain ⟨r8, hy7, hf⟩ := ob_e hf
    refine xv0 h (va_runV (As := [.int t5]) (rest := []) hC (c_X9_takes l G q v t5 hy7 H.size) (xcwV hC lk_X9_195 in_X9 co_X9_takes im_X9_takes se_X9_takes rfl rfl dd_X9_takes ⟨Nat.le_of_ble_eq_true rfl, Nat.le_of_ble_eq_true rfl⟩) (preV0 h (Nat.le_of_ble_eq_true rfl) eMod_0 rfl [.int t5]) rfl rfl hl.1 rfl (lv_room (Nat.le_of_ble_eq_true rfl)) dX9_takesValue_18 ⟨Nat.zero_le _, Nat.zero_le _⟩) (fun H locs h => ?_)
    refine lv_aload_n hx hb dX9_takesValue_21 rfl (lv_at hl 0 rfl) ?_
    obtain ⟨r10, hy9, hf⟩ := ob_e hf
    refine xiG h (va_runV (As := []) (rest := []) hC (c_X9_here l G q r8 hy9 H.size) (xcwV hC lk_X9_189 in_X9 co_X9_here im_X9_here se_X9_here rfl rfl dd_X9_here ⟨Nat.le_of_ble_eq_true rfl, Nat.le_of_ble_eq_true rfl⟩) (preVO0 h.o (Nat.le_of_ble_eq_true rfl) eMod_0 rfl []) rfl rfl hl.1 rfl (lv_room (Nat.le_of_ble_eq_true rfl)) dX9_takesValue_22 ⟨Nat.zero_le _, Nat.zero_le _⟩) (fun H locs h => ?_)
    obtain ⟨r12, hy11, hf⟩ := ob_e hf
    refine xiG h (va_runS (As := [.int r10]) (rest := []) hC (c_X9_figure l G q r8 r10 hy11 H.size) (xcwS hC lk_X9_199 in_X9 co_X9_figure st_X9_figure rfl rfl dd_X9_figure ⟨Nat.le_of_ble_eq_true rfl, Nat.le_of_ble_eq_true rfl⟩) (preSN h.o [.int r10]) rfl rfl hl.1 rfl (lv_room (Nat.le_of_ble_eq_true rfl)) dX9_takesValue_25 ⟨Nat.zero_le _, Nat.zero_le _⟩) (fun H locs h => ?_)
    refine lv_istore_n (lv' := [(2, .int r12), (0, .ref (q 0)), (1, .int r4)]) hx hb dX9_takesValue_28 rfl hl (by decide) rfl (fun ls hl => ?_)
    refine lv_aload_n hx hb dX9_takesValue_29 rfl (lv_at hl 1 rfl) ?_
    refine lv_iload_n hx hb dX9_takesValue_30 rfl (lv_at hl 0 rfl) ?_
    obtain ⟨j14, ej14, hf⟩ := lt_e hf
    have hj14 : ∀ (t13 : Int32) (H : Heap) (locs : List Loc), hg G (eMod G) 8 q r8 A s H locs → ∀ (ls : Array Slot), lv_has ls 3 [(0, .ref (q 0)), (1, .int r4), (2, .int r12)] → j14 t13 = some z → W p l e { frames := 2, cells := 0, slots := 0, locals := 42 } s m [.ref (q 0)].toArray below meth c H locs 0 0 (MQ below (qV (cB G (eMod G) 8 q z A) A) [.ref (q 0)].toArray s 0 0 A) (F0 m 39 ls [.int t13, .ref (q 0)]) := by
      intro t13 H locs h ls hl hf
      rw [ej14] at hf
      obtain ⟨r16, hy15, hf⟩ := ob_e hf
      refine xv0 h (va_runV (As := [.int t13]) (rest := []) hC (c_X9_takes l G q r8 t13 hy15 H.size) (xcwV hC lk_X9_195 in_X9 co_X9_takes im_X9_takes se_X9_takes rfl rfl dd_X9_takes ⟨Nat.le_of_ble_eq_true rfl, Nat.le_of_ble_eq_true rfl⟩) (preV0 h (Nat.le_of_ble_eq_true rfl) eMod_0 rfl [.int t13]) rfl rfl hl.1 rfl (lv_room (Nat.le_of_ble_eq_true rfl)) dX9_takesValue_39 ⟨Nat.zero_le _, Nat.zero_le _⟩) (fun H locs h => ?_)
      refine lv_aload_n hx hb dX9_takesValue_42 rfl (lv_at hl 0 rfl) ?_
      refine xget hC h.o (C := RX9) (T := TX9) (N := 17) (wM_us uw_X9) 0 (Nat.le_of_ble_eq_true rfl) eMod_0 rfl 15 (by decide) (wM_in fl_X9_25) rfl dX9_takesValue_43 ?_
      refine lv_aload_n hx hb dX9_takesValue_46 rfl (lv_at hl 0 rfl) ?_
      refine xget hC h.o (C := RX9) (T := TX9) (N := 17) (wM_us uw_X9) 0 (Nat.le_of_ble_eq_true rfl) eMod_0 rfl 14 (by decide) (wM_in fl_X9_202) rfl dX9_takesValue_47 ?_
      refine lv_bipush (v := (16 : Int32)) hx hb dX9_takesValue_50 (by decide) ?_
      refine lv_iload_n hx hb dX9_takesValue_52 rfl (lv_at hl 1 rfl) ?_
      refine lv_imul hx hb dX9_takesValue_53 ?_
      refine lv_iload_n hx hb dX9_takesValue_54 rfl (lv_at hl 2 rfl) ?_
      refine lv_iadd hx hb dX9_takesValue_55 ?_
      obtain ⟨hi17, hf⟩ := ck_e hf
      refine xiast hC h 6 (Nat.le_of_ble_eq_true rfl) (fun _ => eMod_6) hi17 dX9_takesValue_56 (fun H locs h => ?_)
      obtain ⟨v18, ev18, hf⟩ := lt_e hf
      rw [← ev18] at h
      refine lv_aload_n hx hb dX9_takesValue_57 rfl (lv_at hl 0 rfl) ?_
      refine lv_dup hx hb dX9_takesValue_58 rfl ?_
      refine xget hC h.o (C := RX9) (T := TX9) (N := 17) (wM_us uw_X9) 0 (Nat.le_of_ble_eq_true rfl) eMod_0 rfl 14 (by decide) (wM_in fl_X9_202) rfl dX9_takesValue_59 ?_
      refine lv_iconst (v := (1 : Int32)) hx hb dX9_takesValue_62 (by decide) ?_
      refine lv_iadd hx hb dX9_takesValue_63 ?_
      refine xput hC h (C := RX9) (T := TX9) (N := 17) (wM_us uw_X9) tyX9_ok nmX9 0 (Nat.le_of_ble_eq_true rfl) eMod_0 rfl 14 (by decide) (wM_in fl_X9_202) rfl (ty := .int) (tyX9_ok 14 (by decide)) rfl rfl (Nat.le_of_ble_eq_true rfl) (eMod_0.trans rfl) dX9_takesValue_64 (fun H locs h => ?_)
      obtain ⟨v19, ev19, hf⟩ := lt_e hf
      rw [← ev19] at h
      have hf := sm_e hf
      exact xvret hC hr hlk h hf dX9_takesValue_67
    refine lv_if_lt (tgt := 38) hx hb dX9_takesValue_31 (by decide) (fun c20 => ?_) (fun c20 => ?_)
    · have hf := it_t c20 hf
      refine lv_iconst (v := (0 : Int32)) hx hb dX9_takesValue_38 (by decide) ?_
      exact hj14 (0 : Int32) H locs h ls (lv_sub hl [1, 2, 0] rfl) hf
    · have hf := it_f c20 hf
      refine lv_iconst (v := (1 : Int32)) hx hb dX9_takesValue_34 (by decide) ?_
      refine lv_goto (tgt := 39) hx hb dX9_takesValue_35 (by decide) ?_
      exact hj14 (1 : Int32) H locs h ls (lv_sub hl [1, 2, 0] rfl) hf
  refine lv_if_lt (tgt := 17) hx hb dX9_takesValue_10 (by decide) (fun c21 => ?_) (fun c21 => ?_)
  · have hf := it_t c21 hf
    refine lv_iconst (v := (0 : Int32)) hx hb dX9_takesValue_17 (by decide) ?_
    exact hj6 (0 : Int32) H locs h ls (lv_sub hl [1, 0] rfl) hf
  · have hf := it_f c21 hf
    refine lv_iconst (v := (1 : Int32)) hx hb dX9_takesValue_13 (by decide) ?_
    refine lv_goto (tgt := 18) hx hb dX9_takesValue_14 (by decide) ?_
    exact hj6 (1 : Int32) H locs h ls (lv_sub hl [1, 0] rfl) hf
def m_X9_takesValues (v : xSt) : Option xSt := ob (m_X9_here v) (fun r2 => lt (fun (t3 : Int32) => ob (m_X9_takes v t3) (fun r6 => lt (st2 r6 0 14 (0 : Int32)) (fun v7 => ob (m_X9_takesValue v7) (fun r9 => lp (fun (rec11 : xSt → Option xSt) => un1 (fun (v10 : xSt) => (if (v10 0 10) = 0 then some v10 else (if (8 : Int32) ≤ (v10 0 14) then some v10 else ob (m_X9_here v10) (fun r15 => ob (m_X9_figure r15) (fun r17 => (if r17 < 0 then some v10 else ob (m_X9_takesValue v10) (fun r20 => rec11 r20)))))))) xF r9)))) (fun j4 => (if r2 = (58 : Int32) then j4 (1 : Int32) else j4 (0 : Int32))))
set_option maxHeartbeats 4000000 in
set_option maxRecDepth 100000 in
theorem c_X9_takesValues (l : Launch) (G : xGl) (q : Nat → Nat) (v : xSt) {z : xSt} (hf : m_X9_takesValues v = some z) : mRW l yX9_takesValues (wM yX9_takesValues cX9_takesValues 1 none) { frames := 3, cells := 0, slots := 0, locals := 64 } G (eMod G) 8 q v [.ref (q 0)] qV z := by
  refine xRW (cc := cX9_takesValues) (maxL := 1) (ret := none) (by decide) rfl (Nat.le_of_ble_eq_true rfl) ?_
  intro p e s m below meth c ls A hC hr hlk h hl
  have hx := hC.1
  have hb := hC.2.1
  have hl : lv_has ls 1 [(0, .ref (q 0))] := hl
  unfold m_X9_takesValues at hf
  obtain ⟨H, hH⟩ : ∃ H, H = s.heap := ⟨_, rfl⟩
  obtain ⟨locs, hlo⟩ : ∃ x : List Loc, x = [] := ⟨_, rfl⟩
  have h : hg G (eMod G) 8 q v A s H locs := by rw [hH, hlo]; exact h
  rw [← hlo, ← hH]
  clear hH hlo
  refine lv_aload_n hx hb dX9_takesValues_0 rfl (lv_at hl 0 rfl) ?_
  refine lv_aload_n hx hb dX9_takesValues_1 rfl (lv_at hl 0 rfl) ?_
  obtain ⟨r2, hy1, hf⟩ := ob_e hf
  refine xiG h (va_runV (As := []) (rest := [.ref (q 0)]) hC (c_X9_here l G q v hy1 H.size) (xcwV hC lk_X9_189 in_X9 co_X9_here im_X9_here se_X9_here rfl rfl dd_X9_here ⟨Nat.le_of_ble_eq_true rfl, Nat.le_of_ble_eq_true rfl⟩) (preVO0 h.o (Nat.le_of_ble_eq_true rfl) eMod_0 rfl []) rfl rfl hl.1 rfl (lv_room (Nat.le_of_ble_eq_true rfl)) dX9_takesValues_2 ⟨Nat.zero_le _, Nat.zero_le _⟩) (fun H locs h => ?_)
  refine lv_bipush (v := (58 : Int32)) hx hb dX9_takesValues_5 (by decide) ?_
  obtain ⟨j4, ej4, hf⟩ := lt_e hf
  have hj4 : ∀ (t3 : Int32) (H : Heap) (locs : List Loc), hg G (eMod G) 8 q v A s H locs → ∀ (ls : Array Slot), lv_has ls 1 [(0, .ref (q 0))] → j4 t3 = some z → W p l e { frames := 3, cells := 0, slots := 0, locals := 64 } s m [.ref (q 0)].toArray below meth c H locs 0 0 (MQ below (qV (cB G (eMod G) 8 q z A) A) [.ref (q 0)].toArray s 0 0 A) (F0 m 15 ls [.int t3, .ref (q 0)]) := by
    intro t3 H locs h ls hl hf
    rw [ej4] at hf
    obtain ⟨r6, hy5, hf⟩ := ob_e hf
    refine xv0 h (va_runV (As := [.int t3]) (rest := []) hC (c_X9_takes l G q v t3 hy5 H.size) (xcwV hC lk_X9_195 in_X9 co_X9_takes im_X9_takes se_X9_takes rfl rfl dd_X9_takes ⟨Nat.le_of_ble_eq_true rfl, Nat.le_of_ble_eq_true rfl⟩) (preV0 h (Nat.le_of_ble_eq_true rfl) eMod_0 rfl [.int t3]) rfl rfl hl.1 rfl (lv_room (Nat.le_of_ble_eq_true rfl)) dX9_takesValues_15 ⟨Nat.zero_le _, Nat.zero_le _⟩) (fun H locs h => ?_)
    refine lv_aload_n hx hb dX9_takesValues_18 rfl (lv_at hl 0 rfl) ?_
    refine lv_iconst (v := (0 : Int32)) hx hb dX9_takesValues_19 (by decide) ?_
    refine xput hC h (C := RX9) (T := TX9) (N := 17) (wM_us uw_X9) tyX9_ok nmX9 0 (Nat.le_of_ble_eq_true rfl) eMod_0 rfl 14 (by decide) (wM_in fl_X9_202) rfl (ty := .int) (tyX9_ok 14 (by decide)) rfl rfl (Nat.le_of_ble_eq_true rfl) (eMod_0.trans rfl) dX9_takesValues_20 (fun H locs h => ?_)
    obtain ⟨v7, ev7, hf⟩ := lt_e hf
    rw [← ev7] at h
    refine lv_aload_n hx hb dX9_takesValues_23 rfl (lv_at hl 0 rfl) ?_
    obtain ⟨r9, hy8, hf⟩ := ob_e hf
    refine xv0 h (va_runV (As := []) (rest := []) hC (c_X9_takesValue l G q v7 hy8 H.size) (xcwV hC lk_X9_205 in_X9 co_X9_takesValue im_X9_takesValue se_X9_takesValue rfl rfl dd_X9_takesValue ⟨Nat.le_of_ble_eq_true rfl, Nat.le_of_ble_eq_true rfl⟩) (preV0 h (Nat.le_of_ble_eq_true rfl) eMod_0 rfl []) rfl rfl hl.1 rfl (lv_room (Nat.le_of_ble_eq_true rfl)) dX9_takesValues_24 ⟨Nat.zero_le _, Nat.zero_le _⟩) (fun H locs h => ?_)
    refine lp_i (z := z) (P := fun (pp : xSt) => ∀ (H : Heap) (locs : List Loc), hg G (eMod G) 8 q pp A s H locs → ∀ (ls : Array Slot), lv_has ls 1 [(0, .ref (q 0))] → W p l e { frames := 3, cells := 0, slots := 0, locals := 64 } s m [.ref (q 0)].toArray below meth c H locs 0 0 (MQ below (qV (cB G (eMod G) 8 q z A) A) [.ref (q 0)].toArray s 0 0 A) (F0 m 27 ls [])) ?_ _ _ hf H locs h ls (lv_sub hl [0] rfl)
    intro rec11 hrec11 pp hf H locs h ls hl
    obtain ⟨v10, hpp⟩ : ∃ y, y = pp := ⟨_, rfl⟩
    subst hpp
    have h : hg G (eMod G) 8 q v10 A s H locs := h
    have hl : lv_has ls 1 [(0, .ref (q 0))] := hl
    have hf := un1_e hf
    refine lv_aload_n hx hb dX9_takesValues_27 rfl (lv_at hl 0 rfl) ?_
    refine xget hC h.o (C := RX9) (T := TX9) (N := 17) (wM_us uw_X9) 0 (Nat.le_of_ble_eq_true rfl) eMod_0 rfl 10 (by decide) (wM_in fl_X9_185) rfl dX9_takesValues_28 ?_
    refine lv_if_eq (tgt := 60) hx hb dX9_takesValues_31 (by decide) (fun c12 => ?_) (fun c12 => ?_)
    · have hf := it_t c12 hf
      have hf := sm_e hf
      exact xvret hC hr hlk h hf dX9_takesValues_60
    · have hf := it_f c12 hf
      refine lv_aload_n hx hb dX9_takesValues_34 rfl (lv_at hl 0 rfl) ?_
      refine xget hC h.o (C := RX9) (T := TX9) (N := 17) (wM_us uw_X9) 0 (Nat.le_of_ble_eq_true rfl) eMod_0 rfl 14 (by decide) (wM_in fl_X9_202) rfl dX9_takesValues_35 ?_
      refine lv_bipush (v := (8 : Int32)) hx hb dX9_takesValues_38 (by decide) ?_
      refine lv_icmp_ge (tgt := 60) hx hb dX9_takesValues_40 (by decide) (fun c13 => ?_) (fun c13 => ?_)
      · have hf := it_t c13 hf
        have hf := sm_e hf
        exact xvret hC hr hlk h hf dX9_takesValues_60
      · have hf := it_f c13 hf
        refine lv_aload_n hx hb dX9_takesValues_43 rfl (lv_at hl 0 rfl) ?_
        obtain ⟨r15, hy14, hf⟩ := ob_e hf
        refine xiG h (va_runV (As := []) (rest := []) hC (c_X9_here l G q v10 hy14 H.size) (xcwV hC lk_X9_189 in_X9 co_X9_here im_X9_here se_X9_here rfl rfl dd_X9_here ⟨Nat.le_of_ble_eq_true rfl, Nat.le_of_ble_eq_true rfl⟩) (preVO0 h.o (Nat.le_of_ble_eq_true rfl) eMod_0 rfl []) rfl rfl hl.1 rfl (lv_room (Nat.le_of_ble_eq_true rfl)) dX9_takesValues_44 ⟨Nat.zero_le _, Nat.zero_le _⟩) (fun H locs h => ?_)
        obtain ⟨r17, hy16, hf⟩ := ob_e hf
        refine xiG h (va_runS (As := [.int r15]) (rest := []) hC (c_X9_figure l G q v10 r15 hy16 H.size) (xcwS hC lk_X9_199 in_X9 co_X9_figure st_X9_figure rfl rfl dd_X9_figure ⟨Nat.le_of_ble_eq_true rfl, Nat.le_of_ble_eq_true rfl⟩) (preSN h.o [.int r15]) rfl rfl hl.1 rfl (lv_room (Nat.le_of_ble_eq_true rfl)) dX9_takesValues_47 ⟨Nat.zero_le _, Nat.zero_le _⟩) (fun H locs h => ?_)
        refine lv_if_lt (tgt := 60) hx hb dX9_takesValues_50 (by decide) (fun c18 => ?_) (fun c18 => ?_)
        · have hf := it_t c18 hf
          have hf := sm_e hf
          exact xvret hC hr hlk h hf dX9_takesValues_60
        · have hf := it_f c18 hf
          refine lv_aload_n hx hb dX9_takesValues_53 rfl (lv_at hl 0 rfl) ?_
          obtain ⟨r20, hy19, hf⟩ := ob_e hf
          refine xv0 h (va_runV (As := []) (rest := []) hC (c_X9_takesValue l G q v10 hy19 H.size) (xcwV hC lk_X9_205 in_X9 co_X9_takesValue im_X9_takesValue se_X9_takesValue rfl rfl dd_X9_takesValue ⟨Nat.le_of_ble_eq_true rfl, Nat.le_of_ble_eq_true rfl⟩) (preV0 h (Nat.le_of_ble_eq_true rfl) eMod_0 rfl []) rfl rfl hl.1 rfl (lv_room (Nat.le_of_ble_eq_true rfl)) dX9_takesValues_54 ⟨Nat.zero_le _, Nat.zero_le _⟩) (fun H locs h => ?_)
          refine lv_goto (tgt := 27) hx hb dX9_takesValues_57 (by decide) ?_
          exact hrec11 r20 hf H locs h ls (lv_sub hl [0] rfl)
  refine lv_icmp_ne (tgt := 14) hx hb dX9_takesValues_7 (by decide) (fun c21 => ?_) (fun c21 => ?_)
  · have hf := it_f c21 hf
    refine lv_iconst (v := (0 : Int32)) hx hb dX9_takesValues_14 (by decide) ?_
    exact hj4 (0 : Int32) H locs h ls (lv_sub hl [0] rfl) hf
  · have hf := it_t c21 hf
    refine lv_iconst (v := (1 : Int32)) hx hb dX9_takesValues_10 (by decide) ?_
    refine lv_goto (tgt := 15) hx hb dX9_takesValues_11 (by decide) ?_
    exact hj4 (1 : Int32) H locs h ls (lv_sub hl [0] rfl) hf
def m_X9_takesPart (v : xSt) : Option xSt := ob (m_X9_here v) (fun r2 => lt (st2 v 0 11 r2) (fun v3 => lt (fun (t4 : Int32) => ob (m_X9_takes v3 t4) (fun r7 => lt (fun (t8 : Int32) => lt (fun (t10 : Int32) (t11 : Int32) => ob (m_X9_takesNumber r7 t10 t11) (fun r14 => lt (fun (v15 : xSt) => lt (st2 v15 0 13 (5 : Int32)) (fun v17 => (if (v17 0 10) = 0 then some v17 else (if (v17 0 11) = (116 : Int32) then some v17 else ob (m_X9_here v17) (fun r21 => (if r21 = (33 : Int32) then lt (st2 v17 0 9 ((v17 0 9) + (1 : Int32))) (fun v23 => ob (m_X9_here v23) (fun r25 => lt (st2 v23 0 13 (r25 - (48 : Int32))) (fun v26 => ob (m_X9_here v26) (fun r28 => ob (m_X9_takes v26 (xwi r28 (48 : Int32) (57 : Int32))) (fun r31 => some r31))))) else some v17)))))) (fun j16 => (if (r14 0 11) = (119 : Int32) then ob (m_X9_takesValues r14) (fun r34 => j16 r34) else j16 r14)))) (fun j12 => (if (r7 0 11) = (119 : Int32) then j12 t8 (255 : Int32) else (if (r7 0 11) = (101 : Int32) then j12 t8 (7 : Int32) else j12 t8 (99 : Int32))))) (fun j9 => (if (r7 0 11) = (116 : Int32) then j9 (1 : Int32) else j9 (0 : Int32))))) (fun j5 => lt (fun (_ : Unit) => j5 (1 : Int32)) (fun j38 => (if (v3 0 11) = (119 : Int32) then j38 () else (if (v3 0 11) = (101 : Int32) then j38 () else (if (v3 0 11) = (116 : Int32) then j38 () else j5 (0 : Int32))))))))
set_option maxHeartbeats 4000000 in
set_option maxRecDepth 100000 in
theorem c_X9_takesPart (l : Launch) (G : xGl) (q : Nat → Nat) (v : xSt) {z : xSt} (hf : m_X9_takesPart v = some z) : mRW l yX9_takesPart (wM yX9_takesPart cX9_takesPart 1 none) { frames := 4, cells := 0, slots := 0, locals := 84 } G (eMod G) 8 q v [.ref (q 0)] qV z := by
  refine xRW (cc := cX9_takesPart) (maxL := 1) (ret := none) (by decide) rfl (Nat.le_of_ble_eq_true rfl) ?_
  intro p e s m below meth c ls A hC hr hlk h hl
  have hx := hC.1
  have hb := hC.2.1
  have hl : lv_has ls 1 [(0, .ref (q 0))] := hl
  unfold m_X9_takesPart at hf
  obtain ⟨H, hH⟩ : ∃ H, H = s.heap := ⟨_, rfl⟩
  obtain ⟨locs, hlo⟩ : ∃ x : List Loc, x = [] := ⟨_, rfl⟩
  have h : hg G (eMod G) 8 q v A s H locs := by rw [hH, hlo]; exact h
  rw [← hlo, ← hH]
  clear hH hlo
  refine lv_aload_n hx hb dX9_takesPart_0 rfl (lv_at hl 0 rfl) ?_
  refine lv_aload_n hx hb dX9_takesPart_1 rfl (lv_at hl 0 rfl) ?_
  obtain ⟨r2, hy1, hf⟩ := ob_e hf
  refine xiG h (va_runV (As := []) (rest := [.ref (q 0)]) hC (c_X9_here l G q v hy1 H.size) (xcwV hC lk_X9_189 in_X9 co_X9_here im_X9_here se_X9_here rfl rfl dd_X9_here ⟨Nat.le_of_ble_eq_true rfl, Nat.le_of_ble_eq_true rfl⟩) (preVO0 h.o (Nat.le_of_ble_eq_true rfl) eMod_0 rfl []) rfl rfl hl.1 rfl (lv_room (Nat.le_of_ble_eq_true rfl)) dX9_takesPart_2 ⟨Nat.zero_le _, Nat.zero_le _⟩) (fun H locs h => ?_)
  refine xput hC h (C := RX9) (T := TX9) (N := 17) (wM_us uw_X9) tyX9_ok nmX9 0 (Nat.le_of_ble_eq_true rfl) eMod_0 rfl 11 (by decide) (wM_in fl_X9_208) rfl (ty := .int) (tyX9_ok 11 (by decide)) rfl rfl (Nat.le_of_ble_eq_true rfl) (eMod_0.trans rfl) dX9_takesPart_5 (fun H locs h => ?_)
  obtain ⟨v3, ev3, hf⟩ := lt_e hf
  rw [← ev3] at h
  refine lv_aload_n hx hb dX9_takesPart_8 rfl (lv_at hl 0 rfl) ?_
  refine lv_aload_n hx hb dX9_takesPart_9 rfl (lv_at hl 0 rfl) ?_
  refine xget hC h.o (C := RX9) (T := TX9) (N := 17) (wM_us uw_X9) 0 (Nat.le_of_ble_eq_true rfl) eMod_0 rfl 11 (by decide) (wM_in fl_X9_208) rfl dX9_takesPart_10 ?_
  refine lv_bipush (v := (119 : Int32)) hx hb dX9_takesPart_13 (by decide) ?_
  obtain ⟨j5, ej5, hf⟩ := lt_e hf
  have hj5 : ∀ (t4 : Int32) (H : Heap) (locs : List Loc), hg G (eMod G) 8 q v3 A s H locs → ∀ (ls : Array Slot), lv_has ls 1 [(0, .ref (q 0))] → j5 t4 = some z → W p l e { frames := 4, cells := 0, slots := 0, locals := 84 } s m [.ref (q 0)].toArray below meth c H locs 0 0 (MQ below (qV (cB G (eMod G) 8 q z A) A) [.ref (q 0)].toArray s 0 0 A) (F0 m 41 ls [.int t4, .ref (q 0)]) := by
    intro t4 H locs h ls hl hf
    rw [ej5] at hf
    obtain ⟨r7, hy6, hf⟩ := ob_e hf
    refine xv0 h (va_runV (As := [.int t4]) (rest := []) hC (c_X9_takes l G q v3 t4 hy6 H.size) (xcwV hC lk_X9_195 in_X9 co_X9_takes im_X9_takes se_X9_takes rfl rfl dd_X9_takes ⟨Nat.le_of_ble_eq_true rfl, Nat.le_of_ble_eq_true rfl⟩) (preV0 h (Nat.le_of_ble_eq_true rfl) eMod_0 rfl [.int t4]) rfl rfl hl.1 rfl (lv_room (Nat.le_of_ble_eq_true rfl)) dX9_takesPart_41 ⟨Nat.zero_le _, Nat.zero_le _⟩) (fun H locs h => ?_)
    refine lv_aload_n hx hb dX9_takesPart_44 rfl (lv_at hl 0 rfl) ?_
    refine lv_aload_n hx hb dX9_takesPart_45 rfl (lv_at hl 0 rfl) ?_
    refine xget hC h.o (C := RX9) (T := TX9) (N := 17) (wM_us uw_X9) 0 (Nat.le_of_ble_eq_true rfl) eMod_0 rfl 11 (by decide) (wM_in fl_X9_208) rfl dX9_takesPart_46 ?_
    refine lv_bipush (v := (116 : Int32)) hx hb dX9_takesPart_49 (by decide) ?_
    obtain ⟨j9, ej9, hf⟩ := lt_e hf
    have hj9 : ∀ (t8 : Int32) (H : Heap) (locs : List Loc), hg G (eMod G) 8 q r7 A s H locs → ∀ (ls : Array Slot), lv_has ls 1 [(0, .ref (q 0))] → j9 t8 = some z → W p l e { frames := 4, cells := 0, slots := 0, locals := 84 } s m [.ref (q 0)].toArray below meth c H locs 0 0 (MQ below (qV (cB G (eMod G) 8 q z A) A) [.ref (q 0)].toArray s 0 0 A) (F0 m 59 ls [.int t8, .ref (q 0)]) := by
      intro t8 H locs h ls hl hf
      rw [ej9] at hf
      refine lv_aload_n hx hb dX9_takesPart_59 rfl (lv_at hl 0 rfl) ?_
      refine xget hC h.o (C := RX9) (T := TX9) (N := 17) (wM_us uw_X9) 0 (Nat.le_of_ble_eq_true rfl) eMod_0 rfl 11 (by decide) (wM_in fl_X9_208) rfl dX9_takesPart_60 ?_
      refine lv_bipush (v := (119 : Int32)) hx hb dX9_takesPart_63 (by decide) ?_
      obtain ⟨j12, ej12, hf⟩ := lt_e hf
      have hj12 : ∀ (t10 : Int32) (t11 : Int32) (H : Heap) (locs : List Loc), hg G (eMod G) 8 q r7 A s H locs → ∀ (ls : Array Slot), lv_has ls 1 [(0, .ref (q 0))] → j12 t10 t11 = some z → W p l e { frames := 4, cells := 0, slots := 0, locals := 84 } s m [.ref (q 0)].toArray below meth c H locs 0 0 (MQ below (qV (cB G (eMod G) 8 q z A) A) [.ref (q 0)].toArray s 0 0 A) (F0 m 90 ls [.int t11, .int t10, .ref (q 0)]) := by
        intro t10 t11 H locs h ls hl hf
        rw [ej12] at hf
        obtain ⟨r14, hy13, hf⟩ := ob_e hf
        refine xv0 h (va_runV (As := [.int t10, .int t11]) (rest := []) hC (c_X9_takesNumber l G q r7 t10 t11 hy13 H.size) (xcwV hC lk_X9_211 in_X9 co_X9_takesNumber im_X9_takesNumber se_X9_takesNumber rfl rfl dd_X9_takesNumber ⟨Nat.le_of_ble_eq_true rfl, Nat.le_of_ble_eq_true rfl⟩) (preV0 h (Nat.le_of_ble_eq_true rfl) eMod_0 rfl [.int t10, .int t11]) rfl rfl hl.1 rfl (lv_room (Nat.le_of_ble_eq_true rfl)) dX9_takesPart_90 ⟨Nat.zero_le _, Nat.zero_le _⟩) (fun H locs h => ?_)
        refine lv_aload_n hx hb dX9_takesPart_93 rfl (lv_at hl 0 rfl) ?_
        refine xget hC h.o (C := RX9) (T := TX9) (N := 17) (wM_us uw_X9) 0 (Nat.le_of_ble_eq_true rfl) eMod_0 rfl 11 (by decide) (wM_in fl_X9_208) rfl dX9_takesPart_94 ?_
        refine lv_bipush (v := (119 : Int32)) hx hb dX9_takesPart_97 (by decide) ?_
        obtain ⟨j16, ej16, hf⟩ := lt_e hf
        have hj16 : ∀ (v15 : xSt) (H : Heap) (locs : List Loc), hg G (eMod G) 8 q v15 A s H locs → ∀ (ls : Array Slot), lv_has ls 1 [(0, .ref (q 0))] → j16 v15 = some z → W p l e { frames := 4, cells := 0, slots := 0, locals := 84 } s m [.ref (q 0)].toArray below meth c H locs 0 0 (MQ below (qV (cB G (eMod G) 8 q z A) A) [.ref (q 0)].toArray s 0 0 A) (F0 m 106 ls []) := by
          intro v15 H locs h ls hl hf
          rw [ej16] at hf
          refine lv_aload_n hx hb dX9_takesPart_106 rfl (lv_at hl 0 rfl) ?_
          refine lv_iconst (v := (5 : Int32)) hx hb dX9_takesPart_107 (by decide) ?_
          refine xput hC h (C := RX9) (T := TX9) (N := 17) (wM_us uw_X9) tyX9_ok nmX9 0 (Nat.le_of_ble_eq_true rfl) eMod_0 rfl 13 (by decide) (wM_in fl_X9_217) rfl (ty := .int) (tyX9_ok 13 (by decide)) rfl rfl (Nat.le_of_ble_eq_true rfl) (eMod_0.trans rfl) dX9_takesPart_108 (fun H locs h => ?_)
          obtain ⟨v17, ev17, hf⟩ := lt_e hf
          rw [← ev17] at h
          refine lv_aload_n hx hb dX9_takesPart_111 rfl (lv_at hl 0 rfl) ?_
          refine xget hC h.o (C := RX9) (T := TX9) (N := 17) (wM_us uw_X9) 0 (Nat.le_of_ble_eq_true rfl) eMod_0 rfl 10 (by decide) (wM_in fl_X9_185) rfl dX9_takesPart_112 ?_
          refine lv_if_eq (tgt := 172) hx hb dX9_takesPart_115 (by decide) (fun c18 => ?_) (fun c18 => ?_)
          · have hf := it_t c18 hf
            have hf := sm_e hf
            exact xvret hC hr hlk h hf dX9_takesPart_172
          · have hf := it_f c18 hf
            refine lv_aload_n hx hb dX9_takesPart_118 rfl (lv_at hl 0 rfl) ?_
            refine xget hC h.o (C := RX9) (T := TX9) (N := 17) (wM_us uw_X9) 0 (Nat.le_of_ble_eq_true rfl) eMod_0 rfl 11 (by decide) (wM_in fl_X9_208) rfl dX9_takesPart_119 ?_
            refine lv_bipush (v := (116 : Int32)) hx hb dX9_takesPart_122 (by decide) ?_
            refine lv_icmp_eq (tgt := 172) hx hb dX9_takesPart_124 (by decide) (fun c19 => ?_) (fun c19 => ?_)
            · have hf := it_t c19 hf
              have hf := sm_e hf
              exact xvret hC hr hlk h hf dX9_takesPart_172
            · have hf := it_f c19 hf
              refine lv_aload_n hx hb dX9_takesPart_127 rfl (lv_at hl 0 rfl) ?_
              obtain ⟨r21, hy20, hf⟩ := ob_e hf
              refine xiG h (va_runV (As := []) (rest := []) hC (c_X9_here l G q v17 hy20 H.size) (xcwV hC lk_X9_189 in_X9 co_X9_here im_X9_here se_X9_here rfl rfl dd_X9_here ⟨Nat.le_of_ble_eq_true rfl, Nat.le_of_ble_eq_true rfl⟩) (preVO0 h.o (Nat.le_of_ble_eq_true rfl) eMod_0 rfl []) rfl rfl hl.1 rfl (lv_room (Nat.le_of_ble_eq_true rfl)) dX9_takesPart_128 ⟨Nat.zero_le _, Nat.zero_le _⟩) (fun H locs h => ?_)
              refine lv_bipush (v := (33 : Int32)) hx hb dX9_takesPart_131 (by decide) ?_
              refine lv_icmp_ne (tgt := 172) hx hb dX9_takesPart_133 (by decide) (fun c22 => ?_) (fun c22 => ?_)
              · have hf := it_f c22 hf
                have hf := sm_e hf
                exact xvret hC hr hlk h hf dX9_takesPart_172
              · have hf := it_t c22 hf
                refine lv_aload_n hx hb dX9_takesPart_136 rfl (lv_at hl 0 rfl) ?_
                refine lv_dup hx hb dX9_takesPart_137 rfl ?_
                refine xget hC h.o (C := RX9) (T := TX9) (N := 17) (wM_us uw_X9) 0 (Nat.le_of_ble_eq_true rfl) eMod_0 rfl 9 (by decide) (wM_in fl_X9_182) rfl dX9_takesPart_138 ?_
                refine lv_iconst (v := (1 : Int32)) hx hb dX9_takesPart_141 (by decide) ?_
                refine lv_iadd hx hb dX9_takesPart_142 ?_
                refine xput hC h (C := RX9) (T := TX9) (N := 17) (wM_us uw_X9) tyX9_ok nmX9 0 (Nat.le_of_ble_eq_true rfl) eMod_0 rfl 9 (by decide) (wM_in fl_X9_182) rfl (ty := .int) (tyX9_ok 9 (by decide)) rfl rfl (Nat.le_of_ble_eq_true rfl) (eMod_0.trans rfl) dX9_takesPart_143 (fun H locs h => ?_)
                obtain ⟨v23, ev23, hf⟩ := lt_e hf
                rw [← ev23] at h
                refine lv_aload_n hx hb dX9_takesPart_146 rfl (lv_at hl 0 rfl) ?_
                refine lv_aload_n hx hb dX9_takesPart_147 rfl (lv_at hl 0 rfl) ?_
                obtain ⟨r25, hy24, hf⟩ := ob_e hf
                refine xiG h (va_runV (As := []) (rest := [.ref (q 0)]) hC (c_X9_here l G q v23 hy24 H.size) (xcwV hC lk_X9_189 in_X9 co_X9_here im_X9_here se_X9_here rfl rfl dd_X9_here ⟨Nat.le_of_ble_eq_true rfl, Nat.le_of_ble_eq_true rfl⟩) (preVO0 h.o (Nat.le_of_ble_eq_true rfl) eMod_0 rfl []) rfl rfl hl.1 rfl (lv_room (Nat.le_of_ble_eq_true rfl)) dX9_takesPart_148 ⟨Nat.zero_le _, Nat.zero_le _⟩) (fun H locs h => ?_)
                refine lv_bipush (v := (48 : Int32)) hx hb dX9_takesPart_151 (by decide) ?_
                refine lv_isub hx hb dX9_takesPart_153 ?_
                refine xput hC h (C := RX9) (T := TX9) (N := 17) (wM_us uw_X9) tyX9_ok nmX9 0 (Nat.le_of_ble_eq_true rfl) eMod_0 rfl 13 (by decide) (wM_in fl_X9_217) rfl (ty := .int) (tyX9_ok 13 (by decide)) rfl rfl (Nat.le_of_ble_eq_true rfl) (eMod_0.trans rfl) dX9_takesPart_154 (fun H locs h => ?_)
                obtain ⟨v26, ev26, hf⟩ := lt_e hf
                rw [← ev26] at h
                refine lv_aload_n hx hb dX9_takesPart_157 rfl (lv_at hl 0 rfl) ?_
                refine lv_aload_n hx hb dX9_takesPart_158 rfl (lv_at hl 0 rfl) ?_
                obtain ⟨r28, hy27, hf⟩ := ob_e hf
                refine xiG h (va_runV (As := []) (rest := [.ref (q 0)]) hC (c_X9_here l G q v26 hy27 H.size) (xcwV hC lk_X9_189 in_X9 co_X9_here im_X9_here se_X9_here rfl rfl dd_X9_here ⟨Nat.le_of_ble_eq_true rfl, Nat.le_of_ble_eq_true rfl⟩) (preVO0 h.o (Nat.le_of_ble_eq_true rfl) eMod_0 rfl []) rfl rfl hl.1 rfl (lv_room (Nat.le_of_ble_eq_true rfl)) dX9_takesPart_159 ⟨Nat.zero_le _, Nat.zero_le _⟩) (fun H locs h => ?_)
                refine lv_bipush (v := (48 : Int32)) hx hb dX9_takesPart_162 (by decide) ?_
                refine lv_bipush (v := (57 : Int32)) hx hb dX9_takesPart_164 (by decide) ?_
                refine xzG h (va_runS (As := [.int r28, .int (48 : Int32), .int (57 : Int32)]) (rest := [.ref (q 0)]) hC (k_X9_in l G q v26 r28 (48 : Int32) (57 : Int32) H.size) (xcwS hC lk_X9_42 in_X9 co_X9_in st_X9_in rfl rfl dd_X9_in ⟨Nat.le_of_ble_eq_true rfl, Nat.le_of_ble_eq_true rfl⟩) (preSN h.o [.int r28, .int (48 : Int32), .int (57 : Int32)]) rfl rfl hl.1 rfl (lv_room (Nat.le_of_ble_eq_true rfl)) dX9_takesPart_166 ⟨Nat.zero_le _, Nat.zero_le _⟩) (fun H locs hz29 h => ?_)
                obtain ⟨r31, hy30, hf⟩ := ob_e hf
                refine xv0 h (va_runV (As := [.int (xwi r28 (48 : Int32) (57 : Int32))]) (rest := []) hC (c_X9_takes l G q v26 (xwi r28 (48 : Int32) (57 : Int32)) hy30 H.size) (xcwV hC lk_X9_195 in_X9 co_X9_takes im_X9_takes se_X9_takes rfl rfl dd_X9_takes ⟨Nat.le_of_ble_eq_true rfl, Nat.le_of_ble_eq_true rfl⟩) (preV0 h (Nat.le_of_ble_eq_true rfl) eMod_0 rfl [.int (xwi r28 (48 : Int32) (57 : Int32))]) rfl rfl hl.1 rfl (lv_room (Nat.le_of_ble_eq_true rfl)) dX9_takesPart_169 ⟨Nat.zero_le _, Nat.zero_le _⟩) (fun H locs h => ?_)
                have hf := sm_e hf
                exact xvret hC hr hlk h hf dX9_takesPart_172
        refine lv_icmp_ne (tgt := 106) hx hb dX9_takesPart_99 (by decide) (fun c32 => ?_) (fun c32 => ?_)
        · have hf := it_f c32 hf
          exact hj16 r14 H locs h ls (lv_sub hl [0] rfl) hf
        · have hf := it_t c32 hf
          refine lv_aload_n hx hb dX9_takesPart_102 rfl (lv_at hl 0 rfl) ?_
          obtain ⟨r34, hy33, hf⟩ := ob_e hf
          refine xv0 h (va_runV (As := []) (rest := []) hC (c_X9_takesValues l G q r14 hy33 H.size) (xcwV hC lk_X9_214 in_X9 co_X9_takesValues im_X9_takesValues se_X9_takesValues rfl rfl dd_X9_takesValues ⟨Nat.le_of_ble_eq_true rfl, Nat.le_of_ble_eq_true rfl⟩) (preV0 h (Nat.le_of_ble_eq_true rfl) eMod_0 rfl []) rfl rfl hl.1 rfl (lv_room (Nat.le_of_ble_eq_true rfl)) dX9_takesPart_103 ⟨Nat.zero_le _, Nat.zero_le _⟩) (fun H locs h => ?_)
          exact hj16 r34 H locs h ls (lv_sub hl [0] rfl) hf
      refine lv_icmp_ne (tgt := 74) hx hb dX9_takesPart_65 (by decide) (fun c35 => ?_) (fun c35 => ?_)
      · have hf := it_f c35 hf
        refine lv_aload_n hx hb dX9_takesPart_74 rfl (lv_at hl 0 rfl) ?_
        refine xget hC h.o (C := RX9) (T := TX9) (N := 17) (wM_us uw_X9) 0 (Nat.le_of_ble_eq_true rfl) eMod_0 rfl 11 (by decide) (wM_in fl_X9_208) rfl dX9_takesPart_75 ?_
        refine lv_bipush (v := (101 : Int32)) hx hb dX9_takesPart_78 (by decide) ?_
        refine lv_icmp_ne (tgt := 88) hx hb dX9_takesPart_80 (by decide) (fun c36 => ?_) (fun c36 => ?_)
        · have hf := it_f c36 hf
          refine lv_bipush (v := (99 : Int32)) hx hb dX9_takesPart_88 (by decide) ?_
          exact hj12 t8 (99 : Int32) H locs h ls (lv_sub hl [0] rfl) hf
        · have hf := it_t c36 hf
          refine lv_bipush (v := (7 : Int32)) hx hb dX9_takesPart_83 (by decide) ?_
          refine lv_goto (tgt := 90) hx hb dX9_takesPart_85 (by decide) ?_
          exact hj12 t8 (7 : Int32) H locs h ls (lv_sub hl [0] rfl) hf
      · have hf := it_t c35 hf
        refine lv_sipush (v := (255 : Int32)) hx hb dX9_takesPart_68 (by decide) ?_
        refine lv_goto (tgt := 90) hx hb dX9_takesPart_71 (by decide) ?_
        exact hj12 t8 (255 : Int32) H locs h ls (lv_sub hl [0] rfl) hf
    refine lv_icmp_ne (tgt := 58) hx hb dX9_takesPart_51 (by decide) (fun c37 => ?_) (fun c37 => ?_)
    · have hf := it_f c37 hf
      refine lv_iconst (v := (0 : Int32)) hx hb dX9_takesPart_58 (by decide) ?_
      exact hj9 (0 : Int32) H locs h ls (lv_sub hl [0] rfl) hf
    · have hf := it_t c37 hf
      refine lv_iconst (v := (1 : Int32)) hx hb dX9_takesPart_54 (by decide) ?_
      refine lv_goto (tgt := 59) hx hb dX9_takesPart_55 (by decide) ?_
      exact hj9 (1 : Int32) H locs h ls (lv_sub hl [0] rfl) hf
  obtain ⟨j38, ej38, hf⟩ := lt_e hf
  have hj38 : ∀ (uu : Unit) (H : Heap) (locs : List Loc), hg G (eMod G) 8 q v3 A s H locs → ∀ (ls : Array Slot), lv_has ls 1 [(0, .ref (q 0))] → j38 uu = some z → W p l e { frames := 4, cells := 0, slots := 0, locals := 84 } s m [.ref (q 0)].toArray below meth c H locs 0 0 (MQ below (qV (cB G (eMod G) 8 q z A) A) [.ref (q 0)].toArray s 0 0 A) (F0 m 36 ls [.ref (q 0)]) := by
    intro uu H locs h ls hl hf
    rw [ej38] at hf
    refine lv_iconst (v := (1 : Int32)) hx hb dX9_takesPart_36 (by decide) ?_
    refine lv_goto (tgt := 41) hx hb dX9_takesPart_37 (by decide) ?_
    exact hj5 (1 : Int32) H locs h ls (lv_sub hl [0] rfl) hf
  refine lv_icmp_eq (tgt := 36) hx hb dX9_takesPart_15 (by decide) (fun c39 => ?_) (fun c39 => ?_)
  · have hf := it_t c39 hf
    exact hj38 () H locs h ls (lv_sub hl [0] rfl) hf
  · have hf := it_f c39 hf
    refine lv_aload_n hx hb dX9_takesPart_18 rfl (lv_at hl 0 rfl) ?_
    refine xget hC h.o (C := RX9) (T := TX9) (N := 17) (wM_us uw_X9) 0 (Nat.le_of_ble_eq_true rfl) eMod_0 rfl 11 (by decide) (wM_in fl_X9_208) rfl dX9_takesPart_19 ?_
    refine lv_bipush (v := (101 : Int32)) hx hb dX9_takesPart_22 (by decide) ?_
    refine lv_icmp_eq (tgt := 36) hx hb dX9_takesPart_24 (by decide) (fun c40 => ?_) (fun c40 => ?_)
    · have hf := it_t c40 hf
      exact hj38 () H locs h ls (lv_sub hl [0] rfl) hf
    · have hf := it_f c40 hf
      refine lv_aload_n hx hb dX9_takesPart_27 rfl (lv_at hl 0 rfl) ?_
      refine xget hC h.o (C := RX9) (T := TX9) (N := 17) (wM_us uw_X9) 0 (Nat.le_of_ble_eq_true rfl) eMod_0 rfl 11 (by decide) (wM_in fl_X9_208) rfl dX9_takesPart_28 ?_
      refine lv_bipush (v := (116 : Int32)) hx hb dX9_takesPart_31 (by decide) ?_
      refine lv_icmp_ne (tgt := 40) hx hb dX9_takesPart_33 (by decide) (fun c41 => ?_) (fun c41 => ?_)
      · have hf := it_f c41 hf
        refine lv_iconst (v := (0 : Int32)) hx hb dX9_takesPart_40 (by decide) ?_
        exact hj5 (0 : Int32) H locs h ls (lv_sub hl [0] rfl) hf
      · have hf := it_t c41 hf
        exact hj38 () H locs h ls (lv_sub hl [0] rfl) hf
def m_X9_isText (v : xSt) : Option (Int32 × xSt) := lt (st2 v 0 9 (0 : Int32)) (fun v1 => lt (st2 v1 0 10 (1 : Int32)) (fun v2 => ob (m_X9_takesPart v2) (fun r4 => lp (fun (rec6 : xSt → Option (Int32 × xSt)) => un1 (fun (v5 : xSt) => lt (fun (_ : Unit) => ck ((v5 0 10) = 0 ∨ (v5 0 10) = 1) (some ((v5 0 10), v5))) (fun j7 => (if (v5 0 10) = 0 then j7 () else (if (v5 0 7) ≤ (v5 0 9) then j7 () else ob (m_X9_here v5) (fun r12 => lt (fun (t13 : Int32) => ob (m_X9_takes v5 t13) (fun r16 => (if (r16 0 10) = 0 then rec6 r16 else ob (m_X9_takesPart r16) (fun r19 => rec6 r19)))) (fun j14 => (if r12 = (59 : Int32) then j14 (1 : Int32) else j14 (0 : Int32))))))))) xF r4)))
set_option maxHeartbeats 4000000 in
set_option maxRecDepth 100000 in
theorem c_X9_isText (l : Launch) (G : xGl) (q : Nat → Nat) (v : xSt) {z : (Int32 × xSt)} (hf : m_X9_isText v = some z) : mRW l yX9_isText (wM yX9_isText cX9_isText 1 (some .boolean)) { frames := 5, cells := 0, slots := 0, locals := 104 } G (eMod G) 8 q v [.ref (q 0)] (qZ z.1) z.2 := by
  refine xRW (cc := cX9_isText) (maxL := 1) (ret := (some .boolean)) (by decide) rfl (Nat.le_of_ble_eq_true rfl) ?_
  intro p e s m below meth c ls A hC hr hlk h hl
  have hx := hC.1
  have hb := hC.2.1
  have hl : lv_has ls 1 [(0, .ref (q 0))] := hl
  unfold m_X9_isText at hf
  obtain ⟨H, hH⟩ : ∃ H, H = s.heap := ⟨_, rfl⟩
  obtain ⟨locs, hlo⟩ : ∃ x : List Loc, x = [] := ⟨_, rfl⟩
  have h : hg G (eMod G) 8 q v A s H locs := by rw [hH, hlo]; exact h
  rw [← hlo, ← hH]
  clear hH hlo
  refine lv_aload_n hx hb dX9_isText_0 rfl (lv_at hl 0 rfl) ?_
  refine lv_iconst (v := (0 : Int32)) hx hb dX9_isText_1 (by decide) ?_
  refine xput hC h (C := RX9) (T := TX9) (N := 17) (wM_us uw_X9) tyX9_ok nmX9 0 (Nat.le_of_ble_eq_true rfl) eMod_0 rfl 9 (by decide) (wM_in fl_X9_182) rfl (ty := .int) (tyX9_ok 9 (by decide)) rfl rfl (Nat.le_of_ble_eq_true rfl) (eMod_0.trans rfl) dX9_isText_2 (fun H locs h => ?_)
  obtain ⟨v1, ev1, hf⟩ := lt_e hf
  rw [← ev1] at h
  refine lv_aload_n hx hb dX9_isText_5 rfl (lv_at hl 0 rfl) ?_
  refine lv_iconst (v := (1 : Int32)) hx hb dX9_isText_6 (by decide) ?_
  refine xput hC h (C := RX9) (T := TX9) (N := 17) (wM_us uw_X9) tyX9_ok nmX9 0 (Nat.le_of_ble_eq_true rfl) eMod_0 rfl 10 (by decide) (wM_in fl_X9_185) rfl (ty := .boolean) (tyX9_ok 10 (by decide)) rfl rfl (Nat.le_of_ble_eq_true rfl) (eMod_0.trans rfl) dX9_isText_7 (fun H locs h => ?_)
  obtain ⟨v2, ev2, hf⟩ := lt_e hf
  rw [← ev2] at h
  refine lv_aload_n hx hb dX9_isText_10 rfl (lv_at hl 0 rfl) ?_
  obtain ⟨r4, hy3, hf⟩ := ob_e hf
  refine xv0 h (va_runV (As := []) (rest := []) hC (c_X9_takesPart l G q v2 hy3 H.size) (xcwV hC lk_X9_220 in_X9 co_X9_takesPart im_X9_takesPart se_X9_takesPart rfl rfl dd_X9_takesPart ⟨Nat.le_of_ble_eq_true rfl, Nat.le_of_ble_eq_true rfl⟩) (preV0 h (Nat.le_of_ble_eq_true rfl) eMod_0 rfl []) rfl rfl hl.1 rfl (lv_room (Nat.le_of_ble_eq_true rfl)) dX9_isText_11 ⟨Nat.zero_le _, Nat.zero_le _⟩) (fun H locs h => ?_)
  refine lp_i (z := z) (P := fun (pp : xSt) => ∀ (H : Heap) (locs : List Loc), hg G (eMod G) 8 q pp A s H locs → ∀ (ls : Array Slot), lv_has ls 1 [(0, .ref (q 0))] → W p l e { frames := 5, cells := 0, slots := 0, locals := 104 } s m [.ref (q 0)].toArray below meth c H locs 0 0 (MQ below ((qZ z.1) (cB G (eMod G) 8 q z.2 A) A) [.ref (q 0)].toArray s 0 0 A) (F0 m 14 ls [])) ?_ _ _ hf H locs h ls (lv_sub hl [0] rfl)
  intro rec6 hrec6 pp hf H locs h ls hl
  obtain ⟨v5, hpp⟩ : ∃ y, y = pp := ⟨_, rfl⟩
  subst hpp
  have h : hg G (eMod G) 8 q v5 A s H locs := h
  have hl : lv_has ls 1 [(0, .ref (q 0))] := hl
  have hf := un1_e hf
  refine lv_aload_n hx hb dX9_isText_14 rfl (lv_at hl 0 rfl) ?_
  refine xget hC h.o (C := RX9) (T := TX9) (N := 17) (wM_us uw_X9) 0 (Nat.le_of_ble_eq_true rfl) eMod_0 rfl 10 (by decide) (wM_in fl_X9_185) rfl dX9_isText_15 ?_
  obtain ⟨j7, ej7, hf⟩ := lt_e hf
  have hj7 : ∀ (uu : Unit) (H : Heap) (locs : List Loc), hg G (eMod G) 8 q v5 A s H locs → ∀ (ls : Array Slot), lv_has ls 1 [(0, .ref (q 0))] → j7 uu = some z → W p l e { frames := 5, cells := 0, slots := 0, locals := 104 } s m [.ref (q 0)].toArray below meth c H locs 0 0 (MQ below ((qZ z.1) (cB G (eMod G) 8 q z.2 A) A) [.ref (q 0)].toArray s 0 0 A) (F0 m 64 ls []) := by
    intro uu H locs h ls hl hf
    rw [ej7] at hf
    refine lv_aload_n hx hb dX9_isText_64 rfl (lv_at hl 0 rfl) ?_
    refine xget hC h.o (C := RX9) (T := TX9) (N := 17) (wM_us uw_X9) 0 (Nat.le_of_ble_eq_true rfl) eMod_0 rfl 10 (by decide) (wM_in fl_X9_185) rfl dX9_isText_65 ?_
    obtain ⟨hz8, hf⟩ := ck_e hf
    have hf := sm_e hf
    exact xzret hC hr hlk h (by rw [← hf]) hz8 (by rw [← hf]) dX9_isText_68
  refine lv_if_eq (tgt := 64) hx hb dX9_isText_18 (by decide) (fun c9 => ?_) (fun c9 => ?_)
  · have hf := it_t c9 hf
    exact hj7 () H locs h ls (lv_sub hl [0] rfl) hf
  · have hf := it_f c9 hf
    refine lv_aload_n hx hb dX9_isText_21 rfl (lv_at hl 0 rfl) ?_
    refine xget hC h.o (C := RX9) (T := TX9) (N := 17) (wM_us uw_X9) 0 (Nat.le_of_ble_eq_true rfl) eMod_0 rfl 9 (by decide) (wM_in fl_X9_182) rfl dX9_isText_22 ?_
    refine lv_aload_n hx hb dX9_isText_25 rfl (lv_at hl 0 rfl) ?_
    refine xget hC h.o (C := RX9) (T := TX9) (N := 17) (wM_us uw_X9) 0 (Nat.le_of_ble_eq_true rfl) eMod_0 rfl 7 (by decide) (wM_in fl_X9_179) rfl dX9_isText_26 ?_
    refine lv_icmp_ge (tgt := 64) hx hb dX9_isText_29 (by decide) (fun c10 => ?_) (fun c10 => ?_)
    · have hf := it_t c10 hf
      exact hj7 () H locs h ls (lv_sub hl [0] rfl) hf
    · have hf := it_f c10 hf
      refine lv_aload_n hx hb dX9_isText_32 rfl (lv_at hl 0 rfl) ?_
      refine lv_aload_n hx hb dX9_isText_33 rfl (lv_at hl 0 rfl) ?_
      obtain ⟨r12, hy11, hf⟩ := ob_e hf
      refine xiG h (va_runV (As := []) (rest := [.ref (q 0)]) hC (c_X9_here l G q v5 hy11 H.size) (xcwV hC lk_X9_189 in_X9 co_X9_here im_X9_here se_X9_here rfl rfl dd_X9_here ⟨Nat.le_of_ble_eq_true rfl, Nat.le_of_ble_eq_true rfl⟩) (preVO0 h.o (Nat.le_of_ble_eq_true rfl) eMod_0 rfl []) rfl rfl hl.1 rfl (lv_room (Nat.le_of_ble_eq_true rfl)) dX9_isText_34 ⟨Nat.zero_le _, Nat.zero_le _⟩) (fun H locs h => ?_)
      refine lv_bipush (v := (59 : Int32)) hx hb dX9_isText_37 (by decide) ?_
      obtain ⟨j14, ej14, hf⟩ := lt_e hf
      have hj14 : ∀ (t13 : Int32) (H : Heap) (locs : List Loc), hg G (eMod G) 8 q v5 A s H locs → ∀ (ls : Array Slot), lv_has ls 1 [(0, .ref (q 0))] → j14 t13 = some z → W p l e { frames := 5, cells := 0, slots := 0, locals := 104 } s m [.ref (q 0)].toArray below meth c H locs 0 0 (MQ below ((qZ z.1) (cB G (eMod G) 8 q z.2 A) A) [.ref (q 0)].toArray s 0 0 A) (F0 m 47 ls [.int t13, .ref (q 0)]) := by
        intro t13 H locs h ls hl hf
        rw [ej14] at hf
        obtain ⟨r16, hy15, hf⟩ := ob_e hf
        refine xv0 h (va_runV (As := [.int t13]) (rest := []) hC (c_X9_takes l G q v5 t13 hy15 H.size) (xcwV hC lk_X9_195 in_X9 co_X9_takes im_X9_takes se_X9_takes rfl rfl dd_X9_takes ⟨Nat.le_of_ble_eq_true rfl, Nat.le_of_ble_eq_true rfl⟩) (preV0 h (Nat.le_of_ble_eq_true rfl) eMod_0 rfl [.int t13]) rfl rfl hl.1 rfl (lv_room (Nat.le_of_ble_eq_true rfl)) dX9_isText_47 ⟨Nat.zero_le _, Nat.zero_le _⟩) (fun H locs h => ?_)
        refine lv_aload_n hx hb dX9_isText_50 rfl (lv_at hl 0 rfl) ?_
        refine xget hC h.o (C := RX9) (T := TX9) (N := 17) (wM_us uw_X9) 0 (Nat.le_of_ble_eq_true rfl) eMod_0 rfl 10 (by decide) (wM_in fl_X9_185) rfl dX9_isText_51 ?_
        refine lv_if_eq (tgt := 14) hx hb dX9_isText_54 (by decide) (fun c17 => ?_) (fun c17 => ?_)
        · have hf := it_t c17 hf
          exact hrec6 r16 hf H locs h ls (lv_sub hl [0] rfl)
        · have hf := it_f c17 hf
          refine lv_aload_n hx hb dX9_isText_57 rfl (lv_at hl 0 rfl) ?_
          obtain ⟨r19, hy18, hf⟩ := ob_e hf
          refine xv0 h (va_runV (As := []) (rest := []) hC (c_X9_takesPart l G q r16 hy18 H.size) (xcwV hC lk_X9_220 in_X9 co_X9_takesPart im_X9_takesPart se_X9_takesPart rfl rfl dd_X9_takesPart ⟨Nat.le_of_ble_eq_true rfl, Nat.le_of_ble_eq_true rfl⟩) (preV0 h (Nat.le_of_ble_eq_true rfl) eMod_0 rfl []) rfl rfl hl.1 rfl (lv_room (Nat.le_of_ble_eq_true rfl)) dX9_isText_58 ⟨Nat.zero_le _, Nat.zero_le _⟩) (fun H locs h => ?_)
          refine lv_goto (tgt := 14) hx hb dX9_isText_61 (by decide) ?_
          exact hrec6 r19 hf H locs h ls (lv_sub hl [0] rfl)
      refine lv_icmp_ne (tgt := 46) hx hb dX9_isText_39 (by decide) (fun c20 => ?_) (fun c20 => ?_)
      · have hf := it_f c20 hf
        refine lv_iconst (v := (0 : Int32)) hx hb dX9_isText_46 (by decide) ?_
        exact hj14 (0 : Int32) H locs h ls (lv_sub hl [0] rfl) hf
      · have hf := it_t c20 hf
        refine lv_iconst (v := (1 : Int32)) hx hb dX9_isText_42 (by decide) ?_
        refine lv_goto (tgt := 47) hx hb dX9_isText_43 (by decide) ?_
        exact hj14 (1 : Int32) H locs h ls (lv_sub hl [0] rfl) hf
def m_X9_firstError (v : xSt) : Option (Int32 × xSt) := lt (st2 v 0 8 (0 : Int32)) (fun v1 => ob (m_X9_isText v1) (fun r3 => lt (r3.2) (fun v5 => (if r3.1 = 0 then some ((v5 0 9), v5) else some ((v5 0 7), v5)))))
set_option maxHeartbeats 4000000 in
set_option maxRecDepth 100000 in
theorem c_X9_firstError (l : Launch) (G : xGl) (q : Nat → Nat) (v : xSt) {z : (Int32 × xSt)} (hf : m_X9_firstError v = some z) : mRW l yX9_firstError (wM yX9_firstError cX9_firstError 1 (some .int)) { frames := 6, cells := 0, slots := 0, locals := 124 } G (eMod G) 8 q v [.ref (q 0)] (qI z.1) z.2 := by
  refine xRW (cc := cX9_firstError) (maxL := 1) (ret := (some .int)) (by decide) rfl (Nat.le_of_ble_eq_true rfl) ?_
  intro p e s m below meth c ls A hC hr hlk h hl
  have hx := hC.1
  have hb := hC.2.1
  have hl : lv_has ls 1 [(0, .ref (q 0))] := hl
  unfold m_X9_firstError at hf
  obtain ⟨H, hH⟩ : ∃ H, H = s.heap := ⟨_, rfl⟩
  obtain ⟨locs, hlo⟩ : ∃ x : List Loc, x = [] := ⟨_, rfl⟩
  have h : hg G (eMod G) 8 q v A s H locs := by rw [hH, hlo]; exact h
  rw [← hlo, ← hH]
  clear hH hlo
  refine lv_aload_n hx hb dX9_firstError_0 rfl (lv_at hl 0 rfl) ?_
  refine lv_iconst (v := (0 : Int32)) hx hb dX9_firstError_1 (by decide) ?_
  refine xput hC h (C := RX9) (T := TX9) (N := 17) (wM_us uw_X9) tyX9_ok nmX9 0 (Nat.le_of_ble_eq_true rfl) eMod_0 rfl 8 (by decide) (wM_in fl_X9_31) rfl (ty := .int) (tyX9_ok 8 (by decide)) rfl rfl (Nat.le_of_ble_eq_true rfl) (eMod_0.trans rfl) dX9_firstError_2 (fun H locs h => ?_)
  obtain ⟨v1, ev1, hf⟩ := lt_e hf
  rw [← ev1] at h
  refine lv_aload_n hx hb dX9_firstError_5 rfl (lv_at hl 0 rfl) ?_
  obtain ⟨r3, hy2, hf⟩ := ob_e hf
  refine xz0 h (va_runV (As := []) (rest := []) hC (c_X9_isText l G q v1 hy2 H.size) (xcwV hC lk_X9_223 in_X9 co_X9_isText im_X9_isText se_X9_isText rfl rfl dd_X9_isText ⟨Nat.le_of_ble_eq_true rfl, Nat.le_of_ble_eq_true rfl⟩) (preV0 h (Nat.le_of_ble_eq_true rfl) eMod_0 rfl []) rfl rfl hl.1 rfl (lv_room (Nat.le_of_ble_eq_true rfl)) dX9_firstError_6 ⟨Nat.zero_le _, Nat.zero_le _⟩) (fun H locs hz4 h => ?_)
  obtain ⟨v5, ev5, hf⟩ := lt_e hf
  rw [← ev5] at h
  refine lv_if_eq (tgt := 19) hx hb dX9_firstError_9 (by decide) (fun c6 => ?_) (fun c6 => ?_)
  · have hf := it_t c6 hf
    refine lv_aload_n hx hb dX9_firstError_19 rfl (lv_at hl 0 rfl) ?_
    refine xget hC h.o (C := RX9) (T := TX9) (N := 17) (wM_us uw_X9) 0 (Nat.le_of_ble_eq_true rfl) eMod_0 rfl 9 (by decide) (wM_in fl_X9_182) rfl dX9_firstError_20 ?_
    have hf := sm_e hf
    exact xiret hC hr hlk h (by rw [← hf]) (by rw [← hf]) dX9_firstError_23
  · have hf := it_f c6 hf
    refine lv_aload_n hx hb dX9_firstError_12 rfl (lv_at hl 0 rfl) ?_
    refine xget hC h.o (C := RX9) (T := TX9) (N := 17) (wM_us uw_X9) 0 (Nat.le_of_ble_eq_true rfl) eMod_0 rfl 7 (by decide) (wM_in fl_X9_179) rfl dX9_firstError_13 ?_
    refine lv_goto (tgt := 23) hx hb dX9_firstError_16 (by decide) ?_
    have hf := sm_e hf
    exact xiret hC hr hlk h (by rw [← hf]) (by rw [← hf]) dX9_firstError_23
def m_X9_doesPart (v : xSt) : Option (Int32 × xSt) := (if (v 0 11) = (116 : Int32) then ob (m_X9_passes v (v 0 12)) (fun r21 => lt (r21.2) (fun v22 => some ((1 : Int32), v22))) else ck (¬ ((580 : Int32) < 0 ∨ 797 ≤ (580 : Int32).toNatClampNeg)) ((if (v 1 (580 : Int32).toNatClampNeg) = (10 : Int32) then some ((0 : Int32), v) else lt (fun (t4 : Int32) => ob (m_X9_posts v t4 (v 0 12) (v 0 13)) (fun r7 => lt (r7.2) (fun v8 => lp (fun (rec11 : Int32 × xSt → Option (Int32 × xSt)) => un2 (fun (a9 : Int32) (v10 : xSt) => (if (v10 0 14) ≤ a9 then some ((1 : Int32), v10) else (if (v10 0 11) = (119 : Int32) then ck (¬ (a9 < 0 ∨ 8 ≤ a9.toNatClampNeg)) (ck (¬ (((r7.1 + (6 : Int32)) + a9) < 0 ∨ 797 ≤ ((r7.1 + (6 : Int32)) + a9).toNatClampNeg)) (lt (st2 v10 1 ((r7.1 + (6 : Int32)) + a9).toNatClampNeg (v10 6 a9.toNatClampNeg)) (fun v16 => ck (¬ ((r7.1 + (5 : Int32)) < 0 ∨ 797 ≤ (r7.1 + (5 : Int32)).toNatClampNeg)) (lt (st2 v16 1 (r7.1 + (5 : Int32)).toNatClampNeg (a9 + (1 : Int32))) (fun v18 => rec11 ((a9 + 1), v18)))))) else some ((1 : Int32), v10))))) xF ((0 : Int32), v8)))) (fun j5 => (if (v 0 11) = (119 : Int32) then j5 (0 : Int32) else j5 (1 : Int32))))))
set_option maxHeartbeats 4000000 in
set_option maxRecDepth 100000 in
theorem c_X9_doesPart (l : Launch) (G : xGl) (q : Nat → Nat) (v : xSt) {z : (Int32 × xSt)} (hf : m_X9_doesPart v = some z) : mRW l yX9_doesPart (wM yX9_doesPart cX9_doesPart 3 (some .boolean)) { frames := 6, cells := 0, slots := 0, locals := 137 } G (eMod G) 8 q v [.ref (q 0)] (qZ z.1) z.2 := by
  refine xRW (cc := cX9_doesPart) (maxL := 3) (ret := (some .boolean)) (by decide) rfl (Nat.le_of_ble_eq_true rfl) ?_
  intro p e s m below meth c ls A hC hr hlk h hl
  have hx := hC.1
  have hb := hC.2.1
  have hl : lv_has ls 3 [(0, .ref (q 0))] := hl
  unfold m_X9_doesPart at hf
  obtain ⟨H, hH⟩ : ∃ H, H = s.heap := ⟨_, rfl⟩
  obtain ⟨locs, hlo⟩ : ∃ x : List Loc, x = [] := ⟨_, rfl⟩
  have h : hg G (eMod G) 8 q v A s H locs := by rw [hH, hlo]; exact h
  rw [← hlo, ← hH]
  clear hH hlo
  refine lv_aload_n hx hb dX9_doesPart_0 rfl (lv_at hl 0 rfl) ?_
  refine xget hC h.o (C := RX9) (T := TX9) (N := 17) (wM_us uw_X9) 0 (Nat.le_of_ble_eq_true rfl) eMod_0 rfl 11 (by decide) (wM_in fl_X9_208) rfl dX9_doesPart_1 ?_
  refine lv_bipush (v := (116 : Int32)) hx hb dX9_doesPart_4 (by decide) ?_
  refine lv_icmp_ne (tgt := 20) hx hb dX9_doesPart_6 (by decide) (fun c1 => ?_) (fun c1 => ?_)
  · have hf := it_f c1 hf
    refine lv_aload_n hx hb dX9_doesPart_20 rfl (lv_at hl 0 rfl) ?_
    refine xget hC h.o (C := RX9) (T := TX9) (N := 17) (wM_us uw_X9) 0 (Nat.le_of_ble_eq_true rfl) eMod_0 rfl 0 (by decide) (wM_in fl_X9_7) rfl dX9_doesPart_21 ?_
    refine lv_sipush (v := (580 : Int32)) hx hb dX9_doesPart_24 (by decide) ?_
    obtain ⟨hi2, hf⟩ := ck_e hf
    refine xiald hC h.o 1 (Nat.le_of_ble_eq_true rfl) eMod_1 hi2 dX9_doesPart_27 ?_
    refine lv_bipush (v := (10 : Int32)) hx hb dX9_doesPart_28 (by decide) ?_
    refine lv_icmp_ne (tgt := 35) hx hb dX9_doesPart_30 (by decide) (fun c3 => ?_) (fun c3 => ?_)
    · have hf := it_f c3 hf
      refine lv_aload_n hx hb dX9_doesPart_35 rfl (lv_at hl 0 rfl) ?_
      refine lv_aload_n hx hb dX9_doesPart_36 rfl (lv_at hl 0 rfl) ?_
      refine xget hC h.o (C := RX9) (T := TX9) (N := 17) (wM_us uw_X9) 0 (Nat.le_of_ble_eq_true rfl) eMod_0 rfl 11 (by decide) (wM_in fl_X9_208) rfl dX9_doesPart_37 ?_
      refine lv_bipush (v := (119 : Int32)) hx hb dX9_doesPart_40 (by decide) ?_
      obtain ⟨j5, ej5, hf⟩ := lt_e hf
      have hj5 : ∀ (t4 : Int32) (H : Heap) (locs : List Loc), hg G (eMod G) 8 q v A s H locs → ∀ (ls : Array Slot), lv_has ls 3 [(0, .ref (q 0))] → j5 t4 = some z → W p l e { frames := 6, cells := 0, slots := 0, locals := 137 } s m [.ref (q 0)].toArray below meth c H locs 0 0 (MQ below ((qZ z.1) (cB G (eMod G) 8 q z.2 A) A) [.ref (q 0)].toArray s 0 0 A) (F0 m 50 ls [.int t4, .ref (q 0)]) := by
        intro t4 H locs h ls hl hf
        rw [ej5] at hf
        refine lv_aload_n hx hb dX9_doesPart_50 rfl (lv_at hl 0 rfl) ?_
        refine xget hC h.o (C := RX9) (T := TX9) (N := 17) (wM_us uw_X9) 0 (Nat.le_of_ble_eq_true rfl) eMod_0 rfl 12 (by decide) (wM_in fl_X9_192) rfl dX9_doesPart_51 ?_
        refine lv_aload_n hx hb dX9_doesPart_54 rfl (lv_at hl 0 rfl) ?_
        refine xget hC h.o (C := RX9) (T := TX9) (N := 17) (wM_us uw_X9) 0 (Nat.le_of_ble_eq_true rfl) eMod_0 rfl 13 (by decide) (wM_in fl_X9_217) rfl dX9_doesPart_55 ?_
        obtain ⟨r7, hy6, hf⟩ := ob_e hf
        refine xi0 h (va_runV (As := [.int t4, .int (v 0 12), .int (v 0 13)]) (rest := []) hC (c_X9_posts l G q v t4 (v 0 12) (v 0 13) hy6 H.size) (xcwV hC lk_X9_166 in_X9 co_X9_posts im_X9_posts se_X9_posts rfl rfl dd_X9_posts ⟨Nat.le_of_ble_eq_true rfl, Nat.le_of_ble_eq_true rfl⟩) (preV0 h (Nat.le_of_ble_eq_true rfl) eMod_0 rfl [.int t4, .int (v 0 12), .int (v 0 13)]) rfl rfl hl.1 rfl (lv_room (Nat.le_of_ble_eq_true rfl)) dX9_doesPart_58 ⟨Nat.zero_le _, Nat.zero_le _⟩) (fun H locs h => ?_)
        obtain ⟨v8, ev8, hf⟩ := lt_e hf
        rw [← ev8] at h
        refine lv_istore_n (lv' := [(1, .int r7.1), (0, .ref (q 0))]) hx hb dX9_doesPart_61 rfl hl (by decide) rfl (fun ls hl => ?_)
        refine lv_iconst (v := (0 : Int32)) hx hb dX9_doesPart_62 (by decide) ?_
        refine lv_istore_n (lv' := [(2, .int (0 : Int32)), (1, .int r7.1), (0, .ref (q 0))]) hx hb dX9_doesPart_63 rfl hl (by decide) rfl (fun ls hl => ?_)
        refine lp_i (z := z) (P := fun (pp : Int32 × xSt) => ∀ (H : Heap) (locs : List Loc), hg G (eMod G) 8 q pp.2 A s H locs → ∀ (ls : Array Slot), lv_has ls 3 [(0, .ref (q 0)), (1, .int r7.1), (2, .int pp.1)] → W p l e { frames := 6, cells := 0, slots := 0, locals := 137 } s m [.ref (q 0)].toArray below meth c H locs 0 0 (MQ below ((qZ z.1) (cB G (eMod G) 8 q z.2 A) A) [.ref (q 0)].toArray s 0 0 A) (F0 m 64 ls [])) ?_ _ _ hf H locs h ls (lv_sub hl [2, 1, 0] rfl)
        intro rec11 hrec11 pp hf H locs h ls hl
        obtain ⟨a9, v10⟩ := pp
        have h : hg G (eMod G) 8 q v10 A s H locs := h
        have hl : lv_has ls 3 [(0, .ref (q 0)), (1, .int r7.1), (2, .int a9)] := hl
        have hf := un2_e hf
        refine lv_iload_n hx hb dX9_doesPart_64 rfl (lv_at hl 2 rfl) ?_
        refine lv_aload_n hx hb dX9_doesPart_65 rfl (lv_at hl 0 rfl) ?_
        refine xget hC h.o (C := RX9) (T := TX9) (N := 17) (wM_us uw_X9) 0 (Nat.le_of_ble_eq_true rfl) eMod_0 rfl 14 (by decide) (wM_in fl_X9_202) rfl dX9_doesPart_66 ?_
        refine lv_icmp_ge (tgt := 115) hx hb dX9_doesPart_69 (by decide) (fun c12 => ?_) (fun c12 => ?_)
        · have hf := it_t c12 hf
          refine lv_iconst (v := (1 : Int32)) hx hb dX9_doesPart_115 (by decide) ?_
          have hf := sm_e hf
          exact xzret hC hr hlk h (by rw [← hf]) (by decide) (by rw [← hf]) dX9_doesPart_116
        · have hf := it_f c12 hf
          refine lv_aload_n hx hb dX9_doesPart_72 rfl (lv_at hl 0 rfl) ?_
          refine xget hC h.o (C := RX9) (T := TX9) (N := 17) (wM_us uw_X9) 0 (Nat.le_of_ble_eq_true rfl) eMod_0 rfl 11 (by decide) (wM_in fl_X9_208) rfl dX9_doesPart_73 ?_
          refine lv_bipush (v := (119 : Int32)) hx hb dX9_doesPart_76 (by decide) ?_
          refine lv_icmp_ne (tgt := 115) hx hb dX9_doesPart_78 (by decide) (fun c13 => ?_) (fun c13 => ?_)
          · have hf := it_f c13 hf
            refine lv_iconst (v := (1 : Int32)) hx hb dX9_doesPart_115 (by decide) ?_
            have hf := sm_e hf
            exact xzret hC hr hlk h (by rw [← hf]) (by decide) (by rw [← hf]) dX9_doesPart_116
          · have hf := it_t c13 hf
            refine lv_aload_n hx hb dX9_doesPart_81 rfl (lv_at hl 0 rfl) ?_
            refine xget hC h.o (C := RX9) (T := TX9) (N := 17) (wM_us uw_X9) 0 (Nat.le_of_ble_eq_true rfl) eMod_0 rfl 0 (by decide) (wM_in fl_X9_7) rfl dX9_doesPart_82 ?_
            refine lv_iload_n hx hb dX9_doesPart_85 rfl (lv_at hl 1 rfl) ?_
            refine lv_bipush (v := (6 : Int32)) hx hb dX9_doesPart_86 (by decide) ?_
            refine lv_iadd hx hb dX9_doesPart_88 ?_
            refine lv_iload_n hx hb dX9_doesPart_89 rfl (lv_at hl 2 rfl) ?_
            refine lv_iadd hx hb dX9_doesPart_90 ?_
            refine lv_aload_n hx hb dX9_doesPart_91 rfl (lv_at hl 0 rfl) ?_
            refine xget hC h.o (C := RX9) (T := TX9) (N := 17) (wM_us uw_X9) 0 (Nat.le_of_ble_eq_true rfl) eMod_0 rfl 15 (by decide) (wM_in fl_X9_25) rfl dX9_doesPart_92 ?_
            refine lv_iload_n hx hb dX9_doesPart_95 rfl (lv_at hl 2 rfl) ?_
            obtain ⟨hi14, hf⟩ := ck_e hf
            refine xiald hC h.o 6 (Nat.le_of_ble_eq_true rfl) eMod_6 hi14 dX9_doesPart_96 ?_
            obtain ⟨hi15, hf⟩ := ck_e hf
            refine xiast hC h 1 (Nat.le_of_ble_eq_true rfl) (fun _ => eMod_1) hi15 dX9_doesPart_97 (fun H locs h => ?_)
            obtain ⟨v16, ev16, hf⟩ := lt_e hf
            rw [← ev16] at h
            refine lv_aload_n hx hb dX9_doesPart_98 rfl (lv_at hl 0 rfl) ?_
            refine xget hC h.o (C := RX9) (T := TX9) (N := 17) (wM_us uw_X9) 0 (Nat.le_of_ble_eq_true rfl) eMod_0 rfl 0 (by decide) (wM_in fl_X9_7) rfl dX9_doesPart_99 ?_
            refine lv_iload_n hx hb dX9_doesPart_102 rfl (lv_at hl 1 rfl) ?_
            refine lv_iconst (v := (5 : Int32)) hx hb dX9_doesPart_103 (by decide) ?_
            refine lv_iadd hx hb dX9_doesPart_104 ?_
            refine lv_iload_n hx hb dX9_doesPart_105 rfl (lv_at hl 2 rfl) ?_
            refine lv_iconst (v := (1 : Int32)) hx hb dX9_doesPart_106 (by decide) ?_
            refine lv_iadd hx hb dX9_doesPart_107 ?_
            obtain ⟨hi17, hf⟩ := ck_e hf
            refine xiast hC h 1 (Nat.le_of_ble_eq_true rfl) (fun _ => eMod_1) hi17 dX9_doesPart_108 (fun H locs h => ?_)
            obtain ⟨v18, ev18, hf⟩ := lt_e hf
            rw [← ev18] at h
            refine lv_iinc (v := (a9 + 1)) (lv' := [(2, .int (a9 + 1)), (0, .ref (q 0)), (1, .int r7.1)]) hx hb dX9_doesPart_109 hl (k := 2) rfl rfl (by decide) rfl (fun ls hl => ?_)
            refine lv_goto (tgt := 64) hx hb dX9_doesPart_112 (by decide) ?_
            exact hrec11 ((a9 + 1), v18) hf H locs h ls (lv_sub hl [1, 2, 0] rfl)
      refine lv_icmp_ne (tgt := 49) hx hb dX9_doesPart_42 (by decide) (fun c19 => ?_) (fun c19 => ?_)
      · have hf := it_f c19 hf
        refine lv_iconst (v := (1 : Int32)) hx hb dX9_doesPart_49 (by decide) ?_
        exact hj5 (1 : Int32) H locs h ls (lv_sub hl [0] rfl) hf
      · have hf := it_t c19 hf
        refine lv_iconst (v := (0 : Int32)) hx hb dX9_doesPart_45 (by decide) ?_
        refine lv_goto (tgt := 50) hx hb dX9_doesPart_46 (by decide) ?_
        exact hj5 (0 : Int32) H locs h ls (lv_sub hl [0] rfl) hf
    · have hf := it_t c3 hf
      refine lv_iconst (v := (0 : Int32)) hx hb dX9_doesPart_33 (by decide) ?_
      have hf := sm_e hf
      exact xzret hC hr hlk h (by rw [← hf]) (by decide) (by rw [← hf]) dX9_doesPart_34
  · have hf := it_t c1 hf
    refine lv_aload_n hx hb dX9_doesPart_9 rfl (lv_at hl 0 rfl) ?_
    refine lv_aload_n hx hb dX9_doesPart_10 rfl (lv_at hl 0 rfl) ?_
    refine xget hC h.o (C := RX9) (T := TX9) (N := 17) (wM_us uw_X9) 0 (Nat.le_of_ble_eq_true rfl) eMod_0 rfl 12 (by decide) (wM_in fl_X9_192) rfl dX9_doesPart_11 ?_
    obtain ⟨r21, hy20, hf⟩ := ob_e hf
    refine xi0 h (va_runV (As := [.int (v 0 12)]) (rest := []) hC (c_X9_passes l G q v (v 0 12) hy20 H.size) (xcwV hC lk_X9_173 in_X9 co_X9_passes im_X9_passes se_X9_passes rfl rfl dd_X9_passes ⟨Nat.le_of_ble_eq_true rfl, Nat.le_of_ble_eq_true rfl⟩) (preV0 h (Nat.le_of_ble_eq_true rfl) eMod_0 rfl [.int (v 0 12)]) rfl rfl hl.1 rfl (lv_room (Nat.le_of_ble_eq_true rfl)) dX9_doesPart_14 ⟨Nat.zero_le _, Nat.zero_le _⟩) (fun H locs h => ?_)
    obtain ⟨v22, ev22, hf⟩ := lt_e hf
    rw [← ev22] at h
    refine lv_istore_n (lv' := [(1, .int r21.1), (0, .ref (q 0))]) hx hb dX9_doesPart_17 rfl hl (by decide) rfl (fun ls hl => ?_)
    refine lv_iconst (v := (1 : Int32)) hx hb dX9_doesPart_18 (by decide) ?_
    have hf := sm_e hf
    exact xzret hC hr hlk h (by rw [← hf]) (by decide) (by rw [← hf]) dX9_doesPart_19
def m_X9_obey (v : xSt) : Option (Int32 × xSt) := lt (st2 v 0 8 (0 : Int32)) (fun v1 => ob (m_X9_isText v1) (fun r3 => lt (r3.2) (fun v5 => (if r3.1 = 0 then ob (m_X9_fails v5 (1 : Int32)) (fun r30 => lt (r30.2) (fun v31 => some (r30.1, v31))) else ob (m_X9_saves v5) (fun r8 => lt (st2 r8 0 9 (0 : Int32)) (fun v9 => lp (fun (rec13 : Int32 × Int32 × xSt → Option (Int32 × xSt)) => un3 (fun (a10 : Int32) (a11 : Int32) (v12 : xSt) => lt (fun (_ : Unit) => lt (st2 v12 0 7 (0 : Int32)) (fun v15 => some (a10, v15))) (fun j14 => (if a11 = 0 then j14 () else (if (v12 0 7) ≤ (v12 0 9) then j14 () else ob (m_X9_takesPart v12) (fun r19 => lt (st2 r19 0 9 ((r19 0 9) + (1 : Int32))) (fun v20 => ob (m_X9_doesPart v20) (fun r22 => lt (r22.2) (fun v24 => lt (fun (t25 : Int32) (t26 : Int32) => rec13 ((t25 + t26), r22.1, v24)) (fun j27 => (if r22.1 = 0 then j27 a10 (0 : Int32) else j27 a10 (1 : Int32)))))))))))) xF ((0 : Int32), (1 : Int32), v9)))))))
set_option maxHeartbeats 4000000 in
set_option maxRecDepth 100000 in
theorem c_X9_obey (l : Launch) (G : xGl) (q : Nat → Nat) (v : xSt) {z : (Int32 × xSt)} (hf : m_X9_obey v = some z) : mRW l yX9_obey (wM yX9_obey cX9_obey 3 (some .int)) { frames := 7, cells := 0, slots := 0, locals := 159 } G (eMod G) 8 q v [.ref (q 0)] (qI z.1) z.2 := by
  refine xRW (cc := cX9_obey) (maxL := 3) (ret := (some .int)) (by decide) rfl (Nat.le_of_ble_eq_true rfl) ?_
  intro p e s m below meth c ls A hC hr hlk h hl
  have hx := hC.1
  have hb := hC.2.1
  have hl : lv_has ls 3 [(0, .ref (q 0))] := hl
  unfold m_X9_obey at hf
  obtain ⟨H, hH⟩ : ∃ H, H = s.heap := ⟨_, rfl⟩
  obtain ⟨locs, hlo⟩ : ∃ x : List Loc, x = [] := ⟨_, rfl⟩
  have h : hg G (eMod G) 8 q v A s H locs := by rw [hH, hlo]; exact h
  rw [← hlo, ← hH]
  clear hH hlo
  refine lv_aload_n hx hb dX9_obey_0 rfl (lv_at hl 0 rfl) ?_
  refine lv_iconst (v := (0 : Int32)) hx hb dX9_obey_1 (by decide) ?_
  refine xput hC h (C := RX9) (T := TX9) (N := 17) (wM_us uw_X9) tyX9_ok nmX9 0 (Nat.le_of_ble_eq_true rfl) eMod_0 rfl 8 (by decide) (wM_in fl_X9_31) rfl (ty := .int) (tyX9_ok 8 (by decide)) rfl rfl (Nat.le_of_ble_eq_true rfl) (eMod_0.trans rfl) dX9_obey_2 (fun H locs h => ?_)
  obtain ⟨v1, ev1, hf⟩ := lt_e hf
  rw [← ev1] at h
  refine lv_aload_n hx hb dX9_obey_5 rfl (lv_at hl 0 rfl) ?_
  obtain ⟨r3, hy2, hf⟩ := ob_e hf
  refine xz0 h (va_runV (As := []) (rest := []) hC (c_X9_isText l G q v1 hy2 H.size) (xcwV hC lk_X9_223 in_X9 co_X9_isText im_X9_isText se_X9_isText rfl rfl dd_X9_isText ⟨Nat.le_of_ble_eq_true rfl, Nat.le_of_ble_eq_true rfl⟩) (preV0 h (Nat.le_of_ble_eq_true rfl) eMod_0 rfl []) rfl rfl hl.1 rfl (lv_room (Nat.le_of_ble_eq_true rfl)) dX9_obey_6 ⟨Nat.zero_le _, Nat.zero_le _⟩) (fun H locs hz4 h => ?_)
  obtain ⟨v5, ev5, hf⟩ := lt_e hf
  rw [← ev5] at h
  refine lv_if_ne (tgt := 18) hx hb dX9_obey_9 (by decide) (fun c6 => ?_) (fun c6 => ?_)
  · have hf := it_f c6 hf
    refine lv_aload_n hx hb dX9_obey_18 rfl (lv_at hl 0 rfl) ?_
    obtain ⟨r8, hy7, hf⟩ := ob_e hf
    refine xv0 h (va_runV (As := []) (rest := []) hC (c_X9_saves l G q v5 hy7 H.size) (xcwV hC lk_X9_145 in_X9 co_X9_saves im_X9_saves se_X9_saves rfl rfl dd_X9_saves ⟨Nat.le_of_ble_eq_true rfl, Nat.le_of_ble_eq_true rfl⟩) (preV0 h (Nat.le_of_ble_eq_true rfl) eMod_0 rfl []) rfl rfl hl.1 rfl (lv_room (Nat.le_of_ble_eq_true rfl)) dX9_obey_19 ⟨Nat.zero_le _, Nat.zero_le _⟩) (fun H locs h => ?_)
    refine lv_aload_n hx hb dX9_obey_22 rfl (lv_at hl 0 rfl) ?_
    refine lv_iconst (v := (0 : Int32)) hx hb dX9_obey_23 (by decide) ?_
    refine xput hC h (C := RX9) (T := TX9) (N := 17) (wM_us uw_X9) tyX9_ok nmX9 0 (Nat.le_of_ble_eq_true rfl) eMod_0 rfl 9 (by decide) (wM_in fl_X9_182) rfl (ty := .int) (tyX9_ok 9 (by decide)) rfl rfl (Nat.le_of_ble_eq_true rfl) (eMod_0.trans rfl) dX9_obey_24 (fun H locs h => ?_)
    obtain ⟨v9, ev9, hf⟩ := lt_e hf
    rw [← ev9] at h
    refine lv_iconst (v := (0 : Int32)) hx hb dX9_obey_27 (by decide) ?_
    refine lv_istore_n (lv' := [(1, .int (0 : Int32)), (0, .ref (q 0))]) hx hb dX9_obey_28 rfl hl (by decide) rfl (fun ls hl => ?_)
    refine lv_iconst (v := (1 : Int32)) hx hb dX9_obey_29 (by decide) ?_
    refine lv_istore_n (lv' := [(2, .int (1 : Int32)), (1, .int (0 : Int32)), (0, .ref (q 0))]) hx hb dX9_obey_30 rfl hl (by decide) rfl (fun ls hl => ?_)
    refine lp_i (z := z) (P := fun (pp : Int32 × Int32 × xSt) => ∀ (H : Heap) (locs : List Loc), hg G (eMod G) 8 q pp.2.2 A s H locs → ∀ (ls : Array Slot), lv_has ls 3 [(0, .ref (q 0)), (1, .int pp.1), (2, .int pp.2.1)] → W p l e { frames := 7, cells := 0, slots := 0, locals := 159 } s m [.ref (q 0)].toArray below meth c H locs 0 0 (MQ below ((qI z.1) (cB G (eMod G) 8 q z.2 A) A) [.ref (q 0)].toArray s 0 0 A) (F0 m 31 ls [])) ?_ _ _ hf H locs h ls (lv_sub hl [2, 1, 0] rfl)
    intro rec13 hrec13 pp hf H locs h ls hl
    obtain ⟨a10, a11, v12⟩ := pp
    have h : hg G (eMod G) 8 q v12 A s H locs := h
    have hl : lv_has ls 3 [(0, .ref (q 0)), (1, .int a10), (2, .int a11)] := hl
    have hf := un3_e hf
    refine lv_iload_n hx hb dX9_obey_31 rfl (lv_at hl 2 rfl) ?_
    obtain ⟨j14, ej14, hf⟩ := lt_e hf
    have hj14 : ∀ (uu : Unit) (H : Heap) (locs : List Loc), hg G (eMod G) 8 q v12 A s H locs → ∀ (ls : Array Slot), lv_has ls 3 [(0, .ref (q 0)), (1, .int a10)] → j14 uu = some z → W p l e { frames := 7, cells := 0, slots := 0, locals := 159 } s m [.ref (q 0)].toArray below meth c H locs 0 0 (MQ below ((qI z.1) (cB G (eMod G) 8 q z.2 A) A) [.ref (q 0)].toArray s 0 0 A) (F0 m 80 ls []) := by
      intro uu H locs h ls hl hf
      rw [ej14] at hf
      refine lv_aload_n hx hb dX9_obey_80 rfl (lv_at hl 0 rfl) ?_
      refine lv_iconst (v := (0 : Int32)) hx hb dX9_obey_81 (by decide) ?_
      refine xput hC h (C := RX9) (T := TX9) (N := 17) (wM_us uw_X9) tyX9_ok nmX9 0 (Nat.le_of_ble_eq_true rfl) eMod_0 rfl 7 (by decide) (wM_in fl_X9_179) rfl (ty := .int) (tyX9_ok 7 (by decide)) rfl rfl (Nat.le_of_ble_eq_true rfl) (eMod_0.trans rfl) dX9_obey_82 (fun H locs h => ?_)
      obtain ⟨v15, ev15, hf⟩ := lt_e hf
      rw [← ev15] at h
      refine lv_iload_n hx hb dX9_obey_85 rfl (lv_at hl 1 rfl) ?_
      have hf := sm_e hf
      exact xiret hC hr hlk h (by rw [← hf]) (by rw [← hf]) dX9_obey_86
    refine lv_if_eq (tgt := 80) hx hb dX9_obey_32 (by decide) (fun c16 => ?_) (fun c16 => ?_)
    · have hf := it_t c16 hf
      exact hj14 () H locs h ls (lv_sub hl [0, 1] rfl) hf
    · have hf := it_f c16 hf
      refine lv_aload_n hx hb dX9_obey_35 rfl (lv_at hl 0 rfl) ?_
      refine xget hC h.o (C := RX9) (T := TX9) (N := 17) (wM_us uw_X9) 0 (Nat.le_of_ble_eq_true rfl) eMod_0 rfl 9 (by decide) (wM_in fl_X9_182) rfl dX9_obey_36 ?_
      refine lv_aload_n hx hb dX9_obey_39 rfl (lv_at hl 0 rfl) ?_
      refine xget hC h.o (C := RX9) (T := TX9) (N := 17) (wM_us uw_X9) 0 (Nat.le_of_ble_eq_true rfl) eMod_0 rfl 7 (by decide) (wM_in fl_X9_179) rfl dX9_obey_40 ?_
      refine lv_icmp_ge (tgt := 80) hx hb dX9_obey_43 (by decide) (fun c17 => ?_) (fun c17 => ?_)
      · have hf := it_t c17 hf
        exact hj14 () H locs h ls (lv_sub hl [0, 1] rfl) hf
      · have hf := it_f c17 hf
        refine lv_aload_n hx hb dX9_obey_46 rfl (lv_at hl 0 rfl) ?_
        obtain ⟨r19, hy18, hf⟩ := ob_e hf
        refine xv0 h (va_runV (As := []) (rest := []) hC (c_X9_takesPart l G q v12 hy18 H.size) (xcwV hC lk_X9_220 in_X9 co_X9_takesPart im_X9_takesPart se_X9_takesPart rfl rfl dd_X9_takesPart ⟨Nat.le_of_ble_eq_true rfl, Nat.le_of_ble_eq_true rfl⟩) (preV0 h (Nat.le_of_ble_eq_true rfl) eMod_0 rfl []) rfl rfl hl.1 rfl (lv_room (Nat.le_of_ble_eq_true rfl)) dX9_obey_47 ⟨Nat.zero_le _, Nat.zero_le _⟩) (fun H locs h => ?_)
        refine lv_aload_n hx hb dX9_obey_50 rfl (lv_at hl 0 rfl) ?_
        refine lv_dup hx hb dX9_obey_51 rfl ?_
        refine xget hC h.o (C := RX9) (T := TX9) (N := 17) (wM_us uw_X9) 0 (Nat.le_of_ble_eq_true rfl) eMod_0 rfl 9 (by decide) (wM_in fl_X9_182) rfl dX9_obey_52 ?_
        refine lv_iconst (v := (1 : Int32)) hx hb dX9_obey_55 (by decide) ?_
        refine lv_iadd hx hb dX9_obey_56 ?_
        refine xput hC h (C := RX9) (T := TX9) (N := 17) (wM_us uw_X9) tyX9_ok nmX9 0 (Nat.le_of_ble_eq_true rfl) eMod_0 rfl 9 (by decide) (wM_in fl_X9_182) rfl (ty := .int) (tyX9_ok 9 (by decide)) rfl rfl (Nat.le_of_ble_eq_true rfl) (eMod_0.trans rfl) dX9_obey_57 (fun H locs h => ?_)
        obtain ⟨v20, ev20, hf⟩ := lt_e hf
        rw [← ev20] at h
        refine lv_aload_n hx hb dX9_obey_60 rfl (lv_at hl 0 rfl) ?_
        obtain ⟨r22, hy21, hf⟩ := ob_e hf
        refine xz0 h (va_runV (As := []) (rest := []) hC (c_X9_doesPart l G q v20 hy21 H.size) (xcwV hC lk_X9_226 in_X9 co_X9_doesPart im_X9_doesPart se_X9_doesPart rfl rfl dd_X9_doesPart ⟨Nat.le_of_ble_eq_true rfl, Nat.le_of_ble_eq_true rfl⟩) (preV0 h (Nat.le_of_ble_eq_true rfl) eMod_0 rfl []) rfl rfl hl.1 rfl (lv_room (Nat.le_of_ble_eq_true rfl)) dX9_obey_61 ⟨Nat.zero_le _, Nat.zero_le _⟩) (fun H locs hz23 h => ?_)
        obtain ⟨v24, ev24, hf⟩ := lt_e hf
        rw [← ev24] at h
        refine lv_istore_n (lv' := [(2, .int r22.1), (0, .ref (q 0)), (1, .int a10)]) hx hb dX9_obey_64 rfl hl (by decide) rfl (fun ls hl => ?_)
        refine lv_iload_n hx hb dX9_obey_65 rfl (lv_at hl 2 rfl) ?_
        refine lv_iload_n hx hb dX9_obey_66 rfl (lv_at hl 0 rfl) ?_
        obtain ⟨j27, ej27, hf⟩ := lt_e hf
        have hj27 : ∀ (t25 : Int32) (t26 : Int32) (H : Heap) (locs : List Loc), hg G (eMod G) 8 q v24 A s H locs → ∀ (ls : Array Slot), lv_has ls 3 [(0, .ref (q 0)), (2, .int r22.1)] → j27 t25 t26 = some z → W p l e { frames := 7, cells := 0, slots := 0, locals := 159 } s m [.ref (q 0)].toArray below meth c H locs 0 0 (MQ below ((qI z.1) (cB G (eMod G) 8 q z.2 A) A) [.ref (q 0)].toArray s 0 0 A) (F0 m 75 ls [.int t26, .int t25]) := by
          intro t25 t26 H locs h ls hl hf
          rw [ej27] at hf
          refine lv_iadd hx hb dX9_obey_75 ?_
          refine lv_istore_n (lv' := [(1, .int (t25 + t26)), (0, .ref (q 0)), (2, .int r22.1)]) hx hb dX9_obey_76 rfl hl (by decide) rfl (fun ls hl => ?_)
          refine lv_goto (tgt := 31) hx hb dX9_obey_77 (by decide) ?_
          exact hrec13 ((t25 + t26), r22.1, v24) hf H locs h ls (lv_sub hl [1, 0, 2] rfl)
        refine lv_if_eq (tgt := 74) hx hb dX9_obey_67 (by decide) (fun c28 => ?_) (fun c28 => ?_)
        · have hf := it_t c28 hf
          refine lv_iconst (v := (0 : Int32)) hx hb dX9_obey_74 (by decide) ?_
          exact hj27 a10 (0 : Int32) H locs h ls (lv_sub hl [1, 0] rfl) hf
        · have hf := it_f c28 hf
          refine lv_iconst (v := (1 : Int32)) hx hb dX9_obey_70 (by decide) ?_
          refine lv_goto (tgt := 75) hx hb dX9_obey_71 (by decide) ?_
          exact hj27 a10 (1 : Int32) H locs h ls (lv_sub hl [1, 0] rfl) hf
  · have hf := it_t c6 hf
    refine lv_aload_n hx hb dX9_obey_12 rfl (lv_at hl 0 rfl) ?_
    refine lv_iconst (v := (1 : Int32)) hx hb dX9_obey_13 (by decide) ?_
    obtain ⟨r30, hy29, hf⟩ := ob_e hf
    refine xi0 h (va_runV (As := [.int (1 : Int32)]) (rest := []) hC (c_X9_fails l G q v5 (1 : Int32) hy29 H.size) (xcwV hC lk_X9_142 in_X9 co_X9_fails im_X9_fails se_X9_fails rfl rfl dd_X9_fails ⟨Nat.le_of_ble_eq_true rfl, Nat.le_of_ble_eq_true rfl⟩) (preV0 h (Nat.le_of_ble_eq_true rfl) eMod_0 rfl [.int (1 : Int32)]) rfl rfl hl.1 rfl (lv_room (Nat.le_of_ble_eq_true rfl)) dX9_obey_14 ⟨Nat.zero_le _, Nat.zero_le _⟩) (fun H locs h => ?_)
    obtain ⟨v31, ev31, hf⟩ := lt_e hf
    rw [← ev31] at h
    have hf := sm_e hf
    exact xiret hC hr hlk h (by rw [← hf]) (by rw [← hf]) dX9_obey_17
def m_X9_keep (v : xSt) : Option (Int32 × xSt) := lt (st2 v 0 8 (0 : Int32)) (fun v1 => ob (m_X9_copies 797 797 (ct 1 (sh 1 v1) (sh 4 v1)) (0 : Int32) (0 : Int32)) (fun r3 => lt (pu 4 1 (pu 1 1 v1 r3) (sh 1 r3)) (fun v4 => lt (st2 v4 0 5 (1 : Int32)) (fun v5 => ck (¬ ((561 : Int32) < 0 ∨ 797 ≤ (561 : Int32).toNatClampNeg)) (some ((v5 1 (561 : Int32).toNatClampNeg), v5))))))
set_option maxHeartbeats 4000000 in
set_option maxRecDepth 100000 in
theorem c_X9_keep (l : Launch) (G : xGl) (q : Nat → Nat) (v : xSt) {z : (Int32 × xSt)} (hf : m_X9_keep v = some z) : mRW l yX9_keep (wM yX9_keep cX9_keep 1 (some .int)) { frames := 1, cells := 0, slots := 0, locals := 24 } G (eMod G) 8 q v [.ref (q 0)] (qI z.1) z.2 := by
  refine xRW (cc := cX9_keep) (maxL := 1) (ret := (some .int)) (by decide) rfl (Nat.le_of_ble_eq_true rfl) ?_
  intro p e s m below meth c ls A hC hr hlk h hl
  have hx := hC.1
  have hb := hC.2.1
  have hl : lv_has ls 1 [(0, .ref (q 0))] := hl
  unfold m_X9_keep at hf
  obtain ⟨H, hH⟩ : ∃ H, H = s.heap := ⟨_, rfl⟩
  obtain ⟨locs, hlo⟩ : ∃ x : List Loc, x = [] := ⟨_, rfl⟩
  have h : hg G (eMod G) 8 q v A s H locs := by rw [hH, hlo]; exact h
  rw [← hlo, ← hH]
  clear hH hlo
  refine lv_aload_n hx hb dX9_keep_0 rfl (lv_at hl 0 rfl) ?_
  refine lv_iconst (v := (0 : Int32)) hx hb dX9_keep_1 (by decide) ?_
  refine xput hC h (C := RX9) (T := TX9) (N := 17) (wM_us uw_X9) tyX9_ok nmX9 0 (Nat.le_of_ble_eq_true rfl) eMod_0 rfl 8 (by decide) (wM_in fl_X9_31) rfl (ty := .int) (tyX9_ok 8 (by decide)) rfl rfl (Nat.le_of_ble_eq_true rfl) (eMod_0.trans rfl) dX9_keep_2 (fun H locs h => ?_)
  obtain ⟨v1, ev1, hf⟩ := lt_e hf
  rw [← ev1] at h
  refine lv_aload_n hx hb dX9_keep_5 rfl (lv_at hl 0 rfl) ?_
  refine xget hC h.o (C := RX9) (T := TX9) (N := 17) (wM_us uw_X9) 0 (Nat.le_of_ble_eq_true rfl) eMod_0 rfl 0 (by decide) (wM_in fl_X9_7) rfl dX9_keep_6 ?_
  refine lv_iconst (v := (0 : Int32)) hx hb dX9_keep_9 (by decide) ?_
  refine lv_aload_n hx hb dX9_keep_10 rfl (lv_at hl 0 rfl) ?_
  refine xget hC h.o (C := RX9) (T := TX9) (N := 17) (wM_us uw_X9) 0 (Nat.le_of_ble_eq_true rfl) eMod_0 rfl 4 (by decide) (wM_in fl_X9_19) rfl dX9_keep_11 ?_
  refine lv_iconst (v := (0 : Int32)) hx hb dX9_keep_14 (by decide) ?_
  obtain ⟨r3, hy2, hf⟩ := ob_e hf
  refine xv2 h 1 1 4 1 (x2E1 sMod_1 locInt) (x2E2 sMod_4) (Nat.le_of_ble_eq_true rfl) (Nat.le_of_ble_eq_true rfl) (by omega) (va_runS (As := [.ref (q 1), .int (0 : Int32), .ref (q 4), .int (0 : Int32)]) (rest := []) hC (c_X9_copies l G (ct 1 (sh 1 q) (sh 4 q)) 797 797 (ct 1 (sh 1 v1) (sh 4 v1)) (0 : Int32) (0 : Int32) hy2 H.size) (xcwS hC lk_X9_38 in_X9 co_X9_copies st_X9_copies rfl rfl dd_X9_copies ⟨Nat.le_of_ble_eq_true rfl, Nat.le_of_ble_eq_true rfl⟩) (preS2 h 1 1 4 1 (x2E1 sMod_1 locInt) (x2E2 sMod_4) (Nat.le_of_ble_eq_true rfl) (Nat.le_of_ble_eq_true rfl) (by omega) [.ref (q 1), .int (0 : Int32), .ref (q 4), .int (0 : Int32)]) rfl rfl hl.1 rfl (lv_room (Nat.le_of_ble_eq_true rfl)) dX9_keep_15 ⟨Nat.zero_le _, Nat.zero_le _⟩) (fun H locs h => ?_)
  obtain ⟨v4, ev4, hf⟩ := lt_e hf
  rw [← ev4] at h
  refine lv_aload_n hx hb dX9_keep_18 rfl (lv_at hl 0 rfl) ?_
  refine lv_iconst (v := (1 : Int32)) hx hb dX9_keep_19 (by decide) ?_
  refine xput hC h (C := RX9) (T := TX9) (N := 17) (wM_us uw_X9) tyX9_ok nmX9 0 (Nat.le_of_ble_eq_true rfl) eMod_0 rfl 5 (by decide) (wM_in fl_X9_229) rfl (ty := .boolean) (tyX9_ok 5 (by decide)) rfl rfl (Nat.le_of_ble_eq_true rfl) (eMod_0.trans rfl) dX9_keep_20 (fun H locs h => ?_)
  obtain ⟨v5, ev5, hf⟩ := lt_e hf
  rw [← ev5] at h
  refine lv_aload_n hx hb dX9_keep_23 rfl (lv_at hl 0 rfl) ?_
  refine xget hC h.o (C := RX9) (T := TX9) (N := 17) (wM_us uw_X9) 0 (Nat.le_of_ble_eq_true rfl) eMod_0 rfl 0 (by decide) (wM_in fl_X9_7) rfl dX9_keep_24 ?_
  refine lv_sipush (v := (561 : Int32)) hx hb dX9_keep_27 (by decide) ?_
  obtain ⟨hi6, hf⟩ := ck_e hf
  refine xiald hC h.o 1 (Nat.le_of_ble_eq_true rfl) eMod_1 hi6 dX9_keep_30 ?_
  have hf := sm_e hf
  exact xiret hC hr hlk h (by rw [← hf]) (by rw [← hf]) dX9_keep_31
def m_X9_goBack (v : xSt) : Option (Int32 × xSt) := lt (st2 v 0 8 (0 : Int32)) (fun v1 => (if (v1 0 5) = 0 then ob (m_X9_fails v1 (1 : Int32)) (fun r10 => lt (r10.2) (fun v11 => some (r10.1, v11))) else ob (m_X9_saves v1) (fun r4 => ob (m_X9_copies 797 797 (ct 1 (sh 4 r4) (sh 1 r4)) (0 : Int32) (0 : Int32)) (fun r6 => lt (pu 1 1 (pu 4 1 r4 r6) (sh 1 r6)) (fun v7 => ck (¬ ((561 : Int32) < 0 ∨ 797 ≤ (561 : Int32).toNatClampNeg)) (some ((v7 1 (561 : Int32).toNatClampNeg), v7)))))))
set_option maxHeartbeats 4000000 in
set_option maxRecDepth 100000 in
theorem c_X9_goBack (l : Launch) (G : xGl) (q : Nat → Nat) (v : xSt) {z : (Int32 × xSt)} (hf : m_X9_goBack v = some z) : mRW l yX9_goBack (wM yX9_goBack cX9_goBack 1 (some .int)) { frames := 2, cells := 0, slots := 0, locals := 45 } G (eMod G) 8 q v [.ref (q 0)] (qI z.1) z.2 := by
  refine xRW (cc := cX9_goBack) (maxL := 1) (ret := (some .int)) (by decide) rfl (Nat.le_of_ble_eq_true rfl) ?_
  intro p e s m below meth c ls A hC hr hlk h hl
  have hx := hC.1
  have hb := hC.2.1
  have hl : lv_has ls 1 [(0, .ref (q 0))] := hl
  unfold m_X9_goBack at hf
  obtain ⟨H, hH⟩ : ∃ H, H = s.heap := ⟨_, rfl⟩
  obtain ⟨locs, hlo⟩ : ∃ x : List Loc, x = [] := ⟨_, rfl⟩
  have h : hg G (eMod G) 8 q v A s H locs := by rw [hH, hlo]; exact h
  rw [← hlo, ← hH]
  clear hH hlo
  refine lv_aload_n hx hb dX9_goBack_0 rfl (lv_at hl 0 rfl) ?_
  refine lv_iconst (v := (0 : Int32)) hx hb dX9_goBack_1 (by decide) ?_
  refine xput hC h (C := RX9) (T := TX9) (N := 17) (wM_us uw_X9) tyX9_ok nmX9 0 (Nat.le_of_ble_eq_true rfl) eMod_0 rfl 8 (by decide) (wM_in fl_X9_31) rfl (ty := .int) (tyX9_ok 8 (by decide)) rfl rfl (Nat.le_of_ble_eq_true rfl) (eMod_0.trans rfl) dX9_goBack_2 (fun H locs h => ?_)
  obtain ⟨v1, ev1, hf⟩ := lt_e hf
  rw [← ev1] at h
  refine lv_aload_n hx hb dX9_goBack_5 rfl (lv_at hl 0 rfl) ?_
  refine xget hC h.o (C := RX9) (T := TX9) (N := 17) (wM_us uw_X9) 0 (Nat.le_of_ble_eq_true rfl) eMod_0 rfl 5 (by decide) (wM_in fl_X9_229) rfl dX9_goBack_6 ?_
  refine lv_if_ne (tgt := 18) hx hb dX9_goBack_9 (by decide) (fun c2 => ?_) (fun c2 => ?_)
  · have hf := it_f c2 hf
    refine lv_aload_n hx hb dX9_goBack_18 rfl (lv_at hl 0 rfl) ?_
    obtain ⟨r4, hy3, hf⟩ := ob_e hf
    refine xv0 h (va_runV (As := []) (rest := []) hC (c_X9_saves l G q v1 hy3 H.size) (xcwV hC lk_X9_145 in_X9 co_X9_saves im_X9_saves se_X9_saves rfl rfl dd_X9_saves ⟨Nat.le_of_ble_eq_true rfl, Nat.le_of_ble_eq_true rfl⟩) (preV0 h (Nat.le_of_ble_eq_true rfl) eMod_0 rfl []) rfl rfl hl.1 rfl (lv_room (Nat.le_of_ble_eq_true rfl)) dX9_goBack_19 ⟨Nat.zero_le _, Nat.zero_le _⟩) (fun H locs h => ?_)
    refine lv_aload_n hx hb dX9_goBack_22 rfl (lv_at hl 0 rfl) ?_
    refine xget hC h.o (C := RX9) (T := TX9) (N := 17) (wM_us uw_X9) 0 (Nat.le_of_ble_eq_true rfl) eMod_0 rfl 4 (by decide) (wM_in fl_X9_19) rfl dX9_goBack_23 ?_
    refine lv_iconst (v := (0 : Int32)) hx hb dX9_goBack_26 (by decide) ?_
    refine lv_aload_n hx hb dX9_goBack_27 rfl (lv_at hl 0 rfl) ?_
    refine xget hC h.o (C := RX9) (T := TX9) (N := 17) (wM_us uw_X9) 0 (Nat.le_of_ble_eq_true rfl) eMod_0 rfl 0 (by decide) (wM_in fl_X9_7) rfl dX9_goBack_28 ?_
    refine lv_iconst (v := (0 : Int32)) hx hb dX9_goBack_31 (by decide) ?_
    obtain ⟨r6, hy5, hf⟩ := ob_e hf
    refine xv2 h 4 1 1 1 (x2E1 sMod_4 locInt) (x2E2 sMod_1) (Nat.le_of_ble_eq_true rfl) (Nat.le_of_ble_eq_true rfl) (by omega) (va_runS (As := [.ref (q 4), .int (0 : Int32), .ref (q 1), .int (0 : Int32)]) (rest := []) hC (c_X9_copies l G (ct 1 (sh 4 q) (sh 1 q)) 797 797 (ct 1 (sh 4 r4) (sh 1 r4)) (0 : Int32) (0 : Int32) hy5 H.size) (xcwS hC lk_X9_38 in_X9 co_X9_copies st_X9_copies rfl rfl dd_X9_copies ⟨Nat.le_of_ble_eq_true rfl, Nat.le_of_ble_eq_true rfl⟩) (preS2 h 4 1 1 1 (x2E1 sMod_4 locInt) (x2E2 sMod_1) (Nat.le_of_ble_eq_true rfl) (Nat.le_of_ble_eq_true rfl) (by omega) [.ref (q 4), .int (0 : Int32), .ref (q 1), .int (0 : Int32)]) rfl rfl hl.1 rfl (lv_room (Nat.le_of_ble_eq_true rfl)) dX9_goBack_32 ⟨Nat.zero_le _, Nat.zero_le _⟩) (fun H locs h => ?_)
    obtain ⟨v7, ev7, hf⟩ := lt_e hf
    rw [← ev7] at h
    refine lv_aload_n hx hb dX9_goBack_35 rfl (lv_at hl 0 rfl) ?_
    refine xget hC h.o (C := RX9) (T := TX9) (N := 17) (wM_us uw_X9) 0 (Nat.le_of_ble_eq_true rfl) eMod_0 rfl 0 (by decide) (wM_in fl_X9_7) rfl dX9_goBack_36 ?_
    refine lv_sipush (v := (561 : Int32)) hx hb dX9_goBack_39 (by decide) ?_
    obtain ⟨hi8, hf⟩ := ck_e hf
    refine xiald hC h.o 1 (Nat.le_of_ble_eq_true rfl) eMod_1 hi8 dX9_goBack_42 ?_
    have hf := sm_e hf
    exact xiret hC hr hlk h (by rw [← hf]) (by rw [← hf]) dX9_goBack_43
  · have hf := it_t c2 hf
    refine lv_aload_n hx hb dX9_goBack_12 rfl (lv_at hl 0 rfl) ?_
    refine lv_iconst (v := (1 : Int32)) hx hb dX9_goBack_13 (by decide) ?_
    obtain ⟨r10, hy9, hf⟩ := ob_e hf
    refine xi0 h (va_runV (As := [.int (1 : Int32)]) (rest := []) hC (c_X9_fails l G q v1 (1 : Int32) hy9 H.size) (xcwV hC lk_X9_142 in_X9 co_X9_fails im_X9_fails se_X9_fails rfl rfl dd_X9_fails ⟨Nat.le_of_ble_eq_true rfl, Nat.le_of_ble_eq_true rfl⟩) (preV0 h (Nat.le_of_ble_eq_true rfl) eMod_0 rfl [.int (1 : Int32)]) rfl rfl hl.1 rfl (lv_room (Nat.le_of_ble_eq_true rfl)) dX9_goBack_14 ⟨Nat.zero_le _, Nat.zero_le _⟩) (fun H locs h => ?_)
    obtain ⟨v11, ev11, hf⟩ := lt_e hf
    rw [← ev11] at h
    have hf := sm_e hf
    exact xiret hC hr hlk h (by rw [← hf]) (by rw [← hf]) dX9_goBack_17
def m_X9_undo (v : xSt) : Option (Int32 × xSt) := lt (st2 v 0 8 (0 : Int32)) (fun v1 => (if (v1 0 3) = 0 then ob (m_X9_fails v1 (1 : Int32)) (fun r8 => lt (r8.2) (fun v9 => some (r8.1, v9))) else lt (st2 v1 0 3 ((v1 0 3) - (1 : Int32))) (fun v3 => ob (m_X9_copies 4782 797 (ct 1 (sh 3 v3) (sh 1 v3)) ((797 : Int32) * (v3 0 3)) (0 : Int32)) (fun r5 => lt (pu 1 1 (pu 3 1 v3 r5) (sh 1 r5)) (fun v6 => some ((v6 0 3), v6))))))
set_option maxHeartbeats 4000000 in
set_option maxRecDepth 100000 in
theorem c_X9_undo (l : Launch) (G : xGl) (q : Nat → Nat) (v : xSt) {z : (Int32 × xSt)} (hf : m_X9_undo v = some z) : mRW l yX9_undo (wM yX9_undo cX9_undo 1 (some .int)) { frames := 1, cells := 0, slots := 0, locals := 24 } G (eMod G) 8 q v [.ref (q 0)] (qI z.1) z.2 := by
  refine xRW (cc := cX9_undo) (maxL := 1) (ret := (some .int)) (by decide) rfl (Nat.le_of_ble_eq_true rfl) ?_
  intro p e s m below meth c ls A hC hr hlk h hl
  have hx := hC.1
  have hb := hC.2.1
  have hl : lv_has ls 1 [(0, .ref (q 0))] := hl
  unfold m_X9_undo at hf
  obtain ⟨H, hH⟩ : ∃ H, H = s.heap := ⟨_, rfl⟩
  obtain ⟨locs, hlo⟩ : ∃ x : List Loc, x = [] := ⟨_, rfl⟩
  have h : hg G (eMod G) 8 q v A s H locs := by rw [hH, hlo]; exact h
  rw [← hlo, ← hH]
  clear hH hlo
  refine lv_aload_n hx hb dX9_undo_0 rfl (lv_at hl 0 rfl) ?_
  refine lv_iconst (v := (0 : Int32)) hx hb dX9_undo_1 (by decide) ?_
  refine xput hC h (C := RX9) (T := TX9) (N := 17) (wM_us uw_X9) tyX9_ok nmX9 0 (Nat.le_of_ble_eq_true rfl) eMod_0 rfl 8 (by decide) (wM_in fl_X9_31) rfl (ty := .int) (tyX9_ok 8 (by decide)) rfl rfl (Nat.le_of_ble_eq_true rfl) (eMod_0.trans rfl) dX9_undo_2 (fun H locs h => ?_)
  obtain ⟨v1, ev1, hf⟩ := lt_e hf
  rw [← ev1] at h
  refine lv_aload_n hx hb dX9_undo_5 rfl (lv_at hl 0 rfl) ?_
  refine xget hC h.o (C := RX9) (T := TX9) (N := 17) (wM_us uw_X9) 0 (Nat.le_of_ble_eq_true rfl) eMod_0 rfl 3 (by decide) (wM_in fl_X9_35) rfl dX9_undo_6 ?_
  refine lv_if_ne (tgt := 18) hx hb dX9_undo_9 (by decide) (fun c2 => ?_) (fun c2 => ?_)
  · have hf := it_f c2 hf
    refine lv_aload_n hx hb dX9_undo_18 rfl (lv_at hl 0 rfl) ?_
    refine lv_dup hx hb dX9_undo_19 rfl ?_
    refine xget hC h.o (C := RX9) (T := TX9) (N := 17) (wM_us uw_X9) 0 (Nat.le_of_ble_eq_true rfl) eMod_0 rfl 3 (by decide) (wM_in fl_X9_35) rfl dX9_undo_20 ?_
    refine lv_iconst (v := (1 : Int32)) hx hb dX9_undo_23 (by decide) ?_
    refine lv_isub hx hb dX9_undo_24 ?_
    refine xput hC h (C := RX9) (T := TX9) (N := 17) (wM_us uw_X9) tyX9_ok nmX9 0 (Nat.le_of_ble_eq_true rfl) eMod_0 rfl 3 (by decide) (wM_in fl_X9_35) rfl (ty := .int) (tyX9_ok 3 (by decide)) rfl rfl (Nat.le_of_ble_eq_true rfl) (eMod_0.trans rfl) dX9_undo_25 (fun H locs h => ?_)
    obtain ⟨v3, ev3, hf⟩ := lt_e hf
    rw [← ev3] at h
    refine lv_aload_n hx hb dX9_undo_28 rfl (lv_at hl 0 rfl) ?_
    refine xget hC h.o (C := RX9) (T := TX9) (N := 17) (wM_us uw_X9) 0 (Nat.le_of_ble_eq_true rfl) eMod_0 rfl 2 (by decide) (wM_in fl_X9_16) rfl dX9_undo_29 ?_
    refine lv_sipush (v := (797 : Int32)) hx hb dX9_undo_32 (by decide) ?_
    refine lv_aload_n hx hb dX9_undo_35 rfl (lv_at hl 0 rfl) ?_
    refine xget hC h.o (C := RX9) (T := TX9) (N := 17) (wM_us uw_X9) 0 (Nat.le_of_ble_eq_true rfl) eMod_0 rfl 3 (by decide) (wM_in fl_X9_35) rfl dX9_undo_36 ?_
    refine lv_imul hx hb dX9_undo_39 ?_
    refine lv_aload_n hx hb dX9_undo_40 rfl (lv_at hl 0 rfl) ?_
    refine xget hC h.o (C := RX9) (T := TX9) (N := 17) (wM_us uw_X9) 0 (Nat.le_of_ble_eq_true rfl) eMod_0 rfl 0 (by decide) (wM_in fl_X9_7) rfl dX9_undo_41 ?_
    refine lv_iconst (v := (0 : Int32)) hx hb dX9_undo_44 (by decide) ?_
    obtain ⟨r5, hy4, hf⟩ := ob_e hf
    refine xv2 h 3 1 1 1 (x2E1 sMod_3 locInt) (x2E2 sMod_1) (Nat.le_of_ble_eq_true rfl) (Nat.le_of_ble_eq_true rfl) (by omega) (va_runS (As := [.ref (q 3), .int ((797 : Int32) * (v3 0 3)), .ref (q 1), .int (0 : Int32)]) (rest := []) hC (c_X9_copies l G (ct 1 (sh 3 q) (sh 1 q)) 4782 797 (ct 1 (sh 3 v3) (sh 1 v3)) ((797 : Int32) * (v3 0 3)) (0 : Int32) hy4 H.size) (xcwS hC lk_X9_38 in_X9 co_X9_copies st_X9_copies rfl rfl dd_X9_copies ⟨Nat.le_of_ble_eq_true rfl, Nat.le_of_ble_eq_true rfl⟩) (preS2 h 3 1 1 1 (x2E1 sMod_3 locInt) (x2E2 sMod_1) (Nat.le_of_ble_eq_true rfl) (Nat.le_of_ble_eq_true rfl) (by omega) [.ref (q 3), .int ((797 : Int32) * (v3 0 3)), .ref (q 1), .int (0 : Int32)]) rfl rfl hl.1 rfl (lv_room (Nat.le_of_ble_eq_true rfl)) dX9_undo_45 ⟨Nat.zero_le _, Nat.zero_le _⟩) (fun H locs h => ?_)
    obtain ⟨v6, ev6, hf⟩ := lt_e hf
    rw [← ev6] at h
    refine lv_aload_n hx hb dX9_undo_48 rfl (lv_at hl 0 rfl) ?_
    refine xget hC h.o (C := RX9) (T := TX9) (N := 17) (wM_us uw_X9) 0 (Nat.le_of_ble_eq_true rfl) eMod_0 rfl 3 (by decide) (wM_in fl_X9_35) rfl dX9_undo_49 ?_
    have hf := sm_e hf
    exact xiret hC hr hlk h (by rw [← hf]) (by rw [← hf]) dX9_undo_52
  · have hf := it_t c2 hf
    refine lv_aload_n hx hb dX9_undo_12 rfl (lv_at hl 0 rfl) ?_
    refine lv_iconst (v := (1 : Int32)) hx hb dX9_undo_13 (by decide) ?_
    obtain ⟨r8, hy7, hf⟩ := ob_e hf
    refine xi0 h (va_runV (As := [.int (1 : Int32)]) (rest := []) hC (c_X9_fails l G q v1 (1 : Int32) hy7 H.size) (xcwV hC lk_X9_142 in_X9 co_X9_fails im_X9_fails se_X9_fails rfl rfl dd_X9_fails ⟨Nat.le_of_ble_eq_true rfl, Nat.le_of_ble_eq_true rfl⟩) (preV0 h (Nat.le_of_ble_eq_true rfl) eMod_0 rfl [.int (1 : Int32)]) rfl rfl hl.1 rfl (lv_room (Nat.le_of_ble_eq_true rfl)) dX9_undo_14 ⟨Nat.zero_le _, Nat.zero_le _⟩) (fun H locs h => ?_)
    obtain ⟨v9, ev9, hf⟩ := lt_e hf
    rw [← ev9] at h
    have hf := sm_e hf
    exact xiret hC hr hlk h (by rw [← hf]) (by rw [← hf]) dX9_undo_17
def m_X9_isHidden (v : xSt) (p1 : Int32) : Option (Int32) := ob (m_X9_isBusy v) (fun r2 => lt (fun (_ : Unit) => some (1 : Int32)) (fun j4 => (if r2 = 0 then ob (m_X9_apart v (0 : Int32)) (fun r7 => lt (fun (_ : Unit) => ob (m_X9_apart v (0 : Int32)) (fun r10 => lt (fun (_ : Unit) => some (0 : Int32)) (fun j11 => (if r10 = (2 : Int32) then ob (m_X9_apart v (1 : Int32)) (fun r14 => (if r14 = (p1 / (32 : Int32)) then j4 () else j11 ())) else j11 ())))) (fun j8 => (if r7 = (1 : Int32) then ob (m_X9_apart v (1 : Int32)) (fun r18 => (if (r18 / (8 : Int32)) = (p1 / (8 : Int32)) then j4 () else j8 ())) else j8 ()))) else j4 ())))
set_option maxHeartbeats 4000000 in
set_option maxRecDepth 100000 in
theorem c_X9_isHidden (l : Launch) (G : xGl) (q : Nat → Nat) (v : xSt) (p1 : Int32) {z : (Int32)} (hf : m_X9_isHidden v p1 = some z) : mRO l yX9_isHidden (wM yX9_isHidden cX9_isHidden 2 (some .boolean)) { frames := 2, cells := 0, slots := 0, locals := 41 } G (eMod G) 8 q v [.ref (q 0), .int p1] (qZ z) := by
  refine xRO (cc := cX9_isHidden) (maxL := 2) (ret := (some .boolean)) (by decide) rfl (Nat.le_of_ble_eq_true rfl) ?_
  intro p e s m below meth c ls A hC hr hlk h hl
  have hx := hC.1
  have hb := hC.2.1
  have hl : lv_has ls 2 [(0, .ref (q 0)), (1, .int p1)] := hl
  unfold m_X9_isHidden at hf
  obtain ⟨H, hH⟩ : ∃ H, H = s.heap := ⟨_, rfl⟩
  obtain ⟨locs, hlo⟩ : ∃ x : List Loc, x = [] := ⟨_, rfl⟩
  have h : ho G (eMod G) 8 q v A s H locs := by rw [hH, hlo]; exact h
  rw [← hlo, ← hH]
  clear hH hlo
  refine lv_aload_n hx hb dX9_isHidden_0 rfl (lv_at hl 0 rfl) ?_
  obtain ⟨r2, hy1, hf⟩ := ob_e hf
  refine xzO h (va_runV (As := []) (rest := []) hC (c_X9_isBusy l G q v hy1 H.size) (xcwV hC lk_X9_116 in_X9 co_X9_isBusy im_X9_isBusy se_X9_isBusy rfl rfl dd_X9_isBusy ⟨Nat.le_of_ble_eq_true rfl, Nat.le_of_ble_eq_true rfl⟩) (preVO0 h.o (Nat.le_of_ble_eq_true rfl) eMod_0 rfl []) rfl rfl hl.1 rfl (lv_room (Nat.le_of_ble_eq_true rfl)) dX9_isHidden_1 ⟨Nat.zero_le _, Nat.zero_le _⟩) (fun H locs hz3 h => ?_)
  obtain ⟨j4, ej4, hf⟩ := lt_e hf
  have hj4 : ∀ (uu : Unit) (H : Heap) (locs : List Loc), ho G (eMod G) 8 q v A s H locs → ∀ (ls : Array Slot), lv_has ls 2 [] → j4 uu = some z → W p l e { frames := 2, cells := 0, slots := 0, locals := 41 } s m [.ref (q 0), .int p1].toArray below meth c H locs 0 0 (MQ below ((qZ z) (fun _ => True) A) [.ref (q 0), .int p1].toArray s 0 0 A) (F0 m 52 ls []) := by
    intro uu H locs h ls hl hf
    rw [ej4] at hf
    refine lv_iconst (v := (1 : Int32)) hx hb dX9_isHidden_52 (by decide) ?_
    refine lv_goto (tgt := 57) hx hb dX9_isHidden_53 (by decide) ?_
    have hf := sm_e hf
    exact ozret hC hr hlk h (by rw [← hf]) (by decide) dX9_isHidden_57
  refine lv_if_ne (tgt := 52) hx hb dX9_isHidden_4 (by decide) (fun c5 => ?_) (fun c5 => ?_)
  · have hf := it_f c5 hf
    exact hj4 () H locs h ls (lv_sub hl [] rfl) hf
  · have hf := it_t c5 hf
    refine lv_aload_n hx hb dX9_isHidden_7 rfl (lv_at hl 0 rfl) ?_
    refine lv_iconst (v := (0 : Int32)) hx hb dX9_isHidden_8 (by decide) ?_
    obtain ⟨r7, hy6, hf⟩ := ob_e hf
    refine xiO h (va_runV (As := [.int (0 : Int32)]) (rest := []) hC (c_X9_apart l G q v (0 : Int32) hy6 H.size) (xcwV hC lk_X9_50 in_X9 co_X9_apart im_X9_apart se_X9_apart rfl rfl dd_X9_apart ⟨Nat.le_of_ble_eq_true rfl, Nat.le_of_ble_eq_true rfl⟩) (preVO0 h.o (Nat.le_of_ble_eq_true rfl) eMod_0 rfl [.int (0 : Int32)]) rfl rfl hl.1 rfl (lv_room (Nat.le_of_ble_eq_true rfl)) dX9_isHidden_9 ⟨Nat.zero_le _, Nat.zero_le _⟩) (fun H locs h => ?_)
    refine lv_iconst (v := (1 : Int32)) hx hb dX9_isHidden_12 (by decide) ?_
    obtain ⟨j8, ej8, hf⟩ := lt_e hf
    have hj8 : ∀ (uu : Unit) (H : Heap) (locs : List Loc), ho G (eMod G) 8 q v A s H locs → ∀ (ls : Array Slot), lv_has ls 2 [(0, .ref (q 0)), (1, .int p1)] → j8 uu = some z → W p l e { frames := 2, cells := 0, slots := 0, locals := 41 } s m [.ref (q 0), .int p1].toArray below meth c H locs 0 0 (MQ below ((qZ z) (fun _ => True) A) [.ref (q 0), .int p1].toArray s 0 0 A) (F0 m 31 ls []) := by
      intro uu H locs h ls hl hf
      rw [ej8] at hf
      refine lv_aload_n hx hb dX9_isHidden_31 rfl (lv_at hl 0 rfl) ?_
      refine lv_iconst (v := (0 : Int32)) hx hb dX9_isHidden_32 (by decide) ?_
      obtain ⟨r10, hy9, hf⟩ := ob_e hf
      refine xiO h (va_runV (As := [.int (0 : Int32)]) (rest := []) hC (c_X9_apart l G q v (0 : Int32) hy9 H.size) (xcwV hC lk_X9_50 in_X9 co_X9_apart im_X9_apart se_X9_apart rfl rfl dd_X9_apart ⟨Nat.le_of_ble_eq_true rfl, Nat.le_of_ble_eq_true rfl⟩) (preVO0 h.o (Nat.le_of_ble_eq_true rfl) eMod_0 rfl [.int (0 : Int32)]) rfl rfl hl.1 rfl (lv_room (Nat.le_of_ble_eq_true rfl)) dX9_isHidden_33 ⟨Nat.zero_le _, Nat.zero_le _⟩) (fun H locs h => ?_)
      refine lv_iconst (v := (2 : Int32)) hx hb dX9_isHidden_36 (by decide) ?_
      obtain ⟨j11, ej11, hf⟩ := lt_e hf
      have hj11 : ∀ (uu : Unit) (H : Heap) (locs : List Loc), ho G (eMod G) 8 q v A s H locs → ∀ (ls : Array Slot), lv_has ls 2 [] → j11 uu = some z → W p l e { frames := 2, cells := 0, slots := 0, locals := 41 } s m [.ref (q 0), .int p1].toArray below meth c H locs 0 0 (MQ below ((qZ z) (fun _ => True) A) [.ref (q 0), .int p1].toArray s 0 0 A) (F0 m 56 ls []) := by
        intro uu H locs h ls hl hf
        rw [ej11] at hf
        refine lv_iconst (v := (0 : Int32)) hx hb dX9_isHidden_56 (by decide) ?_
        have hf := sm_e hf
        exact ozret hC hr hlk h (by rw [← hf]) (by decide) dX9_isHidden_57
      refine lv_icmp_ne (tgt := 56) hx hb dX9_isHidden_37 (by decide) (fun c12 => ?_) (fun c12 => ?_)
      · have hf := it_f c12 hf
        exact hj11 () H locs h ls (lv_sub hl [] rfl) hf
      · have hf := it_t c12 hf
        refine lv_aload_n hx hb dX9_isHidden_40 rfl (lv_at hl 0 rfl) ?_
        refine lv_iconst (v := (1 : Int32)) hx hb dX9_isHidden_41 (by decide) ?_
        obtain ⟨r14, hy13, hf⟩ := ob_e hf
        refine xiO h (va_runV (As := [.int (1 : Int32)]) (rest := []) hC (c_X9_apart l G q v (1 : Int32) hy13 H.size) (xcwV hC lk_X9_50 in_X9 co_X9_apart im_X9_apart se_X9_apart rfl rfl dd_X9_apart ⟨Nat.le_of_ble_eq_true rfl, Nat.le_of_ble_eq_true rfl⟩) (preVO0 h.o (Nat.le_of_ble_eq_true rfl) eMod_0 rfl [.int (1 : Int32)]) rfl rfl hl.1 rfl (lv_room (Nat.le_of_ble_eq_true rfl)) dX9_isHidden_42 ⟨Nat.zero_le _, Nat.zero_le _⟩) (fun H locs h => ?_)
        refine lv_iload_n hx hb dX9_isHidden_45 rfl (lv_at hl 1 rfl) ?_
        refine lv_bipush (v := (32 : Int32)) hx hb dX9_isHidden_46 (by decide) ?_
        refine lv_idiv hx hb dX9_isHidden_48 (by decide) ?_
        refine lv_icmp_ne (tgt := 56) hx hb dX9_isHidden_49 (by decide) (fun c15 => ?_) (fun c15 => ?_)
        · have hf := it_f c15 hf
          exact hj11 () H locs h ls (lv_sub hl [] rfl) hf
        · have hf := it_t c15 hf
          exact hj4 () H locs h ls (lv_sub hl [] rfl) hf
    refine lv_icmp_ne (tgt := 31) hx hb dX9_isHidden_13 (by decide) (fun c16 => ?_) (fun c16 => ?_)
    · have hf := it_f c16 hf
      exact hj8 () H locs h ls (lv_sub hl [0, 1] rfl) hf
    · have hf := it_t c16 hf
      refine lv_aload_n hx hb dX9_isHidden_16 rfl (lv_at hl 0 rfl) ?_
      refine lv_iconst (v := (1 : Int32)) hx hb dX9_isHidden_17 (by decide) ?_
      obtain ⟨r18, hy17, hf⟩ := ob_e hf
      refine xiO h (va_runV (As := [.int (1 : Int32)]) (rest := []) hC (c_X9_apart l G q v (1 : Int32) hy17 H.size) (xcwV hC lk_X9_50 in_X9 co_X9_apart im_X9_apart se_X9_apart rfl rfl dd_X9_apart ⟨Nat.le_of_ble_eq_true rfl, Nat.le_of_ble_eq_true rfl⟩) (preVO0 h.o (Nat.le_of_ble_eq_true rfl) eMod_0 rfl [.int (1 : Int32)]) rfl rfl hl.1 rfl (lv_room (Nat.le_of_ble_eq_true rfl)) dX9_isHidden_18 ⟨Nat.zero_le _, Nat.zero_le _⟩) (fun H locs h => ?_)
      refine lv_bipush (v := (8 : Int32)) hx hb dX9_isHidden_21 (by decide) ?_
      refine lv_idiv hx hb dX9_isHidden_23 (by decide) ?_
      refine lv_iload_n hx hb dX9_isHidden_24 rfl (lv_at hl 1 rfl) ?_
      refine lv_bipush (v := (8 : Int32)) hx hb dX9_isHidden_25 (by decide) ?_
      refine lv_idiv hx hb dX9_isHidden_27 (by decide) ?_
      refine lv_icmp_eq (tgt := 52) hx hb dX9_isHidden_28 (by decide) (fun c19 => ?_) (fun c19 => ?_)
      · have hf := it_t c19 hf
        exact hj4 () H locs h ls (lv_sub hl [] rfl) hf
      · have hf := it_f c19 hf
        exact hj8 () H locs h ls (lv_sub hl [0, 1] rfl) hf
def m_X9_read (v : xSt) (p1 : Int32) : Option (Int32 × xSt) := lt (st2 v 0 8 (0 : Int32)) (fun v1 => (if (xwi p1 0 255) = 0 then ob (m_X9_fails v1 (1 : Int32)) (fun r13 => lt (r13.2) (fun v14 => some (r13.1, v14))) else ob (m_X9_isHidden v1 p1) (fun r5 => (if r5 = 0 then ck (¬ (p1 < 0 ∨ 797 ≤ p1.toNatClampNeg)) (some ((v1 1 p1.toNatClampNeg), v1)) else ob (m_X9_fails v1 (2 : Int32)) (fun r10 => lt (r10.2) (fun v11 => some (r10.1, v11)))))))
set_option maxHeartbeats 4000000 in
set_option maxRecDepth 100000 in
theorem c_X9_read (l : Launch) (G : xGl) (q : Nat → Nat) (v : xSt) (p1 : Int32) {z : (Int32 × xSt)} (hf : m_X9_read v p1 = some z) : mRW l yX9_read (wM yX9_read cX9_read 2 (some .int)) { frames := 3, cells := 0, slots := 0, locals := 62 } G (eMod G) 8 q v [.ref (q 0), .int p1] (qI z.1) z.2 := by
  refine xRW (cc := cX9_read) (maxL := 2) (ret := (some .int)) (by decide) rfl (Nat.le_of_ble_eq_true rfl) ?_
  intro p e s m below meth c ls A hC hr hlk h hl
  have hx := hC.1
  have hb := hC.2.1
  have hl : lv_has ls 2 [(0, .ref (q 0)), (1, .int p1)] := hl
  unfold m_X9_read at hf
  obtain ⟨H, hH⟩ : ∃ H, H = s.heap := ⟨_, rfl⟩
  obtain ⟨locs, hlo⟩ : ∃ x : List Loc, x = [] := ⟨_, rfl⟩
  have h : hg G (eMod G) 8 q v A s H locs := by rw [hH, hlo]; exact h
  rw [← hlo, ← hH]
  clear hH hlo
  refine lv_aload_n hx hb dX9_read_0 rfl (lv_at hl 0 rfl) ?_
  refine lv_iconst (v := (0 : Int32)) hx hb dX9_read_1 (by decide) ?_
  refine xput hC h (C := RX9) (T := TX9) (N := 17) (wM_us uw_X9) tyX9_ok nmX9 0 (Nat.le_of_ble_eq_true rfl) eMod_0 rfl 8 (by decide) (wM_in fl_X9_31) rfl (ty := .int) (tyX9_ok 8 (by decide)) rfl rfl (Nat.le_of_ble_eq_true rfl) (eMod_0.trans rfl) dX9_read_2 (fun H locs h => ?_)
  obtain ⟨v1, ev1, hf⟩ := lt_e hf
  rw [← ev1] at h
  refine lv_iload_n hx hb dX9_read_5 rfl (lv_at hl 1 rfl) ?_
  refine xzG h (va_runS (As := [.int p1]) (rest := []) hC (k_X9_isCell l G q v1 p1 H.size) (xcwS hC lk_X9_151 in_X9 co_X9_isCell st_X9_isCell rfl rfl dd_X9_isCell ⟨Nat.le_of_ble_eq_true rfl, Nat.le_of_ble_eq_true rfl⟩) (preSN h.o [.int p1]) rfl rfl hl.1 rfl (lv_room (Nat.le_of_ble_eq_true rfl)) dX9_read_6 ⟨Nat.zero_le _, Nat.zero_le _⟩) (fun H locs hz2 h => ?_)
  refine lv_if_ne (tgt := 18) hx hb dX9_read_9 (by decide) (fun c3 => ?_) (fun c3 => ?_)
  · have hf := it_f c3 hf
    refine lv_aload_n hx hb dX9_read_18 rfl (lv_at hl 0 rfl) ?_
    refine lv_iload_n hx hb dX9_read_19 rfl (lv_at hl 1 rfl) ?_
    obtain ⟨r5, hy4, hf⟩ := ob_e hf
    refine xzG h (va_runV (As := [.int p1]) (rest := []) hC (c_X9_isHidden l G q v1 p1 hy4 H.size) (xcwV hC lk_X9_232 in_X9 co_X9_isHidden im_X9_isHidden se_X9_isHidden rfl rfl dd_X9_isHidden ⟨Nat.le_of_ble_eq_true rfl, Nat.le_of_ble_eq_true rfl⟩) (preVO0 h.o (Nat.le_of_ble_eq_true rfl) eMod_0 rfl [.int p1]) rfl rfl hl.1 rfl (lv_room (Nat.le_of_ble_eq_true rfl)) dX9_read_20 ⟨Nat.zero_le _, Nat.zero_le _⟩) (fun H locs hz6 h => ?_)
    refine lv_if_eq (tgt := 34) hx hb dX9_read_23 (by decide) (fun c7 => ?_) (fun c7 => ?_)
    · have hf := it_t c7 hf
      refine lv_aload_n hx hb dX9_read_34 rfl (lv_at hl 0 rfl) ?_
      refine xget hC h.o (C := RX9) (T := TX9) (N := 17) (wM_us uw_X9) 0 (Nat.le_of_ble_eq_true rfl) eMod_0 rfl 0 (by decide) (wM_in fl_X9_7) rfl dX9_read_35 ?_
      refine lv_iload_n hx hb dX9_read_38 rfl (lv_at hl 1 rfl) ?_
      obtain ⟨hi8, hf⟩ := ck_e hf
      refine xiald hC h.o 1 (Nat.le_of_ble_eq_true rfl) eMod_1 hi8 dX9_read_39 ?_
      have hf := sm_e hf
      exact xiret hC hr hlk h (by rw [← hf]) (by rw [← hf]) dX9_read_40
    · have hf := it_f c7 hf
      refine lv_aload_n hx hb dX9_read_26 rfl (lv_at hl 0 rfl) ?_
      refine lv_iconst (v := (2 : Int32)) hx hb dX9_read_27 (by decide) ?_
      obtain ⟨r10, hy9, hf⟩ := ob_e hf
      refine xi0 h (va_runV (As := [.int (2 : Int32)]) (rest := []) hC (c_X9_fails l G q v1 (2 : Int32) hy9 H.size) (xcwV hC lk_X9_142 in_X9 co_X9_fails im_X9_fails se_X9_fails rfl rfl dd_X9_fails ⟨Nat.le_of_ble_eq_true rfl, Nat.le_of_ble_eq_true rfl⟩) (preV0 h (Nat.le_of_ble_eq_true rfl) eMod_0 rfl [.int (2 : Int32)]) rfl rfl hl.1 rfl (lv_room (Nat.le_of_ble_eq_true rfl)) dX9_read_28 ⟨Nat.zero_le _, Nat.zero_le _⟩) (fun H locs h => ?_)
      obtain ⟨v11, ev11, hf⟩ := lt_e hf
      rw [← ev11] at h
      refine lv_goto (tgt := 40) hx hb dX9_read_31 (by decide) ?_
      have hf := sm_e hf
      exact xiret hC hr hlk h (by rw [← hf]) (by rw [← hf]) dX9_read_40
  · have hf := it_t c3 hf
    refine lv_aload_n hx hb dX9_read_12 rfl (lv_at hl 0 rfl) ?_
    refine lv_iconst (v := (1 : Int32)) hx hb dX9_read_13 (by decide) ?_
    obtain ⟨r13, hy12, hf⟩ := ob_e hf
    refine xi0 h (va_runV (As := [.int (1 : Int32)]) (rest := []) hC (c_X9_fails l G q v1 (1 : Int32) hy12 H.size) (xcwV hC lk_X9_142 in_X9 co_X9_fails im_X9_fails se_X9_fails rfl rfl dd_X9_fails ⟨Nat.le_of_ble_eq_true rfl, Nat.le_of_ble_eq_true rfl⟩) (preV0 h (Nat.le_of_ble_eq_true rfl) eMod_0 rfl [.int (1 : Int32)]) rfl rfl hl.1 rfl (lv_room (Nat.le_of_ble_eq_true rfl)) dX9_read_14 ⟨Nat.zero_le _, Nat.zero_le _⟩) (fun H locs h => ?_)
    obtain ⟨v14, ev14, hf⟩ := lt_e hf
    rw [← ev14] at h
    have hf := sm_e hf
    exact xiret hC hr hlk h (by rw [← hf]) (by rw [← hf]) dX9_read_17
def m_X9_loadedFor (v : xSt) (p1 : Int32) : Option (Int32) := ck (¬ ((567 : Int32) < 0 ∨ 797 ≤ (567 : Int32).toNatClampNeg)) ((if p1 < (v 1 (567 : Int32).toNatClampNeg) then ck (¬ ((567 : Int32) < 0 ∨ 797 ≤ (567 : Int32).toNatClampNeg)) (lt (fun (t4 : Int32) (t5 : Int32) => ck (¬ ((t4 + t5) < 0 ∨ 797 ≤ (t4 + t5).toNatClampNeg)) (some (v 1 (t4 + t5).toNatClampNeg))) (fun j6 => (if (v 1 (567 : Int32).toNatClampNeg) ≤ (p1 + (8 : Int32)) then j6 (568 : Int32) p1 else j6 (568 : Int32) (p1 + (8 : Int32))))) else some (-1 : Int32)))
set_option maxHeartbeats 4000000 in
set_option maxRecDepth 100000 in
theorem c_X9_loadedFor (l : Launch) (G : xGl) (q : Nat → Nat) (v : xSt) (p1 : Int32) {z : (Int32)} (hf : m_X9_loadedFor v p1 = some z) : mRO l yX9_loadedFor (wM yX9_loadedFor cX9_loadedFor 2 (some .int)) { frames := 0, cells := 0, slots := 0, locals := 0 } G (eMod G) 8 q v [.ref (q 0), .int p1] (qI z) := by
  refine xRO (cc := cX9_loadedFor) (maxL := 2) (ret := (some .int)) (by decide) rfl (Nat.le_of_ble_eq_true rfl) ?_
  intro p e s m below meth c ls A hC hr hlk h hl
  have hx := hC.1
  have hb := hC.2.1
  have hl : lv_has ls 2 [(0, .ref (q 0)), (1, .int p1)] := hl
  unfold m_X9_loadedFor at hf
  obtain ⟨H, hH⟩ : ∃ H, H = s.heap := ⟨_, rfl⟩
  obtain ⟨locs, hlo⟩ : ∃ x : List Loc, x = [] := ⟨_, rfl⟩
  have h : ho G (eMod G) 8 q v A s H locs := by rw [hH, hlo]; exact h
  rw [← hlo, ← hH]
  clear hH hlo
  refine lv_iload_n hx hb dX9_loadedFor_0 rfl (lv_at hl 1 rfl) ?_
  refine lv_aload_n hx hb dX9_loadedFor_1 rfl (lv_at hl 0 rfl) ?_
  refine xget hC h.o (C := RX9) (T := TX9) (N := 17) (wM_us uw_X9) 0 (Nat.le_of_ble_eq_true rfl) eMod_0 rfl 0 (by decide) (wM_in fl_X9_7) rfl dX9_loadedFor_2 ?_
  refine lv_sipush (v := (567 : Int32)) hx hb dX9_loadedFor_5 (by decide) ?_
  obtain ⟨hi1, hf⟩ := ck_e hf
  refine xiald hC h.o 1 (Nat.le_of_ble_eq_true rfl) eMod_1 hi1 dX9_loadedFor_8 ?_
  refine lv_icmp_lt (tgt := 16) hx hb dX9_loadedFor_9 (by decide) (fun c2 => ?_) (fun c2 => ?_)
  · have hf := it_t c2 hf
    refine lv_aload_n hx hb dX9_loadedFor_16 rfl (lv_at hl 0 rfl) ?_
    refine xget hC h.o (C := RX9) (T := TX9) (N := 17) (wM_us uw_X9) 0 (Nat.le_of_ble_eq_true rfl) eMod_0 rfl 0 (by decide) (wM_in fl_X9_7) rfl dX9_loadedFor_17 ?_
    refine lv_sipush (v := (568 : Int32)) hx hb dX9_loadedFor_20 (by decide) ?_
    refine lv_iload_n hx hb dX9_loadedFor_23 rfl (lv_at hl 1 rfl) ?_
    refine lv_bipush (v := (8 : Int32)) hx hb dX9_loadedFor_24 (by decide) ?_
    refine lv_iadd hx hb dX9_loadedFor_26 ?_
    refine lv_aload_n hx hb dX9_loadedFor_27 rfl (lv_at hl 0 rfl) ?_
    refine xget hC h.o (C := RX9) (T := TX9) (N := 17) (wM_us uw_X9) 0 (Nat.le_of_ble_eq_true rfl) eMod_0 rfl 0 (by decide) (wM_in fl_X9_7) rfl dX9_loadedFor_28 ?_
    refine lv_sipush (v := (567 : Int32)) hx hb dX9_loadedFor_31 (by decide) ?_
    obtain ⟨hi3, hf⟩ := ck_e hf
    refine xiald hC h.o 1 (Nat.le_of_ble_eq_true rfl) eMod_1 hi3 dX9_loadedFor_34 ?_
    obtain ⟨j6, ej6, hf⟩ := lt_e hf
    have hj6 : ∀ (t4 : Int32) (t5 : Int32) (H : Heap) (locs : List Loc), ho G (eMod G) 8 q v A s H locs → ∀ (ls : Array Slot), lv_has ls 2 [] → j6 t4 t5 = some z → W p l e { frames := 0, cells := 0, slots := 0, locals := 0 } s m [.ref (q 0), .int p1].toArray below meth c H locs 0 0 (MQ below ((qI z) (fun _ => True) A) [.ref (q 0), .int p1].toArray s 0 0 A) (F0 m 46 ls [.int t5, .int t4, .ref (q 1)]) := by
      intro t4 t5 H locs h ls hl hf
      rw [ej6] at hf
      refine lv_iadd hx hb dX9_loadedFor_46 ?_
      obtain ⟨hi7, hf⟩ := ck_e hf
      refine xiald hC h.o 1 (Nat.le_of_ble_eq_true rfl) eMod_1 hi7 dX9_loadedFor_47 ?_
      have hf := sm_e hf
      exact oiret hC hr hlk h (by rw [← hf]) dX9_loadedFor_48
    refine lv_icmp_ge (tgt := 45) hx hb dX9_loadedFor_35 (by decide) (fun c8 => ?_) (fun c8 => ?_)
    · have hf := it_t c8 hf
      refine lv_iload_n hx hb dX9_loadedFor_45 rfl (lv_at hl 1 rfl) ?_
      exact hj6 (568 : Int32) p1 H locs h ls (lv_sub hl [] rfl) hf
    · have hf := it_f c8 hf
      refine lv_iload_n hx hb dX9_loadedFor_38 rfl (lv_at hl 1 rfl) ?_
      refine lv_bipush (v := (8 : Int32)) hx hb dX9_loadedFor_39 (by decide) ?_
      refine lv_iadd hx hb dX9_loadedFor_41 ?_
      refine lv_goto (tgt := 46) hx hb dX9_loadedFor_42 (by decide) ?_
      exact hj6 (568 : Int32) (p1 + (8 : Int32)) H locs h ls (lv_sub hl [] rfl) hf
  · have hf := it_f c2 hf
    refine lv_iconst (v := (-1 : Int32)) hx hb dX9_loadedFor_12 (by decide) ?_
    refine lv_goto (tgt := 48) hx hb dX9_loadedFor_13 (by decide) ?_
    have hf := sm_e hf
    exact oiret hC hr hlk h (by rw [← hf]) dX9_loadedFor_48
def m_X9_cellTold (v : xSt) (p1 : Int32) (p2 : Int32) : Option (Int32) := (if p2 = 0 then ck (¬ (p1 < 0 ∨ 797 ≤ p1.toNatClampNeg)) (some (v 1 p1.toNatClampNeg)) else (if p2 = 1 then ck (¬ (((256 : Int32) + p1) < 0 ∨ 797 ≤ ((256 : Int32) + p1).toNatClampNeg)) (some (v 1 ((256 : Int32) + p1).toNatClampNeg)) else (if p2 = 2 then ck (¬ (((512 : Int32) + (p1 / (8 : Int32))) < 0 ∨ 797 ≤ ((512 : Int32) + (p1 / (8 : Int32))).toNatClampNeg)) (some (v 1 ((512 : Int32) + (p1 / (8 : Int32))).toNatClampNeg)) else ob (m_X9_loadedFor v (p1 - p1 / (8 : Int32) * (8 : Int32))) (fun r8 => some r8))))
set_option maxHeartbeats 4000000 in
set_option maxRecDepth 100000 in
theorem c_X9_cellTold (l : Launch) (G : xGl) (q : Nat → Nat) (v : xSt) (p1 : Int32) (p2 : Int32) {z : (Int32)} (hf : m_X9_cellTold v p1 p2 = some z) : mRO l yX9_cellTold (wM yX9_cellTold cX9_cellTold 3 (some .int)) { frames := 1, cells := 0, slots := 0, locals := 21 } G (eMod G) 8 q v [.ref (q 0), .int p1, .int p2] (qI z) := by
  refine xRO (cc := cX9_cellTold) (maxL := 3) (ret := (some .int)) (by decide) rfl (Nat.le_of_ble_eq_true rfl) ?_
  intro p e s m below meth c ls A hC hr hlk h hl
  have hx := hC.1
  have hb := hC.2.1
  have hl : lv_has ls 3 [(0, .ref (q 0)), (1, .int p1), (2, .int p2)] := hl
  unfold m_X9_cellTold at hf
  obtain ⟨H, hH⟩ : ∃ H, H = s.heap := ⟨_, rfl⟩
  obtain ⟨locs, hlo⟩ : ∃ x : List Loc, x = [] := ⟨_, rfl⟩
  have h : ho G (eMod G) 8 q v A s H locs := by rw [hH, hlo]; exact h
  rw [← hlo, ← hH]
  clear hH hlo
  refine lv_iload_n hx hb dX9_cellTold_0 rfl (lv_at hl 2 rfl) ?_
  by_cases c1 : p2 = 0
  · have hf := it_t c1 hf
    refine lv_tableIn (off := 27) (tgt := 28) hx hb dX9_cellTold_1 (by rw [c1]; decide) (by rw [c1]; decide) (by rw [c1]; decide) (by decide) ?_
    refine lv_aload_n hx hb dX9_cellTold_28 rfl (lv_at hl 0 rfl) ?_
    refine xget hC h.o (C := RX9) (T := TX9) (N := 17) (wM_us uw_X9) 0 (Nat.le_of_ble_eq_true rfl) eMod_0 rfl 0 (by decide) (wM_in fl_X9_7) rfl dX9_cellTold_29 ?_
    refine lv_iload_n hx hb dX9_cellTold_32 rfl (lv_at hl 1 rfl) ?_
    obtain ⟨hi2, hf⟩ := ck_e hf
    refine xiald hC h.o 1 (Nat.le_of_ble_eq_true rfl) eMod_1 hi2 dX9_cellTold_33 ?_
    have hf := sm_e hf
    exact oiret hC hr hlk h (by rw [← hf]) dX9_cellTold_34
  have hf := it_f c1 hf
  by_cases c3 : p2 = 1
  · have hf := it_t c3 hf
    refine lv_tableIn (off := 34) (tgt := 35) hx hb dX9_cellTold_1 (by rw [c3]; decide) (by rw [c3]; decide) (by rw [c3]; decide) (by decide) ?_
    refine lv_aload_n hx hb dX9_cellTold_35 rfl (lv_at hl 0 rfl) ?_
    refine xget hC h.o (C := RX9) (T := TX9) (N := 17) (wM_us uw_X9) 0 (Nat.le_of_ble_eq_true rfl) eMod_0 rfl 0 (by decide) (wM_in fl_X9_7) rfl dX9_cellTold_36 ?_
    refine lv_sipush (v := (256 : Int32)) hx hb dX9_cellTold_39 (by decide) ?_
    refine lv_iload_n hx hb dX9_cellTold_42 rfl (lv_at hl 1 rfl) ?_
    refine lv_iadd hx hb dX9_cellTold_43 ?_
    obtain ⟨hi4, hf⟩ := ck_e hf
    refine xiald hC h.o 1 (Nat.le_of_ble_eq_true rfl) eMod_1 hi4 dX9_cellTold_44 ?_
    have hf := sm_e hf
    exact oiret hC hr hlk h (by rw [← hf]) dX9_cellTold_45
  have hf := it_f c3 hf
  by_cases c5 : p2 = 2
  · have hf := it_t c5 hf
    refine lv_tableIn (off := 45) (tgt := 46) hx hb dX9_cellTold_1 (by rw [c5]; decide) (by rw [c5]; decide) (by rw [c5]; decide) (by decide) ?_
    refine lv_aload_n hx hb dX9_cellTold_46 rfl (lv_at hl 0 rfl) ?_
    refine xget hC h.o (C := RX9) (T := TX9) (N := 17) (wM_us uw_X9) 0 (Nat.le_of_ble_eq_true rfl) eMod_0 rfl 0 (by decide) (wM_in fl_X9_7) rfl dX9_cellTold_47 ?_
    refine lv_sipush (v := (512 : Int32)) hx hb dX9_cellTold_50 (by decide) ?_
    refine lv_iload_n hx hb dX9_cellTold_53 rfl (lv_at hl 1 rfl) ?_
    refine lv_bipush (v := (8 : Int32)) hx hb dX9_cellTold_54 (by decide) ?_
    refine lv_idiv hx hb dX9_cellTold_56 (by decide) ?_
    refine lv_iadd hx hb dX9_cellTold_57 ?_
    obtain ⟨hi6, hf⟩ := ck_e hf
    refine xiald hC h.o 1 (Nat.le_of_ble_eq_true rfl) eMod_1 hi6 dX9_cellTold_58 ?_
    have hf := sm_e hf
    exact oiret hC hr hlk h (by rw [← hf]) dX9_cellTold_59
  have hf := it_f c5 hf
  refine lv_tableOut (tgt := 60) hx hb dX9_cellTold_1 (by have := xne (k := 0) (by decide) c1; have := xne (k := 1) (by decide) c3; have := xne (k := 2) (by decide) c5; omega) (by decide) ?_
  refine lv_aload_n hx hb dX9_cellTold_60 rfl (lv_at hl 0 rfl) ?_
  refine lv_iload_n hx hb dX9_cellTold_61 rfl (lv_at hl 1 rfl) ?_
  refine lv_bipush (v := (8 : Int32)) hx hb dX9_cellTold_62 (by decide) ?_
  refine lv_irem hx hb dX9_cellTold_64 (by decide) ?_
  obtain ⟨r8, hy7, hf⟩ := ob_e hf
  refine xiO h (va_runV (As := [.int (p1 - p1 / (8 : Int32) * (8 : Int32))]) (rest := []) hC (c_X9_loadedFor l G q v (p1 - p1 / (8 : Int32) * (8 : Int32)) hy7 H.size) (xcwV hC lk_X9_235 in_X9 co_X9_loadedFor im_X9_loadedFor se_X9_loadedFor rfl rfl dd_X9_loadedFor ⟨Nat.le_of_ble_eq_true rfl, Nat.le_of_ble_eq_true rfl⟩) (preVO0 h.o (Nat.le_of_ble_eq_true rfl) eMod_0 rfl [.int (p1 - p1 / (8 : Int32) * (8 : Int32))]) rfl rfl hl.1 rfl (lv_room (Nat.le_of_ble_eq_true rfl)) dX9_cellTold_65 ⟨Nat.zero_le _, Nat.zero_le _⟩) (fun H locs h => ?_)
  have hf := sm_e hf
  exact oiret hC hr hlk h (by rw [← hf]) dX9_cellTold_68
def m_X9_cell (v : xSt) (p1 : Int32) (p2 : Int32) : Option (Int32 × xSt) := lt (st2 v 0 8 (0 : Int32)) (fun v1 => (if (xwi p1 0 255) = 0 then ob (m_X9_fails v1 (1 : Int32)) (fun r12 => lt (r12.2) (fun v13 => some (r12.1, v13))) else (if (xwi p2 (0 : Int32) (3 : Int32)) = 0 then ob (m_X9_fails v1 (2 : Int32)) (fun r7 => lt (r7.2) (fun v8 => some (r7.1, v8))) else ob (m_X9_cellTold v1 p1 p2) (fun r10 => some (r10, v1)))))
set_option maxHeartbeats 4000000 in
set_option maxRecDepth 100000 in
theorem c_X9_cell (l : Launch) (G : xGl) (q : Nat → Nat) (v : xSt) (p1 : Int32) (p2 : Int32) {z : (Int32 × xSt)} (hf : m_X9_cell v p1 p2 = some z) : mRW l yX9_cell (wM yX9_cell cX9_cell 3 (some .int)) { frames := 2, cells := 0, slots := 0, locals := 43 } G (eMod G) 8 q v [.ref (q 0), .int p1, .int p2] (qI z.1) z.2 := by
  refine xRW (cc := cX9_cell) (maxL := 3) (ret := (some .int)) (by decide) rfl (Nat.le_of_ble_eq_true rfl) ?_
  intro p e s m below meth c ls A hC hr hlk h hl
  have hx := hC.1
  have hb := hC.2.1
  have hl : lv_has ls 3 [(0, .ref (q 0)), (1, .int p1), (2, .int p2)] := hl
  unfold m_X9_cell at hf
  obtain ⟨H, hH⟩ : ∃ H, H = s.heap := ⟨_, rfl⟩
  obtain ⟨locs, hlo⟩ : ∃ x : List Loc, x = [] := ⟨_, rfl⟩
  have h : hg G (eMod G) 8 q v A s H locs := by rw [hH, hlo]; exact h
  rw [← hlo, ← hH]
  clear hH hlo
  refine lv_aload_n hx hb dX9_cell_0 rfl (lv_at hl 0 rfl) ?_
  refine lv_iconst (v := (0 : Int32)) hx hb dX9_cell_1 (by decide) ?_
  refine xput hC h (C := RX9) (T := TX9) (N := 17) (wM_us uw_X9) tyX9_ok nmX9 0 (Nat.le_of_ble_eq_true rfl) eMod_0 rfl 8 (by decide) (wM_in fl_X9_31) rfl (ty := .int) (tyX9_ok 8 (by decide)) rfl rfl (Nat.le_of_ble_eq_true rfl) (eMod_0.trans rfl) dX9_cell_2 (fun H locs h => ?_)
  obtain ⟨v1, ev1, hf⟩ := lt_e hf
  rw [← ev1] at h
  refine lv_iload_n hx hb dX9_cell_5 rfl (lv_at hl 1 rfl) ?_
  refine xzG h (va_runS (As := [.int p1]) (rest := []) hC (k_X9_isCell l G q v1 p1 H.size) (xcwS hC lk_X9_151 in_X9 co_X9_isCell st_X9_isCell rfl rfl dd_X9_isCell ⟨Nat.le_of_ble_eq_true rfl, Nat.le_of_ble_eq_true rfl⟩) (preSN h.o [.int p1]) rfl rfl hl.1 rfl (lv_room (Nat.le_of_ble_eq_true rfl)) dX9_cell_6 ⟨Nat.zero_le _, Nat.zero_le _⟩) (fun H locs hz2 h => ?_)
  refine lv_if_ne (tgt := 18) hx hb dX9_cell_9 (by decide) (fun c3 => ?_) (fun c3 => ?_)
  · have hf := it_f c3 hf
    refine lv_iload_n hx hb dX9_cell_18 rfl (lv_at hl 2 rfl) ?_
    refine lv_iconst (v := (0 : Int32)) hx hb dX9_cell_19 (by decide) ?_
    refine lv_iconst (v := (3 : Int32)) hx hb dX9_cell_20 (by decide) ?_
    refine xzG h (va_runS (As := [.int p2, .int (0 : Int32), .int (3 : Int32)]) (rest := []) hC (k_X9_in l G q v1 p2 (0 : Int32) (3 : Int32) H.size) (xcwS hC lk_X9_42 in_X9 co_X9_in st_X9_in rfl rfl dd_X9_in ⟨Nat.le_of_ble_eq_true rfl, Nat.le_of_ble_eq_true rfl⟩) (preSN h.o [.int p2, .int (0 : Int32), .int (3 : Int32)]) rfl rfl hl.1 rfl (lv_room (Nat.le_of_ble_eq_true rfl)) dX9_cell_21 ⟨Nat.zero_le _, Nat.zero_le _⟩) (fun H locs hz4 h => ?_)
    refine lv_if_eq (tgt := 36) hx hb dX9_cell_24 (by decide) (fun c5 => ?_) (fun c5 => ?_)
    · have hf := it_t c5 hf
      refine lv_aload_n hx hb dX9_cell_36 rfl (lv_at hl 0 rfl) ?_
      refine lv_iconst (v := (2 : Int32)) hx hb dX9_cell_37 (by decide) ?_
      obtain ⟨r7, hy6, hf⟩ := ob_e hf
      refine xi0 h (va_runV (As := [.int (2 : Int32)]) (rest := []) hC (c_X9_fails l G q v1 (2 : Int32) hy6 H.size) (xcwV hC lk_X9_142 in_X9 co_X9_fails im_X9_fails se_X9_fails rfl rfl dd_X9_fails ⟨Nat.le_of_ble_eq_true rfl, Nat.le_of_ble_eq_true rfl⟩) (preV0 h (Nat.le_of_ble_eq_true rfl) eMod_0 rfl [.int (2 : Int32)]) rfl rfl hl.1 rfl (lv_room (Nat.le_of_ble_eq_true rfl)) dX9_cell_38 ⟨Nat.zero_le _, Nat.zero_le _⟩) (fun H locs h => ?_)
      obtain ⟨v8, ev8, hf⟩ := lt_e hf
      rw [← ev8] at h
      have hf := sm_e hf
      exact xiret hC hr hlk h (by rw [← hf]) (by rw [← hf]) dX9_cell_41
    · have hf := it_f c5 hf
      refine lv_aload_n hx hb dX9_cell_27 rfl (lv_at hl 0 rfl) ?_
      refine lv_iload_n hx hb dX9_cell_28 rfl (lv_at hl 1 rfl) ?_
      refine lv_iload_n hx hb dX9_cell_29 rfl (lv_at hl 2 rfl) ?_
      obtain ⟨r10, hy9, hf⟩ := ob_e hf
      refine xiG h (va_runV (As := [.int p1, .int p2]) (rest := []) hC (c_X9_cellTold l G q v1 p1 p2 hy9 H.size) (xcwV hC lk_X9_238 in_X9 co_X9_cellTold im_X9_cellTold se_X9_cellTold rfl rfl dd_X9_cellTold ⟨Nat.le_of_ble_eq_true rfl, Nat.le_of_ble_eq_true rfl⟩) (preVO0 h.o (Nat.le_of_ble_eq_true rfl) eMod_0 rfl [.int p1, .int p2]) rfl rfl hl.1 rfl (lv_room (Nat.le_of_ble_eq_true rfl)) dX9_cell_30 ⟨Nat.zero_le _, Nat.zero_le _⟩) (fun H locs h => ?_)
      refine lv_goto (tgt := 41) hx hb dX9_cell_33 (by decide) ?_
      have hf := sm_e hf
      exact xiret hC hr hlk h (by rw [← hf]) (by rw [← hf]) dX9_cell_41
  · have hf := it_t c3 hf
    refine lv_aload_n hx hb dX9_cell_12 rfl (lv_at hl 0 rfl) ?_
    refine lv_iconst (v := (1 : Int32)) hx hb dX9_cell_13 (by decide) ?_
    obtain ⟨r12, hy11, hf⟩ := ob_e hf
    refine xi0 h (va_runV (As := [.int (1 : Int32)]) (rest := []) hC (c_X9_fails l G q v1 (1 : Int32) hy11 H.size) (xcwV hC lk_X9_142 in_X9 co_X9_fails im_X9_fails se_X9_fails rfl rfl dd_X9_fails ⟨Nat.le_of_ble_eq_true rfl, Nat.le_of_ble_eq_true rfl⟩) (preV0 h (Nat.le_of_ble_eq_true rfl) eMod_0 rfl [.int (1 : Int32)]) rfl rfl hl.1 rfl (lv_room (Nat.le_of_ble_eq_true rfl)) dX9_cell_14 ⟨Nat.zero_le _, Nat.zero_le _⟩) (fun H locs h => ?_)
    obtain ⟨v13, ev13, hf⟩ := lt_e hf
    rw [← ev13] at h
    have hf := sm_e hf
    exact xiret hC hr hlk h (by rw [← hf]) (by rw [← hf]) dX9_cell_17
def m_X9_onesFrom (v : xSt) (p1 : Int32) (p2 : Int32) : Option (Int32) := lp (fun (rec3 : Int32 × Int32 → Option (Int32)) => un2 (fun (a1 : Int32) (a2 : Int32) => (if p2 ≤ a2 then some a1 else ck (¬ (a2 < 0 ∨ 797 ≤ a2.toNatClampNeg)) (ob (m_X9_ones (v 1 a2.toNatClampNeg)) (fun r7 => rec3 ((a1 + r7), (a2 + 1))))))) xF ((0 : Int32), p1)
set_option maxHeartbeats 4000000 in
set_option maxRecDepth 100000 in
theorem c_X9_onesFrom (l : Launch) (G : xGl) (q : Nat → Nat) (v : xSt) (p1 : Int32) (p2 : Int32) {z : (Int32)} (hf : m_X9_onesFrom v p1 p2 = some z) : mRO l yX9_onesFrom (wM yX9_onesFrom cX9_onesFrom 5 (some .int)) { frames := 1, cells := 0, slots := 0, locals := 22 } G (eMod G) 8 q v [.ref (q 0), .int p1, .int p2] (qI z) := by
  refine xRO (cc := cX9_onesFrom) (maxL := 5) (ret := (some .int)) (by decide) rfl (Nat.le_of_ble_eq_true rfl) ?_
  intro p e s m below meth c ls A hC hr hlk h hl
  have hx := hC.1
  have hb := hC.2.1
  have hl : lv_has ls 5 [(0, .ref (q 0)), (1, .int p1), (2, .int p2)] := hl
  unfold m_X9_onesFrom at hf
  obtain ⟨H, hH⟩ : ∃ H, H = s.heap := ⟨_, rfl⟩
  obtain ⟨locs, hlo⟩ : ∃ x : List Loc, x = [] := ⟨_, rfl⟩
  have h : ho G (eMod G) 8 q v A s H locs := by rw [hH, hlo]; exact h
  rw [← hlo, ← hH]
  clear hH hlo
  refine lv_iconst (v := (0 : Int32)) hx hb dX9_onesFrom_0 (by decide) ?_
  refine lv_istore_n (lv' := [(3, .int (0 : Int32)), (0, .ref (q 0)), (1, .int p1), (2, .int p2)]) hx hb dX9_onesFrom_1 rfl hl (by decide) rfl (fun ls hl => ?_)
  refine lv_iload_n hx hb dX9_onesFrom_2 rfl (lv_at hl 2 rfl) ?_
  refine lv_istore (lv' := [(4, .int p1), (3, .int (0 : Int32)), (0, .ref (q 0)), (1, .int p1), (2, .int p2)]) hx hb dX9_onesFrom_3 hl (by decide) rfl (fun ls hl => ?_)
  refine lp_i (z := z) (P := fun (pp : Int32 × Int32) => ∀ (H : Heap) (locs : List Loc), ho G (eMod G) 8 q v A s H locs → ∀ (ls : Array Slot), lv_has ls 5 [(0, .ref (q 0)), (2, .int p2), (3, .int pp.1), (4, .int pp.2)] → W p l e { frames := 1, cells := 0, slots := 0, locals := 22 } s m [.ref (q 0), .int p1, .int p2].toArray below meth c H locs 0 0 (MQ below ((qI z) (fun _ => True) A) [.ref (q 0), .int p1, .int p2].toArray s 0 0 A) (F0 m 5 ls [])) ?_ _ _ hf H locs h ls (lv_sub hl [2, 4, 1, 0] rfl)
  intro rec3 hrec3 pp hf H locs h ls hl
  obtain ⟨a1, a2⟩ := pp
  have h : ho G (eMod G) 8 q v A s H locs := h
  have hl : lv_has ls 5 [(0, .ref (q 0)), (2, .int p2), (3, .int a1), (4, .int a2)] := hl
  have hf := un2_e hf
  refine lv_iload hx hb dX9_onesFrom_5 (lv_at hl 3 rfl) ?_
  refine lv_iload_n hx hb dX9_onesFrom_7 rfl (lv_at hl 1 rfl) ?_
  refine lv_icmp_ge (tgt := 30) hx hb dX9_onesFrom_8 (by decide) (fun c4 => ?_) (fun c4 => ?_)
  · have hf := it_t c4 hf
    refine lv_iload_n hx hb dX9_onesFrom_30 rfl (lv_at hl 2 rfl) ?_
    have hf := sm_e hf
    exact oiret hC hr hlk h (by rw [← hf]) dX9_onesFrom_31
  · have hf := it_f c4 hf
    refine lv_iload_n hx hb dX9_onesFrom_11 rfl (lv_at hl 2 rfl) ?_
    refine lv_aload_n hx hb dX9_onesFrom_12 rfl (lv_at hl 0 rfl) ?_
    refine xget hC h.o (C := RX9) (T := TX9) (N := 17) (wM_us uw_X9) 0 (Nat.le_of_ble_eq_true rfl) eMod_0 rfl 0 (by decide) (wM_in fl_X9_7) rfl dX9_onesFrom_13 ?_
    refine lv_iload hx hb dX9_onesFrom_16 (lv_at hl 3 rfl) ?_
    obtain ⟨hi5, hf⟩ := ck_e hf
    refine xiald hC h.o 1 (Nat.le_of_ble_eq_true rfl) eMod_1 hi5 dX9_onesFrom_18 ?_
    obtain ⟨r7, hy6, hf⟩ := ob_e hf
    refine xiO h (va_runS (As := [.int (v 1 a2.toNatClampNeg)]) (rest := [.int a1]) hC (c_X9_ones l G q v (v 1 a2.toNatClampNeg) hy6 H.size) (xcwS hC lk_X9_78 in_X9 co_X9_ones st_X9_ones rfl rfl dd_X9_ones ⟨Nat.le_of_ble_eq_true rfl, Nat.le_of_ble_eq_true rfl⟩) (preSN h.o [.int (v 1 a2.toNatClampNeg)]) rfl rfl hl.1 rfl (lv_room (Nat.le_of_ble_eq_true rfl)) dX9_onesFrom_19 ⟨Nat.zero_le _, Nat.zero_le _⟩) (fun H locs h => ?_)
    refine lv_iadd hx hb dX9_onesFrom_22 ?_
    refine lv_istore_n (lv' := [(3, .int (a1 + r7)), (0, .ref (q 0)), (2, .int p2), (4, .int a2)]) hx hb dX9_onesFrom_23 rfl hl (by decide) rfl (fun ls hl => ?_)
    refine lv_iinc (v := (a2 + 1)) (lv' := [(4, .int (a2 + 1)), (3, .int (a1 + r7)), (0, .ref (q 0)), (2, .int p2)]) hx hb dX9_onesFrom_24 hl (k := 3) rfl rfl (by decide) rfl (fun ls hl => ?_)
    refine lv_goto (tgt := 5) hx hb dX9_onesFrom_27 (by decide) ?_
    exact hrec3 ((a1 + r7), (a2 + 1)) hf H locs h ls (lv_sub hl [2, 3, 1, 0] rfl)
