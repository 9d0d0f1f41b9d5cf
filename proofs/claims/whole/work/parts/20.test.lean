theorem uw_X2 : ∀ w ∈ u_ws RX2 TX2 3, w ∈ wG := fun w hw => wG_of ((show ∀ w ∈ u_ws RX2 TX2 3, w ∈ lw_tbl by decide +kernel) w hw) ((show ∀ w ∈ u_ws RX2 TX2 3, goodWord w = true by decide +kernel) w hw)
theorem fl_X2_9 : Cond.fieldLink RX2 9 "BusyChip$Locks" "level" "I" ∈ wG := wG_t 73 (by decide +kernel) rfl
theorem fl_X2_15 : Cond.fieldLink RX2 15 "BusyChip$Locks" "side" "I" ∈ wG := wG_t 76 (by decide +kernel) rfl
theorem uw_X4 : ∀ w ∈ u_ws RX4 TX4 2, w ∈ wG := fun w hw => wG_of ((show ∀ w ∈ u_ws RX4 TX4 2, w ∈ lw_tbl by decide +kernel) w hw) ((show ∀ w ∈ u_ws RX4 TX4 2, goodWord w = true by decide +kernel) w hw)
theorem fl_X4_15 : Cond.fieldLink RX4 15 "BusyChip$Row" "size" "I" ∈ wG := wG_t 97 (by decide +kernel) rfl
theorem fl_X4_9 : Cond.fieldLink RX4 9 "BusyChip$Row" "values" "[I" ∈ wG := wG_t 95 (by decide +kernel) rfl
theorem lkm_X4_19 : Cond.methodLink RX4 19 Lib.Math.min.name ∈ wG := wG_t 381 (by decide +kernel) rfl
theorem st_min : Cond.static Lib.Math.min.name ∈ wG := wG_t 368 (by decide +kernel) rfl
theorem in_math : Cond.initialized "java/lang/Math" ∈ wG := wG_t 16 (by decide +kernel) rfl
theorem co_min : Cond.code Lib.Math.min.name Lib.Math.min.code 2 (some .int) ∈ wG := wG_t 369 (by decide +kernel) rfl
theorem lkc_X4_29 : Cond.methodLink RX4 29 arraycopyName ∈ wG := wG_t 382 (by decide +kernel) rfl
theorem na_acp : Cond.native arraycopyName ∈ wG := wG_t 372 (by decide +kernel) rfl
theorem st_acp : Cond.static arraycopyName ∈ wG := wG_t 371 (by decide +kernel) rfl
theorem in_sys : Cond.initialized "java/lang/System" ∈ wG := wG_t 17 (by decide +kernel) rfl
theorem uw_X7 : ∀ w ∈ u_ws RX7 TX7 9, w ∈ wG := fun w hw => wG_of ((show ∀ w ∈ u_ws RX7 TX7 9, w ∈ lw_tbl by decide +kernel) w hw) ((show ∀ w ∈ u_ws RX7 TX7 9, goodWord w = true by decide +kernel) w hw)
theorem fl_X7_24 : Cond.fieldLink RX7 24 "BusyChip$Work" "allTicks" "I" ∈ wG := wG_t 126 (by decide +kernel) rfl
theorem fl_X7_27 : Cond.fieldLink RX7 27 "BusyChip$Work" "ticksDone" "I" ∈ wG := wG_t 127 (by decide +kernel) rfl
theorem fl_X7_9 : Cond.fieldLink RX7 9 "BusyChip$Work" "kind" "I" ∈ wG := wG_t 115 (by decide +kernel) rfl
theorem fl_X7_15 : Cond.fieldLink RX7 15 "BusyChip$Work" "where" "I" ∈ wG := wG_t 118 (by decide +kernel) rfl
theorem fl_X7_30 : Cond.fieldLink RX7 30 "BusyChip$Work" "urgency" "I" ∈ wG := wG_t 129 (by decide +kernel) rfl
theorem fl_X7_33 : Cond.fieldLink RX7 33 "BusyChip$Work" "asideByClerk" "Z" ∈ wG := wG_t 132 (by decide +kernel) rfl
theorem in_X7 : Cond.initialized RX7 ∈ wG := wG_t 7 (by decide +kernel) rfl
theorem co_X7_start : Cond.code yX7_start cX7_start 5 none ∈ wG := wG_t 433 (by decide +kernel) rfl
theorem dd_X7_start : yX7_start.cls ≠ "java/lang/invoke/MethodHandle" ∧ yX7_start.cls ≠ "java/lang/invoke/VarHandle" ∧ (parseMethodDescriptor yX7_start.desc).map (fun d => d.parameters.length) = some 4 := by decide +kernel
theorem lk_X7_48 : Cond.methodLink RX7 48 yX7_start ∈ wG := wG_t 430 (by decide +kernel) rfl
theorem im_X7_start : Cond.instanceMethod yX7_start ∈ wG := wG_t 431 (by decide +kernel) rfl
theorem se_X7_start : Cond.selects RX7 yX7_start yX7_start ∈ wG := wG_t 432 (by decide +kernel) rfl
theorem fl_X7_18 : Cond.fieldLink RX7 18 "BusyChip$Work" "side" "I" ∈ wG := wG_t 121 (by decide +kernel) rfl
theorem fl_X7_21 : Cond.fieldLink RX7 21 "BusyChip$Work" "cellTicks" "I" ∈ wG := wG_t 124 (by decide +kernel) rfl
theorem fl_X7_40 : Cond.fieldLink RX7 40 "BusyChip$Work" "row" "LBusyChip$Row;" ∈ wG := wG_t 135 (by decide +kernel) rfl
theorem in_X4 : Cond.initialized RX4 ∈ wG := wG_t 6 (by decide +kernel) rfl
theorem co_X4_become : Cond.code yX4_become cX4_become 2 none ∈ wG := wG_t 380 (by decide +kernel) rfl
theorem dd_X4_become : yX4_become.cls ≠ "java/lang/invoke/MethodHandle" ∧ yX4_become.cls ≠ "java/lang/invoke/VarHandle" ∧ (parseMethodDescriptor yX4_become.desc).map (fun d => d.parameters.length) = some 1 := by decide +kernel
theorem lk_X7_52 : Cond.methodLink RX7 52 yX4_become ∈ wG := wG_t 387 (by decide +kernel) rfl
theorem im_X4_become : Cond.instanceMethod yX4_become ∈ wG := wG_t 378 (by decide +kernel) rfl
theorem se_X4_become : Cond.selects RX4 yX4_become yX4_become ∈ wG := wG_t 379 (by decide +kernel) rfl
theorem co_X4_span : Cond.code yX4_span cX4_span 1 (some .int) ∈ wG := wG_t 516 (by decide +kernel) rfl
theorem dd_X4_span : yX4_span.cls ≠ "java/lang/invoke/MethodHandle" ∧ yX4_span.cls ≠ "java/lang/invoke/VarHandle" ∧ (parseMethodDescriptor yX4_span.desc).map (fun d => d.parameters.length) = some 0 := by decide +kernel
theorem lk_X7_44 : Cond.methodLink RX7 44 yX4_span ∈ wG := wG_t 585 (by decide +kernel) rfl
theorem im_X4_span : Cond.instanceMethod yX4_span ∈ wG := wG_t 514 (by decide +kernel) rfl
theorem se_X4_span : Cond.selects RX4 yX4_span yX4_span ∈ wG := wG_t 515 (by decide +kernel) rfl
def m_X8_isWithin (p0 : Int32) (p1 : Int32) (p2 : Int32) : Option (Int32) := lt (fun (_ : Unit) => some (0 : Int32)) (fun j1 => (if p0 < p1 then j1 () else (if p2 < p0 then j1 () else some (1 : Int32))))
set_option maxHeartbeats 4000000 in
set_option maxRecDepth 100000 in
theorem c_X8_isWithin (l : Launch) (G : xGl) (q : Nat → Nat) (v : xSt) (p0 : Int32) (p1 : Int32) (p2 : Int32) {z : (Int32)} (hf : m_X8_isWithin p0 p1 p2 = some z) : mRO l yX8_isWithin (wM yX8_isWithin cX8_isWithin 3 (some .boolean)) { frames := 0, cells := 0, slots := 0, locals := 0 } G (e0) 0 q v [.int p0, .int p1, .int p2] (qZ z) := by
  refine xRO (cc := cX8_isWithin) (maxL := 3) (ret := (some .boolean)) (by decide) rfl (Nat.le_of_ble_eq_true rfl) ?_
  intro p e s m below meth c ls A hC hr hlk h hl
  have hx := hC.1
  have hb := hC.2.1
  have hl : lv_has ls 3 [(0, .int p0), (1, .int p1), (2, .int p2)] := hl
  unfold m_X8_isWithin at hf
  obtain ⟨H, hH⟩ : ∃ H, H = s.heap := ⟨_, rfl⟩
  obtain ⟨locs, hlo⟩ : ∃ x : List Loc, x = [] := ⟨_, rfl⟩
  have h : ho G (e0) 0 q v A s H locs := by rw [hH, hlo]; exact h
  rw [← hlo, ← hH]
  clear hH hlo
  refine lv_iload_n hx hb dX8_isWithin_0 rfl (lv_at hl 0 rfl) ?_
  refine lv_iload_n hx hb dX8_isWithin_1 rfl (lv_at hl 1 rfl) ?_
  obtain ⟨j1, ej1, hf⟩ := lt_e hf
  have hj1 : ∀ (uu : Unit) (H : Heap) (locs : List Loc), ho G (e0) 0 q v A s H locs → ∀ (ls : Array Slot), lv_has ls 3 [] → j1 uu = some z → W p l e { frames := 0, cells := 0, slots := 0, locals := 0 } s m [.int p0, .int p1, .int p2].toArray below meth c H locs 0 0 (MQ below ((qZ z) (fun _ => True) A) [.int p0, .int p1, .int p2].toArray s 0 0 A) (F0 m 14 ls []) := by
    intro uu H locs h ls hl hf
    rw [ej1] at hf
    refine lv_iconst (v := (0 : Int32)) hx hb dX8_isWithin_14 (by decide) ?_
    have hf := sm_e hf
    exact ozret hC hr hlk h (by rw [← hf]) (by decide) dX8_isWithin_15
  refine lv_icmp_lt (tgt := 14) hx hb dX8_isWithin_2 (by decide) (fun c2 => ?_) (fun c2 => ?_)
  · have hf := it_t c2 hf
    exact hj1 () H locs h ls (lv_sub hl [] rfl) hf
  · have hf := it_f c2 hf
    refine lv_iload_n hx hb dX8_isWithin_5 rfl (lv_at hl 0 rfl) ?_
    refine lv_iload_n hx hb dX8_isWithin_6 rfl (lv_at hl 2 rfl) ?_
    refine lv_icmp_gt (tgt := 14) hx hb dX8_isWithin_7 (by decide) (fun c3 => ?_) (fun c3 => ?_)
    · have hf := it_t c3 hf
      exact hj1 () H locs h ls (lv_sub hl [] rfl) hf
    · have hf := it_f c3 hf
      refine lv_iconst (v := (1 : Int32)) hx hb dX8_isWithin_10 (by decide) ?_
      refine lv_goto (tgt := 15) hx hb dX8_isWithin_11 (by decide) ?_
      have hf := sm_e hf
      exact ozret hC hr hlk h (by rw [← hf]) (by decide) dX8_isWithin_15
def m_X8_at (N : Nat) (v : xSt) (p1 : Int32) : Option (Int32) := lt (fun (_ : Unit) => some (0 : Int32)) (fun j1 => (if p1 < 0 then j1 () else (if (Int32.ofNat N) ≤ p1 then j1 () else ck (¬ (p1 < 0 ∨ N ≤ p1.toNatClampNeg)) (some (v 0 p1.toNatClampNeg)))))
set_option maxHeartbeats 4000000 in
set_option maxRecDepth 100000 in
theorem c_X8_at (l : Launch) (G : xGl) (q : Nat → Nat) (N : Nat) (v : xSt) (p1 : Int32) {z : (Int32)} (hf : m_X8_at N v p1 = some z) : mRO l yX8_at (wM yX8_at cX8_at 2 (some .int)) { frames := 0, cells := 0, slots := 0, locals := 0 } G (eInt G N) 1 q v [.ref (q 0), .int p1] (qI z) := by
  refine xRO (cc := cX8_at) (maxL := 2) (ret := (some .int)) (by decide) rfl (Nat.le_of_ble_eq_true rfl) ?_
  intro p e s m below meth c ls A hC hr hlk h hl
  have hx := hC.1
  have hb := hC.2.1
  have hl : lv_has ls 2 [(0, .ref (q 0)), (1, .int p1)] := hl
  unfold m_X8_at at hf
  obtain ⟨H, hH⟩ : ∃ H, H = s.heap := ⟨_, rfl⟩
  obtain ⟨locs, hlo⟩ : ∃ x : List Loc, x = [] := ⟨_, rfl⟩
  have h : ho G (eInt G N) 1 q v A s H locs := by rw [hH, hlo]; exact h
  rw [← hlo, ← hH]
  clear hH hlo
  refine lv_iload_n hx hb dX8_at_0 rfl (lv_at hl 1 rfl) ?_
  obtain ⟨j1, ej1, hf⟩ := lt_e hf
  have hj1 : ∀ (uu : Unit) (H : Heap) (locs : List Loc), ho G (eInt G N) 1 q v A s H locs → ∀ (ls : Array Slot), lv_has ls 2 [] → j1 uu = some z → W p l e { frames := 0, cells := 0, slots := 0, locals := 0 } s m [.ref (q 0), .int p1].toArray below meth c H locs 0 0 (MQ below ((qI z) (fun _ => True) A) [.ref (q 0), .int p1].toArray s 0 0 A) (F0 m 16 ls []) := by
    intro uu H locs h ls hl hf
    rw [ej1] at hf
    refine lv_iconst (v := (0 : Int32)) hx hb dX8_at_16 (by decide) ?_
    have hf := sm_e hf
    exact oiret hC hr hlk h (by rw [← hf]) dX8_at_17
  refine lv_if_lt (tgt := 16) hx hb dX8_at_1 (by decide) (fun c2 => ?_) (fun c2 => ?_)
  · have hf := it_t c2 hf
    exact hj1 () H locs h ls (lv_sub hl [] rfl) hf
  · have hf := it_f c2 hf
    refine lv_iload_n hx hb dX8_at_4 rfl (lv_at hl 1 rfl) ?_
    refine lv_aload_n hx hb dX8_at_5 rfl (lv_at hl 0 rfl) ?_
    refine xalen hC h.o 0 rfl 0 (Nat.le_of_ble_eq_true rfl) (show eInt G N q 0 _ = .inl (G.2 0, N, .inl _) from rfl) (z := (Int32.ofNat N)) rfl dX8_at_6 ?_
    refine lv_icmp_ge (tgt := 16) hx hb dX8_at_7 (by decide) (fun c3 => ?_) (fun c3 => ?_)
    · have hf := it_t c3 hf
      exact hj1 () H locs h ls (lv_sub hl [] rfl) hf
    · have hf := it_f c3 hf
      refine lv_aload_n hx hb dX8_at_10 rfl (lv_at hl 0 rfl) ?_
      refine lv_iload_n hx hb dX8_at_11 rfl (lv_at hl 1 rfl) ?_
      obtain ⟨hi4, hf⟩ := ck_e hf
      refine xiald hC h.o 0 (Nat.le_of_ble_eq_true rfl) (show eInt G N q 0 _ = .inl (G.2 0, N, .inl _) from rfl) hi4 dX8_at_12 ?_
      refine lv_goto (tgt := 17) hx hb dX8_at_13 (by decide) ?_
      have hf := sm_e hf
      exact oiret hC hr hlk h (by rw [← hf]) dX8_at_17
def m_X8_put (N : Nat) (v : xSt) (p1 : Int32) (p2 : Int32) : Option xSt := (if p1 < 0 then some v else (if (Int32.ofNat N) ≤ p1 then some v else ck (¬ (p1 < 0 ∨ N ≤ p1.toNatClampNeg)) (lt (st2 v 0 p1.toNatClampNeg p2) (fun v4 => some v4))))
set_option maxHeartbeats 4000000 in
set_option maxRecDepth 100000 in
theorem c_X8_put (l : Launch) (G : xGl) (q : Nat → Nat) (N : Nat) (v : xSt) (p1 : Int32) (p2 : Int32) {z : xSt} (hf : m_X8_put N v p1 p2 = some z) : mRW l yX8_put (wM yX8_put cX8_put 3 none) { frames := 0, cells := 0, slots := 0, locals := 0 } G (eInt G N) 1 q v [.ref (q 0), .int p1, .int p2] qV z := by
  refine xRW (cc := cX8_put) (maxL := 3) (ret := none) (by decide) rfl (Nat.le_of_ble_eq_true rfl) ?_
  intro p e s m below meth c ls A hC hr hlk h hl
  have hx := hC.1
  have hb := hC.2.1
  have hl : lv_has ls 3 [(0, .ref (q 0)), (1, .int p1), (2, .int p2)] := hl
  unfold m_X8_put at hf
  obtain ⟨H, hH⟩ : ∃ H, H = s.heap := ⟨_, rfl⟩
  obtain ⟨locs, hlo⟩ : ∃ x : List Loc, x = [] := ⟨_, rfl⟩
  have h : hg G (eInt G N) 1 q v A s H locs := by rw [hH, hlo]; exact h
  rw [← hlo, ← hH]
  clear hH hlo
  refine lv_iload_n hx hb dX8_put_0 rfl (lv_at hl 1 rfl) ?_
  refine lv_if_lt (tgt := 14) hx hb dX8_put_1 (by decide) (fun c1 => ?_) (fun c1 => ?_)
  · have hf := it_t c1 hf
    have hf := sm_e hf
    exact xvret hC hr hlk h hf dX8_put_14
  · have hf := it_f c1 hf
    refine lv_iload_n hx hb dX8_put_4 rfl (lv_at hl 1 rfl) ?_
    refine lv_aload_n hx hb dX8_put_5 rfl (lv_at hl 0 rfl) ?_
    refine xalen hC h.o 0 rfl 0 (Nat.le_of_ble_eq_true rfl) (show eInt G N q 0 _ = .inl (G.2 0, N, .inl _) from rfl) (z := (Int32.ofNat N)) rfl dX8_put_6 ?_
    refine lv_icmp_ge (tgt := 14) hx hb dX8_put_7 (by decide) (fun c2 => ?_) (fun c2 => ?_)
    · have hf := it_t c2 hf
      have hf := sm_e hf
      exact xvret hC hr hlk h hf dX8_put_14
    · have hf := it_f c2 hf
      refine lv_aload_n hx hb dX8_put_10 rfl (lv_at hl 0 rfl) ?_
      refine lv_iload_n hx hb dX8_put_11 rfl (lv_at hl 1 rfl) ?_
      refine lv_iload_n hx hb dX8_put_12 rfl (lv_at hl 2 rfl) ?_
      obtain ⟨hi3, hf⟩ := ck_e hf
      refine xiast hC h 0 (Nat.le_of_ble_eq_true rfl) (fun _ => (show eInt G N q 0 _ = .inl (G.2 0, N, .inl _) from rfl)) hi3 dX8_put_13 (fun H locs h => ?_)
      obtain ⟨v4, ev4, hf⟩ := lt_e hf
      rw [← ev4] at h
      have hf := sm_e hf
      exact xvret hC hr hlk h hf dX8_put_14
def m_X2_hold (v : xSt) (p1 : Int32) : Option (Int32) := lt (fun (t1 : Int32) => (if (v 0 1) = (1 : Int32) then (if p1 < ((8 : Int32) - t1) then some (0 : Int32) else some (1 : Int32)) else (if t1 ≤ p1 then some (0 : Int32) else some (1 : Int32)))) (fun j2 => (if (v 0 0) ≤ 0 then j2 (0 : Int32) else j2 ((1 : Int32) <<< (((v 0 0) - (1 : Int32)) &&& 31))))
set_option maxHeartbeats 4000000 in
set_option maxRecDepth 100000 in
theorem c_X2_hold (l : Launch) (G : xGl) (q : Nat → Nat) (v : xSt) (p1 : Int32) {z : (Int32)} (hf : m_X2_hold v p1 = some z) : mRO l yX2_hold (wM yX2_hold cX2_hold 3 (some .boolean)) { frames := 0, cells := 0, slots := 0, locals := 0 } G (eLocks G) 1 q v [.ref (q 0), .int p1] (qZ z) := by
  refine xRO (cc := cX2_hold) (maxL := 3) (ret := (some .boolean)) (by decide) rfl (Nat.le_of_ble_eq_true rfl) ?_
  intro p e s m below meth c ls A hC hr hlk h hl
  have hx := hC.1
  have hb := hC.2.1
  have hl : lv_has ls 3 [(0, .ref (q 0)), (1, .int p1)] := hl
  unfold m_X2_hold at hf
  obtain ⟨H, hH⟩ : ∃ H, H = s.heap := ⟨_, rfl⟩
  obtain ⟨locs, hlo⟩ : ∃ x : List Loc, x = [] := ⟨_, rfl⟩
  have h : ho G (eLocks G) 1 q v A s H locs := by rw [hH, hlo]; exact h
  rw [← hlo, ← hH]
  clear hH hlo
  refine lv_aload_n hx hb dX2_hold_0 rfl (lv_at hl 0 rfl) ?_
  refine xget hC h.o (C := RX2) (T := TX2) (N := 3) (wM_us uw_X2) 0 (Nat.le_of_ble_eq_true rfl) eLocks_0 rfl 0 (by decide) (wM_in fl_X2_9) rfl dX2_hold_1 ?_
  obtain ⟨j2, ej2, hf⟩ := lt_e hf
  have hj2 : ∀ (t1 : Int32) (H : Heap) (locs : List Loc), ho G (eLocks G) 1 q v A s H locs → ∀ (ls : Array Slot), lv_has ls 3 [(0, .ref (q 0)), (1, .int p1)] → j2 t1 = some z → W p l e { frames := 0, cells := 0, slots := 0, locals := 0 } s m [.ref (q 0), .int p1].toArray below meth c H locs 0 0 (MQ below ((qZ z) (fun _ => True) A) [.ref (q 0), .int p1].toArray s 0 0 A) (F0 m 19 ls [.int t1]) := by
    intro t1 H locs h ls hl hf
    rw [ej2] at hf
    refine lv_istore_n (lv' := [(2, .int t1), (0, .ref (q 0)), (1, .int p1)]) hx hb dX2_hold_19 rfl hl (by decide) rfl (fun ls hl => ?_)
    refine lv_aload_n hx hb dX2_hold_20 rfl (lv_at hl 1 rfl) ?_
    refine xget hC h.o (C := RX2) (T := TX2) (N := 3) (wM_us uw_X2) 0 (Nat.le_of_ble_eq_true rfl) eLocks_0 rfl 1 (by decide) (wM_in fl_X2_15) rfl dX2_hold_21 ?_
    refine lv_iconst (v := (1 : Int32)) hx hb dX2_hold_24 (by decide) ?_
    refine lv_icmp_ne (tgt := 44) hx hb dX2_hold_25 (by decide) (fun c3 => ?_) (fun c3 => ?_)
    · have hf := it_f c3 hf
      refine lv_iload_n hx hb dX2_hold_44 rfl (lv_at hl 2 rfl) ?_
      refine lv_iload_n hx hb dX2_hold_45 rfl (lv_at hl 0 rfl) ?_
      refine lv_icmp_ge (tgt := 53) hx hb dX2_hold_46 (by decide) (fun c4 => ?_) (fun c4 => ?_)
      · have hf := it_t c4 hf
        refine lv_iconst (v := (0 : Int32)) hx hb dX2_hold_53 (by decide) ?_
        have hf := sm_e hf
        exact ozret hC hr hlk h (by rw [← hf]) (by decide) dX2_hold_54
      · have hf := it_f c4 hf
        refine lv_iconst (v := (1 : Int32)) hx hb dX2_hold_49 (by decide) ?_
        refine lv_goto (tgt := 54) hx hb dX2_hold_50 (by decide) ?_
        have hf := sm_e hf
        exact ozret hC hr hlk h (by rw [← hf]) (by decide) dX2_hold_54
    · have hf := it_t c3 hf
      refine lv_iload_n hx hb dX2_hold_28 rfl (lv_at hl 2 rfl) ?_
      refine lv_bipush (v := (8 : Int32)) hx hb dX2_hold_29 (by decide) ?_
      refine lv_iload_n hx hb dX2_hold_31 rfl (lv_at hl 0 rfl) ?_
      refine lv_isub hx hb dX2_hold_32 ?_
      refine lv_icmp_lt (tgt := 40) hx hb dX2_hold_33 (by decide) (fun c5 => ?_) (fun c5 => ?_)
      · have hf := it_t c5 hf
        refine lv_iconst (v := (0 : Int32)) hx hb dX2_hold_40 (by decide) ?_
        refine lv_goto (tgt := 54) hx hb dX2_hold_41 (by decide) ?_
        have hf := sm_e hf
        exact ozret hC hr hlk h (by rw [← hf]) (by decide) dX2_hold_54
      · have hf := it_f c5 hf
        refine lv_iconst (v := (1 : Int32)) hx hb dX2_hold_36 (by decide) ?_
        refine lv_goto (tgt := 54) hx hb dX2_hold_37 (by decide) ?_
        have hf := sm_e hf
        exact ozret hC hr hlk h (by rw [← hf]) (by decide) dX2_hold_54
  refine lv_if_le (tgt := 18) hx hb dX2_hold_4 (by decide) (fun c6 => ?_) (fun c6 => ?_)
  · have hf := it_t c6 hf
    refine lv_iconst (v := (0 : Int32)) hx hb dX2_hold_18 (by decide) ?_
    exact hj2 (0 : Int32) H locs h ls (lv_sub hl [0, 1] rfl) hf
  · have hf := it_f c6 hf
    refine lv_iconst (v := (1 : Int32)) hx hb dX2_hold_7 (by decide) ?_
    refine lv_aload_n hx hb dX2_hold_8 rfl (lv_at hl 0 rfl) ?_
    refine xget hC h.o (C := RX2) (T := TX2) (N := 3) (wM_us uw_X2) 0 (Nat.le_of_ble_eq_true rfl) eLocks_0 rfl 0 (by decide) (wM_in fl_X2_9) rfl dX2_hold_9 ?_
    refine lv_iconst (v := (1 : Int32)) hx hb dX2_hold_12 (by decide) ?_
    refine lv_isub hx hb dX2_hold_13 ?_
    refine lv_ishl hx hb dX2_hold_14 ?_
    refine lv_goto (tgt := 19) hx hb dX2_hold_15 (by decide) ?_
    exact hj2 ((1 : Int32) <<< (((v 0 0) - (1 : Int32)) &&& 31)) H locs h ls (lv_sub hl [0, 1] rfl) hf
def m_X4_add (v : xSt) (p1 : Int32) : Option xSt := (if (v 0 1) < 0 then some v else (if (12 : Int32) ≤ (v 0 1) then some v else ck (¬ ((v 0 1) < 0 ∨ 12 ≤ (v 0 1).toNatClampNeg)) (lt (st2 v 1 (v 0 1).toNatClampNeg p1) (fun v4 => lt (st2 v4 0 1 ((v4 0 1) + (1 : Int32))) (fun v5 => some v5)))))
set_option maxHeartbeats 4000000 in
set_option maxRecDepth 100000 in
theorem c_X4_add (l : Launch) (G : xGl) (q : Nat → Nat) (v : xSt) (p1 : Int32) {z : xSt} (hf : m_X4_add v p1 = some z) : mRW l yX4_add (wM yX4_add cX4_add 2 none) { frames := 0, cells := 0, slots := 0, locals := 0 } G (eRow G) 2 q v [.ref (q 0), .int p1] qV z := by
  refine xRW (cc := cX4_add) (maxL := 2) (ret := none) (by decide) rfl (Nat.le_of_ble_eq_true rfl) ?_
  intro p e s m below meth c ls A hC hr hlk h hl
  have hx := hC.1
  have hb := hC.2.1
  have hl : lv_has ls 2 [(0, .ref (q 0)), (1, .int p1)] := hl
  unfold m_X4_add at hf
  obtain ⟨H, hH⟩ : ∃ H, H = s.heap := ⟨_, rfl⟩
  obtain ⟨locs, hlo⟩ : ∃ x : List Loc, x = [] := ⟨_, rfl⟩
  have h : hg G (eRow G) 2 q v A s H locs := by rw [hH, hlo]; exact h
  rw [← hlo, ← hH]
  clear hH hlo
  refine lv_aload_n hx hb dX4_add_0 rfl (lv_at hl 0 rfl) ?_
  refine xget hC h.o (C := RX4) (T := TX4) (N := 2) (wM_us uw_X4) 0 (Nat.le_of_ble_eq_true rfl) eRow_0 rfl 1 (by decide) (wM_in fl_X4_15) rfl dX4_add_1 ?_
  refine lv_if_lt (tgt := 39) hx hb dX4_add_4 (by decide) (fun c1 => ?_) (fun c1 => ?_)
  · have hf := it_t c1 hf
    have hf := sm_e hf
    exact xvret hC hr hlk h hf dX4_add_39
  · have hf := it_f c1 hf
    refine lv_aload_n hx hb dX4_add_7 rfl (lv_at hl 0 rfl) ?_
    refine xget hC h.o (C := RX4) (T := TX4) (N := 2) (wM_us uw_X4) 0 (Nat.le_of_ble_eq_true rfl) eRow_0 rfl 1 (by decide) (wM_in fl_X4_15) rfl dX4_add_8 ?_
    refine lv_aload_n hx hb dX4_add_11 rfl (lv_at hl 0 rfl) ?_
    refine xget hC h.o (C := RX4) (T := TX4) (N := 2) (wM_us uw_X4) 0 (Nat.le_of_ble_eq_true rfl) eRow_0 rfl 0 (by decide) (wM_in fl_X4_9) rfl dX4_add_12 ?_
    refine xalen hC h.o 0 rfl 1 (Nat.le_of_ble_eq_true rfl) eRow_1 (z := (12 : Int32)) rfl dX4_add_15 ?_
    refine lv_icmp_ge (tgt := 39) hx hb dX4_add_16 (by decide) (fun c2 => ?_) (fun c2 => ?_)
    · have hf := it_t c2 hf
      have hf := sm_e hf
      exact xvret hC hr hlk h hf dX4_add_39
    · have hf := it_f c2 hf
      refine lv_aload_n hx hb dX4_add_19 rfl (lv_at hl 0 rfl) ?_
      refine xget hC h.o (C := RX4) (T := TX4) (N := 2) (wM_us uw_X4) 0 (Nat.le_of_ble_eq_true rfl) eRow_0 rfl 0 (by decide) (wM_in fl_X4_9) rfl dX4_add_20 ?_
      refine lv_aload_n hx hb dX4_add_23 rfl (lv_at hl 0 rfl) ?_
      refine xget hC h.o (C := RX4) (T := TX4) (N := 2) (wM_us uw_X4) 0 (Nat.le_of_ble_eq_true rfl) eRow_0 rfl 1 (by decide) (wM_in fl_X4_15) rfl dX4_add_24 ?_
      refine lv_iload_n hx hb dX4_add_27 rfl (lv_at hl 1 rfl) ?_
      obtain ⟨hi3, hf⟩ := ck_e hf
      refine xiast hC h 1 (Nat.le_of_ble_eq_true rfl) (fun _ => eRow_1) hi3 dX4_add_28 (fun H locs h => ?_)
      obtain ⟨v4, ev4, hf⟩ := lt_e hf
      rw [← ev4] at h
      refine lv_aload_n hx hb dX4_add_29 rfl (lv_at hl 0 rfl) ?_
      refine lv_dup hx hb dX4_add_30 rfl ?_
      refine xget hC h.o (C := RX4) (T := TX4) (N := 2) (wM_us uw_X4) 0 (Nat.le_of_ble_eq_true rfl) eRow_0 rfl 1 (by decide) (wM_in fl_X4_15) rfl dX4_add_31 ?_
      refine lv_iconst (v := (1 : Int32)) hx hb dX4_add_34 (by decide) ?_
      refine lv_iadd hx hb dX4_add_35 ?_
      refine xput hC h (C := RX4) (T := TX4) (N := 2) (wM_us uw_X4) tyX4_ok nmX4 0 (Nat.le_of_ble_eq_true rfl) eRow_0 rfl 1 (by decide) (wM_in fl_X4_15) rfl (ty := .int) (tyX4_ok 1 (by decide)) rfl rfl (Nat.le_of_ble_eq_true rfl) (eRow_0.trans rfl) dX4_add_36 (fun H locs h => ?_)
      obtain ⟨v5, ev5, hf⟩ := lt_e hf
      rw [← ev5] at h
      have hf := sm_e hf
      exact xvret hC hr hlk h hf dX4_add_39
def m_X4_span (v : xSt) : Option (Int32) := some (if (8 : Int32) < (v 0 1) then (8 : Int32) else (v 0 1))
set_option maxHeartbeats 4000000 in
set_option maxRecDepth 100000 in
theorem c_X4_span (l : Launch) (G : xGl) (q : Nat → Nat) (v : xSt) {z : (Int32)} (hf : m_X4_span v = some z) : mRO l yX4_span (wM yX4_span cX4_span 1 (some .int)) { frames := 1, cells := 0, slots := 0, locals := 30 } G (eRow G) 2 q v [.ref (q 0)] (qI z) := by
  refine xRO (cc := cX4_span) (maxL := 1) (ret := (some .int)) (by decide) rfl (Nat.le_of_ble_eq_true rfl) ?_
  intro p e s m below meth c ls A hC hr hlk h hl
  have hx := hC.1
  have hb := hC.2.1
  have hl : lv_has ls 1 [(0, .ref (q 0))] := hl
  unfold m_X4_span at hf
  obtain ⟨H, hH⟩ : ∃ H, H = s.heap := ⟨_, rfl⟩
  obtain ⟨locs, hlo⟩ : ∃ x : List Loc, x = [] := ⟨_, rfl⟩
  have h : ho G (eRow G) 2 q v A s H locs := by rw [hH, hlo]; exact h
  rw [← hlo, ← hH]
  clear hH hlo
  refine lv_aload_n hx hb dX4_span_0 rfl (lv_at hl 0 rfl) ?_
  refine xget hC h.o (C := RX4) (T := TX4) (N := 2) (wM_us uw_X4) 0 (Nat.le_of_ble_eq_true rfl) eRow_0 rfl 1 (by decide) (wM_in fl_X4_15) rfl dX4_span_1 ?_
  refine lv_bipush (v := (8 : Int32)) hx hb dX4_span_4 (by decide) ?_
  refine va_mmin hx hb (hC.2.2.1.trans hl.1.symm) hC.2.2.2.1 (hC.2.2.2.2 _ (wM_in lkm_X4_19)) (hC.2.2.2.2 _ (wM_in st_min)) (hC.2.2.2.2 _ (wM_in in_math)) (hC.2.2.2.2 _ (wM_in co_min)) (Nat.le_of_ble_eq_true rfl) (Nat.le_of_ble_eq_true rfl) (Nat.zero_le _) (Nat.zero_le _) dX4_span_6 ?_
  have hf := sm_e hf
  exact oiret hC hr hlk h (by rw [← hf]) dX4_span_9
def m_X4_become (v : xSt) : Option xSt := ck (0 ≤ (if (12 : Int32) < (12 : Int32) then (12 : Int32) else (12 : Int32)) ∧ (if (12 : Int32) < (12 : Int32) then (12 : Int32) else (12 : Int32)).toNatClampNeg ≤ 12 ∧ (if (12 : Int32) < (12 : Int32) then (12 : Int32) else (12 : Int32)).toNatClampNeg ≤ 12) (lt (va_up v 1 (va_cpy (v 3) (v 1) 0 0 (if (12 : Int32) < (12 : Int32) then (12 : Int32) else (12 : Int32)).toNatClampNeg)) (fun v2 => lt (st2 v2 0 1 (v2 2 1)) (fun v3 => some v3)))
set_option maxHeartbeats 4000000 in
set_option maxRecDepth 100000 in
theorem c_X4_become (l : Launch) (G : xGl) (q : Nat → Nat) (v : xSt) {z : xSt} (hf : m_X4_become v = some z) : mRW l yX4_become (wM yX4_become cX4_become 2 none) { frames := 1, cells := 0, slots := 0, locals := 60 } G ((e2 2 (eRow G) (eRow G))) 4 q v [.ref (q 0), .ref (q 2)] qV z := by
  refine xRW (cc := cX4_become) (maxL := 2) (ret := none) (by decide) rfl (Nat.le_of_ble_eq_true rfl) ?_
  intro p e s m below meth c ls A hC hr hlk h hl
  have hx := hC.1
  have hb := hC.2.1
  have hl : lv_has ls 2 [(0, .ref (q 0)), (1, .ref (q 2))] := hl
  unfold m_X4_become at hf
  obtain ⟨H, hH⟩ : ∃ H, H = s.heap := ⟨_, rfl⟩
  obtain ⟨locs, hlo⟩ : ∃ x : List Loc, x = [] := ⟨_, rfl⟩
  have h : hg G ((e2 2 (eRow G) (eRow G))) 4 q v A s H locs := by rw [hH, hlo]; exact h
  rw [← hlo, ← hH]
  clear hH hlo
  refine lv_aload_n hx hb dX4_become_0 rfl (lv_at hl 1 rfl) ?_
  refine xget hC h.o (C := RX4) (T := TX4) (N := 2) (wM_us uw_X4) 2 (Nat.le_of_ble_eq_true rfl) eRowRow_2 rfl 0 (by decide) (wM_in fl_X4_9) rfl dX4_become_1 ?_
  refine lv_iconst (v := (0 : Int32)) hx hb dX4_become_4 (by decide) ?_
  refine lv_aload_n hx hb dX4_become_5 rfl (lv_at hl 0 rfl) ?_
  refine xget hC h.o (C := RX4) (T := TX4) (N := 2) (wM_us uw_X4) 0 (Nat.le_of_ble_eq_true rfl) eRowRow_0 rfl 0 (by decide) (wM_in fl_X4_9) rfl dX4_become_6 ?_
  refine lv_iconst (v := (0 : Int32)) hx hb dX4_become_9 (by decide) ?_
  refine lv_aload_n hx hb dX4_become_10 rfl (lv_at hl 0 rfl) ?_
  refine xget hC h.o (C := RX4) (T := TX4) (N := 2) (wM_us uw_X4) 0 (Nat.le_of_ble_eq_true rfl) eRowRow_0 rfl 0 (by decide) (wM_in fl_X4_9) rfl dX4_become_11 ?_
  refine xalen hC h.o 0 rfl 1 (Nat.le_of_ble_eq_true rfl) eRowRow_1 (z := (12 : Int32)) rfl dX4_become_14 ?_
  refine lv_aload_n hx hb dX4_become_15 rfl (lv_at hl 1 rfl) ?_
  refine xget hC h.o (C := RX4) (T := TX4) (N := 2) (wM_us uw_X4) 2 (Nat.le_of_ble_eq_true rfl) eRowRow_2 rfl 0 (by decide) (wM_in fl_X4_9) rfl dX4_become_16 ?_
  refine xalen hC h.o 0 rfl 3 (Nat.le_of_ble_eq_true rfl) eRowRow_3 (z := (12 : Int32)) rfl dX4_become_19 ?_
  refine va_mmin hx hb (hC.2.2.1.trans hl.1.symm) hC.2.2.2.1 (hC.2.2.2.2 _ (wM_in lkm_X4_19)) (hC.2.2.2.2 _ (wM_in st_min)) (hC.2.2.2.2 _ (wM_in in_math)) (hC.2.2.2.2 _ (wM_in co_min)) (Nat.le_of_ble_eq_true rfl) (Nat.le_of_ble_eq_true rfl) (Nat.zero_le _) (Nat.zero_le _) dX4_become_20 ?_
  obtain ⟨hn1, hf⟩ := ck_e hf
  refine xacpy hC h (hC.2.2.2.2 _ (wM_in lkc_X4_29)) (hC.2.2.2.2 _ (wM_in na_acp)) (hC.2.2.2.2 _ (wM_in st_acp)) (hC.2.2.2.2 _ (wM_in in_sys)) (hC.2.2.1.trans hl.1.symm) 3 1 (Nat.le_of_ble_eq_true rfl) (Nat.le_of_ble_eq_true rfl) eRowRow_3 (fun _ => eRowRow_1) hn1 (Nat.le_of_ble_eq_true rfl) (Nat.le_of_ble_eq_true rfl) dX4_become_23 (fun H locs h => ?_)
  obtain ⟨v2, ev2, hf⟩ := lt_e hf
  rw [← ev2] at h
  refine lv_aload_n hx hb dX4_become_26 rfl (lv_at hl 0 rfl) ?_
  refine lv_aload_n hx hb dX4_become_27 rfl (lv_at hl 1 rfl) ?_
  refine xget hC h.o (C := RX4) (T := TX4) (N := 2) (wM_us uw_X4) 2 (Nat.le_of_ble_eq_true rfl) eRowRow_2 rfl 1 (by decide) (wM_in fl_X4_15) rfl dX4_become_28 ?_
  refine xput hC h (C := RX4) (T := TX4) (N := 2) (wM_us uw_X4) tyX4_ok nmX4 0 (Nat.le_of_ble_eq_true rfl) eRowRow_0 rfl 1 (by decide) (wM_in fl_X4_15) rfl (ty := .int) (tyX4_ok 1 (by decide)) rfl rfl (Nat.le_of_ble_eq_true rfl) (eRowRow_0.trans rfl) dX4_become_31 (fun H locs h => ?_)
  obtain ⟨v3, ev3, hf⟩ := lt_e hf
  rw [← ev3] at h
  have hf := sm_e hf
  exact xvret hC hr hlk h hf dX4_become_34
def m_X7_left (v : xSt) : Option (Int32) := some ((v 0 4) - (v 0 5))
set_option maxHeartbeats 4000000 in
set_option maxRecDepth 100000 in
theorem c_X7_left (l : Launch) (G : xGl) (q : Nat → Nat) (v : xSt) {z : (Int32)} (hf : m_X7_left v = some z) : mRO l yX7_left (wM yX7_left cX7_left 1 (some .int)) { frames := 0, cells := 0, slots := 0, locals := 0 } G (eWork G) 3 q v [.ref (q 0)] (qI z) := by
  refine xRO (cc := cX7_left) (maxL := 1) (ret := (some .int)) (by decide) rfl (Nat.le_of_ble_eq_true rfl) ?_
  intro p e s m below meth c ls A hC hr hlk h hl
  have hx := hC.1
  have hb := hC.2.1
  have hl : lv_has ls 1 [(0, .ref (q 0))] := hl
  unfold m_X7_left at hf
  obtain ⟨H, hH⟩ : ∃ H, H = s.heap := ⟨_, rfl⟩
  obtain ⟨locs, hlo⟩ : ∃ x : List Loc, x = [] := ⟨_, rfl⟩
  have h : ho G (eWork G) 3 q v A s H locs := by rw [hH, hlo]; exact h
  rw [← hlo, ← hH]
  clear hH hlo
  refine lv_aload_n hx hb dX7_left_0 rfl (lv_at hl 0 rfl) ?_
  refine xget hC h.o (C := RX7) (T := TX7) (N := 9) (wM_us uw_X7) 0 (Nat.le_of_ble_eq_true rfl) eWork_0 rfl 4 (by decide) (wM_in fl_X7_24) rfl dX7_left_1 ?_
  refine lv_aload_n hx hb dX7_left_4 rfl (lv_at hl 0 rfl) ?_
  refine xget hC h.o (C := RX7) (T := TX7) (N := 9) (wM_us uw_X7) 0 (Nat.le_of_ble_eq_true rfl) eWork_0 rfl 5 (by decide) (wM_in fl_X7_27) rfl dX7_left_5 ?_
  refine lv_isub hx hb dX7_left_8 ?_
  have hf := sm_e hf
  exact oiret hC hr hlk h (by rw [← hf]) dX7_left_9
def m_X7_start (v : xSt) (p1 : Int32) (p2 : Int32) (p3 : Int32) (p4 : Int32) : Option xSt := lt (st2 v 0 0 p1) (fun v1 => lt (st2 v1 0 1 p2) (fun v2 => lt (st2 v2 0 4 p3) (fun v3 => lt (st2 v3 0 5 (0 : Int32)) (fun v4 => lt (st2 v4 0 6 p4) (fun v5 => lt (st2 v5 0 7 (0 : Int32)) (fun v6 => some v6))))))
set_option maxHeartbeats 4000000 in
set_option maxRecDepth 100000 in
theorem c_X7_start (l : Launch) (G : xGl) (q : Nat → Nat) (v : xSt) (p1 : Int32) (p2 : Int32) (p3 : Int32) (p4 : Int32) {z : xSt} (hf : m_X7_start v p1 p2 p3 p4 = some z) : mRW l yX7_start (wM yX7_start cX7_start 5 none) { frames := 0, cells := 0, slots := 0, locals := 0 } G (eWork G) 3 q v [.ref (q 0), .int p1, .int p2, .int p3, .int p4] qV z := by
  refine xRW (cc := cX7_start) (maxL := 5) (ret := none) (by decide) rfl (Nat.le_of_ble_eq_true rfl) ?_
  intro p e s m below meth c ls A hC hr hlk h hl
  have hx := hC.1
  have hb := hC.2.1
  have hl : lv_has ls 5 [(0, .ref (q 0)), (1, .int p1), (2, .int p2), (3, .int p3), (4, .int p4)] := hl
  unfold m_X7_start at hf
  obtain ⟨H, hH⟩ : ∃ H, H = s.heap := ⟨_, rfl⟩
  obtain ⟨locs, hlo⟩ : ∃ x : List Loc, x = [] := ⟨_, rfl⟩
  have h : hg G (eWork G) 3 q v A s H locs := by rw [hH, hlo]; exact h
  rw [← hlo, ← hH]
  clear hH hlo
  refine lv_aload_n hx hb dX7_start_0 rfl (lv_at hl 0 rfl) ?_
  refine lv_iload_n hx hb dX7_start_1 rfl (lv_at hl 1 rfl) ?_
  refine xput hC h (C := RX7) (T := TX7) (N := 9) (wM_us uw_X7) tyX7_ok nmX7 0 (Nat.le_of_ble_eq_true rfl) eWork_0 rfl 0 (by decide) (wM_in fl_X7_9) rfl (ty := .int) (tyX7_ok 0 (by decide)) rfl rfl (Nat.le_of_ble_eq_true rfl) (eWork_0.trans rfl) dX7_start_2 (fun H locs h => ?_)
  obtain ⟨v1, ev1, hf⟩ := lt_e hf
  rw [← ev1] at h
  refine lv_aload_n hx hb dX7_start_5 rfl (lv_at hl 0 rfl) ?_
  refine lv_iload_n hx hb dX7_start_6 rfl (lv_at hl 2 rfl) ?_
  refine xput hC h (C := RX7) (T := TX7) (N := 9) (wM_us uw_X7) tyX7_ok nmX7 0 (Nat.le_of_ble_eq_true rfl) eWork_0 rfl 1 (by decide) (wM_in fl_X7_15) rfl (ty := .int) (tyX7_ok 1 (by decide)) rfl rfl (Nat.le_of_ble_eq_true rfl) (eWork_0.trans rfl) dX7_start_7 (fun H locs h => ?_)
  obtain ⟨v2, ev2, hf⟩ := lt_e hf
  rw [← ev2] at h
  refine lv_aload_n hx hb dX7_start_10 rfl (lv_at hl 0 rfl) ?_
  refine lv_iload_n hx hb dX7_start_11 rfl (lv_at hl 3 rfl) ?_
  refine xput hC h (C := RX7) (T := TX7) (N := 9) (wM_us uw_X7) tyX7_ok nmX7 0 (Nat.le_of_ble_eq_true rfl) eWork_0 rfl 4 (by decide) (wM_in fl_X7_24) rfl (ty := .int) (tyX7_ok 4 (by decide)) rfl rfl (Nat.le_of_ble_eq_true rfl) (eWork_0.trans rfl) dX7_start_12 (fun H locs h => ?_)
  obtain ⟨v3, ev3, hf⟩ := lt_e hf
  rw [← ev3] at h
  refine lv_aload_n hx hb dX7_start_15 rfl (lv_at hl 0 rfl) ?_
  refine lv_iconst (v := (0 : Int32)) hx hb dX7_start_16 (by decide) ?_
  refine xput hC h (C := RX7) (T := TX7) (N := 9) (wM_us uw_X7) tyX7_ok nmX7 0 (Nat.le_of_ble_eq_true rfl) eWork_0 rfl 5 (by decide) (wM_in fl_X7_27) rfl (ty := .int) (tyX7_ok 5 (by decide)) rfl rfl (Nat.le_of_ble_eq_true rfl) (eWork_0.trans rfl) dX7_start_17 (fun H locs h => ?_)
  obtain ⟨v4, ev4, hf⟩ := lt_e hf
  rw [← ev4] at h
  refine lv_aload_n hx hb dX7_start_20 rfl (lv_at hl 0 rfl) ?_
  refine lv_iload hx hb dX7_start_21 (lv_at hl 4 rfl) ?_
  refine xput hC h (C := RX7) (T := TX7) (N := 9) (wM_us uw_X7) tyX7_ok nmX7 0 (Nat.le_of_ble_eq_true rfl) eWork_0 rfl 6 (by decide) (wM_in fl_X7_30) rfl (ty := .int) (tyX7_ok 6 (by decide)) rfl rfl (Nat.le_of_ble_eq_true rfl) (eWork_0.trans rfl) dX7_start_23 (fun H locs h => ?_)
  obtain ⟨v5, ev5, hf⟩ := lt_e hf
  rw [← ev5] at h
  refine lv_aload_n hx hb dX7_start_26 rfl (lv_at hl 0 rfl) ?_
  refine lv_iconst (v := (0 : Int32)) hx hb dX7_start_27 (by decide) ?_
  refine xput hC h (C := RX7) (T := TX7) (N := 9) (wM_us uw_X7) tyX7_ok nmX7 0 (Nat.le_of_ble_eq_true rfl) eWork_0 rfl 7 (by decide) (wM_in fl_X7_33) rfl (ty := .boolean) (tyX7_ok 7 (by decide)) rfl rfl (Nat.le_of_ble_eq_true rfl) (eWork_0.trans rfl) dX7_start_28 (fun H locs h => ?_)
  obtain ⟨v6, ev6, hf⟩ := lt_e hf
  rw [← ev6] at h
  have hf := sm_e hf
  exact xvret hC hr hlk h hf dX7_start_31
def m_X7_end (v : xSt) : Option xSt := ob (m_X7_start v (0 : Int32) (-1 : Int32) (0 : Int32) (-1 : Int32)) (fun r2 => some r2)
set_option maxHeartbeats 4000000 in
set_option maxRecDepth 100000 in
theorem c_X7_end (l : Launch) (G : xGl) (q : Nat → Nat) (v : xSt) {z : xSt} (hf : m_X7_end v = some z) : mRW l yX7_end (wM yX7_end cX7_end 1 none) { frames := 1, cells := 0, slots := 0, locals := 24 } G (eWork G) 3 q v [.ref (q 0)] qV z := by
  refine xRW (cc := cX7_end) (maxL := 1) (ret := none) (by decide) rfl (Nat.le_of_ble_eq_true rfl) ?_
  intro p e s m below meth c ls A hC hr hlk h hl
  have hx := hC.1
  have hb := hC.2.1
  have hl : lv_has ls 1 [(0, .ref (q 0))] := hl
  unfold m_X7_end at hf
  obtain ⟨H, hH⟩ : ∃ H, H = s.heap := ⟨_, rfl⟩
  obtain ⟨locs, hlo⟩ : ∃ x : List Loc, x = [] := ⟨_, rfl⟩
  have h : hg G (eWork G) 3 q v A s H locs := by rw [hH, hlo]; exact h
  rw [← hlo, ← hH]
  clear hH hlo
  refine lv_aload_n hx hb dX7_end_0 rfl (lv_at hl 0 rfl) ?_
  refine lv_iconst (v := (0 : Int32)) hx hb dX7_end_1 (by decide) ?_
  refine lv_iconst (v := (-1 : Int32)) hx hb dX7_end_2 (by decide) ?_
  refine lv_iconst (v := (0 : Int32)) hx hb dX7_end_3 (by decide) ?_
  refine lv_iconst (v := (-1 : Int32)) hx hb dX7_end_4 (by decide) ?_
  obtain ⟨r2, hy1, hf⟩ := ob_e hf
  refine xv0 h (va_runV (As := [.int (0 : Int32), .int (-1 : Int32), .int (0 : Int32), .int (-1 : Int32)]) (rest := []) hC (c_X7_start l G q v (0 : Int32) (-1 : Int32) (0 : Int32) (-1 : Int32) hy1 H.size) (xcwV hC lk_X7_48 in_X7 co_X7_start im_X7_start se_X7_start rfl rfl dd_X7_start ⟨Nat.le_of_ble_eq_true rfl, Nat.le_of_ble_eq_true rfl⟩) (preV0 h (Nat.le_of_ble_eq_true rfl) eWork_0 rfl [.int (0 : Int32), .int (-1 : Int32), .int (0 : Int32), .int (-1 : Int32)]) rfl rfl hl.1 rfl (lv_room (Nat.le_of_ble_eq_true rfl)) dX7_end_5 ⟨Nat.zero_le _, Nat.zero_le _⟩) (fun H locs h => ?_)
  have hf := sm_e hf
  exact xvret hC hr hlk h hf dX7_end_8
def m_X7_concerns (v : xSt) (p1 : Int32) : Option (Int32) := (if (v 0 0) = (1 : Int32) then (if (p1 / (8 : Int32)) = ((v 0 1) / (8 : Int32)) then some (1 : Int32) else some (0 : Int32)) else lt (fun (_ : Unit) => some (0 : Int32)) (fun j2 => (if (v 0 0) = (2 : Int32) then (if (p1 / (32 : Int32)) = (v 0 1) then some (1 : Int32) else j2 ()) else j2 ())))
set_option maxHeartbeats 4000000 in
set_option maxRecDepth 100000 in
theorem c_X7_concerns (l : Launch) (G : xGl) (q : Nat → Nat) (v : xSt) (p1 : Int32) {z : (Int32)} (hf : m_X7_concerns v p1 = some z) : mRO l yX7_concerns (wM yX7_concerns cX7_concerns 2 (some .boolean)) { frames := 0, cells := 0, slots := 0, locals := 0 } G (eWork G) 3 q v [.ref (q 0), .int p1] (qZ z) := by
  refine xRO (cc := cX7_concerns) (maxL := 2) (ret := (some .boolean)) (by decide) rfl (Nat.le_of_ble_eq_true rfl) ?_
  intro p e s m below meth c ls A hC hr hlk h hl
  have hx := hC.1
  have hb := hC.2.1
  have hl : lv_has ls 2 [(0, .ref (q 0)), (1, .int p1)] := hl
  unfold m_X7_concerns at hf
  obtain ⟨H, hH⟩ : ∃ H, H = s.heap := ⟨_, rfl⟩
  obtain ⟨locs, hlo⟩ : ∃ x : List Loc, x = [] := ⟨_, rfl⟩
  have h : ho G (eWork G) 3 q v A s H locs := by rw [hH, hlo]; exact h
  rw [← hlo, ← hH]
  clear hH hlo
  refine lv_aload_n hx hb dX7_concerns_0 rfl (lv_at hl 0 rfl) ?_
  refine xget hC h.o (C := RX7) (T := TX7) (N := 9) (wM_us uw_X7) 0 (Nat.le_of_ble_eq_true rfl) eWork_0 rfl 0 (by decide) (wM_in fl_X7_9) rfl dX7_concerns_1 ?_
  refine lv_iconst (v := (1 : Int32)) hx hb dX7_concerns_4 (by decide) ?_
  refine lv_icmp_ne (tgt := 28) hx hb dX7_concerns_5 (by decide) (fun c1 => ?_) (fun c1 => ?_)
  · have hf := it_f c1 hf
    refine lv_aload_n hx hb dX7_concerns_28 rfl (lv_at hl 0 rfl) ?_
    refine xget hC h.o (C := RX7) (T := TX7) (N := 9) (wM_us uw_X7) 0 (Nat.le_of_ble_eq_true rfl) eWork_0 rfl 0 (by decide) (wM_in fl_X7_9) rfl dX7_concerns_29 ?_
    refine lv_iconst (v := (2 : Int32)) hx hb dX7_concerns_32 (by decide) ?_
    obtain ⟨j2, ej2, hf⟩ := lt_e hf
    have hj2 : ∀ (uu : Unit) (H : Heap) (locs : List Loc), ho G (eWork G) 3 q v A s H locs → ∀ (ls : Array Slot), lv_has ls 2 [] → j2 uu = some z → W p l e { frames := 0, cells := 0, slots := 0, locals := 0 } s m [.ref (q 0), .int p1].toArray below meth c H locs 0 0 (MQ below ((qZ z) (fun _ => True) A) [.ref (q 0), .int p1].toArray s 0 0 A) (F0 m 51 ls []) := by
      intro uu H locs h ls hl hf
      rw [ej2] at hf
      refine lv_iconst (v := (0 : Int32)) hx hb dX7_concerns_51 (by decide) ?_
      have hf := sm_e hf
      exact ozret hC hr hlk h (by rw [← hf]) (by decide) dX7_concerns_52
    refine lv_icmp_ne (tgt := 51) hx hb dX7_concerns_33 (by decide) (fun c3 => ?_) (fun c3 => ?_)
    · have hf := it_f c3 hf
      exact hj2 () H locs h ls (lv_sub hl [] rfl) hf
    · have hf := it_t c3 hf
      refine lv_iload_n hx hb dX7_concerns_36 rfl (lv_at hl 1 rfl) ?_
      refine lv_bipush (v := (32 : Int32)) hx hb dX7_concerns_37 (by decide) ?_
      refine lv_idiv hx hb dX7_concerns_39 (by decide) ?_
      refine lv_aload_n hx hb dX7_concerns_40 rfl (lv_at hl 0 rfl) ?_
      refine xget hC h.o (C := RX7) (T := TX7) (N := 9) (wM_us uw_X7) 0 (Nat.le_of_ble_eq_true rfl) eWork_0 rfl 1 (by decide) (wM_in fl_X7_15) rfl dX7_concerns_41 ?_
      refine lv_icmp_ne (tgt := 51) hx hb dX7_concerns_44 (by decide) (fun c4 => ?_) (fun c4 => ?_)
      · have hf := it_f c4 hf
        exact hj2 () H locs h ls (lv_sub hl [] rfl) hf
      · have hf := it_t c4 hf
        refine lv_iconst (v := (1 : Int32)) hx hb dX7_concerns_47 (by decide) ?_
        refine lv_goto (tgt := 52) hx hb dX7_concerns_48 (by decide) ?_
        have hf := sm_e hf
        exact ozret hC hr hlk h (by rw [← hf]) (by decide) dX7_concerns_52
  · have hf := it_t c1 hf
    refine lv_iload_n hx hb dX7_concerns_8 rfl (lv_at hl 1 rfl) ?_
    refine lv_bipush (v := (8 : Int32)) hx hb dX7_concerns_9 (by decide) ?_
    refine lv_idiv hx hb dX7_concerns_11 (by decide) ?_
    refine lv_aload_n hx hb dX7_concerns_12 rfl (lv_at hl 0 rfl) ?_
    refine xget hC h.o (C := RX7) (T := TX7) (N := 9) (wM_us uw_X7) 0 (Nat.le_of_ble_eq_true rfl) eWork_0 rfl 1 (by decide) (wM_in fl_X7_15) rfl dX7_concerns_13 ?_
    refine lv_bipush (v := (8 : Int32)) hx hb dX7_concerns_16 (by decide) ?_
    refine lv_idiv hx hb dX7_concerns_18 (by decide) ?_
    refine lv_icmp_ne (tgt := 26) hx hb dX7_concerns_19 (by decide) (fun c5 => ?_) (fun c5 => ?_)
    · have hf := it_f c5 hf
      refine lv_iconst (v := (0 : Int32)) hx hb dX7_concerns_26 (by decide) ?_
      have hf := sm_e hf
      exact ozret hC hr hlk h (by rw [← hf]) (by decide) dX7_concerns_27
    · have hf := it_t c5 hf
      refine lv_iconst (v := (1 : Int32)) hx hb dX7_concerns_22 (by decide) ?_
      refine lv_goto (tgt := 27) hx hb dX7_concerns_23 (by decide) ?_
      have hf := sm_e hf
      exact ozret hC hr hlk h (by rw [← hf]) (by decide) dX7_concerns_27
def m_X7_become (v : xSt) : Option xSt := lt (st2 v 0 0 (v 3 0)) (fun v1 => lt (st2 v1 0 1 (v1 3 1)) (fun v2 => lt (st2 v2 0 2 (v2 3 2)) (fun v3 => lt (st2 v3 0 3 (v3 3 3)) (fun v4 => lt (st2 v4 0 4 (v4 3 4)) (fun v5 => lt (st2 v5 0 5 (v5 3 5)) (fun v6 => lt (st2 v6 0 6 (v6 3 6)) (fun v7 => ck ((v7 3 7) = 0 ∨ (v7 3 7) = 1) (lt (st2 v7 0 7 (v7 3 7)) (fun v9 => ob (m_X4_become (ct 2 (sh 1 v9) (sh 4 v9))) (fun r11 => lt (pu 4 2 (pu 1 2 v9 r11) (sh 2 r11)) (fun v12 => some v12)))))))))))
set_option maxHeartbeats 4000000 in
set_option maxRecDepth 100000 in
theorem c_X7_become (l : Launch) (G : xGl) (q : Nat → Nat) (v : xSt) {z : xSt} (hf : m_X7_become v = some z) : mRW l yX7_become (wM yX7_become cX7_become 2 none) { frames := 2, cells := 0, slots := 0, locals := 81 } G ((e2 3 (eWork G) (eWork G))) 6 q v [.ref (q 0), .ref (q 3)] qV z := by
  refine xRW (cc := cX7_become) (maxL := 2) (ret := none) (by decide) rfl (Nat.le_of_ble_eq_true rfl) ?_
  intro p e s m below meth c ls A hC hr hlk h hl
  have hx := hC.1
  have hb := hC.2.1
  have hl : lv_has ls 2 [(0, .ref (q 0)), (1, .ref (q 3))] := hl
  unfold m_X7_become at hf
  obtain ⟨H, hH⟩ : ∃ H, H = s.heap := ⟨_, rfl⟩
  obtain ⟨locs, hlo⟩ : ∃ x : List Loc, x = [] := ⟨_, rfl⟩
  have h : hg G ((e2 3 (eWork G) (eWork G))) 6 q v A s H locs := by rw [hH, hlo]; exact h
  rw [← hlo, ← hH]
  clear hH hlo
  refine lv_aload_n hx hb dX7_become_0 rfl (lv_at hl 0 rfl) ?_
  refine lv_aload_n hx hb dX7_become_1 rfl (lv_at hl 1 rfl) ?_
  refine xget hC h.o (C := RX7) (T := TX7) (N := 9) (wM_us uw_X7) 3 (Nat.le_of_ble_eq_true rfl) eWorkWork_3 rfl 0 (by decide) (wM_in fl_X7_9) rfl dX7_become_2 ?_
  refine xput hC h (C := RX7) (T := TX7) (N := 9) (wM_us uw_X7) tyX7_ok nmX7 0 (Nat.le_of_ble_eq_true rfl) eWorkWork_0 rfl 0 (by decide) (wM_in fl_X7_9) rfl (ty := .int) (tyX7_ok 0 (by decide)) rfl rfl (Nat.le_of_ble_eq_true rfl) (eWorkWork_0.trans rfl) dX7_become_5 (fun H locs h => ?_)
  obtain ⟨v1, ev1, hf⟩ := lt_e hf
  rw [← ev1] at h
  refine lv_aload_n hx hb dX7_become_8 rfl (lv_at hl 0 rfl) ?_
  refine lv_aload_n hx hb dX7_become_9 rfl (lv_at hl 1 rfl) ?_
  refine xget hC h.o (C := RX7) (T := TX7) (N := 9) (wM_us uw_X7) 3 (Nat.le_of_ble_eq_true rfl) eWorkWork_3 rfl 1 (by decide) (wM_in fl_X7_15) rfl dX7_become_10 ?_
  refine xput hC h (C := RX7) (T := TX7) (N := 9) (wM_us uw_X7) tyX7_ok nmX7 0 (Nat.le_of_ble_eq_true rfl) eWorkWork_0 rfl 1 (by decide) (wM_in fl_X7_15) rfl (ty := .int) (tyX7_ok 1 (by decide)) rfl rfl (Nat.le_of_ble_eq_true rfl) (eWorkWork_0.trans rfl) dX7_become_13 (fun H locs h => ?_)
  obtain ⟨v2, ev2, hf⟩ := lt_e hf
  rw [← ev2] at h
  refine lv_aload_n hx hb dX7_become_16 rfl (lv_at hl 0 rfl) ?_
  refine lv_aload_n hx hb dX7_become_17 rfl (lv_at hl 1 rfl) ?_
  refine xget hC h.o (C := RX7) (T := TX7) (N := 9) (wM_us uw_X7) 3 (Nat.le_of_ble_eq_true rfl) eWorkWork_3 rfl 2 (by decide) (wM_in fl_X7_18) rfl dX7_become_18 ?_
  refine xput hC h (C := RX7) (T := TX7) (N := 9) (wM_us uw_X7) tyX7_ok nmX7 0 (Nat.le_of_ble_eq_true rfl) eWorkWork_0 rfl 2 (by decide) (wM_in fl_X7_18) rfl (ty := .int) (tyX7_ok 2 (by decide)) rfl rfl (Nat.le_of_ble_eq_true rfl) (eWorkWork_0.trans rfl) dX7_become_21 (fun H locs h => ?_)
  obtain ⟨v3, ev3, hf⟩ := lt_e hf
  rw [← ev3] at h
  refine lv_aload_n hx hb dX7_become_24 rfl (lv_at hl 0 rfl) ?_
  refine lv_aload_n hx hb dX7_become_25 rfl (lv_at hl 1 rfl) ?_
  refine xget hC h.o (C := RX7) (T := TX7) (N := 9) (wM_us uw_X7) 3 (Nat.le_of_ble_eq_true rfl) eWorkWork_3 rfl 3 (by decide) (wM_in fl_X7_21) rfl dX7_become_26 ?_
  refine xput hC h (C := RX7) (T := TX7) (N := 9) (wM_us uw_X7) tyX7_ok nmX7 0 (Nat.le_of_ble_eq_true rfl) eWorkWork_0 rfl 3 (by decide) (wM_in fl_X7_21) rfl (ty := .int) (tyX7_ok 3 (by decide)) rfl rfl (Nat.le_of_ble_eq_true rfl) (eWorkWork_0.trans rfl) dX7_become_29 (fun H locs h => ?_)
  obtain ⟨v4, ev4, hf⟩ := lt_e hf
  rw [← ev4] at h
  refine lv_aload_n hx hb dX7_become_32 rfl (lv_at hl 0 rfl) ?_
  refine lv_aload_n hx hb dX7_become_33 rfl (lv_at hl 1 rfl) ?_
  refine xget hC h.o (C := RX7) (T := TX7) (N := 9) (wM_us uw_X7) 3 (Nat.le_of_ble_eq_true rfl) eWorkWork_3 rfl 4 (by decide) (wM_in fl_X7_24) rfl dX7_become_34 ?_
  refine xput hC h (C := RX7) (T := TX7) (N := 9) (wM_us uw_X7) tyX7_ok nmX7 0 (Nat.le_of_ble_eq_true rfl) eWorkWork_0 rfl 4 (by decide) (wM_in fl_X7_24) rfl (ty := .int) (tyX7_ok 4 (by decide)) rfl rfl (Nat.le_of_ble_eq_true rfl) (eWorkWork_0.trans rfl) dX7_become_37 (fun H locs h => ?_)
  obtain ⟨v5, ev5, hf⟩ := lt_e hf
  rw [← ev5] at h
  refine lv_aload_n hx hb dX7_become_40 rfl (lv_at hl 0 rfl) ?_
  refine lv_aload_n hx hb dX7_become_41 rfl (lv_at hl 1 rfl) ?_
  refine xget hC h.o (C := RX7) (T := TX7) (N := 9) (wM_us uw_X7) 3 (Nat.le_of_ble_eq_true rfl) eWorkWork_3 rfl 5 (by decide) (wM_in fl_X7_27) rfl dX7_become_42 ?_
  refine xput hC h (C := RX7) (T := TX7) (N := 9) (wM_us uw_X7) tyX7_ok nmX7 0 (Nat.le_of_ble_eq_true rfl) eWorkWork_0 rfl 5 (by decide) (wM_in fl_X7_27) rfl (ty := .int) (tyX7_ok 5 (by decide)) rfl rfl (Nat.le_of_ble_eq_true rfl) (eWorkWork_0.trans rfl) dX7_become_45 (fun H locs h => ?_)
  obtain ⟨v6, ev6, hf⟩ := lt_e hf
  rw [← ev6] at h
  refine lv_aload_n hx hb dX7_become_48 rfl (lv_at hl 0 rfl) ?_
  refine lv_aload_n hx hb dX7_become_49 rfl (lv_at hl 1 rfl) ?_
  refine xget hC h.o (C := RX7) (T := TX7) (N := 9) (wM_us uw_X7) 3 (Nat.le_of_ble_eq_true rfl) eWorkWork_3 rfl 6 (by decide) (wM_in fl_X7_30) rfl dX7_become_50 ?_
  refine xput hC h (C := RX7) (T := TX7) (N := 9) (wM_us uw_X7) tyX7_ok nmX7 0 (Nat.le_of_ble_eq_true rfl) eWorkWork_0 rfl 6 (by decide) (wM_in fl_X7_30) rfl (ty := .int) (tyX7_ok 6 (by decide)) rfl rfl (Nat.le_of_ble_eq_true rfl) (eWorkWork_0.trans rfl) dX7_become_53 (fun H locs h => ?_)
  obtain ⟨v7, ev7, hf⟩ := lt_e hf
  rw [← ev7] at h
  refine lv_aload_n hx hb dX7_become_56 rfl (lv_at hl 0 rfl) ?_
  refine lv_aload_n hx hb dX7_become_57 rfl (lv_at hl 1 rfl) ?_
  refine xget hC h.o (C := RX7) (T := TX7) (N := 9) (wM_us uw_X7) 3 (Nat.le_of_ble_eq_true rfl) eWorkWork_3 rfl 7 (by decide) (wM_in fl_X7_33) rfl dX7_become_58 ?_
  obtain ⟨hz8, hf⟩ := ck_e hf
  refine xput hC h (C := RX7) (T := TX7) (N := 9) (wM_us uw_X7) tyX7_ok nmX7 0 (Nat.le_of_ble_eq_true rfl) eWorkWork_0 rfl 7 (by decide) (wM_in fl_X7_33) rfl (ty := .boolean) (tyX7_ok 7 (by decide)) (xbit hz8) (xbitf hz8) (Nat.le_of_ble_eq_true rfl) (eWorkWork_0.trans rfl) dX7_become_61 (fun H locs h => ?_)
  obtain ⟨v9, ev9, hf⟩ := lt_e hf
  rw [← ev9] at h
  refine lv_aload_n hx hb dX7_become_64 rfl (lv_at hl 0 rfl) ?_
  refine xget hC h.o (C := RX7) (T := TX7) (N := 9) (wM_us uw_X7) 0 (Nat.le_of_ble_eq_true rfl) eWorkWork_0 rfl 8 (by decide) (wM_in fl_X7_40) rfl dX7_become_65 ?_
  refine lv_aload_n hx hb dX7_become_68 rfl (lv_at hl 1 rfl) ?_
  refine xget hC h.o (C := RX7) (T := TX7) (N := 9) (wM_us uw_X7) 3 (Nat.le_of_ble_eq_true rfl) eWorkWork_3 rfl 8 (by decide) (wM_in fl_X7_40) rfl dX7_become_69 ?_
  obtain ⟨r11, hy10, hf⟩ := ob_e hf
  refine xv2 h 1 2 4 2 (x2E1 sWorkWork_1 locRow) (x2E2 sWorkWork_4) (Nat.le_of_ble_eq_true rfl) (Nat.le_of_ble_eq_true rfl) (by omega) (va_runV (As := [.ref (q 4)]) (rest := []) hC (c_X4_become l G (ct 2 (sh 1 q) (sh 4 q)) (ct 2 (sh 1 v9) (sh 4 v9)) hy10 H.size) (xcwV hC lk_X7_52 in_X4 co_X4_become im_X4_become se_X4_become rfl rfl dd_X4_become ⟨Nat.le_of_ble_eq_true rfl, Nat.le_of_ble_eq_true rfl⟩) (preV2 h 1 2 4 2 (x2E1 sWorkWork_1 locRow) (x2E2 sWorkWork_4) (Nat.le_of_ble_eq_true rfl) (Nat.le_of_ble_eq_true rfl) (by omega) (Nat.le_of_ble_eq_true rfl) eWorkWork_1 rfl [.ref (q 4)]) rfl rfl hl.1 rfl (lv_room (Nat.le_of_ble_eq_true rfl)) dX7_become_72 ⟨Nat.zero_le _, Nat.zero_le _⟩) (fun H locs h => ?_)
  obtain ⟨v12, ev12, hf⟩ := lt_e hf
  rw [← ev12] at h
  have hf := sm_e hf
  exact xvret hC hr hlk h hf dX7_become_75
def m_X7_startWrite (v : xSt) (p1 : Int32) (p3 : Int32) (p4 : Int32) : Option xSt := ob (m_X4_span (sh 3 v)) (fun r2 => ob (m_X7_start (sh 0 v) (1 : Int32) p1 (r2 * p3) p4) (fun r4 => lt (pu 0 3 v r4) (fun v5 => lt (st2 v5 0 3 p3) (fun v6 => ob (m_X4_become (ct 2 (sh 1 v6) (sh 3 v6))) (fun r8 => lt (pu 3 2 (pu 1 2 v6 r8) (sh 2 r8)) (fun v9 => some v9))))))
set_option maxHeartbeats 4000000 in
set_option maxRecDepth 100000 in
theorem c_X7_startWrite (l : Launch) (G : xGl) (q : Nat → Nat) (v : xSt) (p1 : Int32) (p3 : Int32) (p4 : Int32) {z : xSt} (hf : m_X7_startWrite v p1 p3 p4 = some z) : mRW l yX7_startWrite (wM yX7_startWrite cX7_startWrite 5 none) { frames := 2, cells := 0, slots := 0, locals := 81 } G ((e2 3 (eWork G) (eRow G))) 5 q v [.ref (q 0), .int p1, .ref (q 3), .int p3, .int p4] qV z := by
  refine xRW (cc := cX7_startWrite) (maxL := 5) (ret := none) (by decide) rfl (Nat.le_of_ble_eq_true rfl) ?_
  intro p e s m below meth c ls A hC hr hlk h hl
  have hx := hC.1
  have hb := hC.2.1
  have hl : lv_has ls 5 [(0, .ref (q 0)), (1, .int p1), (2, .ref (q 3)), (3, .int p3), (4, .int p4)] := hl
  unfold m_X7_startWrite at hf
  obtain ⟨H, hH⟩ : ∃ H, H = s.heap := ⟨_, rfl⟩
  obtain ⟨locs, hlo⟩ : ∃ x : List Loc, x = [] := ⟨_, rfl⟩
  have h : hg G ((e2 3 (eWork G) (eRow G))) 5 q v A s H locs := by rw [hH, hlo]; exact h
  rw [← hlo, ← hH]
  clear hH hlo
  refine lv_aload_n hx hb dX7_startWrite_0 rfl (lv_at hl 0 rfl) ?_
  refine lv_iconst (v := (1 : Int32)) hx hb dX7_startWrite_1 (by decide) ?_
  refine lv_iload_n hx hb dX7_startWrite_2 rfl (lv_at hl 1 rfl) ?_
  refine lv_aload_n hx hb dX7_startWrite_3 rfl (lv_at hl 2 rfl) ?_
  obtain ⟨r2, hy1, hf⟩ := ob_e hf
  refine xiG h (va_runV (As := []) (rest := [.int p1, .int (1 : Int32), .ref (q 0)]) hC (c_X4_span l G (sh 3 q) (sh 3 v) hy1 H.size) (xcwV hC lk_X7_44 in_X4 co_X4_span im_X4_span se_X4_span rfl rfl dd_X4_span ⟨Nat.le_of_ble_eq_true rfl, Nat.le_of_ble_eq_true rfl⟩) (preVO h.o 3 2 sWorkRow_3 (Nat.le_of_ble_eq_true rfl) (Nat.le_of_ble_eq_true rfl) eWorkRow_3 rfl []) rfl rfl hl.1 rfl (lv_room (Nat.le_of_ble_eq_true rfl)) dX7_startWrite_4 ⟨Nat.zero_le _, Nat.zero_le _⟩) (fun H locs h => ?_)
  refine lv_iload_n hx hb dX7_startWrite_7 rfl (lv_at hl 3 rfl) ?_
  refine lv_imul hx hb dX7_startWrite_8 ?_
  refine lv_iload hx hb dX7_startWrite_9 (lv_at hl 4 rfl) ?_
  obtain ⟨r4, hy3, hf⟩ := ob_e hf
  refine xv1 h 0 3 sWorkRow_0 (Nat.le_of_ble_eq_true rfl) (va_runV (As := [.int (1 : Int32), .int p1, .int (r2 * p3), .int p4]) (rest := []) hC (c_X7_start l G (sh 0 q) (sh 0 v) (1 : Int32) p1 (r2 * p3) p4 hy3 H.size) (xcwV hC lk_X7_48 in_X7 co_X7_start im_X7_start se_X7_start rfl rfl dd_X7_start ⟨Nat.le_of_ble_eq_true rfl, Nat.le_of_ble_eq_true rfl⟩) (preV1 h 0 3 sWorkRow_0 (Nat.le_of_ble_eq_true rfl) (Nat.le_of_ble_eq_true rfl) eWorkRow_0 rfl [.int (1 : Int32), .int p1, .int (r2 * p3), .int p4]) rfl rfl hl.1 rfl (lv_room (Nat.le_of_ble_eq_true rfl)) dX7_startWrite_11 ⟨Nat.zero_le _, Nat.zero_le _⟩) (fun H locs h => ?_)
  obtain ⟨v5, ev5, hf⟩ := lt_e hf
  rw [← ev5] at h
  refine lv_aload_n hx hb dX7_startWrite_14 rfl (lv_at hl 0 rfl) ?_
  refine lv_iload_n hx hb dX7_startWrite_15 rfl (lv_at hl 3 rfl) ?_
  refine xput hC h (C := RX7) (T := TX7) (N := 9) (wM_us uw_X7) tyX7_ok nmX7 0 (Nat.le_of_ble_eq_true rfl) eWorkRow_0 rfl 3 (by decide) (wM_in fl_X7_21) rfl (ty := .int) (tyX7_ok 3 (by decide)) rfl rfl (Nat.le_of_ble_eq_true rfl) (eWorkRow_0.trans rfl) dX7_startWrite_16 (fun H locs h => ?_)
  obtain ⟨v6, ev6, hf⟩ := lt_e hf
  rw [← ev6] at h
  refine lv_aload_n hx hb dX7_startWrite_19 rfl (lv_at hl 0 rfl) ?_
  refine xget hC h.o (C := RX7) (T := TX7) (N := 9) (wM_us uw_X7) 0 (Nat.le_of_ble_eq_true rfl) eWorkRow_0 rfl 8 (by decide) (wM_in fl_X7_40) rfl dX7_startWrite_20 ?_
  refine lv_aload_n hx hb dX7_startWrite_23 rfl (lv_at hl 2 rfl) ?_
  obtain ⟨r8, hy7, hf⟩ := ob_e hf
  refine xv2 h 1 2 3 2 (x2E1 sWorkRow_1 locRow) (x2E2 sWorkRow_3) (Nat.le_of_ble_eq_true rfl) (Nat.le_of_ble_eq_true rfl) (by omega) (va_runV (As := [.ref (q 3)]) (rest := []) hC (c_X4_become l G (ct 2 (sh 1 q) (sh 3 q)) (ct 2 (sh 1 v6) (sh 3 v6)) hy7 H.size) (xcwV hC lk_X7_52 in_X4 co_X4_become im_X4_become se_X4_become rfl rfl dd_X4_become ⟨Nat.le_of_ble_eq_true rfl, Nat.le_of_ble_eq_true rfl⟩) (preV2 h 1 2 3 2 (x2E1 sWorkRow_1 locRow) (x2E2 sWorkRow_3) (Nat.le_of_ble_eq_true rfl) (Nat.le_of_ble_eq_true rfl) (by omega) (Nat.le_of_ble_eq_true rfl) eWorkRow_1 rfl [.ref (q 3)]) rfl rfl hl.1 rfl (lv_room (Nat.le_of_ble_eq_true rfl)) dX7_startWrite_24 ⟨Nat.zero_le _, Nat.zero_le _⟩) (fun H locs h => ?_)
  obtain ⟨v9, ev9, hf⟩ := lt_e hf
  rw [← ev9] at h
  have hf := sm_e hf
  exact xvret hC hr hlk h hf dX7_startWrite_27
