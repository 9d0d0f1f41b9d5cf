def m_X9_usedPages (v : xSt) (p1 : Int32) : Option (Int32) := lp (fun (rec3 : Int32 × Int32 → Option (Int32)) => un2 (fun (a1 : Int32) (a2 : Int32) => (if (((4 : Int32) * p1) + (4 : Int32)) ≤ a2 then some a1 else ob (m_X9_onesFrom v ((8 : Int32) * a2) (((8 : Int32) * a2) + (8 : Int32))) (fun r6 => lt (fun (t7 : Int32) (t8 : Int32) => rec3 ((t7 + t8), (a2 + 1))) (fun j9 => (if (64 : Int32) ≤ r6 then j9 a1 (0 : Int32) else j9 a1 (1 : Int32))))))) xF ((0 : Int32), ((4 : Int32) * p1))
set_option maxHeartbeats 4000000 in
set_option maxRecDepth 100000 in
theorem c_X9_usedPages (l : Launch) (G : xGl) (q : Nat → Nat) (v : xSt) (p1 : Int32) {z : (Int32)} (hf : m_X9_usedPages v p1 = some z) : mRO l yX9_usedPages (wM yX9_usedPages cX9_usedPages 4 (some .int)) { frames := 2, cells := 0, slots := 0, locals := 46 } G (eMod G) 8 q v [.ref (q 0), .int p1] (qI z) := by
  refine xRO (cc := cX9_usedPages) (maxL := 4) (ret := (some .int)) (by decide) rfl (Nat.le_of_ble_eq_true rfl) ?_
  intro p e s m below meth c ls A hC hr hlk h hl
  have hx := hC.1
  have hb := hC.2.1
  have hl : lv_has ls 4 [(0, .ref (q 0)), (1, .int p1)] := hl
  unfold m_X9_usedPages at hf
  obtain ⟨H, hH⟩ : ∃ H, H = s.heap := ⟨_, rfl⟩
  obtain ⟨locs, hlo⟩ : ∃ x : List Loc, x = [] := ⟨_, rfl⟩
  have h : ho G (eMod G) 8 q v A s H locs := by rw [hH, hlo]; exact h
  rw [← hlo, ← hH]
  clear hH hlo
  refine lv_iconst (v := (0 : Int32)) hx hb dX9_usedPages_0 (by decide) ?_
  refine lv_istore_n (lv' := [(2, .int (0 : Int32)), (0, .ref (q 0)), (1, .int p1)]) hx hb dX9_usedPages_1 rfl hl (by decide) rfl (fun ls hl => ?_)
  refine lv_iconst (v := (4 : Int32)) hx hb dX9_usedPages_2 (by decide) ?_
  refine lv_iload_n hx hb dX9_usedPages_3 rfl (lv_at hl 2 rfl) ?_
  refine lv_imul hx hb dX9_usedPages_4 ?_
  refine lv_istore_n (lv' := [(3, .int ((4 : Int32) * p1)), (2, .int (0 : Int32)), (0, .ref (q 0)), (1, .int p1)]) hx hb dX9_usedPages_5 rfl hl (by decide) rfl (fun ls hl => ?_)
  refine lp_i (z := z) (P := fun (pp : Int32 × Int32) => ∀ (H : Heap) (locs : List Loc), ho G (eMod G) 8 q v A s H locs → ∀ (ls : Array Slot), lv_has ls 4 [(0, .ref (q 0)), (1, .int p1), (2, .int pp.1), (3, .int pp.2)] → W p l e { frames := 2, cells := 0, slots := 0, locals := 46 } s m [.ref (q 0), .int p1].toArray below meth c H locs 0 0 (MQ below ((qI z) (fun _ => True) A) [.ref (q 0), .int p1].toArray s 0 0 A) (F0 m 6 ls [])) ?_ _ _ hf H locs h ls (lv_sub hl [2, 3, 1, 0] rfl)
  intro rec3 hrec3 pp hf H locs h ls hl
  obtain ⟨a1, a2⟩ := pp
  have h : ho G (eMod G) 8 q v A s H locs := h
  have hl : lv_has ls 4 [(0, .ref (q 0)), (1, .int p1), (2, .int a1), (3, .int a2)] := hl
  have hf := un2_e hf
  refine lv_iload_n hx hb dX9_usedPages_6 rfl (lv_at hl 3 rfl) ?_
  refine lv_iconst (v := (4 : Int32)) hx hb dX9_usedPages_7 (by decide) ?_
  refine lv_iload_n hx hb dX9_usedPages_8 rfl (lv_at hl 1 rfl) ?_
  refine lv_imul hx hb dX9_usedPages_9 ?_
  refine lv_iconst (v := (4 : Int32)) hx hb dX9_usedPages_10 (by decide) ?_
  refine lv_iadd hx hb dX9_usedPages_11 ?_
  refine lv_icmp_ge (tgt := 49) hx hb dX9_usedPages_12 (by decide) (fun c4 => ?_) (fun c4 => ?_)
  · have hf := it_t c4 hf
    refine lv_iload_n hx hb dX9_usedPages_49 rfl (lv_at hl 2 rfl) ?_
    have hf := sm_e hf
    exact oiret hC hr hlk h (by rw [← hf]) dX9_usedPages_50
  · have hf := it_f c4 hf
    refine lv_iload_n hx hb dX9_usedPages_15 rfl (lv_at hl 2 rfl) ?_
    refine lv_aload_n hx hb dX9_usedPages_16 rfl (lv_at hl 0 rfl) ?_
    refine lv_bipush (v := (8 : Int32)) hx hb dX9_usedPages_17 (by decide) ?_
    refine lv_iload_n hx hb dX9_usedPages_19 rfl (lv_at hl 3 rfl) ?_
    refine lv_imul hx hb dX9_usedPages_20 ?_
    refine lv_bipush (v := (8 : Int32)) hx hb dX9_usedPages_21 (by decide) ?_
    refine lv_iload_n hx hb dX9_usedPages_23 rfl (lv_at hl 3 rfl) ?_
    refine lv_imul hx hb dX9_usedPages_24 ?_
    refine lv_bipush (v := (8 : Int32)) hx hb dX9_usedPages_25 (by decide) ?_
    refine lv_iadd hx hb dX9_usedPages_27 ?_
    obtain ⟨r6, hy5, hf⟩ := ob_e hf
    refine xiO h (va_runV (As := [.int ((8 : Int32) * a2), .int (((8 : Int32) * a2) + (8 : Int32))]) (rest := [.int a1]) hC (c_X9_onesFrom l G q v ((8 : Int32) * a2) (((8 : Int32) * a2) + (8 : Int32)) hy5 H.size) (xcwV hC lk_X9_241 in_X9 co_X9_onesFrom im_X9_onesFrom se_X9_onesFrom rfl rfl dd_X9_onesFrom ⟨Nat.le_of_ble_eq_true rfl, Nat.le_of_ble_eq_true rfl⟩) (preVO0 h.o (Nat.le_of_ble_eq_true rfl) eMod_0 rfl [.int ((8 : Int32) * a2), .int (((8 : Int32) * a2) + (8 : Int32))]) rfl rfl hl.1 rfl (lv_room (Nat.le_of_ble_eq_true rfl)) dX9_usedPages_28 ⟨Nat.zero_le _, Nat.zero_le _⟩) (fun H locs h => ?_)
    refine lv_bipush (v := (64 : Int32)) hx hb dX9_usedPages_31 (by decide) ?_
    obtain ⟨j9, ej9, hf⟩ := lt_e hf
    have hj9 : ∀ (t7 : Int32) (t8 : Int32) (H : Heap) (locs : List Loc), ho G (eMod G) 8 q v A s H locs → ∀ (ls : Array Slot), lv_has ls 4 [(0, .ref (q 0)), (1, .int p1), (3, .int a2)] → j9 t7 t8 = some z → W p l e { frames := 2, cells := 0, slots := 0, locals := 46 } s m [.ref (q 0), .int p1].toArray below meth c H locs 0 0 (MQ below ((qI z) (fun _ => True) A) [.ref (q 0), .int p1].toArray s 0 0 A) (F0 m 41 ls [.int t8, .int t7]) := by
      intro t7 t8 H locs h ls hl hf
      rw [ej9] at hf
      refine lv_iadd hx hb dX9_usedPages_41 ?_
      refine lv_istore_n (lv' := [(2, .int (t7 + t8)), (0, .ref (q 0)), (1, .int p1), (3, .int a2)]) hx hb dX9_usedPages_42 rfl hl (by decide) rfl (fun ls hl => ?_)
      refine lv_iinc (v := (a2 + 1)) (lv' := [(3, .int (a2 + 1)), (2, .int (t7 + t8)), (0, .ref (q 0)), (1, .int p1)]) hx hb dX9_usedPages_43 hl (k := 3) rfl rfl (by decide) rfl (fun ls hl => ?_)
      refine lv_goto (tgt := 6) hx hb dX9_usedPages_46 (by decide) ?_
      exact hrec3 ((t7 + t8), (a2 + 1)) hf H locs h ls (lv_sub hl [2, 3, 1, 0] rfl)
    refine lv_icmp_ge (tgt := 40) hx hb dX9_usedPages_33 (by decide) (fun c10 => ?_) (fun c10 => ?_)
    · have hf := it_t c10 hf
      refine lv_iconst (v := (0 : Int32)) hx hb dX9_usedPages_40 (by decide) ?_
      exact hj9 a1 (0 : Int32) H locs h ls (lv_sub hl [0, 1, 3] rfl) hf
    · have hf := it_f c10 hf
      refine lv_iconst (v := (1 : Int32)) hx hb dX9_usedPages_36 (by decide) ?_
      refine lv_goto (tgt := 41) hx hb dX9_usedPages_37 (by decide) ?_
      exact hj9 a1 (1 : Int32) H locs h ls (lv_sub hl [0, 1, 3] rfl) hf
def m_X9_unsurePages (v : xSt) (p1 : Int32) (p2 : Int32) : Option (Int32) := lp (fun (rec3 : Int32 × Int32 → Option (Int32)) => un2 (fun (a1 : Int32) (a2 : Int32) => (if p2 ≤ a2 then some a1 else ck (¬ (((512 : Int32) + a2) < 0 ∨ 797 ≤ ((512 : Int32) + a2).toNatClampNeg)) (lt ((a1 + (v 1 ((512 : Int32) + a2).toNatClampNeg))) (fun x6 => rec3 (x6, (a2 + 1))))))) xF ((0 : Int32), p1)
set_option maxHeartbeats 4000000 in
set_option maxRecDepth 100000 in
theorem c_X9_unsurePages (l : Launch) (G : xGl) (q : Nat → Nat) (v : xSt) (p1 : Int32) (p2 : Int32) {z : (Int32)} (hf : m_X9_unsurePages v p1 p2 = some z) : mRO l yX9_unsurePages (wM yX9_unsurePages cX9_unsurePages 5 (some .int)) { frames := 0, cells := 0, slots := 0, locals := 0 } G (eMod G) 8 q v [.ref (q 0), .int p1, .int p2] (qI z) := by
  refine xRO (cc := cX9_unsurePages) (maxL := 5) (ret := (some .int)) (by decide) rfl (Nat.le_of_ble_eq_true rfl) ?_
  intro p e s m below meth c ls A hC hr hlk h hl
  have hx := hC.1
  have hb := hC.2.1
  have hl : lv_has ls 5 [(0, .ref (q 0)), (1, .int p1), (2, .int p2)] := hl
  unfold m_X9_unsurePages at hf
  obtain ⟨H, hH⟩ : ∃ H, H = s.heap := ⟨_, rfl⟩
  obtain ⟨locs, hlo⟩ : ∃ x : List Loc, x = [] := ⟨_, rfl⟩
  have h : ho G (eMod G) 8 q v A s H locs := by rw [hH, hlo]; exact h
  rw [← hlo, ← hH]
  clear hH hlo
  refine lv_iconst (v := (0 : Int32)) hx hb dX9_unsurePages_0 (by decide) ?_
  refine lv_istore_n (lv' := [(3, .int (0 : Int32)), (0, .ref (q 0)), (1, .int p1), (2, .int p2)]) hx hb dX9_unsurePages_1 rfl hl (by decide) rfl (fun ls hl => ?_)
  refine lv_iload_n hx hb dX9_unsurePages_2 rfl (lv_at hl 2 rfl) ?_
  refine lv_istore (lv' := [(4, .int p1), (3, .int (0 : Int32)), (0, .ref (q 0)), (1, .int p1), (2, .int p2)]) hx hb dX9_unsurePages_3 hl (by decide) rfl (fun ls hl => ?_)
  refine lp_i (z := z) (P := fun (pp : Int32 × Int32) => ∀ (H : Heap) (locs : List Loc), ho G (eMod G) 8 q v A s H locs → ∀ (ls : Array Slot), lv_has ls 5 [(0, .ref (q 0)), (2, .int p2), (3, .int pp.1), (4, .int pp.2)] → W p l e { frames := 0, cells := 0, slots := 0, locals := 0 } s m [.ref (q 0), .int p1, .int p2].toArray below meth c H locs 0 0 (MQ below ((qI z) (fun _ => True) A) [.ref (q 0), .int p1, .int p2].toArray s 0 0 A) (F0 m 5 ls [])) ?_ _ _ hf H locs h ls (lv_sub hl [2, 4, 1, 0] rfl)
  intro rec3 hrec3 pp hf H locs h ls hl
  obtain ⟨a1, a2⟩ := pp
  have h : ho G (eMod G) 8 q v A s H locs := h
  have hl : lv_has ls 5 [(0, .ref (q 0)), (2, .int p2), (3, .int a1), (4, .int a2)] := hl
  have hf := un2_e hf
  refine lv_iload hx hb dX9_unsurePages_5 (lv_at hl 3 rfl) ?_
  refine lv_iload_n hx hb dX9_unsurePages_7 rfl (lv_at hl 1 rfl) ?_
  refine lv_icmp_ge (tgt := 31) hx hb dX9_unsurePages_8 (by decide) (fun c4 => ?_) (fun c4 => ?_)
  · have hf := it_t c4 hf
    refine lv_iload_n hx hb dX9_unsurePages_31 rfl (lv_at hl 2 rfl) ?_
    have hf := sm_e hf
    exact oiret hC hr hlk h (by rw [← hf]) dX9_unsurePages_32
  · have hf := it_f c4 hf
    refine lv_iload_n hx hb dX9_unsurePages_11 rfl (lv_at hl 2 rfl) ?_
    refine lv_aload_n hx hb dX9_unsurePages_12 rfl (lv_at hl 0 rfl) ?_
    refine xget hC h.o (C := RX9) (T := TX9) (N := 17) (wM_us uw_X9) 0 (Nat.le_of_ble_eq_true rfl) eMod_0 rfl 0 (by decide) (wM_in fl_X9_7) rfl dX9_unsurePages_13 ?_
    refine lv_sipush (v := (512 : Int32)) hx hb dX9_unsurePages_16 (by decide) ?_
    refine lv_iload hx hb dX9_unsurePages_19 (lv_at hl 3 rfl) ?_
    refine lv_iadd hx hb dX9_unsurePages_21 ?_
    obtain ⟨hi5, hf⟩ := ck_e hf
    refine xiald hC h.o 1 (Nat.le_of_ble_eq_true rfl) eMod_1 hi5 dX9_unsurePages_22 ?_
    refine lv_iadd hx hb dX9_unsurePages_23 ?_
    obtain ⟨x6, ex6, hf⟩ := lt_e hf
    refine lv_nm ex6 ?_
    refine lv_istore_n (lv' := [(3, .int x6), (0, .ref (q 0)), (2, .int p2), (4, .int a2)]) hx hb dX9_unsurePages_24 rfl hl (by decide) rfl (fun ls hl => ?_)
    refine lv_iinc (v := (a2 + 1)) (lv' := [(4, .int (a2 + 1)), (3, .int x6), (0, .ref (q 0)), (2, .int p2)]) hx hb dX9_unsurePages_25 hl (k := 3) rfl rfl (by decide) rfl (fun ls hl => ?_)
    refine lv_goto (tgt := 5) hx hb dX9_unsurePages_28 (by decide) ?_
    exact hrec3 (x6, (a2 + 1)) hf H locs h ls (lv_sub hl [2, 3, 1, 0] rfl)
def m_X9_ordersFor (v : xSt) (p1 : Int32) : Option (Int32) := lp (fun (rec3 : Int32 × Int32 → Option (Int32)) => un2 (fun (a1 : Int32) (a2 : Int32) => ck (¬ ((580 : Int32) < 0 ∨ 797 ≤ (580 : Int32).toNatClampNeg)) ((if (v 1 (580 : Int32).toNatClampNeg) ≤ a2 then some a1 else ob (m_X9_sectorAt v a2) (fun r7 => lt (fun (t8 : Int32) (t9 : Int32) => rec3 ((t8 + t9), (a2 + 1))) (fun j10 => (if r7 = p1 then j10 a1 (1 : Int32) else j10 a1 (0 : Int32)))))))) xF ((0 : Int32), (0 : Int32))
set_option maxHeartbeats 4000000 in
set_option maxRecDepth 100000 in
theorem c_X9_ordersFor (l : Launch) (G : xGl) (q : Nat → Nat) (v : xSt) (p1 : Int32) {z : (Int32)} (hf : m_X9_ordersFor v p1 = some z) : mRO l yX9_ordersFor (wM yX9_ordersFor cX9_ordersFor 4 (some .int)) { frames := 2, cells := 0, slots := 0, locals := 43 } G (eMod G) 8 q v [.ref (q 0), .int p1] (qI z) := by
  refine xRO (cc := cX9_ordersFor) (maxL := 4) (ret := (some .int)) (by decide) rfl (Nat.le_of_ble_eq_true rfl) ?_
  intro p e s m below meth c ls A hC hr hlk h hl
  have hx := hC.1
  have hb := hC.2.1
  have hl : lv_has ls 4 [(0, .ref (q 0)), (1, .int p1)] := hl
  unfold m_X9_ordersFor at hf
  obtain ⟨H, hH⟩ : ∃ H, H = s.heap := ⟨_, rfl⟩
  obtain ⟨locs, hlo⟩ : ∃ x : List Loc, x = [] := ⟨_, rfl⟩
  have h : ho G (eMod G) 8 q v A s H locs := by rw [hH, hlo]; exact h
  rw [← hlo, ← hH]
  clear hH hlo
  refine lv_iconst (v := (0 : Int32)) hx hb dX9_ordersFor_0 (by decide) ?_
  refine lv_istore_n (lv' := [(2, .int (0 : Int32)), (0, .ref (q 0)), (1, .int p1)]) hx hb dX9_ordersFor_1 rfl hl (by decide) rfl (fun ls hl => ?_)
  refine lv_iconst (v := (0 : Int32)) hx hb dX9_ordersFor_2 (by decide) ?_
  refine lv_istore_n (lv' := [(3, .int (0 : Int32)), (2, .int (0 : Int32)), (0, .ref (q 0)), (1, .int p1)]) hx hb dX9_ordersFor_3 rfl hl (by decide) rfl (fun ls hl => ?_)
  refine lp_i (z := z) (P := fun (pp : Int32 × Int32) => ∀ (H : Heap) (locs : List Loc), ho G (eMod G) 8 q v A s H locs → ∀ (ls : Array Slot), lv_has ls 4 [(0, .ref (q 0)), (1, .int p1), (2, .int pp.1), (3, .int pp.2)] → W p l e { frames := 2, cells := 0, slots := 0, locals := 43 } s m [.ref (q 0), .int p1].toArray below meth c H locs 0 0 (MQ below ((qI z) (fun _ => True) A) [.ref (q 0), .int p1].toArray s 0 0 A) (F0 m 4 ls [])) ?_ _ _ hf H locs h ls (lv_sub hl [2, 3, 1, 0] rfl)
  intro rec3 hrec3 pp hf H locs h ls hl
  obtain ⟨a1, a2⟩ := pp
  have h : ho G (eMod G) 8 q v A s H locs := h
  have hl : lv_has ls 4 [(0, .ref (q 0)), (1, .int p1), (2, .int a1), (3, .int a2)] := hl
  have hf := un2_e hf
  refine lv_iload_n hx hb dX9_ordersFor_4 rfl (lv_at hl 3 rfl) ?_
  refine lv_aload_n hx hb dX9_ordersFor_5 rfl (lv_at hl 0 rfl) ?_
  refine xget hC h.o (C := RX9) (T := TX9) (N := 17) (wM_us uw_X9) 0 (Nat.le_of_ble_eq_true rfl) eMod_0 rfl 0 (by decide) (wM_in fl_X9_7) rfl dX9_ordersFor_6 ?_
  refine lv_sipush (v := (580 : Int32)) hx hb dX9_ordersFor_9 (by decide) ?_
  obtain ⟨hi4, hf⟩ := ck_e hf
  refine xiald hC h.o 1 (Nat.le_of_ble_eq_true rfl) eMod_1 hi4 dX9_ordersFor_12 ?_
  refine lv_icmp_ge (tgt := 39) hx hb dX9_ordersFor_13 (by decide) (fun c5 => ?_) (fun c5 => ?_)
  · have hf := it_t c5 hf
    refine lv_iload_n hx hb dX9_ordersFor_39 rfl (lv_at hl 2 rfl) ?_
    have hf := sm_e hf
    exact oiret hC hr hlk h (by rw [← hf]) dX9_ordersFor_40
  · have hf := it_f c5 hf
    refine lv_iload_n hx hb dX9_ordersFor_16 rfl (lv_at hl 2 rfl) ?_
    refine lv_aload_n hx hb dX9_ordersFor_17 rfl (lv_at hl 0 rfl) ?_
    refine lv_iload_n hx hb dX9_ordersFor_18 rfl (lv_at hl 3 rfl) ?_
    obtain ⟨r7, hy6, hf⟩ := ob_e hf
    refine xiO h (va_runV (As := [.int a2]) (rest := [.int a1]) hC (c_X9_sectorAt l G q v a2 hy6 H.size) (xcwV hC lk_X9_96 in_X9 co_X9_sectorAt im_X9_sectorAt se_X9_sectorAt rfl rfl dd_X9_sectorAt ⟨Nat.le_of_ble_eq_true rfl, Nat.le_of_ble_eq_true rfl⟩) (preVO0 h.o (Nat.le_of_ble_eq_true rfl) eMod_0 rfl [.int a2]) rfl rfl hl.1 rfl (lv_room (Nat.le_of_ble_eq_true rfl)) dX9_ordersFor_19 ⟨Nat.zero_le _, Nat.zero_le _⟩) (fun H locs h => ?_)
    refine lv_iload_n hx hb dX9_ordersFor_22 rfl (lv_at hl 1 rfl) ?_
    obtain ⟨j10, ej10, hf⟩ := lt_e hf
    have hj10 : ∀ (t8 : Int32) (t9 : Int32) (H : Heap) (locs : List Loc), ho G (eMod G) 8 q v A s H locs → ∀ (ls : Array Slot), lv_has ls 4 [(0, .ref (q 0)), (1, .int p1), (3, .int a2)] → j10 t8 t9 = some z → W p l e { frames := 2, cells := 0, slots := 0, locals := 43 } s m [.ref (q 0), .int p1].toArray below meth c H locs 0 0 (MQ below ((qI z) (fun _ => True) A) [.ref (q 0), .int p1].toArray s 0 0 A) (F0 m 31 ls [.int t9, .int t8]) := by
      intro t8 t9 H locs h ls hl hf
      rw [ej10] at hf
      refine lv_iadd hx hb dX9_ordersFor_31 ?_
      refine lv_istore_n (lv' := [(2, .int (t8 + t9)), (0, .ref (q 0)), (1, .int p1), (3, .int a2)]) hx hb dX9_ordersFor_32 rfl hl (by decide) rfl (fun ls hl => ?_)
      refine lv_iinc (v := (a2 + 1)) (lv' := [(3, .int (a2 + 1)), (2, .int (t8 + t9)), (0, .ref (q 0)), (1, .int p1)]) hx hb dX9_ordersFor_33 hl (k := 3) rfl rfl (by decide) rfl (fun ls hl => ?_)
      refine lv_goto (tgt := 4) hx hb dX9_ordersFor_36 (by decide) ?_
      exact hrec3 ((t8 + t9), (a2 + 1)) hf H locs h ls (lv_sub hl [2, 3, 1, 0] rfl)
    refine lv_icmp_ne (tgt := 30) hx hb dX9_ordersFor_23 (by decide) (fun c11 => ?_) (fun c11 => ?_)
    · have hf := it_f c11 hf
      refine lv_iconst (v := (0 : Int32)) hx hb dX9_ordersFor_30 (by decide) ?_
      exact hj10 a1 (0 : Int32) H locs h ls (lv_sub hl [0, 1, 3] rfl) hf
    · have hf := it_t c11 hf
      refine lv_iconst (v := (1 : Int32)) hx hb dX9_ordersFor_26 (by decide) ?_
      refine lv_goto (tgt := 31) hx hb dX9_ordersFor_27 (by decide) ?_
      exact hj10 a1 (1 : Int32) H locs h ls (lv_sub hl [0, 1, 3] rfl) hf
def m_X9_sectorTold (v : xSt) (p1 : Int32) (p2 : Int32) : Option (Int32) := (if p2 = 0 then ck (¬ (((544 : Int32) + p1) < 0 ∨ 797 ≤ ((544 : Int32) + p1).toNatClampNeg)) (some (v 1 ((544 : Int32) + p1).toNatClampNeg)) else (if p2 = 1 then ob (m_X9_isLocked v p1) (fun r5 => (if r5 = 0 then some (0 : Int32) else some (1 : Int32))) else (if p2 = 2 then ob (m_X9_onesFrom v ((32 : Int32) * p1) (((32 : Int32) * p1) + (32 : Int32))) (fun r10 => some r10) else (if p2 = 3 then ob (m_X9_usedPages v p1) (fun r13 => some r13) else (if p2 = 4 then ob (m_X9_unsurePages v ((4 : Int32) * p1) (((4 : Int32) * p1) + (4 : Int32))) (fun r16 => some r16) else (if p2 = 5 then ob (m_X9_eraseTicks v p1) (fun r19 => some r19) else ob (m_X9_ordersFor v p1) (fun r21 => some r21)))))))
set_option maxHeartbeats 4000000 in
set_option maxRecDepth 100000 in
theorem c_X9_sectorTold (l : Launch) (G : xGl) (q : Nat → Nat) (v : xSt) (p1 : Int32) (p2 : Int32) {z : (Int32)} (hf : m_X9_sectorTold v p1 p2 = some z) : mRO l yX9_sectorTold (wM yX9_sectorTold cX9_sectorTold 3 (some .int)) { frames := 3, cells := 0, slots := 0, locals := 69 } G (eMod G) 8 q v [.ref (q 0), .int p1, .int p2] (qI z) := by
  refine xRO (cc := cX9_sectorTold) (maxL := 3) (ret := (some .int)) (by decide) rfl (Nat.le_of_ble_eq_true rfl) ?_
  intro p e s m below meth c ls A hC hr hlk h hl
  have hx := hC.1
  have hb := hC.2.1
  have hl : lv_has ls 3 [(0, .ref (q 0)), (1, .int p1), (2, .int p2)] := hl
  unfold m_X9_sectorTold at hf
  obtain ⟨H, hH⟩ : ∃ H, H = s.heap := ⟨_, rfl⟩
  obtain ⟨locs, hlo⟩ : ∃ x : List Loc, x = [] := ⟨_, rfl⟩
  have h : ho G (eMod G) 8 q v A s H locs := by rw [hH, hlo]; exact h
  rw [← hlo, ← hH]
  clear hH hlo
  refine lv_iload_n hx hb dX9_sectorTold_0 rfl (lv_at hl 2 rfl) ?_
  by_cases c1 : p2 = 0
  · have hf := it_t c1 hf
    refine lv_tableIn (off := 39) (tgt := 40) hx hb dX9_sectorTold_1 (by rw [c1]; decide) (by rw [c1]; decide) (by rw [c1]; decide) (by decide) ?_
    refine lv_aload_n hx hb dX9_sectorTold_40 rfl (lv_at hl 0 rfl) ?_
    refine xget hC h.o (C := RX9) (T := TX9) (N := 17) (wM_us uw_X9) 0 (Nat.le_of_ble_eq_true rfl) eMod_0 rfl 0 (by decide) (wM_in fl_X9_7) rfl dX9_sectorTold_41 ?_
    refine lv_sipush (v := (544 : Int32)) hx hb dX9_sectorTold_44 (by decide) ?_
    refine lv_iload_n hx hb dX9_sectorTold_47 rfl (lv_at hl 1 rfl) ?_
    refine lv_iadd hx hb dX9_sectorTold_48 ?_
    obtain ⟨hi2, hf⟩ := ck_e hf
    refine xiald hC h.o 1 (Nat.le_of_ble_eq_true rfl) eMod_1 hi2 dX9_sectorTold_49 ?_
    have hf := sm_e hf
    exact oiret hC hr hlk h (by rw [← hf]) dX9_sectorTold_50
  have hf := it_f c1 hf
  by_cases c3 : p2 = 1
  · have hf := it_t c3 hf
    refine lv_tableIn (off := 50) (tgt := 51) hx hb dX9_sectorTold_1 (by rw [c3]; decide) (by rw [c3]; decide) (by rw [c3]; decide) (by decide) ?_
    refine lv_aload_n hx hb dX9_sectorTold_51 rfl (lv_at hl 0 rfl) ?_
    refine lv_iload_n hx hb dX9_sectorTold_52 rfl (lv_at hl 1 rfl) ?_
    obtain ⟨r5, hy4, hf⟩ := ob_e hf
    refine xzO h (va_runV (As := [.int p1]) (rest := []) hC (c_X9_isLocked l G q v p1 hy4 H.size) (xcwV hC lk_X9_99 in_X9 co_X9_isLocked im_X9_isLocked se_X9_isLocked rfl rfl dd_X9_isLocked ⟨Nat.le_of_ble_eq_true rfl, Nat.le_of_ble_eq_true rfl⟩) (preVO0 h.o (Nat.le_of_ble_eq_true rfl) eMod_0 rfl [.int p1]) rfl rfl hl.1 rfl (lv_room (Nat.le_of_ble_eq_true rfl)) dX9_sectorTold_53 ⟨Nat.zero_le _, Nat.zero_le _⟩) (fun H locs hz6 h => ?_)
    refine lv_if_eq (tgt := 63) hx hb dX9_sectorTold_56 (by decide) (fun c7 => ?_) (fun c7 => ?_)
    · have hf := it_t c7 hf
      refine lv_iconst (v := (0 : Int32)) hx hb dX9_sectorTold_63 (by decide) ?_
      have hf := sm_e hf
      exact oiret hC hr hlk h (by rw [← hf]) dX9_sectorTold_64
    · have hf := it_f c7 hf
      refine lv_iconst (v := (1 : Int32)) hx hb dX9_sectorTold_59 (by decide) ?_
      refine lv_goto (tgt := 64) hx hb dX9_sectorTold_60 (by decide) ?_
      have hf := sm_e hf
      exact oiret hC hr hlk h (by rw [← hf]) dX9_sectorTold_64
  have hf := it_f c3 hf
  by_cases c8 : p2 = 2
  · have hf := it_t c8 hf
    refine lv_tableIn (off := 64) (tgt := 65) hx hb dX9_sectorTold_1 (by rw [c8]; decide) (by rw [c8]; decide) (by rw [c8]; decide) (by decide) ?_
    refine lv_aload_n hx hb dX9_sectorTold_65 rfl (lv_at hl 0 rfl) ?_
    refine lv_bipush (v := (32 : Int32)) hx hb dX9_sectorTold_66 (by decide) ?_
    refine lv_iload_n hx hb dX9_sectorTold_68 rfl (lv_at hl 1 rfl) ?_
    refine lv_imul hx hb dX9_sectorTold_69 ?_
    refine lv_bipush (v := (32 : Int32)) hx hb dX9_sectorTold_70 (by decide) ?_
    refine lv_iload_n hx hb dX9_sectorTold_72 rfl (lv_at hl 1 rfl) ?_
    refine lv_imul hx hb dX9_sectorTold_73 ?_
    refine lv_bipush (v := (32 : Int32)) hx hb dX9_sectorTold_74 (by decide) ?_
    refine lv_iadd hx hb dX9_sectorTold_76 ?_
    obtain ⟨r10, hy9, hf⟩ := ob_e hf
    refine xiO h (va_runV (As := [.int ((32 : Int32) * p1), .int (((32 : Int32) * p1) + (32 : Int32))]) (rest := []) hC (c_X9_onesFrom l G q v ((32 : Int32) * p1) (((32 : Int32) * p1) + (32 : Int32)) hy9 H.size) (xcwV hC lk_X9_241 in_X9 co_X9_onesFrom im_X9_onesFrom se_X9_onesFrom rfl rfl dd_X9_onesFrom ⟨Nat.le_of_ble_eq_true rfl, Nat.le_of_ble_eq_true rfl⟩) (preVO0 h.o (Nat.le_of_ble_eq_true rfl) eMod_0 rfl [.int ((32 : Int32) * p1), .int (((32 : Int32) * p1) + (32 : Int32))]) rfl rfl hl.1 rfl (lv_room (Nat.le_of_ble_eq_true rfl)) dX9_sectorTold_77 ⟨Nat.zero_le _, Nat.zero_le _⟩) (fun H locs h => ?_)
    have hf := sm_e hf
    exact oiret hC hr hlk h (by rw [← hf]) dX9_sectorTold_80
  have hf := it_f c8 hf
  by_cases c11 : p2 = 3
  · have hf := it_t c11 hf
    refine lv_tableIn (off := 80) (tgt := 81) hx hb dX9_sectorTold_1 (by rw [c11]; decide) (by rw [c11]; decide) (by rw [c11]; decide) (by decide) ?_
    refine lv_aload_n hx hb dX9_sectorTold_81 rfl (lv_at hl 0 rfl) ?_
    refine lv_iload_n hx hb dX9_sectorTold_82 rfl (lv_at hl 1 rfl) ?_
    obtain ⟨r13, hy12, hf⟩ := ob_e hf
    refine xiO h (va_runV (As := [.int p1]) (rest := []) hC (c_X9_usedPages l G q v p1 hy12 H.size) (xcwV hC lk_X9_244 in_X9 co_X9_usedPages im_X9_usedPages se_X9_usedPages rfl rfl dd_X9_usedPages ⟨Nat.le_of_ble_eq_true rfl, Nat.le_of_ble_eq_true rfl⟩) (preVO0 h.o (Nat.le_of_ble_eq_true rfl) eMod_0 rfl [.int p1]) rfl rfl hl.1 rfl (lv_room (Nat.le_of_ble_eq_true rfl)) dX9_sectorTold_83 ⟨Nat.zero_le _, Nat.zero_le _⟩) (fun H locs h => ?_)
    have hf := sm_e hf
    exact oiret hC hr hlk h (by rw [← hf]) dX9_sectorTold_86
  have hf := it_f c11 hf
  by_cases c14 : p2 = 4
  · have hf := it_t c14 hf
    refine lv_tableIn (off := 86) (tgt := 87) hx hb dX9_sectorTold_1 (by rw [c14]; decide) (by rw [c14]; decide) (by rw [c14]; decide) (by decide) ?_
    refine lv_aload_n hx hb dX9_sectorTold_87 rfl (lv_at hl 0 rfl) ?_
    refine lv_iconst (v := (4 : Int32)) hx hb dX9_sectorTold_88 (by decide) ?_
    refine lv_iload_n hx hb dX9_sectorTold_89 rfl (lv_at hl 1 rfl) ?_
    refine lv_imul hx hb dX9_sectorTold_90 ?_
    refine lv_iconst (v := (4 : Int32)) hx hb dX9_sectorTold_91 (by decide) ?_
    refine lv_iload_n hx hb dX9_sectorTold_92 rfl (lv_at hl 1 rfl) ?_
    refine lv_imul hx hb dX9_sectorTold_93 ?_
    refine lv_iconst (v := (4 : Int32)) hx hb dX9_sectorTold_94 (by decide) ?_
    refine lv_iadd hx hb dX9_sectorTold_95 ?_
    obtain ⟨r16, hy15, hf⟩ := ob_e hf
    refine xiO h (va_runV (As := [.int ((4 : Int32) * p1), .int (((4 : Int32) * p1) + (4 : Int32))]) (rest := []) hC (c_X9_unsurePages l G q v ((4 : Int32) * p1) (((4 : Int32) * p1) + (4 : Int32)) hy15 H.size) (xcwV hC lk_X9_247 in_X9 co_X9_unsurePages im_X9_unsurePages se_X9_unsurePages rfl rfl dd_X9_unsurePages ⟨Nat.le_of_ble_eq_true rfl, Nat.le_of_ble_eq_true rfl⟩) (preVO0 h.o (Nat.le_of_ble_eq_true rfl) eMod_0 rfl [.int ((4 : Int32) * p1), .int (((4 : Int32) * p1) + (4 : Int32))]) rfl rfl hl.1 rfl (lv_room (Nat.le_of_ble_eq_true rfl)) dX9_sectorTold_96 ⟨Nat.zero_le _, Nat.zero_le _⟩) (fun H locs h => ?_)
    have hf := sm_e hf
    exact oiret hC hr hlk h (by rw [← hf]) dX9_sectorTold_99
  have hf := it_f c14 hf
  by_cases c17 : p2 = 5
  · have hf := it_t c17 hf
    refine lv_tableIn (off := 99) (tgt := 100) hx hb dX9_sectorTold_1 (by rw [c17]; decide) (by rw [c17]; decide) (by rw [c17]; decide) (by decide) ?_
    refine lv_aload_n hx hb dX9_sectorTold_100 rfl (lv_at hl 0 rfl) ?_
    refine lv_iload_n hx hb dX9_sectorTold_101 rfl (lv_at hl 1 rfl) ?_
    obtain ⟨r19, hy18, hf⟩ := ob_e hf
    refine xiO h (va_runV (As := [.int p1]) (rest := []) hC (c_X9_eraseTicks l G q v p1 hy18 H.size) (xcwV hC lk_X9_65 in_X9 co_X9_eraseTicks im_X9_eraseTicks se_X9_eraseTicks rfl rfl dd_X9_eraseTicks ⟨Nat.le_of_ble_eq_true rfl, Nat.le_of_ble_eq_true rfl⟩) (preVO0 h.o (Nat.le_of_ble_eq_true rfl) eMod_0 rfl [.int p1]) rfl rfl hl.1 rfl (lv_room (Nat.le_of_ble_eq_true rfl)) dX9_sectorTold_102 ⟨Nat.zero_le _, Nat.zero_le _⟩) (fun H locs h => ?_)
    have hf := sm_e hf
    exact oiret hC hr hlk h (by rw [← hf]) dX9_sectorTold_105
  have hf := it_f c17 hf
  refine lv_tableOut (tgt := 106) hx hb dX9_sectorTold_1 (by have := xne (k := 0) (by decide) c1; have := xne (k := 1) (by decide) c3; have := xne (k := 2) (by decide) c8; have := xne (k := 3) (by decide) c11; have := xne (k := 4) (by decide) c14; have := xne (k := 5) (by decide) c17; omega) (by decide) ?_
  refine lv_aload_n hx hb dX9_sectorTold_106 rfl (lv_at hl 0 rfl) ?_
  refine lv_iload_n hx hb dX9_sectorTold_107 rfl (lv_at hl 1 rfl) ?_
  obtain ⟨r21, hy20, hf⟩ := ob_e hf
  refine xiO h (va_runV (As := [.int p1]) (rest := []) hC (c_X9_ordersFor l G q v p1 hy20 H.size) (xcwV hC lk_X9_250 in_X9 co_X9_ordersFor im_X9_ordersFor se_X9_ordersFor rfl rfl dd_X9_ordersFor ⟨Nat.le_of_ble_eq_true rfl, Nat.le_of_ble_eq_true rfl⟩) (preVO0 h.o (Nat.le_of_ble_eq_true rfl) eMod_0 rfl [.int p1]) rfl rfl hl.1 rfl (lv_room (Nat.le_of_ble_eq_true rfl)) dX9_sectorTold_108 ⟨Nat.zero_le _, Nat.zero_le _⟩) (fun H locs h => ?_)
  have hf := sm_e hf
  exact oiret hC hr hlk h (by rw [← hf]) dX9_sectorTold_111
def m_X9_sector (v : xSt) (p1 : Int32) (p2 : Int32) : Option (Int32 × xSt) := lt (st2 v 0 8 (0 : Int32)) (fun v1 => (if (xwi p1 0 7) = 0 then ob (m_X9_fails v1 (1 : Int32)) (fun r12 => lt (r12.2) (fun v13 => some (r12.1, v13))) else (if (xwi p2 (0 : Int32) (6 : Int32)) = 0 then ob (m_X9_fails v1 (2 : Int32)) (fun r7 => lt (r7.2) (fun v8 => some (r7.1, v8))) else ob (m_X9_sectorTold v1 p1 p2) (fun r10 => some (r10, v1)))))
set_option maxHeartbeats 4000000 in
set_option maxRecDepth 100000 in
theorem c_X9_sector (l : Launch) (G : xGl) (q : Nat → Nat) (v : xSt) (p1 : Int32) (p2 : Int32) {z : (Int32 × xSt)} (hf : m_X9_sector v p1 p2 = some z) : mRW l yX9_sector (wM yX9_sector cX9_sector 3 (some .int)) { frames := 4, cells := 0, slots := 0, locals := 91 } G (eMod G) 8 q v [.ref (q 0), .int p1, .int p2] (qI z.1) z.2 := by
  refine xRW (cc := cX9_sector) (maxL := 3) (ret := (some .int)) (by decide) rfl (Nat.le_of_ble_eq_true rfl) ?_
  intro p e s m below meth c ls A hC hr hlk h hl
  have hx := hC.1
  have hb := hC.2.1
  have hl : lv_has ls 3 [(0, .ref (q 0)), (1, .int p1), (2, .int p2)] := hl
  unfold m_X9_sector at hf
  obtain ⟨H, hH⟩ : ∃ H, H = s.heap := ⟨_, rfl⟩
  obtain ⟨locs, hlo⟩ : ∃ x : List Loc, x = [] := ⟨_, rfl⟩
  have h : hg G (eMod G) 8 q v A s H locs := by rw [hH, hlo]; exact h
  rw [← hlo, ← hH]
  clear hH hlo
  refine lv_aload_n hx hb dX9_sector_0 rfl (lv_at hl 0 rfl) ?_
  refine lv_iconst (v := (0 : Int32)) hx hb dX9_sector_1 (by decide) ?_
  refine xput hC h (C := RX9) (T := TX9) (N := 17) (wM_us uw_X9) tyX9_ok nmX9 0 (Nat.le_of_ble_eq_true rfl) eMod_0 rfl 8 (by decide) (wM_in fl_X9_31) rfl (ty := .int) (tyX9_ok 8 (by decide)) rfl rfl (Nat.le_of_ble_eq_true rfl) (eMod_0.trans rfl) dX9_sector_2 (fun H locs h => ?_)
  obtain ⟨v1, ev1, hf⟩ := lt_e hf
  rw [← ev1] at h
  refine lv_iload_n hx hb dX9_sector_5 rfl (lv_at hl 1 rfl) ?_
  refine xzG h (va_runS (As := [.int p1]) (rest := []) hC (k_X9_isSector l G q v1 p1 H.size) (xcwS hC lk_X9_157 in_X9 co_X9_isSector st_X9_isSector rfl rfl dd_X9_isSector ⟨Nat.le_of_ble_eq_true rfl, Nat.le_of_ble_eq_true rfl⟩) (preSN h.o [.int p1]) rfl rfl hl.1 rfl (lv_room (Nat.le_of_ble_eq_true rfl)) dX9_sector_6 ⟨Nat.zero_le _, Nat.zero_le _⟩) (fun H locs hz2 h => ?_)
  refine lv_if_ne (tgt := 18) hx hb dX9_sector_9 (by decide) (fun c3 => ?_) (fun c3 => ?_)
  · have hf := it_f c3 hf
    refine lv_iload_n hx hb dX9_sector_18 rfl (lv_at hl 2 rfl) ?_
    refine lv_iconst (v := (0 : Int32)) hx hb dX9_sector_19 (by decide) ?_
    refine lv_bipush (v := (6 : Int32)) hx hb dX9_sector_20 (by decide) ?_
    refine xzG h (va_runS (As := [.int p2, .int (0 : Int32), .int (6 : Int32)]) (rest := []) hC (k_X9_in l G q v1 p2 (0 : Int32) (6 : Int32) H.size) (xcwS hC lk_X9_42 in_X9 co_X9_in st_X9_in rfl rfl dd_X9_in ⟨Nat.le_of_ble_eq_true rfl, Nat.le_of_ble_eq_true rfl⟩) (preSN h.o [.int p2, .int (0 : Int32), .int (6 : Int32)]) rfl rfl hl.1 rfl (lv_room (Nat.le_of_ble_eq_true rfl)) dX9_sector_22 ⟨Nat.zero_le _, Nat.zero_le _⟩) (fun H locs hz4 h => ?_)
    refine lv_if_eq (tgt := 37) hx hb dX9_sector_25 (by decide) (fun c5 => ?_) (fun c5 => ?_)
    · have hf := it_t c5 hf
      refine lv_aload_n hx hb dX9_sector_37 rfl (lv_at hl 0 rfl) ?_
      refine lv_iconst (v := (2 : Int32)) hx hb dX9_sector_38 (by decide) ?_
      obtain ⟨r7, hy6, hf⟩ := ob_e hf
      refine xi0 h (va_runV (As := [.int (2 : Int32)]) (rest := []) hC (c_X9_fails l G q v1 (2 : Int32) hy6 H.size) (xcwV hC lk_X9_142 in_X9 co_X9_fails im_X9_fails se_X9_fails rfl rfl dd_X9_fails ⟨Nat.le_of_ble_eq_true rfl, Nat.le_of_ble_eq_true rfl⟩) (preV0 h (Nat.le_of_ble_eq_true rfl) eMod_0 rfl [.int (2 : Int32)]) rfl rfl hl.1 rfl (lv_room (Nat.le_of_ble_eq_true rfl)) dX9_sector_39 ⟨Nat.zero_le _, Nat.zero_le _⟩) (fun H locs h => ?_)
      obtain ⟨v8, ev8, hf⟩ := lt_e hf
      rw [← ev8] at h
      have hf := sm_e hf
      exact xiret hC hr hlk h (by rw [← hf]) (by rw [← hf]) dX9_sector_42
    · have hf := it_f c5 hf
      refine lv_aload_n hx hb dX9_sector_28 rfl (lv_at hl 0 rfl) ?_
      refine lv_iload_n hx hb dX9_sector_29 rfl (lv_at hl 1 rfl) ?_
      refine lv_iload_n hx hb dX9_sector_30 rfl (lv_at hl 2 rfl) ?_
      obtain ⟨r10, hy9, hf⟩ := ob_e hf
      refine xiG h (va_runV (As := [.int p1, .int p2]) (rest := []) hC (c_X9_sectorTold l G q v1 p1 p2 hy9 H.size) (xcwV hC lk_X9_253 in_X9 co_X9_sectorTold im_X9_sectorTold se_X9_sectorTold rfl rfl dd_X9_sectorTold ⟨Nat.le_of_ble_eq_true rfl, Nat.le_of_ble_eq_true rfl⟩) (preVO0 h.o (Nat.le_of_ble_eq_true rfl) eMod_0 rfl [.int p1, .int p2]) rfl rfl hl.1 rfl (lv_room (Nat.le_of_ble_eq_true rfl)) dX9_sector_31 ⟨Nat.zero_le _, Nat.zero_le _⟩) (fun H locs h => ?_)
      refine lv_goto (tgt := 42) hx hb dX9_sector_34 (by decide) ?_
      have hf := sm_e hf
      exact xiret hC hr hlk h (by rw [← hf]) (by rw [← hf]) dX9_sector_42
  · have hf := it_t c3 hf
    refine lv_aload_n hx hb dX9_sector_12 rfl (lv_at hl 0 rfl) ?_
    refine lv_iconst (v := (1 : Int32)) hx hb dX9_sector_13 (by decide) ?_
    obtain ⟨r12, hy11, hf⟩ := ob_e hf
    refine xi0 h (va_runV (As := [.int (1 : Int32)]) (rest := []) hC (c_X9_fails l G q v1 (1 : Int32) hy11 H.size) (xcwV hC lk_X9_142 in_X9 co_X9_fails im_X9_fails se_X9_fails rfl rfl dd_X9_fails ⟨Nat.le_of_ble_eq_true rfl, Nat.le_of_ble_eq_true rfl⟩) (preV0 h (Nat.le_of_ble_eq_true rfl) eMod_0 rfl [.int (1 : Int32)]) rfl rfl hl.1 rfl (lv_room (Nat.le_of_ble_eq_true rfl)) dX9_sector_14 ⟨Nat.zero_le _, Nat.zero_le _⟩) (fun H locs h => ?_)
    obtain ⟨v13, ev13, hf⟩ := lt_e hf
    rw [← ev13] at h
    have hf := sm_e hf
    exact xiret hC hr hlk h (by rw [← hf]) (by rw [← hf]) dX9_sector_17
def m_X9_workTold (v : xSt) (p1 : Int32) (p2 : Int32) : Option (Int32) := ck (¬ ((((581 : Int32) + ((18 : Int32) * p1)) + (0 : Int32)) < 0 ∨ 797 ≤ (((581 : Int32) + ((18 : Int32) * p1)) + (0 : Int32)).toNatClampNeg)) (lt (fun (t2 : Int32) => (if p2 = 0 then ck (¬ ((((581 : Int32) + ((18 : Int32) * p1)) + (0 : Int32)) < 0 ∨ 797 ≤ (((581 : Int32) + ((18 : Int32) * p1)) + (0 : Int32)).toNatClampNeg)) (some (v 1 (((581 : Int32) + ((18 : Int32) * p1)) + (0 : Int32)).toNatClampNeg)) else (if p2 = 1 then (if t2 = 0 then some (-1 : Int32) else ck (¬ ((((581 : Int32) + ((18 : Int32) * p1)) + (1 : Int32)) < 0 ∨ 797 ≤ (((581 : Int32) + ((18 : Int32) * p1)) + (1 : Int32)).toNatClampNeg)) (some (v 1 (((581 : Int32) + ((18 : Int32) * p1)) + (1 : Int32)).toNatClampNeg))) else (if p2 = 2 then ck (¬ ((((581 : Int32) + ((18 : Int32) * p1)) + (3 : Int32)) < 0 ∨ 797 ≤ (((581 : Int32) + ((18 : Int32) * p1)) + (3 : Int32)).toNatClampNeg)) (ck (¬ ((((581 : Int32) + ((18 : Int32) * p1)) + (2 : Int32)) < 0 ∨ 797 ≤ (((581 : Int32) + ((18 : Int32) * p1)) + (2 : Int32)).toNatClampNeg)) (some ((v 1 (((581 : Int32) + ((18 : Int32) * p1)) + (3 : Int32)).toNatClampNeg) - (v 1 (((581 : Int32) + ((18 : Int32) * p1)) + (2 : Int32)).toNatClampNeg)))) else (if p2 = 3 then (if t2 = 0 then some (-1 : Int32) else ck (¬ ((((581 : Int32) + ((18 : Int32) * p1)) + (5 : Int32)) < 0 ∨ 797 ≤ (((581 : Int32) + ((18 : Int32) * p1)) + (5 : Int32)).toNatClampNeg)) (some (v 1 (((581 : Int32) + ((18 : Int32) * p1)) + (5 : Int32)).toNatClampNeg))) else ck (¬ ((((581 : Int32) + ((18 : Int32) * p1)) + (6 : Int32)) < 0 ∨ 797 ≤ (((581 : Int32) + ((18 : Int32) * p1)) + (6 : Int32)).toNatClampNeg)) (some (v 1 (((581 : Int32) + ((18 : Int32) * p1)) + (6 : Int32)).toNatClampNeg))))))) (fun j3 => (if (v 1 (((581 : Int32) + ((18 : Int32) * p1)) + (0 : Int32)).toNatClampNeg) ≤ 0 then j3 (0 : Int32) else j3 (1 : Int32))))
set_option maxHeartbeats 4000000 in
set_option maxRecDepth 100000 in
theorem c_X9_workTold (l : Launch) (G : xGl) (q : Nat → Nat) (v : xSt) (p1 : Int32) (p2 : Int32) {z : (Int32)} (hf : m_X9_workTold v p1 p2 = some z) : mRO l yX9_workTold (wM yX9_workTold cX9_workTold 5 (some .int)) { frames := 0, cells := 0, slots := 0, locals := 0 } G (eMod G) 8 q v [.ref (q 0), .int p1, .int p2] (qI z) := by
  refine xRO (cc := cX9_workTold) (maxL := 5) (ret := (some .int)) (by decide) rfl (Nat.le_of_ble_eq_true rfl) ?_
  intro p e s m below meth c ls A hC hr hlk h hl
  have hx := hC.1
  have hb := hC.2.1
  have hl : lv_has ls 5 [(0, .ref (q 0)), (1, .int p1), (2, .int p2)] := hl
  unfold m_X9_workTold at hf
  obtain ⟨H, hH⟩ : ∃ H, H = s.heap := ⟨_, rfl⟩
  obtain ⟨locs, hlo⟩ : ∃ x : List Loc, x = [] := ⟨_, rfl⟩
  have h : ho G (eMod G) 8 q v A s H locs := by rw [hH, hlo]; exact h
  rw [← hlo, ← hH]
  clear hH hlo
  refine lv_sipush (v := (581 : Int32)) hx hb dX9_workTold_0 (by decide) ?_
  refine lv_bipush (v := (18 : Int32)) hx hb dX9_workTold_3 (by decide) ?_
  refine lv_iload_n hx hb dX9_workTold_5 rfl (lv_at hl 1 rfl) ?_
  refine lv_imul hx hb dX9_workTold_6 ?_
  refine lv_iadd hx hb dX9_workTold_7 ?_
  refine lv_istore_n (lv' := [(3, .int ((581 : Int32) + ((18 : Int32) * p1))), (0, .ref (q 0)), (1, .int p1), (2, .int p2)]) hx hb dX9_workTold_8 rfl hl (by decide) rfl (fun ls hl => ?_)
  refine lv_aload_n hx hb dX9_workTold_9 rfl (lv_at hl 1 rfl) ?_
  refine xget hC h.o (C := RX9) (T := TX9) (N := 17) (wM_us uw_X9) 0 (Nat.le_of_ble_eq_true rfl) eMod_0 rfl 0 (by decide) (wM_in fl_X9_7) rfl dX9_workTold_10 ?_
  refine lv_iload_n hx hb dX9_workTold_13 rfl (lv_at hl 0 rfl) ?_
  refine lv_iconst (v := (0 : Int32)) hx hb dX9_workTold_14 (by decide) ?_
  refine lv_iadd hx hb dX9_workTold_15 ?_
  obtain ⟨hi1, hf⟩ := ck_e hf
  refine xiald hC h.o 1 (Nat.le_of_ble_eq_true rfl) eMod_1 hi1 dX9_workTold_16 ?_
  obtain ⟨j3, ej3, hf⟩ := lt_e hf
  have hj3 : ∀ (t2 : Int32) (H : Heap) (locs : List Loc), ho G (eMod G) 8 q v A s H locs → ∀ (ls : Array Slot), lv_has ls 5 [(0, .ref (q 0)), (2, .int p2), (3, .int ((581 : Int32) + ((18 : Int32) * p1)))] → j3 t2 = some z → W p l e { frames := 0, cells := 0, slots := 0, locals := 0 } s m [.ref (q 0), .int p1, .int p2].toArray below meth c H locs 0 0 (MQ below ((qI z) (fun _ => True) A) [.ref (q 0), .int p1, .int p2].toArray s 0 0 A) (F0 m 25 ls [.int t2]) := by
    intro t2 H locs h ls hl hf
    rw [ej3] at hf
    refine lv_istore (lv' := [(4, .int t2), (0, .ref (q 0)), (2, .int p2), (3, .int ((581 : Int32) + ((18 : Int32) * p1)))]) hx hb dX9_workTold_25 hl (by decide) rfl (fun ls hl => ?_)
    refine lv_iload_n hx hb dX9_workTold_27 rfl (lv_at hl 2 rfl) ?_
    by_cases c4 : p2 = 0
    · have hf := it_t c4 hf
      refine lv_tableIn (off := 32) (tgt := 60) hx hb dX9_workTold_28 (by rw [c4]; decide) (by rw [c4]; decide) (by rw [c4]; decide) (by decide) ?_
      refine lv_aload_n hx hb dX9_workTold_60 rfl (lv_at hl 1 rfl) ?_
      refine xget hC h.o (C := RX9) (T := TX9) (N := 17) (wM_us uw_X9) 0 (Nat.le_of_ble_eq_true rfl) eMod_0 rfl 0 (by decide) (wM_in fl_X9_7) rfl dX9_workTold_61 ?_
      refine lv_iload_n hx hb dX9_workTold_64 rfl (lv_at hl 3 rfl) ?_
      refine lv_iconst (v := (0 : Int32)) hx hb dX9_workTold_65 (by decide) ?_
      refine lv_iadd hx hb dX9_workTold_66 ?_
      obtain ⟨hi5, hf⟩ := ck_e hf
      refine xiald hC h.o 1 (Nat.le_of_ble_eq_true rfl) eMod_1 hi5 dX9_workTold_67 ?_
      have hf := sm_e hf
      exact oiret hC hr hlk h (by rw [← hf]) dX9_workTold_68
    have hf := it_f c4 hf
    by_cases c6 : p2 = 1
    · have hf := it_t c6 hf
      refine lv_tableIn (off := 41) (tgt := 69) hx hb dX9_workTold_28 (by rw [c6]; decide) (by rw [c6]; decide) (by rw [c6]; decide) (by decide) ?_
      refine lv_iload hx hb dX9_workTold_69 (lv_at hl 0 rfl) ?_
      refine lv_if_eq (tgt := 85) hx hb dX9_workTold_71 (by decide) (fun c7 => ?_) (fun c7 => ?_)
      · have hf := it_t c7 hf
        refine lv_iconst (v := (-1 : Int32)) hx hb dX9_workTold_85 (by decide) ?_
        have hf := sm_e hf
        exact oiret hC hr hlk h (by rw [← hf]) dX9_workTold_86
      · have hf := it_f c7 hf
        refine lv_aload_n hx hb dX9_workTold_74 rfl (lv_at hl 1 rfl) ?_
        refine xget hC h.o (C := RX9) (T := TX9) (N := 17) (wM_us uw_X9) 0 (Nat.le_of_ble_eq_true rfl) eMod_0 rfl 0 (by decide) (wM_in fl_X9_7) rfl dX9_workTold_75 ?_
        refine lv_iload_n hx hb dX9_workTold_78 rfl (lv_at hl 3 rfl) ?_
        refine lv_iconst (v := (1 : Int32)) hx hb dX9_workTold_79 (by decide) ?_
        refine lv_iadd hx hb dX9_workTold_80 ?_
        obtain ⟨hi8, hf⟩ := ck_e hf
        refine xiald hC h.o 1 (Nat.le_of_ble_eq_true rfl) eMod_1 hi8 dX9_workTold_81 ?_
        refine lv_goto (tgt := 86) hx hb dX9_workTold_82 (by decide) ?_
        have hf := sm_e hf
        exact oiret hC hr hlk h (by rw [← hf]) dX9_workTold_86
    have hf := it_f c6 hf
    by_cases c9 : p2 = 2
    · have hf := it_t c9 hf
      refine lv_tableIn (off := 59) (tgt := 87) hx hb dX9_workTold_28 (by rw [c9]; decide) (by rw [c9]; decide) (by rw [c9]; decide) (by decide) ?_
      refine lv_aload_n hx hb dX9_workTold_87 rfl (lv_at hl 1 rfl) ?_
      refine xget hC h.o (C := RX9) (T := TX9) (N := 17) (wM_us uw_X9) 0 (Nat.le_of_ble_eq_true rfl) eMod_0 rfl 0 (by decide) (wM_in fl_X9_7) rfl dX9_workTold_88 ?_
      refine lv_iload_n hx hb dX9_workTold_91 rfl (lv_at hl 3 rfl) ?_
      refine lv_iconst (v := (3 : Int32)) hx hb dX9_workTold_92 (by decide) ?_
      refine lv_iadd hx hb dX9_workTold_93 ?_
      obtain ⟨hi10, hf⟩ := ck_e hf
      refine xiald hC h.o 1 (Nat.le_of_ble_eq_true rfl) eMod_1 hi10 dX9_workTold_94 ?_
      refine lv_aload_n hx hb dX9_workTold_95 rfl (lv_at hl 1 rfl) ?_
      refine xget hC h.o (C := RX9) (T := TX9) (N := 17) (wM_us uw_X9) 0 (Nat.le_of_ble_eq_true rfl) eMod_0 rfl 0 (by decide) (wM_in fl_X9_7) rfl dX9_workTold_96 ?_
      refine lv_iload_n hx hb dX9_workTold_99 rfl (lv_at hl 3 rfl) ?_
      refine lv_iconst (v := (2 : Int32)) hx hb dX9_workTold_100 (by decide) ?_
      refine lv_iadd hx hb dX9_workTold_101 ?_
      obtain ⟨hi11, hf⟩ := ck_e hf
      refine xiald hC h.o 1 (Nat.le_of_ble_eq_true rfl) eMod_1 hi11 dX9_workTold_102 ?_
      refine lv_isub hx hb dX9_workTold_103 ?_
      have hf := sm_e hf
      exact oiret hC hr hlk h (by rw [← hf]) dX9_workTold_104
    have hf := it_f c9 hf
    by_cases c12 : p2 = 3
    · have hf := it_t c12 hf
      refine lv_tableIn (off := 77) (tgt := 105) hx hb dX9_workTold_28 (by rw [c12]; decide) (by rw [c12]; decide) (by rw [c12]; decide) (by decide) ?_
      refine lv_iload hx hb dX9_workTold_105 (lv_at hl 0 rfl) ?_
      refine lv_if_eq (tgt := 121) hx hb dX9_workTold_107 (by decide) (fun c13 => ?_) (fun c13 => ?_)
      · have hf := it_t c13 hf
        refine lv_iconst (v := (-1 : Int32)) hx hb dX9_workTold_121 (by decide) ?_
        have hf := sm_e hf
        exact oiret hC hr hlk h (by rw [← hf]) dX9_workTold_122
      · have hf := it_f c13 hf
        refine lv_aload_n hx hb dX9_workTold_110 rfl (lv_at hl 1 rfl) ?_
        refine xget hC h.o (C := RX9) (T := TX9) (N := 17) (wM_us uw_X9) 0 (Nat.le_of_ble_eq_true rfl) eMod_0 rfl 0 (by decide) (wM_in fl_X9_7) rfl dX9_workTold_111 ?_
        refine lv_iload_n hx hb dX9_workTold_114 rfl (lv_at hl 3 rfl) ?_
        refine lv_iconst (v := (5 : Int32)) hx hb dX9_workTold_115 (by decide) ?_
        refine lv_iadd hx hb dX9_workTold_116 ?_
        obtain ⟨hi14, hf⟩ := ck_e hf
        refine xiald hC h.o 1 (Nat.le_of_ble_eq_true rfl) eMod_1 hi14 dX9_workTold_117 ?_
        refine lv_goto (tgt := 122) hx hb dX9_workTold_118 (by decide) ?_
        have hf := sm_e hf
        exact oiret hC hr hlk h (by rw [← hf]) dX9_workTold_122
    have hf := it_f c12 hf
    refine lv_tableOut (tgt := 123) hx hb dX9_workTold_28 (by have := xne (k := 0) (by decide) c4; have := xne (k := 1) (by decide) c6; have := xne (k := 2) (by decide) c9; have := xne (k := 3) (by decide) c12; omega) (by decide) ?_
    refine lv_aload_n hx hb dX9_workTold_123 rfl (lv_at hl 1 rfl) ?_
    refine xget hC h.o (C := RX9) (T := TX9) (N := 17) (wM_us uw_X9) 0 (Nat.le_of_ble_eq_true rfl) eMod_0 rfl 0 (by decide) (wM_in fl_X9_7) rfl dX9_workTold_124 ?_
    refine lv_iload_n hx hb dX9_workTold_127 rfl (lv_at hl 3 rfl) ?_
    refine lv_bipush (v := (6 : Int32)) hx hb dX9_workTold_128 (by decide) ?_
    refine lv_iadd hx hb dX9_workTold_130 ?_
    obtain ⟨hi15, hf⟩ := ck_e hf
    refine xiald hC h.o 1 (Nat.le_of_ble_eq_true rfl) eMod_1 hi15 dX9_workTold_131 ?_
    have hf := sm_e hf
    exact oiret hC hr hlk h (by rw [← hf]) dX9_workTold_132
  refine lv_if_le (tgt := 24) hx hb dX9_workTold_17 (by decide) (fun c16 => ?_) (fun c16 => ?_)
  · have hf := it_t c16 hf
    refine lv_iconst (v := (0 : Int32)) hx hb dX9_workTold_24 (by decide) ?_
    exact hj3 (0 : Int32) H locs h ls (lv_sub hl [1, 3, 0] rfl) hf
  · have hf := it_f c16 hf
    refine lv_iconst (v := (1 : Int32)) hx hb dX9_workTold_20 (by decide) ?_
    refine lv_goto (tgt := 25) hx hb dX9_workTold_21 (by decide) ?_
    exact hj3 (1 : Int32) H locs h ls (lv_sub hl [1, 3, 0] rfl) hf
def m_X9_work (v : xSt) (p1 : Int32) (p2 : Int32) : Option (Int32 × xSt) := lt (st2 v 0 8 (0 : Int32)) (fun v1 => lt (fun (_ : Unit) => ob (m_X9_fails v1 (1 : Int32)) (fun r5 => lt (r5.2) (fun v6 => some (r5.1, v6)))) (fun j3 => (if (xwi p1 (0 : Int32) (1 : Int32)) = 0 then j3 () else (if (xwi p2 (0 : Int32) (4 : Int32)) = 0 then j3 () else ob (m_X9_workTold v1 p1 p2) (fun r11 => some (r11, v1))))))
set_option maxHeartbeats 4000000 in
set_option maxRecDepth 100000 in
theorem c_X9_work (l : Launch) (G : xGl) (q : Nat → Nat) (v : xSt) (p1 : Int32) (p2 : Int32) {z : (Int32 × xSt)} (hf : m_X9_work v p1 p2 = some z) : mRW l yX9_work (wM yX9_work cX9_work 3 (some .int)) { frames := 1, cells := 0, slots := 0, locals := 24 } G (eMod G) 8 q v [.ref (q 0), .int p1, .int p2] (qI z.1) z.2 := by
  refine xRW (cc := cX9_work) (maxL := 3) (ret := (some .int)) (by decide) rfl (Nat.le_of_ble_eq_true rfl) ?_
  intro p e s m below meth c ls A hC hr hlk h hl
  have hx := hC.1
  have hb := hC.2.1
  have hl : lv_has ls 3 [(0, .ref (q 0)), (1, .int p1), (2, .int p2)] := hl
  unfold m_X9_work at hf
  obtain ⟨H, hH⟩ : ∃ H, H = s.heap := ⟨_, rfl⟩
  obtain ⟨locs, hlo⟩ : ∃ x : List Loc, x = [] := ⟨_, rfl⟩
  have h : hg G (eMod G) 8 q v A s H locs := by rw [hH, hlo]; exact h
  rw [← hlo, ← hH]
  clear hH hlo
  refine lv_aload_n hx hb dX9_work_0 rfl (lv_at hl 0 rfl) ?_
  refine lv_iconst (v := (0 : Int32)) hx hb dX9_work_1 (by decide) ?_
  refine xput hC h (C := RX9) (T := TX9) (N := 17) (wM_us uw_X9) tyX9_ok nmX9 0 (Nat.le_of_ble_eq_true rfl) eMod_0 rfl 8 (by decide) (wM_in fl_X9_31) rfl (ty := .int) (tyX9_ok 8 (by decide)) rfl rfl (Nat.le_of_ble_eq_true rfl) (eMod_0.trans rfl) dX9_work_2 (fun H locs h => ?_)
  obtain ⟨v1, ev1, hf⟩ := lt_e hf
  rw [← ev1] at h
  refine lv_iload_n hx hb dX9_work_5 rfl (lv_at hl 1 rfl) ?_
  refine lv_iconst (v := (0 : Int32)) hx hb dX9_work_6 (by decide) ?_
  refine lv_iconst (v := (1 : Int32)) hx hb dX9_work_7 (by decide) ?_
  refine xzG h (va_runS (As := [.int p1, .int (0 : Int32), .int (1 : Int32)]) (rest := []) hC (k_X9_in l G q v1 p1 (0 : Int32) (1 : Int32) H.size) (xcwS hC lk_X9_42 in_X9 co_X9_in st_X9_in rfl rfl dd_X9_in ⟨Nat.le_of_ble_eq_true rfl, Nat.le_of_ble_eq_true rfl⟩) (preSN h.o [.int p1, .int (0 : Int32), .int (1 : Int32)]) rfl rfl hl.1 rfl (lv_room (Nat.le_of_ble_eq_true rfl)) dX9_work_8 ⟨Nat.zero_le _, Nat.zero_le _⟩) (fun H locs hz2 h => ?_)
  obtain ⟨j3, ej3, hf⟩ := lt_e hf
  have hj3 : ∀ (uu : Unit) (H : Heap) (locs : List Loc), hg G (eMod G) 8 q v1 A s H locs → ∀ (ls : Array Slot), lv_has ls 3 [(0, .ref (q 0))] → j3 uu = some z → W p l e { frames := 1, cells := 0, slots := 0, locals := 24 } s m [.ref (q 0), .int p1, .int p2].toArray below meth c H locs 0 0 (MQ below ((qI z.1) (cB G (eMod G) 8 q z.2 A) A) [.ref (q 0), .int p1, .int p2].toArray s 0 0 A) (F0 m 32 ls []) := by
    intro uu H locs h ls hl hf
    rw [ej3] at hf
    refine lv_aload_n hx hb dX9_work_32 rfl (lv_at hl 0 rfl) ?_
    refine lv_iconst (v := (1 : Int32)) hx hb dX9_work_33 (by decide) ?_
    obtain ⟨r5, hy4, hf⟩ := ob_e hf
    refine xi0 h (va_runV (As := [.int (1 : Int32)]) (rest := []) hC (c_X9_fails l G q v1 (1 : Int32) hy4 H.size) (xcwV hC lk_X9_142 in_X9 co_X9_fails im_X9_fails se_X9_fails rfl rfl dd_X9_fails ⟨Nat.le_of_ble_eq_true rfl, Nat.le_of_ble_eq_true rfl⟩) (preV0 h (Nat.le_of_ble_eq_true rfl) eMod_0 rfl [.int (1 : Int32)]) rfl rfl hl.1 rfl (lv_room (Nat.le_of_ble_eq_true rfl)) dX9_work_34 ⟨Nat.zero_le _, Nat.zero_le _⟩) (fun H locs h => ?_)
    obtain ⟨v6, ev6, hf⟩ := lt_e hf
    rw [← ev6] at h
    have hf := sm_e hf
    exact xiret hC hr hlk h (by rw [← hf]) (by rw [← hf]) dX9_work_37
  refine lv_if_eq (tgt := 32) hx hb dX9_work_11 (by decide) (fun c7 => ?_) (fun c7 => ?_)
  · have hf := it_t c7 hf
    exact hj3 () H locs h ls (lv_sub hl [0] rfl) hf
  · have hf := it_f c7 hf
    refine lv_iload_n hx hb dX9_work_14 rfl (lv_at hl 2 rfl) ?_
    refine lv_iconst (v := (0 : Int32)) hx hb dX9_work_15 (by decide) ?_
    refine lv_iconst (v := (4 : Int32)) hx hb dX9_work_16 (by decide) ?_
    refine xzG h (va_runS (As := [.int p2, .int (0 : Int32), .int (4 : Int32)]) (rest := []) hC (k_X9_in l G q v1 p2 (0 : Int32) (4 : Int32) H.size) (xcwS hC lk_X9_42 in_X9 co_X9_in st_X9_in rfl rfl dd_X9_in ⟨Nat.le_of_ble_eq_true rfl, Nat.le_of_ble_eq_true rfl⟩) (preSN h.o [.int p2, .int (0 : Int32), .int (4 : Int32)]) rfl rfl hl.1 rfl (lv_room (Nat.le_of_ble_eq_true rfl)) dX9_work_17 ⟨Nat.zero_le _, Nat.zero_le _⟩) (fun H locs hz8 h => ?_)
    refine lv_if_eq (tgt := 32) hx hb dX9_work_20 (by decide) (fun c9 => ?_) (fun c9 => ?_)
    · have hf := it_t c9 hf
      exact hj3 () H locs h ls (lv_sub hl [0] rfl) hf
    · have hf := it_f c9 hf
      refine lv_aload_n hx hb dX9_work_23 rfl (lv_at hl 0 rfl) ?_
      refine lv_iload_n hx hb dX9_work_24 rfl (lv_at hl 1 rfl) ?_
      refine lv_iload_n hx hb dX9_work_25 rfl (lv_at hl 2 rfl) ?_
      obtain ⟨r11, hy10, hf⟩ := ob_e hf
      refine xiG h (va_runV (As := [.int p1, .int p2]) (rest := []) hC (c_X9_workTold l G q v1 p1 p2 hy10 H.size) (xcwV hC lk_X9_256 in_X9 co_X9_workTold im_X9_workTold se_X9_workTold rfl rfl dd_X9_workTold ⟨Nat.le_of_ble_eq_true rfl, Nat.le_of_ble_eq_true rfl⟩) (preVO0 h.o (Nat.le_of_ble_eq_true rfl) eMod_0 rfl [.int p1, .int p2]) rfl rfl hl.1 rfl (lv_room (Nat.le_of_ble_eq_true rfl)) dX9_work_26 ⟨Nat.zero_le _, Nat.zero_le _⟩) (fun H locs h => ?_)
      refine lv_goto (tgt := 37) hx hb dX9_work_29 (by decide) ?_
      have hf := sm_e hf
      exact xiret hC hr hlk h (by rw [← hf]) (by rw [← hf]) dX9_work_37
def m_X9_orderTold (v : xSt) (p1 : Int32) (p2 : Int32) : Option (Int32) := (if p2 = (4 : Int32) then ck (¬ ((561 : Int32) < 0 ∨ 797 ≤ (561 : Int32).toNatClampNeg)) (ob (m_X9_ofOrder v p1 (4 : Int32)) (fun r6 => some ((v 1 (561 : Int32).toNatClampNeg) - r6))) else ob (m_X9_ofOrder v p1 p2) (fun r3 => some r3))
set_option maxHeartbeats 4000000 in
set_option maxRecDepth 100000 in
theorem c_X9_orderTold (l : Launch) (G : xGl) (q : Nat → Nat) (v : xSt) (p1 : Int32) (p2 : Int32) {z : (Int32)} (hf : m_X9_orderTold v p1 p2 = some z) : mRO l yX9_orderTold (wM yX9_orderTold cX9_orderTold 3 (some .int)) { frames := 1, cells := 0, slots := 0, locals := 22 } G (eMod G) 8 q v [.ref (q 0), .int p1, .int p2] (qI z) := by
  refine xRO (cc := cX9_orderTold) (maxL := 3) (ret := (some .int)) (by decide) rfl (Nat.le_of_ble_eq_true rfl) ?_
  intro p e s m below meth c ls A hC hr hlk h hl
  have hx := hC.1
  have hb := hC.2.1
  have hl : lv_has ls 3 [(0, .ref (q 0)), (1, .int p1), (2, .int p2)] := hl
  unfold m_X9_orderTold at hf
  obtain ⟨H, hH⟩ : ∃ H, H = s.heap := ⟨_, rfl⟩
  obtain ⟨locs, hlo⟩ : ∃ x : List Loc, x = [] := ⟨_, rfl⟩
  have h : ho G (eMod G) 8 q v A s H locs := by rw [hH, hlo]; exact h
  rw [← hlo, ← hH]
  clear hH hlo
  refine lv_iload_n hx hb dX9_orderTold_0 rfl (lv_at hl 2 rfl) ?_
  refine lv_iconst (v := (4 : Int32)) hx hb dX9_orderTold_1 (by decide) ?_
  refine lv_icmp_ne (tgt := 23) hx hb dX9_orderTold_2 (by decide) (fun c1 => ?_) (fun c1 => ?_)
  · have hf := it_f c1 hf
    refine lv_aload_n hx hb dX9_orderTold_23 rfl (lv_at hl 0 rfl) ?_
    refine lv_iload_n hx hb dX9_orderTold_24 rfl (lv_at hl 1 rfl) ?_
    refine lv_iload_n hx hb dX9_orderTold_25 rfl (lv_at hl 2 rfl) ?_
    obtain ⟨r3, hy2, hf⟩ := ob_e hf
    refine xiO h (va_runV (As := [.int p1, .int p2]) (rest := []) hC (c_X9_ofOrder l G q v p1 p2 hy2 H.size) (xcwV hC lk_X9_53 in_X9 co_X9_ofOrder im_X9_ofOrder se_X9_ofOrder rfl rfl dd_X9_ofOrder ⟨Nat.le_of_ble_eq_true rfl, Nat.le_of_ble_eq_true rfl⟩) (preVO0 h.o (Nat.le_of_ble_eq_true rfl) eMod_0 rfl [.int p1, .int p2]) rfl rfl hl.1 rfl (lv_room (Nat.le_of_ble_eq_true rfl)) dX9_orderTold_26 ⟨Nat.zero_le _, Nat.zero_le _⟩) (fun H locs h => ?_)
    have hf := sm_e hf
    exact oiret hC hr hlk h (by rw [← hf]) dX9_orderTold_29
  · have hf := it_t c1 hf
    refine lv_aload_n hx hb dX9_orderTold_5 rfl (lv_at hl 0 rfl) ?_
    refine xget hC h.o (C := RX9) (T := TX9) (N := 17) (wM_us uw_X9) 0 (Nat.le_of_ble_eq_true rfl) eMod_0 rfl 0 (by decide) (wM_in fl_X9_7) rfl dX9_orderTold_6 ?_
    refine lv_sipush (v := (561 : Int32)) hx hb dX9_orderTold_9 (by decide) ?_
    obtain ⟨hi4, hf⟩ := ck_e hf
    refine xiald hC h.o 1 (Nat.le_of_ble_eq_true rfl) eMod_1 hi4 dX9_orderTold_12 ?_
    refine lv_aload_n hx hb dX9_orderTold_13 rfl (lv_at hl 0 rfl) ?_
    refine lv_iload_n hx hb dX9_orderTold_14 rfl (lv_at hl 1 rfl) ?_
    refine lv_iconst (v := (4 : Int32)) hx hb dX9_orderTold_15 (by decide) ?_
    obtain ⟨r6, hy5, hf⟩ := ob_e hf
    refine xiO h (va_runV (As := [.int p1, .int (4 : Int32)]) (rest := [.int (v 1 (561 : Int32).toNatClampNeg)]) hC (c_X9_ofOrder l G q v p1 (4 : Int32) hy5 H.size) (xcwV hC lk_X9_53 in_X9 co_X9_ofOrder im_X9_ofOrder se_X9_ofOrder rfl rfl dd_X9_ofOrder ⟨Nat.le_of_ble_eq_true rfl, Nat.le_of_ble_eq_true rfl⟩) (preVO0 h.o (Nat.le_of_ble_eq_true rfl) eMod_0 rfl [.int p1, .int (4 : Int32)]) rfl rfl hl.1 rfl (lv_room (Nat.le_of_ble_eq_true rfl)) dX9_orderTold_16 ⟨Nat.zero_le _, Nat.zero_le _⟩) (fun H locs h => ?_)
    refine lv_isub hx hb dX9_orderTold_19 ?_
    refine lv_goto (tgt := 29) hx hb dX9_orderTold_20 (by decide) ?_
    have hf := sm_e hf
    exact oiret hC hr hlk h (by rw [← hf]) dX9_orderTold_29
def m_X9_order (v : xSt) (p1 : Int32) (p2 : Int32) : Option (Int32 × xSt) := lt (st2 v 0 8 (0 : Int32)) (fun v1 => ck (¬ ((580 : Int32) < 0 ∨ 797 ≤ (580 : Int32).toNatClampNeg)) ((if (xwi p1 (0 : Int32) ((v1 1 (580 : Int32).toNatClampNeg) - (1 : Int32))) = 0 then ob (m_X9_fails v1 (1 : Int32)) (fun r13 => lt (r13.2) (fun v14 => some (r13.1, v14))) else (if (xwi p2 (0 : Int32) (5 : Int32)) = 0 then ob (m_X9_fails v1 (2 : Int32)) (fun r8 => lt (r8.2) (fun v9 => some (r8.1, v9))) else ob (m_X9_orderTold v1 p1 p2) (fun r11 => some (r11, v1))))))
set_option maxHeartbeats 4000000 in
set_option maxRecDepth 100000 in
theorem c_X9_order (l : Launch) (G : xGl) (q : Nat → Nat) (v : xSt) (p1 : Int32) (p2 : Int32) {z : (Int32 × xSt)} (hf : m_X9_order v p1 p2 = some z) : mRW l yX9_order (wM yX9_order cX9_order 3 (some .int)) { frames := 2, cells := 0, slots := 0, locals := 44 } G (eMod G) 8 q v [.ref (q 0), .int p1, .int p2] (qI z.1) z.2 := by
  refine xRW (cc := cX9_order) (maxL := 3) (ret := (some .int)) (by decide) rfl (Nat.le_of_ble_eq_true rfl) ?_
  intro p e s m below meth c ls A hC hr hlk h hl
  have hx := hC.1
  have hb := hC.2.1
  have hl : lv_has ls 3 [(0, .ref (q 0)), (1, .int p1), (2, .int p2)] := hl
  unfold m_X9_order at hf
  obtain ⟨H, hH⟩ : ∃ H, H = s.heap := ⟨_, rfl⟩
  obtain ⟨locs, hlo⟩ : ∃ x : List Loc, x = [] := ⟨_, rfl⟩
  have h : hg G (eMod G) 8 q v A s H locs := by rw [hH, hlo]; exact h
  rw [← hlo, ← hH]
  clear hH hlo
  refine lv_aload_n hx hb dX9_order_0 rfl (lv_at hl 0 rfl) ?_
  refine lv_iconst (v := (0 : Int32)) hx hb dX9_order_1 (by decide) ?_
  refine xput hC h (C := RX9) (T := TX9) (N := 17) (wM_us uw_X9) tyX9_ok nmX9 0 (Nat.le_of_ble_eq_true rfl) eMod_0 rfl 8 (by decide) (wM_in fl_X9_31) rfl (ty := .int) (tyX9_ok 8 (by decide)) rfl rfl (Nat.le_of_ble_eq_true rfl) (eMod_0.trans rfl) dX9_order_2 (fun H locs h => ?_)
  obtain ⟨v1, ev1, hf⟩ := lt_e hf
  rw [← ev1] at h
  refine lv_iload_n hx hb dX9_order_5 rfl (lv_at hl 1 rfl) ?_
  refine lv_iconst (v := (0 : Int32)) hx hb dX9_order_6 (by decide) ?_
  refine lv_aload_n hx hb dX9_order_7 rfl (lv_at hl 0 rfl) ?_
  refine xget hC h.o (C := RX9) (T := TX9) (N := 17) (wM_us uw_X9) 0 (Nat.le_of_ble_eq_true rfl) eMod_0 rfl 0 (by decide) (wM_in fl_X9_7) rfl dX9_order_8 ?_
  refine lv_sipush (v := (580 : Int32)) hx hb dX9_order_11 (by decide) ?_
  obtain ⟨hi2, hf⟩ := ck_e hf
  refine xiald hC h.o 1 (Nat.le_of_ble_eq_true rfl) eMod_1 hi2 dX9_order_14 ?_
  refine lv_iconst (v := (1 : Int32)) hx hb dX9_order_15 (by decide) ?_
  refine lv_isub hx hb dX9_order_16 ?_
  refine xzG h (va_runS (As := [.int p1, .int (0 : Int32), .int ((v1 1 (580 : Int32).toNatClampNeg) - (1 : Int32))]) (rest := []) hC (k_X9_in l G q v1 p1 (0 : Int32) ((v1 1 (580 : Int32).toNatClampNeg) - (1 : Int32)) H.size) (xcwS hC lk_X9_42 in_X9 co_X9_in st_X9_in rfl rfl dd_X9_in ⟨Nat.le_of_ble_eq_true rfl, Nat.le_of_ble_eq_true rfl⟩) (preSN h.o [.int p1, .int (0 : Int32), .int ((v1 1 (580 : Int32).toNatClampNeg) - (1 : Int32))]) rfl rfl hl.1 rfl (lv_room (Nat.le_of_ble_eq_true rfl)) dX9_order_17 ⟨Nat.zero_le _, Nat.zero_le _⟩) (fun H locs hz3 h => ?_)
  refine lv_if_ne (tgt := 29) hx hb dX9_order_20 (by decide) (fun c4 => ?_) (fun c4 => ?_)
  · have hf := it_f c4 hf
    refine lv_iload_n hx hb dX9_order_29 rfl (lv_at hl 2 rfl) ?_
    refine lv_iconst (v := (0 : Int32)) hx hb dX9_order_30 (by decide) ?_
    refine lv_iconst (v := (5 : Int32)) hx hb dX9_order_31 (by decide) ?_
    refine xzG h (va_runS (As := [.int p2, .int (0 : Int32), .int (5 : Int32)]) (rest := []) hC (k_X9_in l G q v1 p2 (0 : Int32) (5 : Int32) H.size) (xcwS hC lk_X9_42 in_X9 co_X9_in st_X9_in rfl rfl dd_X9_in ⟨Nat.le_of_ble_eq_true rfl, Nat.le_of_ble_eq_true rfl⟩) (preSN h.o [.int p2, .int (0 : Int32), .int (5 : Int32)]) rfl rfl hl.1 rfl (lv_room (Nat.le_of_ble_eq_true rfl)) dX9_order_32 ⟨Nat.zero_le _, Nat.zero_le _⟩) (fun H locs hz5 h => ?_)
    refine lv_if_eq (tgt := 47) hx hb dX9_order_35 (by decide) (fun c6 => ?_) (fun c6 => ?_)
    · have hf := it_t c6 hf
      refine lv_aload_n hx hb dX9_order_47 rfl (lv_at hl 0 rfl) ?_
      refine lv_iconst (v := (2 : Int32)) hx hb dX9_order_48 (by decide) ?_
      obtain ⟨r8, hy7, hf⟩ := ob_e hf
      refine xi0 h (va_runV (As := [.int (2 : Int32)]) (rest := []) hC (c_X9_fails l G q v1 (2 : Int32) hy7 H.size) (xcwV hC lk_X9_142 in_X9 co_X9_fails im_X9_fails se_X9_fails rfl rfl dd_X9_fails ⟨Nat.le_of_ble_eq_true rfl, Nat.le_of_ble_eq_true rfl⟩) (preV0 h (Nat.le_of_ble_eq_true rfl) eMod_0 rfl [.int (2 : Int32)]) rfl rfl hl.1 rfl (lv_room (Nat.le_of_ble_eq_true rfl)) dX9_order_49 ⟨Nat.zero_le _, Nat.zero_le _⟩) (fun H locs h => ?_)
      obtain ⟨v9, ev9, hf⟩ := lt_e hf
      rw [← ev9] at h
      have hf := sm_e hf
      exact xiret hC hr hlk h (by rw [← hf]) (by rw [← hf]) dX9_order_52
    · have hf := it_f c6 hf
      refine lv_aload_n hx hb dX9_order_38 rfl (lv_at hl 0 rfl) ?_
      refine lv_iload_n hx hb dX9_order_39 rfl (lv_at hl 1 rfl) ?_
      refine lv_iload_n hx hb dX9_order_40 rfl (lv_at hl 2 rfl) ?_
      obtain ⟨r11, hy10, hf⟩ := ob_e hf
      refine xiG h (va_runV (As := [.int p1, .int p2]) (rest := []) hC (c_X9_orderTold l G q v1 p1 p2 hy10 H.size) (xcwV hC lk_X9_259 in_X9 co_X9_orderTold im_X9_orderTold se_X9_orderTold rfl rfl dd_X9_orderTold ⟨Nat.le_of_ble_eq_true rfl, Nat.le_of_ble_eq_true rfl⟩) (preVO0 h.o (Nat.le_of_ble_eq_true rfl) eMod_0 rfl [.int p1, .int p2]) rfl rfl hl.1 rfl (lv_room (Nat.le_of_ble_eq_true rfl)) dX9_order_41 ⟨Nat.zero_le _, Nat.zero_le _⟩) (fun H locs h => ?_)
      refine lv_goto (tgt := 52) hx hb dX9_order_44 (by decide) ?_
      have hf := sm_e hf
      exact xiret hC hr hlk h (by rw [← hf]) (by rw [← hf]) dX9_order_52
  · have hf := it_t c4 hf
    refine lv_aload_n hx hb dX9_order_23 rfl (lv_at hl 0 rfl) ?_
    refine lv_iconst (v := (1 : Int32)) hx hb dX9_order_24 (by decide) ?_
    obtain ⟨r13, hy12, hf⟩ := ob_e hf
    refine xi0 h (va_runV (As := [.int (1 : Int32)]) (rest := []) hC (c_X9_fails l G q v1 (1 : Int32) hy12 H.size) (xcwV hC lk_X9_142 in_X9 co_X9_fails im_X9_fails se_X9_fails rfl rfl dd_X9_fails ⟨Nat.le_of_ble_eq_true rfl, Nat.le_of_ble_eq_true rfl⟩) (preV0 h (Nat.le_of_ble_eq_true rfl) eMod_0 rfl [.int (1 : Int32)]) rfl rfl hl.1 rfl (lv_room (Nat.le_of_ble_eq_true rfl)) dX9_order_25 ⟨Nat.zero_le _, Nat.zero_le _⟩) (fun H locs h => ?_)
    obtain ⟨v14, ev14, hf⟩ := lt_e hf
    rw [← ev14] at h
    have hf := sm_e hf
    exact xiret hC hr hlk h (by rw [← hf]) (by rw [← hf]) dX9_order_28
def m_X9_erasures (v : xSt) : Option (Int32) := lp (fun (rec3 : Int32 × Int32 → Option (Int32)) => un2 (fun (a1 : Int32) (a2 : Int32) => (if (8 : Int32) ≤ a2 then some a1 else ck (¬ (((544 : Int32) + a2) < 0 ∨ 797 ≤ ((544 : Int32) + a2).toNatClampNeg)) (lt ((a1 + (v 1 ((544 : Int32) + a2).toNatClampNeg))) (fun x6 => rec3 (x6, (a2 + 1))))))) xF ((0 : Int32), (0 : Int32))
set_option maxHeartbeats 4000000 in
set_option maxRecDepth 100000 in
theorem c_X9_erasures (l : Launch) (G : xGl) (q : Nat → Nat) (v : xSt) {z : (Int32)} (hf : m_X9_erasures v = some z) : mRO l yX9_erasures (wM yX9_erasures cX9_erasures 3 (some .int)) { frames := 0, cells := 0, slots := 0, locals := 0 } G (eMod G) 8 q v [.ref (q 0)] (qI z) := by
  refine xRO (cc := cX9_erasures) (maxL := 3) (ret := (some .int)) (by decide) rfl (Nat.le_of_ble_eq_true rfl) ?_
  intro p e s m below meth c ls A hC hr hlk h hl
  have hx := hC.1
  have hb := hC.2.1
  have hl : lv_has ls 3 [(0, .ref (q 0))] := hl
  unfold m_X9_erasures at hf
  obtain ⟨H, hH⟩ : ∃ H, H = s.heap := ⟨_, rfl⟩
  obtain ⟨locs, hlo⟩ : ∃ x : List Loc, x = [] := ⟨_, rfl⟩
  have h : ho G (eMod G) 8 q v A s H locs := by rw [hH, hlo]; exact h
  rw [← hlo, ← hH]
  clear hH hlo
  refine lv_iconst (v := (0 : Int32)) hx hb dX9_erasures_0 (by decide) ?_
  refine lv_istore_n (lv' := [(1, .int (0 : Int32)), (0, .ref (q 0))]) hx hb dX9_erasures_1 rfl hl (by decide) rfl (fun ls hl => ?_)
  refine lv_iconst (v := (0 : Int32)) hx hb dX9_erasures_2 (by decide) ?_
  refine lv_istore_n (lv' := [(2, .int (0 : Int32)), (1, .int (0 : Int32)), (0, .ref (q 0))]) hx hb dX9_erasures_3 rfl hl (by decide) rfl (fun ls hl => ?_)
  refine lp_i (z := z) (P := fun (pp : Int32 × Int32) => ∀ (H : Heap) (locs : List Loc), ho G (eMod G) 8 q v A s H locs → ∀ (ls : Array Slot), lv_has ls 3 [(0, .ref (q 0)), (1, .int pp.1), (2, .int pp.2)] → W p l e { frames := 0, cells := 0, slots := 0, locals := 0 } s m [.ref (q 0)].toArray below meth c H locs 0 0 (MQ below ((qI z) (fun _ => True) A) [.ref (q 0)].toArray s 0 0 A) (F0 m 4 ls [])) ?_ _ _ hf H locs h ls (lv_sub hl [2, 1, 0] rfl)
  intro rec3 hrec3 pp hf H locs h ls hl
  obtain ⟨a1, a2⟩ := pp
  have h : ho G (eMod G) 8 q v A s H locs := h
  have hl : lv_has ls 3 [(0, .ref (q 0)), (1, .int a1), (2, .int a2)] := hl
  have hf := un2_e hf
  refine lv_iload_n hx hb dX9_erasures_4 rfl (lv_at hl 2 rfl) ?_
  refine lv_bipush (v := (8 : Int32)) hx hb dX9_erasures_5 (by decide) ?_
  refine lv_icmp_ge (tgt := 29) hx hb dX9_erasures_7 (by decide) (fun c4 => ?_) (fun c4 => ?_)
  · have hf := it_t c4 hf
    refine lv_iload_n hx hb dX9_erasures_29 rfl (lv_at hl 1 rfl) ?_
    have hf := sm_e hf
    exact oiret hC hr hlk h (by rw [← hf]) dX9_erasures_30
  · have hf := it_f c4 hf
    refine lv_iload_n hx hb dX9_erasures_10 rfl (lv_at hl 1 rfl) ?_
    refine lv_aload_n hx hb dX9_erasures_11 rfl (lv_at hl 0 rfl) ?_
    refine xget hC h.o (C := RX9) (T := TX9) (N := 17) (wM_us uw_X9) 0 (Nat.le_of_ble_eq_true rfl) eMod_0 rfl 0 (by decide) (wM_in fl_X9_7) rfl dX9_erasures_12 ?_
    refine lv_sipush (v := (544 : Int32)) hx hb dX9_erasures_15 (by decide) ?_
    refine lv_iload_n hx hb dX9_erasures_18 rfl (lv_at hl 2 rfl) ?_
    refine lv_iadd hx hb dX9_erasures_19 ?_
    obtain ⟨hi5, hf⟩ := ck_e hf
    refine xiald hC h.o 1 (Nat.le_of_ble_eq_true rfl) eMod_1 hi5 dX9_erasures_20 ?_
    refine lv_iadd hx hb dX9_erasures_21 ?_
    obtain ⟨x6, ex6, hf⟩ := lt_e hf
    refine lv_nm ex6 ?_
    refine lv_istore_n (lv' := [(1, .int x6), (0, .ref (q 0)), (2, .int a2)]) hx hb dX9_erasures_22 rfl hl (by decide) rfl (fun ls hl => ?_)
    refine lv_iinc (v := (a2 + 1)) (lv' := [(2, .int (a2 + 1)), (1, .int x6), (0, .ref (q 0))]) hx hb dX9_erasures_23 hl (k := 2) rfl rfl (by decide) rfl (fun ls hl => ?_)
    refine lv_goto (tgt := 4) hx hb dX9_erasures_26 (by decide) ?_
    exact hrec3 (x6, (a2 + 1)) hf H locs h ls (lv_sub hl [2, 1, 0] rfl)
def m_X9_stuckBits (v : xSt) : Option (Int32) := lp (fun (rec3 : Int32 × Int32 → Option (Int32)) => un2 (fun (a1 : Int32) (a2 : Int32) => (if (256 : Int32) ≤ a2 then some a1 else ck (¬ (((256 : Int32) + a2) < 0 ∨ 797 ≤ ((256 : Int32) + a2).toNatClampNeg)) (ob (m_X9_ones (v 1 ((256 : Int32) + a2).toNatClampNeg)) (fun r7 => rec3 ((a1 + r7), (a2 + 1))))))) xF ((0 : Int32), (0 : Int32))
set_option maxHeartbeats 4000000 in
set_option maxRecDepth 100000 in
theorem c_X9_stuckBits (l : Launch) (G : xGl) (q : Nat → Nat) (v : xSt) {z : (Int32)} (hf : m_X9_stuckBits v = some z) : mRO l yX9_stuckBits (wM yX9_stuckBits cX9_stuckBits 3 (some .int)) { frames := 1, cells := 0, slots := 0, locals := 22 } G (eMod G) 8 q v [.ref (q 0)] (qI z) := by
  refine xRO (cc := cX9_stuckBits) (maxL := 3) (ret := (some .int)) (by decide) rfl (Nat.le_of_ble_eq_true rfl) ?_
  intro p e s m below meth c ls A hC hr hlk h hl
  have hx := hC.1
  have hb := hC.2.1
  have hl : lv_has ls 3 [(0, .ref (q 0))] := hl
  unfold m_X9_stuckBits at hf
  obtain ⟨H, hH⟩ : ∃ H, H = s.heap := ⟨_, rfl⟩
  obtain ⟨locs, hlo⟩ : ∃ x : List Loc, x = [] := ⟨_, rfl⟩
  have h : ho G (eMod G) 8 q v A s H locs := by rw [hH, hlo]; exact h
  rw [← hlo, ← hH]
  clear hH hlo
  refine lv_iconst (v := (0 : Int32)) hx hb dX9_stuckBits_0 (by decide) ?_
  refine lv_istore_n (lv' := [(1, .int (0 : Int32)), (0, .ref (q 0))]) hx hb dX9_stuckBits_1 rfl hl (by decide) rfl (fun ls hl => ?_)
  refine lv_iconst (v := (0 : Int32)) hx hb dX9_stuckBits_2 (by decide) ?_
  refine lv_istore_n (lv' := [(2, .int (0 : Int32)), (1, .int (0 : Int32)), (0, .ref (q 0))]) hx hb dX9_stuckBits_3 rfl hl (by decide) rfl (fun ls hl => ?_)
  refine lp_i (z := z) (P := fun (pp : Int32 × Int32) => ∀ (H : Heap) (locs : List Loc), ho G (eMod G) 8 q v A s H locs → ∀ (ls : Array Slot), lv_has ls 3 [(0, .ref (q 0)), (1, .int pp.1), (2, .int pp.2)] → W p l e { frames := 1, cells := 0, slots := 0, locals := 22 } s m [.ref (q 0)].toArray below meth c H locs 0 0 (MQ below ((qI z) (fun _ => True) A) [.ref (q 0)].toArray s 0 0 A) (F0 m 4 ls [])) ?_ _ _ hf H locs h ls (lv_sub hl [2, 1, 0] rfl)
  intro rec3 hrec3 pp hf H locs h ls hl
  obtain ⟨a1, a2⟩ := pp
  have h : ho G (eMod G) 8 q v A s H locs := h
  have hl : lv_has ls 3 [(0, .ref (q 0)), (1, .int a1), (2, .int a2)] := hl
  have hf := un2_e hf
  refine lv_iload_n hx hb dX9_stuckBits_4 rfl (lv_at hl 2 rfl) ?_
  refine lv_sipush (v := (256 : Int32)) hx hb dX9_stuckBits_5 (by decide) ?_
  refine lv_icmp_ge (tgt := 33) hx hb dX9_stuckBits_8 (by decide) (fun c4 => ?_) (fun c4 => ?_)
  · have hf := it_t c4 hf
    refine lv_iload_n hx hb dX9_stuckBits_33 rfl (lv_at hl 1 rfl) ?_
    have hf := sm_e hf
    exact oiret hC hr hlk h (by rw [← hf]) dX9_stuckBits_34
  · have hf := it_f c4 hf
    refine lv_iload_n hx hb dX9_stuckBits_11 rfl (lv_at hl 1 rfl) ?_
    refine lv_aload_n hx hb dX9_stuckBits_12 rfl (lv_at hl 0 rfl) ?_
    refine xget hC h.o (C := RX9) (T := TX9) (N := 17) (wM_us uw_X9) 0 (Nat.le_of_ble_eq_true rfl) eMod_0 rfl 0 (by decide) (wM_in fl_X9_7) rfl dX9_stuckBits_13 ?_
    refine lv_sipush (v := (256 : Int32)) hx hb dX9_stuckBits_16 (by decide) ?_
    refine lv_iload_n hx hb dX9_stuckBits_19 rfl (lv_at hl 2 rfl) ?_
    refine lv_iadd hx hb dX9_stuckBits_20 ?_
    obtain ⟨hi5, hf⟩ := ck_e hf
    refine xiald hC h.o 1 (Nat.le_of_ble_eq_true rfl) eMod_1 hi5 dX9_stuckBits_21 ?_
    obtain ⟨r7, hy6, hf⟩ := ob_e hf
    refine xiO h (va_runS (As := [.int (v 1 ((256 : Int32) + a2).toNatClampNeg)]) (rest := [.int a1]) hC (c_X9_ones l G q v (v 1 ((256 : Int32) + a2).toNatClampNeg) hy6 H.size) (xcwS hC lk_X9_78 in_X9 co_X9_ones st_X9_ones rfl rfl dd_X9_ones ⟨Nat.le_of_ble_eq_true rfl, Nat.le_of_ble_eq_true rfl⟩) (preSN h.o [.int (v 1 ((256 : Int32) + a2).toNatClampNeg)]) rfl rfl hl.1 rfl (lv_room (Nat.le_of_ble_eq_true rfl)) dX9_stuckBits_22 ⟨Nat.zero_le _, Nat.zero_le _⟩) (fun H locs h => ?_)
    refine lv_iadd hx hb dX9_stuckBits_25 ?_
    refine lv_istore_n (lv' := [(1, .int (a1 + r7)), (0, .ref (q 0)), (2, .int a2)]) hx hb dX9_stuckBits_26 rfl hl (by decide) rfl (fun ls hl => ?_)
    refine lv_iinc (v := (a2 + 1)) (lv' := [(2, .int (a2 + 1)), (1, .int (a1 + r7)), (0, .ref (q 0))]) hx hb dX9_stuckBits_27 hl (k := 2) rfl rfl (by decide) rfl (fun ls hl => ?_)
    refine lv_goto (tgt := 4) hx hb dX9_stuckBits_30 (by decide) ?_
    exact hrec3 ((a1 + r7), (a2 + 1)) hf H locs h ls (lv_sub hl [2, 1, 0] rfl)
def m_X9_counted (v : xSt) (p1 : Int32) : Option (Int32) := lt (fun (_ : Unit) => ck (¬ ((((552 : Int32) + p1) - (1 : Int32)) < 0 ∨ 797 ≤ (((552 : Int32) + p1) - (1 : Int32)).toNatClampNeg)) (some (v 1 (((552 : Int32) + p1) - (1 : Int32)).toNatClampNeg))) (fun j1 => (if p1 = 0 then ck (¬ ((561 : Int32) < 0 ∨ 797 ≤ (561 : Int32).toNatClampNeg)) (some (v 1 (561 : Int32).toNatClampNeg)) else (if p1 = 1 then j1 () else (if p1 = 2 then j1 () else (if p1 = 3 then j1 () else (if p1 = 4 then j1 () else (if p1 = 5 then ob (m_X9_onesFrom v (0 : Int32) (256 : Int32)) (fun r11 => some r11) else (if p1 = 6 then ob (m_X9_erasures v) (fun r14 => some r14) else (if p1 = 7 then ck (¬ ((562 : Int32) < 0 ∨ 797 ≤ (562 : Int32).toNatClampNeg)) (some (v 1 (562 : Int32).toNatClampNeg)) else (if p1 = 8 then ck (¬ ((563 : Int32) < 0 ∨ 797 ≤ (563 : Int32).toNatClampNeg)) (some (v 1 (563 : Int32).toNatClampNeg)) else (if p1 = 9 then ck (¬ ((564 : Int32) < 0 ∨ 797 ≤ (564 : Int32).toNatClampNeg)) (some (v 1 (564 : Int32).toNatClampNeg)) else (if p1 = 10 then ck (¬ ((580 : Int32) < 0 ∨ 797 ≤ (580 : Int32).toNatClampNeg)) (some (v 1 (580 : Int32).toNatClampNeg)) else (if p1 = 11 then ck (¬ ((567 : Int32) < 0 ∨ 797 ≤ (567 : Int32).toNatClampNeg)) (some (v 1 (567 : Int32).toNatClampNeg)) else (if p1 = 12 then ob (m_X9_stuckBits v) (fun r27 => some r27) else (if p1 = 13 then ob (m_X9_unsurePages v (0 : Int32) (32 : Int32)) (fun r30 => some r30) else (if p1 = 14 then ck (¬ ((565 : Int32) < 0 ∨ 797 ≤ (565 : Int32).toNatClampNeg)) (some (v 1 (565 : Int32).toNatClampNeg)) else some (v 0 3)))))))))))))))))
set_option maxHeartbeats 4000000 in
set_option maxRecDepth 100000 in
theorem c_X9_counted (l : Launch) (G : xGl) (q : Nat → Nat) (v : xSt) (p1 : Int32) {z : (Int32)} (hf : m_X9_counted v p1 = some z) : mRO l yX9_counted (wM yX9_counted cX9_counted 2 (some .int)) { frames := 2, cells := 0, slots := 0, locals := 46 } G (eMod G) 8 q v [.ref (q 0), .int p1] (qI z) := by
  refine xRO (cc := cX9_counted) (maxL := 2) (ret := (some .int)) (by decide) rfl (Nat.le_of_ble_eq_true rfl) ?_
  intro p e s m below meth c ls A hC hr hlk h hl
  have hx := hC.1
  have hb := hC.2.1
  have hl : lv_has ls 2 [(0, .ref (q 0)), (1, .int p1)] := hl
  unfold m_X9_counted at hf
  obtain ⟨H, hH⟩ : ∃ H, H = s.heap := ⟨_, rfl⟩
  obtain ⟨locs, hlo⟩ : ∃ x : List Loc, x = [] := ⟨_, rfl⟩
  have h : ho G (eMod G) 8 q v A s H locs := by rw [hH, hlo]; exact h
  rw [← hlo, ← hH]
  clear hH hlo
  refine lv_iload_n hx hb dX9_counted_0 rfl (lv_at hl 1 rfl) ?_
  obtain ⟨j1, ej1, hf⟩ := lt_e hf
  have hj1 : ∀ (uu : Unit) (H : Heap) (locs : List Loc), ho G (eMod G) 8 q v A s H locs → ∀ (ls : Array Slot), lv_has ls 2 [(0, .ref (q 0)), (1, .int p1)] → j1 uu = some z → W p l e { frames := 2, cells := 0, slots := 0, locals := 46 } s m [.ref (q 0), .int p1].toArray below meth c H locs 0 0 (MQ below ((qI z) (fun _ => True) A) [.ref (q 0), .int p1].toArray s 0 0 A) (F0 m 85 ls []) := by
    intro uu H locs h ls hl hf
    rw [ej1] at hf
    refine lv_aload_n hx hb dX9_counted_85 rfl (lv_at hl 0 rfl) ?_
    refine xget hC h.o (C := RX9) (T := TX9) (N := 17) (wM_us uw_X9) 0 (Nat.le_of_ble_eq_true rfl) eMod_0 rfl 0 (by decide) (wM_in fl_X9_7) rfl dX9_counted_86 ?_
    refine lv_sipush (v := (552 : Int32)) hx hb dX9_counted_89 (by decide) ?_
    refine lv_iload_n hx hb dX9_counted_92 rfl (lv_at hl 1 rfl) ?_
    refine lv_iadd hx hb dX9_counted_93 ?_
    refine lv_iconst (v := (1 : Int32)) hx hb dX9_counted_94 (by decide) ?_
    refine lv_isub hx hb dX9_counted_95 ?_
    obtain ⟨hi2, hf⟩ := ck_e hf
    refine xiald hC h.o 1 (Nat.le_of_ble_eq_true rfl) eMod_1 hi2 dX9_counted_96 ?_
    have hf := sm_e hf
    exact oiret hC hr hlk h (by rw [← hf]) dX9_counted_97
  by_cases c3 : p1 = 0
  · have hf := it_t c3 hf
    refine lv_tableIn (off := 75) (tgt := 76) hx hb dX9_counted_1 (by rw [c3]; decide) (by rw [c3]; decide) (by rw [c3]; decide) (by decide) ?_
    refine lv_aload_n hx hb dX9_counted_76 rfl (lv_at hl 0 rfl) ?_
    refine xget hC h.o (C := RX9) (T := TX9) (N := 17) (wM_us uw_X9) 0 (Nat.le_of_ble_eq_true rfl) eMod_0 rfl 0 (by decide) (wM_in fl_X9_7) rfl dX9_counted_77 ?_
    refine lv_sipush (v := (561 : Int32)) hx hb dX9_counted_80 (by decide) ?_
    obtain ⟨hi4, hf⟩ := ck_e hf
    refine xiald hC h.o 1 (Nat.le_of_ble_eq_true rfl) eMod_1 hi4 dX9_counted_83 ?_
    have hf := sm_e hf
    exact oiret hC hr hlk h (by rw [← hf]) dX9_counted_84
  have hf := it_f c3 hf
  by_cases c5 : p1 = 1
  · have hf := it_t c5 hf
    refine lv_tableIn (off := 84) (tgt := 85) hx hb dX9_counted_1 (by rw [c5]; decide) (by rw [c5]; decide) (by rw [c5]; decide) (by decide) ?_
    exact hj1 () H locs h ls (lv_sub hl [0, 1] rfl) hf
  have hf := it_f c5 hf
  by_cases c6 : p1 = 2
  · have hf := it_t c6 hf
    refine lv_tableIn (off := 84) (tgt := 85) hx hb dX9_counted_1 (by rw [c6]; decide) (by rw [c6]; decide) (by rw [c6]; decide) (by decide) ?_
    exact hj1 () H locs h ls (lv_sub hl [0, 1] rfl) hf
  have hf := it_f c6 hf
  by_cases c7 : p1 = 3
  · have hf := it_t c7 hf
    refine lv_tableIn (off := 84) (tgt := 85) hx hb dX9_counted_1 (by rw [c7]; decide) (by rw [c7]; decide) (by rw [c7]; decide) (by decide) ?_
    exact hj1 () H locs h ls (lv_sub hl [0, 1] rfl) hf
  have hf := it_f c7 hf
  by_cases c8 : p1 = 4
  · have hf := it_t c8 hf
    refine lv_tableIn (off := 84) (tgt := 85) hx hb dX9_counted_1 (by rw [c8]; decide) (by rw [c8]; decide) (by rw [c8]; decide) (by decide) ?_
    exact hj1 () H locs h ls (lv_sub hl [0, 1] rfl) hf
  have hf := it_f c8 hf
  by_cases c9 : p1 = 5
  · have hf := it_t c9 hf
    refine lv_tableIn (off := 97) (tgt := 98) hx hb dX9_counted_1 (by rw [c9]; decide) (by rw [c9]; decide) (by rw [c9]; decide) (by decide) ?_
    refine lv_aload_n hx hb dX9_counted_98 rfl (lv_at hl 0 rfl) ?_
    refine lv_iconst (v := (0 : Int32)) hx hb dX9_counted_99 (by decide) ?_
    refine lv_sipush (v := (256 : Int32)) hx hb dX9_counted_100 (by decide) ?_
    obtain ⟨r11, hy10, hf⟩ := ob_e hf
    refine xiO h (va_runV (As := [.int (0 : Int32), .int (256 : Int32)]) (rest := []) hC (c_X9_onesFrom l G q v (0 : Int32) (256 : Int32) hy10 H.size) (xcwV hC lk_X9_241 in_X9 co_X9_onesFrom im_X9_onesFrom se_X9_onesFrom rfl rfl dd_X9_onesFrom ⟨Nat.le_of_ble_eq_true rfl, Nat.le_of_ble_eq_true rfl⟩) (preVO0 h.o (Nat.le_of_ble_eq_true rfl) eMod_0 rfl [.int (0 : Int32), .int (256 : Int32)]) rfl rfl hl.1 rfl (lv_room (Nat.le_of_ble_eq_true rfl)) dX9_counted_103 ⟨Nat.zero_le _, Nat.zero_le _⟩) (fun H locs h => ?_)
    have hf := sm_e hf
    exact oiret hC hr hlk h (by rw [← hf]) dX9_counted_106
  have hf := it_f c9 hf
  by_cases c12 : p1 = 6
  · have hf := it_t c12 hf
    refine lv_tableIn (off := 106) (tgt := 107) hx hb dX9_counted_1 (by rw [c12]; decide) (by rw [c12]; decide) (by rw [c12]; decide) (by decide) ?_
    refine lv_aload_n hx hb dX9_counted_107 rfl (lv_at hl 0 rfl) ?_
    obtain ⟨r14, hy13, hf⟩ := ob_e hf
    refine xiO h (va_runV (As := []) (rest := []) hC (c_X9_erasures l G q v hy13 H.size) (xcwV hC lk_X9_262 in_X9 co_X9_erasures im_X9_erasures se_X9_erasures rfl rfl dd_X9_erasures ⟨Nat.le_of_ble_eq_true rfl, Nat.le_of_ble_eq_true rfl⟩) (preVO0 h.o (Nat.le_of_ble_eq_true rfl) eMod_0 rfl []) rfl rfl hl.1 rfl (lv_room (Nat.le_of_ble_eq_true rfl)) dX9_counted_108 ⟨Nat.zero_le _, Nat.zero_le _⟩) (fun H locs h => ?_)
    have hf := sm_e hf
    exact oiret hC hr hlk h (by rw [← hf]) dX9_counted_111
  have hf := it_f c12 hf
  by_cases c15 : p1 = 7
  · have hf := it_t c15 hf
    refine lv_tableIn (off := 111) (tgt := 112) hx hb dX9_counted_1 (by rw [c15]; decide) (by rw [c15]; decide) (by rw [c15]; decide) (by decide) ?_
    refine lv_aload_n hx hb dX9_counted_112 rfl (lv_at hl 0 rfl) ?_
    refine xget hC h.o (C := RX9) (T := TX9) (N := 17) (wM_us uw_X9) 0 (Nat.le_of_ble_eq_true rfl) eMod_0 rfl 0 (by decide) (wM_in fl_X9_7) rfl dX9_counted_113 ?_
    refine lv_sipush (v := (562 : Int32)) hx hb dX9_counted_116 (by decide) ?_
    obtain ⟨hi16, hf⟩ := ck_e hf
    refine xiald hC h.o 1 (Nat.le_of_ble_eq_true rfl) eMod_1 hi16 dX9_counted_119 ?_
    have hf := sm_e hf
    exact oiret hC hr hlk h (by rw [← hf]) dX9_counted_120
  have hf := it_f c15 hf
  by_cases c17 : p1 = 8
  · have hf := it_t c17 hf
    refine lv_tableIn (off := 120) (tgt := 121) hx hb dX9_counted_1 (by rw [c17]; decide) (by rw [c17]; decide) (by rw [c17]; decide) (by decide) ?_
    refine lv_aload_n hx hb dX9_counted_121 rfl (lv_at hl 0 rfl) ?_
    refine xget hC h.o (C := RX9) (T := TX9) (N := 17) (wM_us uw_X9) 0 (Nat.le_of_ble_eq_true rfl) eMod_0 rfl 0 (by decide) (wM_in fl_X9_7) rfl dX9_counted_122 ?_
    refine lv_sipush (v := (563 : Int32)) hx hb dX9_counted_125 (by decide) ?_
    obtain ⟨hi18, hf⟩ := ck_e hf
    refine xiald hC h.o 1 (Nat.le_of_ble_eq_true rfl) eMod_1 hi18 dX9_counted_128 ?_
    have hf := sm_e hf
    exact oiret hC hr hlk h (by rw [← hf]) dX9_counted_129
  have hf := it_f c17 hf
  by_cases c19 : p1 = 9
  · have hf := it_t c19 hf
    refine lv_tableIn (off := 129) (tgt := 130) hx hb dX9_counted_1 (by rw [c19]; decide) (by rw [c19]; decide) (by rw [c19]; decide) (by decide) ?_
    refine lv_aload_n hx hb dX9_counted_130 rfl (lv_at hl 0 rfl) ?_
    refine xget hC h.o (C := RX9) (T := TX9) (N := 17) (wM_us uw_X9) 0 (Nat.le_of_ble_eq_true rfl) eMod_0 rfl 0 (by decide) (wM_in fl_X9_7) rfl dX9_counted_131 ?_
    refine lv_sipush (v := (564 : Int32)) hx hb dX9_counted_134 (by decide) ?_
    obtain ⟨hi20, hf⟩ := ck_e hf
    refine xiald hC h.o 1 (Nat.le_of_ble_eq_true rfl) eMod_1 hi20 dX9_counted_137 ?_
    have hf := sm_e hf
    exact oiret hC hr hlk h (by rw [← hf]) dX9_counted_138
  have hf := it_f c19 hf
  by_cases c21 : p1 = 10
  · have hf := it_t c21 hf
    refine lv_tableIn (off := 138) (tgt := 139) hx hb dX9_counted_1 (by rw [c21]; decide) (by rw [c21]; decide) (by rw [c21]; decide) (by decide) ?_
    refine lv_aload_n hx hb dX9_counted_139 rfl (lv_at hl 0 rfl) ?_
    refine xget hC h.o (C := RX9) (T := TX9) (N := 17) (wM_us uw_X9) 0 (Nat.le_of_ble_eq_true rfl) eMod_0 rfl 0 (by decide) (wM_in fl_X9_7) rfl dX9_counted_140 ?_
    refine lv_sipush (v := (580 : Int32)) hx hb dX9_counted_143 (by decide) ?_
    obtain ⟨hi22, hf⟩ := ck_e hf
    refine xiald hC h.o 1 (Nat.le_of_ble_eq_true rfl) eMod_1 hi22 dX9_counted_146 ?_
    have hf := sm_e hf
    exact oiret hC hr hlk h (by rw [← hf]) dX9_counted_147
  have hf := it_f c21 hf
  by_cases c23 : p1 = 11
  · have hf := it_t c23 hf
    refine lv_tableIn (off := 147) (tgt := 148) hx hb dX9_counted_1 (by rw [c23]; decide) (by rw [c23]; decide) (by rw [c23]; decide) (by decide) ?_
    refine lv_aload_n hx hb dX9_counted_148 rfl (lv_at hl 0 rfl) ?_
    refine xget hC h.o (C := RX9) (T := TX9) (N := 17) (wM_us uw_X9) 0 (Nat.le_of_ble_eq_true rfl) eMod_0 rfl 0 (by decide) (wM_in fl_X9_7) rfl dX9_counted_149 ?_
    refine lv_sipush (v := (567 : Int32)) hx hb dX9_counted_152 (by decide) ?_
    obtain ⟨hi24, hf⟩ := ck_e hf
    refine xiald hC h.o 1 (Nat.le_of_ble_eq_true rfl) eMod_1 hi24 dX9_counted_155 ?_
    have hf := sm_e hf
    exact oiret hC hr hlk h (by rw [← hf]) dX9_counted_156
  have hf := it_f c23 hf
  by_cases c25 : p1 = 12
  · have hf := it_t c25 hf
    refine lv_tableIn (off := 156) (tgt := 157) hx hb dX9_counted_1 (by rw [c25]; decide) (by rw [c25]; decide) (by rw [c25]; decide) (by decide) ?_
    refine lv_aload_n hx hb dX9_counted_157 rfl (lv_at hl 0 rfl) ?_
    obtain ⟨r27, hy26, hf⟩ := ob_e hf
    refine xiO h (va_runV (As := []) (rest := []) hC (c_X9_stuckBits l G q v hy26 H.size) (xcwV hC lk_X9_265 in_X9 co_X9_stuckBits im_X9_stuckBits se_X9_stuckBits rfl rfl dd_X9_stuckBits ⟨Nat.le_of_ble_eq_true rfl, Nat.le_of_ble_eq_true rfl⟩) (preVO0 h.o (Nat.le_of_ble_eq_true rfl) eMod_0 rfl []) rfl rfl hl.1 rfl (lv_room (Nat.le_of_ble_eq_true rfl)) dX9_counted_158 ⟨Nat.zero_le _, Nat.zero_le _⟩) (fun H locs h => ?_)
    have hf := sm_e hf
    exact oiret hC hr hlk h (by rw [← hf]) dX9_counted_161
  have hf := it_f c25 hf
  by_cases c28 : p1 = 13
  · have hf := it_t c28 hf
    refine lv_tableIn (off := 161) (tgt := 162) hx hb dX9_counted_1 (by rw [c28]; decide) (by rw [c28]; decide) (by rw [c28]; decide) (by decide) ?_
    refine lv_aload_n hx hb dX9_counted_162 rfl (lv_at hl 0 rfl) ?_
    refine lv_iconst (v := (0 : Int32)) hx hb dX9_counted_163 (by decide) ?_
    refine lv_bipush (v := (32 : Int32)) hx hb dX9_counted_164 (by decide) ?_
    obtain ⟨r30, hy29, hf⟩ := ob_e hf
    refine xiO h (va_runV (As := [.int (0 : Int32), .int (32 : Int32)]) (rest := []) hC (c_X9_unsurePages l G q v (0 : Int32) (32 : Int32) hy29 H.size) (xcwV hC lk_X9_247 in_X9 co_X9_unsurePages im_X9_unsurePages se_X9_unsurePages rfl rfl dd_X9_unsurePages ⟨Nat.le_of_ble_eq_true rfl, Nat.le_of_ble_eq_true rfl⟩) (preVO0 h.o (Nat.le_of_ble_eq_true rfl) eMod_0 rfl [.int (0 : Int32), .int (32 : Int32)]) rfl rfl hl.1 rfl (lv_room (Nat.le_of_ble_eq_true rfl)) dX9_counted_166 ⟨Nat.zero_le _, Nat.zero_le _⟩) (fun H locs h => ?_)
    have hf := sm_e hf
    exact oiret hC hr hlk h (by rw [← hf]) dX9_counted_169
  have hf := it_f c28 hf
  by_cases c31 : p1 = 14
  · have hf := it_t c31 hf
    refine lv_tableIn (off := 169) (tgt := 170) hx hb dX9_counted_1 (by rw [c31]; decide) (by rw [c31]; decide) (by rw [c31]; decide) (by decide) ?_
    refine lv_aload_n hx hb dX9_counted_170 rfl (lv_at hl 0 rfl) ?_
    refine xget hC h.o (C := RX9) (T := TX9) (N := 17) (wM_us uw_X9) 0 (Nat.le_of_ble_eq_true rfl) eMod_0 rfl 0 (by decide) (wM_in fl_X9_7) rfl dX9_counted_171 ?_
    refine lv_sipush (v := (565 : Int32)) hx hb dX9_counted_174 (by decide) ?_
    obtain ⟨hi32, hf⟩ := ck_e hf
    refine xiald hC h.o 1 (Nat.le_of_ble_eq_true rfl) eMod_1 hi32 dX9_counted_177 ?_
    have hf := sm_e hf
    exact oiret hC hr hlk h (by rw [← hf]) dX9_counted_178
  have hf := it_f c31 hf
  refine lv_tableOut (tgt := 179) hx hb dX9_counted_1 (by have := xne (k := 0) (by decide) c3; have := xne (k := 1) (by decide) c5; have := xne (k := 2) (by decide) c6; have := xne (k := 3) (by decide) c7; have := xne (k := 4) (by decide) c8; have := xne (k := 5) (by decide) c9; have := xne (k := 6) (by decide) c12; have := xne (k := 7) (by decide) c15; have := xne (k := 8) (by decide) c17; have := xne (k := 9) (by decide) c19; have := xne (k := 10) (by decide) c21; have := xne (k := 11) (by decide) c23; have := xne (k := 12) (by decide) c25; have := xne (k := 13) (by decide) c28; have := xne (k := 14) (by decide) c31; omega) (by decide) ?_
  refine lv_aload_n hx hb dX9_counted_179 rfl (lv_at hl 0 rfl) ?_
  refine xget hC h.o (C := RX9) (T := TX9) (N := 17) (wM_us uw_X9) 0 (Nat.le_of_ble_eq_true rfl) eMod_0 rfl 3 (by decide) (wM_in fl_X9_35) rfl dX9_counted_180 ?_
  have hf := sm_e hf
  exact oiret hC hr hlk h (by rw [← hf]) dX9_counted_183
def m_X9_count (v : xSt) (p1 : Int32) : Option (Int32 × xSt) := lt (st2 v 0 8 (0 : Int32)) (fun v1 => (if (xwi p1 (0 : Int32) (15 : Int32)) = 0 then ob (m_X9_fails v1 (1 : Int32)) (fun r5 => lt (r5.2) (fun v6 => some (r5.1, v6))) else ob (m_X9_counted v1 p1) (fun r8 => some (r8, v1))))
set_option maxHeartbeats 4000000 in
set_option maxRecDepth 100000 in
theorem c_X9_count (l : Launch) (G : xGl) (q : Nat → Nat) (v : xSt) (p1 : Int32) {z : (Int32 × xSt)} (hf : m_X9_count v p1 = some z) : mRW l yX9_count (wM yX9_count cX9_count 2 (some .int)) { frames := 3, cells := 0, slots := 0, locals := 67 } G (eMod G) 8 q v [.ref (q 0), .int p1] (qI z.1) z.2 := by
  refine xRW (cc := cX9_count) (maxL := 2) (ret := (some .int)) (by decide) rfl (Nat.le_of_ble_eq_true rfl) ?_
  intro p e s m below meth c ls A hC hr hlk h hl
  have hx := hC.1
  have hb := hC.2.1
  have hl : lv_has ls 2 [(0, .ref (q 0)), (1, .int p1)] := hl
  unfold m_X9_count at hf
  obtain ⟨H, hH⟩ : ∃ H, H = s.heap := ⟨_, rfl⟩
  obtain ⟨locs, hlo⟩ : ∃ x : List Loc, x = [] := ⟨_, rfl⟩
  have h : hg G (eMod G) 8 q v A s H locs := by rw [hH, hlo]; exact h
  rw [← hlo, ← hH]
  clear hH hlo
  refine lv_aload_n hx hb dX9_count_0 rfl (lv_at hl 0 rfl) ?_
  refine lv_iconst (v := (0 : Int32)) hx hb dX9_count_1 (by decide) ?_
  refine xput hC h (C := RX9) (T := TX9) (N := 17) (wM_us uw_X9) tyX9_ok nmX9 0 (Nat.le_of_ble_eq_true rfl) eMod_0 rfl 8 (by decide) (wM_in fl_X9_31) rfl (ty := .int) (tyX9_ok 8 (by decide)) rfl rfl (Nat.le_of_ble_eq_true rfl) (eMod_0.trans rfl) dX9_count_2 (fun H locs h => ?_)
  obtain ⟨v1, ev1, hf⟩ := lt_e hf
  rw [← ev1] at h
  refine lv_iload_n hx hb dX9_count_5 rfl (lv_at hl 1 rfl) ?_
  refine lv_iconst (v := (0 : Int32)) hx hb dX9_count_6 (by decide) ?_
  refine lv_bipush (v := (15 : Int32)) hx hb dX9_count_7 (by decide) ?_
  refine xzG h (va_runS (As := [.int p1, .int (0 : Int32), .int (15 : Int32)]) (rest := []) hC (k_X9_in l G q v1 p1 (0 : Int32) (15 : Int32) H.size) (xcwS hC lk_X9_42 in_X9 co_X9_in st_X9_in rfl rfl dd_X9_in ⟨Nat.le_of_ble_eq_true rfl, Nat.le_of_ble_eq_true rfl⟩) (preSN h.o [.int p1, .int (0 : Int32), .int (15 : Int32)]) rfl rfl hl.1 rfl (lv_room (Nat.le_of_ble_eq_true rfl)) dX9_count_9 ⟨Nat.zero_le _, Nat.zero_le _⟩) (fun H locs hz2 h => ?_)
  refine lv_if_eq (tgt := 23) hx hb dX9_count_12 (by decide) (fun c3 => ?_) (fun c3 => ?_)
  · have hf := it_t c3 hf
    refine lv_aload_n hx hb dX9_count_23 rfl (lv_at hl 0 rfl) ?_
    refine lv_iconst (v := (1 : Int32)) hx hb dX9_count_24 (by decide) ?_
    obtain ⟨r5, hy4, hf⟩ := ob_e hf
    refine xi0 h (va_runV (As := [.int (1 : Int32)]) (rest := []) hC (c_X9_fails l G q v1 (1 : Int32) hy4 H.size) (xcwV hC lk_X9_142 in_X9 co_X9_fails im_X9_fails se_X9_fails rfl rfl dd_X9_fails ⟨Nat.le_of_ble_eq_true rfl, Nat.le_of_ble_eq_true rfl⟩) (preV0 h (Nat.le_of_ble_eq_true rfl) eMod_0 rfl [.int (1 : Int32)]) rfl rfl hl.1 rfl (lv_room (Nat.le_of_ble_eq_true rfl)) dX9_count_25 ⟨Nat.zero_le _, Nat.zero_le _⟩) (fun H locs h => ?_)
    obtain ⟨v6, ev6, hf⟩ := lt_e hf
    rw [← ev6] at h
    have hf := sm_e hf
    exact xiret hC hr hlk h (by rw [← hf]) (by rw [← hf]) dX9_count_28
  · have hf := it_f c3 hf
    refine lv_aload_n hx hb dX9_count_15 rfl (lv_at hl 0 rfl) ?_
    refine lv_iload_n hx hb dX9_count_16 rfl (lv_at hl 1 rfl) ?_
    obtain ⟨r8, hy7, hf⟩ := ob_e hf
    refine xiG h (va_runV (As := [.int p1]) (rest := []) hC (c_X9_counted l G q v1 p1 hy7 H.size) (xcwV hC lk_X9_268 in_X9 co_X9_counted im_X9_counted se_X9_counted rfl rfl dd_X9_counted ⟨Nat.le_of_ble_eq_true rfl, Nat.le_of_ble_eq_true rfl⟩) (preVO0 h.o (Nat.le_of_ble_eq_true rfl) eMod_0 rfl [.int p1]) rfl rfl hl.1 rfl (lv_room (Nat.le_of_ble_eq_true rfl)) dX9_count_17 ⟨Nat.zero_le _, Nat.zero_le _⟩) (fun H locs h => ?_)
    refine lv_goto (tgt := 28) hx hb dX9_count_20 (by decide) ?_
    have hf := sm_e hf
    exact xiret hC hr hlk h (by rw [← hf]) (by rw [← hf]) dX9_count_28
def m_X9_setting (v : xSt) (p1 : Int32) : Option (Int32 × xSt) := lt (st2 v 0 8 (0 : Int32)) (fun v1 => (if (xwi p1 (0 : Int32) (4 : Int32)) = 0 then ob (m_X9_fails v1 (1 : Int32)) (fun r5 => lt (r5.2) (fun v6 => some (r5.1, v6))) else ck (¬ (((556 : Int32) + p1) < 0 ∨ 797 ≤ ((556 : Int32) + p1).toNatClampNeg)) (some ((v1 1 ((556 : Int32) + p1).toNatClampNeg), v1))))
set_option maxHeartbeats 4000000 in
set_option maxRecDepth 100000 in
theorem c_X9_setting (l : Launch) (G : xGl) (q : Nat → Nat) (v : xSt) (p1 : Int32) {z : (Int32 × xSt)} (hf : m_X9_setting v p1 = some z) : mRW l yX9_setting (wM yX9_setting cX9_setting 2 (some .int)) { frames := 1, cells := 0, slots := 0, locals := 22 } G (eMod G) 8 q v [.ref (q 0), .int p1] (qI z.1) z.2 := by
  refine xRW (cc := cX9_setting) (maxL := 2) (ret := (some .int)) (by decide) rfl (Nat.le_of_ble_eq_true rfl) ?_
  intro p e s m below meth c ls A hC hr hlk h hl
  have hx := hC.1
  have hb := hC.2.1
  have hl : lv_has ls 2 [(0, .ref (q 0)), (1, .int p1)] := hl
  unfold m_X9_setting at hf
  obtain ⟨H, hH⟩ : ∃ H, H = s.heap := ⟨_, rfl⟩
  obtain ⟨locs, hlo⟩ : ∃ x : List Loc, x = [] := ⟨_, rfl⟩
  have h : hg G (eMod G) 8 q v A s H locs := by rw [hH, hlo]; exact h
  rw [← hlo, ← hH]
  clear hH hlo
  refine lv_aload_n hx hb dX9_setting_0 rfl (lv_at hl 0 rfl) ?_
  refine lv_iconst (v := (0 : Int32)) hx hb dX9_setting_1 (by decide) ?_
  refine xput hC h (C := RX9) (T := TX9) (N := 17) (wM_us uw_X9) tyX9_ok nmX9 0 (Nat.le_of_ble_eq_true rfl) eMod_0 rfl 8 (by decide) (wM_in fl_X9_31) rfl (ty := .int) (tyX9_ok 8 (by decide)) rfl rfl (Nat.le_of_ble_eq_true rfl) (eMod_0.trans rfl) dX9_setting_2 (fun H locs h => ?_)
  obtain ⟨v1, ev1, hf⟩ := lt_e hf
  rw [← ev1] at h
  refine lv_iload_n hx hb dX9_setting_5 rfl (lv_at hl 1 rfl) ?_
  refine lv_iconst (v := (0 : Int32)) hx hb dX9_setting_6 (by decide) ?_
  refine lv_iconst (v := (4 : Int32)) hx hb dX9_setting_7 (by decide) ?_
  refine xzG h (va_runS (As := [.int p1, .int (0 : Int32), .int (4 : Int32)]) (rest := []) hC (k_X9_in l G q v1 p1 (0 : Int32) (4 : Int32) H.size) (xcwS hC lk_X9_42 in_X9 co_X9_in st_X9_in rfl rfl dd_X9_in ⟨Nat.le_of_ble_eq_true rfl, Nat.le_of_ble_eq_true rfl⟩) (preSN h.o [.int p1, .int (0 : Int32), .int (4 : Int32)]) rfl rfl hl.1 rfl (lv_room (Nat.le_of_ble_eq_true rfl)) dX9_setting_8 ⟨Nat.zero_le _, Nat.zero_le _⟩) (fun H locs hz2 h => ?_)
  refine lv_if_eq (tgt := 27) hx hb dX9_setting_11 (by decide) (fun c3 => ?_) (fun c3 => ?_)
  · have hf := it_t c3 hf
    refine lv_aload_n hx hb dX9_setting_27 rfl (lv_at hl 0 rfl) ?_
    refine lv_iconst (v := (1 : Int32)) hx hb dX9_setting_28 (by decide) ?_
    obtain ⟨r5, hy4, hf⟩ := ob_e hf
    refine xi0 h (va_runV (As := [.int (1 : Int32)]) (rest := []) hC (c_X9_fails l G q v1 (1 : Int32) hy4 H.size) (xcwV hC lk_X9_142 in_X9 co_X9_fails im_X9_fails se_X9_fails rfl rfl dd_X9_fails ⟨Nat.le_of_ble_eq_true rfl, Nat.le_of_ble_eq_true rfl⟩) (preV0 h (Nat.le_of_ble_eq_true rfl) eMod_0 rfl [.int (1 : Int32)]) rfl rfl hl.1 rfl (lv_room (Nat.le_of_ble_eq_true rfl)) dX9_setting_29 ⟨Nat.zero_le _, Nat.zero_le _⟩) (fun H locs h => ?_)
    obtain ⟨v6, ev6, hf⟩ := lt_e hf
    rw [← ev6] at h
    have hf := sm_e hf
    exact xiret hC hr hlk h (by rw [← hf]) (by rw [← hf]) dX9_setting_32
  · have hf := it_f c3 hf
    refine lv_aload_n hx hb dX9_setting_14 rfl (lv_at hl 0 rfl) ?_
    refine xget hC h.o (C := RX9) (T := TX9) (N := 17) (wM_us uw_X9) 0 (Nat.le_of_ble_eq_true rfl) eMod_0 rfl 0 (by decide) (wM_in fl_X9_7) rfl dX9_setting_15 ?_
    refine lv_sipush (v := (556 : Int32)) hx hb dX9_setting_18 (by decide) ?_
    refine lv_iload_n hx hb dX9_setting_21 rfl (lv_at hl 1 rfl) ?_
    refine lv_iadd hx hb dX9_setting_22 ?_
    obtain ⟨hi7, hf⟩ := ck_e hf
    refine xiald hC h.o 1 (Nat.le_of_ble_eq_true rfl) eMod_1 hi7 dX9_setting_23 ?_
    refine lv_goto (tgt := 32) hx hb dX9_setting_24 (by decide) ?_
    have hf := sm_e hf
    exact xiret hC hr hlk h (by rw [← hf]) (by rw [← hf]) dX9_setting_32
def m_X9_why (v : xSt) (p1 : Int32) (p2 : Int32) : Option (Int32 × xSt) := lt (st2 v 0 8 (0 : Int32)) (fun v1 => (if (xwi p1 (1 : Int32) (3 : Int32)) = 0 then ob (m_X9_fails v1 (1 : Int32)) (fun r18 => lt (r18.2) (fun v19 => some (r18.1, v19))) else lt (fun (t4 : Int32) (t5 : Int32) (t6 : Int32) => (if (xwi t4 t5 t6) = 0 then ob (m_X9_fails v1 (2 : Int32)) (fun r11 => lt (r11.2) (fun v12 => some (r11.1, v12))) else ob (m_X9_whyNot v1 p1 p2) (fun r14 => some (r14, v1)))) (fun j7 => (if p1 = (1 : Int32) then j7 p2 (0 : Int32) (255 : Int32) else (if p1 = (2 : Int32) then j7 p2 (0 : Int32) (7 : Int32) else j7 p2 (0 : Int32) (4 : Int32))))))
set_option maxHeartbeats 4000000 in
set_option maxRecDepth 100000 in
theorem c_X9_why (l : Launch) (G : xGl) (q : Nat → Nat) (v : xSt) (p1 : Int32) (p2 : Int32) {z : (Int32 × xSt)} (hf : m_X9_why v p1 p2 = some z) : mRW l yX9_why (wM yX9_why cX9_why 3 (some .int)) { frames := 4, cells := 0, slots := 0, locals := 85 } G (eMod G) 8 q v [.ref (q 0), .int p1, .int p2] (qI z.1) z.2 := by
  refine xRW (cc := cX9_why) (maxL := 3) (ret := (some .int)) (by decide) rfl (Nat.le_of_ble_eq_true rfl) ?_
  intro p e s m below meth c ls A hC hr hlk h hl
  have hx := hC.1
  have hb := hC.2.1
  have hl : lv_has ls 3 [(0, .ref (q 0)), (1, .int p1), (2, .int p2)] := hl
  unfold m_X9_why at hf
  obtain ⟨H, hH⟩ : ∃ H, H = s.heap := ⟨_, rfl⟩
  obtain ⟨locs, hlo⟩ : ∃ x : List Loc, x = [] := ⟨_, rfl⟩
  have h : hg G (eMod G) 8 q v A s H locs := by rw [hH, hlo]; exact h
  rw [← hlo, ← hH]
  clear hH hlo
  refine lv_aload_n hx hb dX9_why_0 rfl (lv_at hl 0 rfl) ?_
  refine lv_iconst (v := (0 : Int32)) hx hb dX9_why_1 (by decide) ?_
  refine xput hC h (C := RX9) (T := TX9) (N := 17) (wM_us uw_X9) tyX9_ok nmX9 0 (Nat.le_of_ble_eq_true rfl) eMod_0 rfl 8 (by decide) (wM_in fl_X9_31) rfl (ty := .int) (tyX9_ok 8 (by decide)) rfl rfl (Nat.le_of_ble_eq_true rfl) (eMod_0.trans rfl) dX9_why_2 (fun H locs h => ?_)
  obtain ⟨v1, ev1, hf⟩ := lt_e hf
  rw [← ev1] at h
  refine lv_iload_n hx hb dX9_why_5 rfl (lv_at hl 1 rfl) ?_
  refine lv_iconst (v := (1 : Int32)) hx hb dX9_why_6 (by decide) ?_
  refine lv_iconst (v := (3 : Int32)) hx hb dX9_why_7 (by decide) ?_
  refine xzG h (va_runS (As := [.int p1, .int (1 : Int32), .int (3 : Int32)]) (rest := []) hC (k_X9_in l G q v1 p1 (1 : Int32) (3 : Int32) H.size) (xcwS hC lk_X9_42 in_X9 co_X9_in st_X9_in rfl rfl dd_X9_in ⟨Nat.le_of_ble_eq_true rfl, Nat.le_of_ble_eq_true rfl⟩) (preSN h.o [.int p1, .int (1 : Int32), .int (3 : Int32)]) rfl rfl hl.1 rfl (lv_room (Nat.le_of_ble_eq_true rfl)) dX9_why_8 ⟨Nat.zero_le _, Nat.zero_le _⟩) (fun H locs hz2 h => ?_)
  refine lv_if_ne (tgt := 20) hx hb dX9_why_11 (by decide) (fun c3 => ?_) (fun c3 => ?_)
  · have hf := it_f c3 hf
    refine lv_iload_n hx hb dX9_why_20 rfl (lv_at hl 2 rfl) ?_
    refine lv_iconst (v := (0 : Int32)) hx hb dX9_why_21 (by decide) ?_
    refine lv_iload_n hx hb dX9_why_22 rfl (lv_at hl 1 rfl) ?_
    refine lv_iconst (v := (1 : Int32)) hx hb dX9_why_23 (by decide) ?_
    obtain ⟨j7, ej7, hf⟩ := lt_e hf
    have hj7 : ∀ (t4 : Int32) (t5 : Int32) (t6 : Int32) (H : Heap) (locs : List Loc), hg G (eMod G) 8 q v1 A s H locs → ∀ (ls : Array Slot), lv_has ls 3 [(0, .ref (q 0)), (1, .int p1), (2, .int p2)] → j7 t4 t5 t6 = some z → W p l e { frames := 4, cells := 0, slots := 0, locals := 85 } s m [.ref (q 0), .int p1, .int p2].toArray below meth c H locs 0 0 (MQ below ((qI z.1) (cB G (eMod G) 8 q z.2 A) A) [.ref (q 0), .int p1, .int p2].toArray s 0 0 A) (F0 m 44 ls [.int t6, .int t5, .int t4]) := by
      intro t4 t5 t6 H locs h ls hl hf
      rw [ej7] at hf
      refine xzG h (va_runS (As := [.int t4, .int t5, .int t6]) (rest := []) hC (k_X9_in l G q v1 t4 t5 t6 H.size) (xcwS hC lk_X9_42 in_X9 co_X9_in st_X9_in rfl rfl dd_X9_in ⟨Nat.le_of_ble_eq_true rfl, Nat.le_of_ble_eq_true rfl⟩) (preSN h.o [.int t4, .int t5, .int t6]) rfl rfl hl.1 rfl (lv_room (Nat.le_of_ble_eq_true rfl)) dX9_why_44 ⟨Nat.zero_le _, Nat.zero_le _⟩) (fun H locs hz8 h => ?_)
      refine lv_if_eq (tgt := 59) hx hb dX9_why_47 (by decide) (fun c9 => ?_) (fun c9 => ?_)
      · have hf := it_t c9 hf
        refine lv_aload_n hx hb dX9_why_59 rfl (lv_at hl 0 rfl) ?_
        refine lv_iconst (v := (2 : Int32)) hx hb dX9_why_60 (by decide) ?_
        obtain ⟨r11, hy10, hf⟩ := ob_e hf
        refine xi0 h (va_runV (As := [.int (2 : Int32)]) (rest := []) hC (c_X9_fails l G q v1 (2 : Int32) hy10 H.size) (xcwV hC lk_X9_142 in_X9 co_X9_fails im_X9_fails se_X9_fails rfl rfl dd_X9_fails ⟨Nat.le_of_ble_eq_true rfl, Nat.le_of_ble_eq_true rfl⟩) (preV0 h (Nat.le_of_ble_eq_true rfl) eMod_0 rfl [.int (2 : Int32)]) rfl rfl hl.1 rfl (lv_room (Nat.le_of_ble_eq_true rfl)) dX9_why_61 ⟨Nat.zero_le _, Nat.zero_le _⟩) (fun H locs h => ?_)
        obtain ⟨v12, ev12, hf⟩ := lt_e hf
        rw [← ev12] at h
        have hf := sm_e hf
        exact xiret hC hr hlk h (by rw [← hf]) (by rw [← hf]) dX9_why_64
      · have hf := it_f c9 hf
        refine lv_aload_n hx hb dX9_why_50 rfl (lv_at hl 0 rfl) ?_
        refine lv_iload_n hx hb dX9_why_51 rfl (lv_at hl 1 rfl) ?_
        refine lv_iload_n hx hb dX9_why_52 rfl (lv_at hl 2 rfl) ?_
        obtain ⟨r14, hy13, hf⟩ := ob_e hf
        refine xiG h (va_runV (As := [.int p1, .int p2]) (rest := []) hC (c_X9_whyNot l G q v1 p1 p2 hy13 H.size) (xcwV hC lk_X9_154 in_X9 co_X9_whyNot im_X9_whyNot se_X9_whyNot rfl rfl dd_X9_whyNot ⟨Nat.le_of_ble_eq_true rfl, Nat.le_of_ble_eq_true rfl⟩) (preVO0 h.o (Nat.le_of_ble_eq_true rfl) eMod_0 rfl [.int p1, .int p2]) rfl rfl hl.1 rfl (lv_room (Nat.le_of_ble_eq_true rfl)) dX9_why_53 ⟨Nat.zero_le _, Nat.zero_le _⟩) (fun H locs h => ?_)
        refine lv_goto (tgt := 64) hx hb dX9_why_56 (by decide) ?_
        have hf := sm_e hf
        exact xiret hC hr hlk h (by rw [← hf]) (by rw [← hf]) dX9_why_64
    refine lv_icmp_ne (tgt := 33) hx hb dX9_why_24 (by decide) (fun c15 => ?_) (fun c15 => ?_)
    · have hf := it_f c15 hf
      refine lv_iload_n hx hb dX9_why_33 rfl (lv_at hl 1 rfl) ?_
      refine lv_iconst (v := (2 : Int32)) hx hb dX9_why_34 (by decide) ?_
      refine lv_icmp_ne (tgt := 43) hx hb dX9_why_35 (by decide) (fun c16 => ?_) (fun c16 => ?_)
      · have hf := it_f c16 hf
        refine lv_iconst (v := (4 : Int32)) hx hb dX9_why_43 (by decide) ?_
        exact hj7 p2 (0 : Int32) (4 : Int32) H locs h ls (lv_sub hl [0, 1, 2] rfl) hf
      · have hf := it_t c16 hf
        refine lv_bipush (v := (7 : Int32)) hx hb dX9_why_38 (by decide) ?_
        refine lv_goto (tgt := 44) hx hb dX9_why_40 (by decide) ?_
        exact hj7 p2 (0 : Int32) (7 : Int32) H locs h ls (lv_sub hl [0, 1, 2] rfl) hf
    · have hf := it_t c15 hf
      refine lv_sipush (v := (255 : Int32)) hx hb dX9_why_27 (by decide) ?_
      refine lv_goto (tgt := 44) hx hb dX9_why_30 (by decide) ?_
      exact hj7 p2 (0 : Int32) (255 : Int32) H locs h ls (lv_sub hl [0, 1, 2] rfl) hf
  · have hf := it_t c3 hf
    refine lv_aload_n hx hb dX9_why_14 rfl (lv_at hl 0 rfl) ?_
    refine lv_iconst (v := (1 : Int32)) hx hb dX9_why_15 (by decide) ?_
    obtain ⟨r18, hy17, hf⟩ := ob_e hf
    refine xi0 h (va_runV (As := [.int (1 : Int32)]) (rest := []) hC (c_X9_fails l G q v1 (1 : Int32) hy17 H.size) (xcwV hC lk_X9_142 in_X9 co_X9_fails im_X9_fails se_X9_fails rfl rfl dd_X9_fails ⟨Nat.le_of_ble_eq_true rfl, Nat.le_of_ble_eq_true rfl⟩) (preV0 h (Nat.le_of_ble_eq_true rfl) eMod_0 rfl [.int (1 : Int32)]) rfl rfl hl.1 rfl (lv_room (Nat.le_of_ble_eq_true rfl)) dX9_why_16 ⟨Nat.zero_le _, Nat.zero_le _⟩) (fun H locs h => ?_)
    obtain ⟨v19, ev19, hf⟩ := lt_e hf
    rw [← ev19] at h
    have hf := sm_e hf
    exact xiret hC hr hlk h (by rw [← hf]) (by rw [← hf]) dX9_why_19
def m_X9_missesAt (v : xSt) (p1 : Int32) : Option (Int32) := lp (fun (rec3 : Int32 × Int32 → Option (Int32)) => un2 (fun (a1 : Int32) (a2 : Int32) => (if (8 : Int32) ≤ a2 then some a1 else ob (m_X9_loadedFor v a2) (fun r6 => ck (¬ ((((p1 / (8 : Int32)) * (8 : Int32)) + ((p1 + a2) - (p1 + a2) / (8 : Int32) * (8 : Int32))) < 0 ∨ 797 ≤ (((p1 / (8 : Int32)) * (8 : Int32)) + ((p1 + a2) - (p1 + a2) / (8 : Int32) * (8 : Int32))).toNatClampNeg)) (lt ((v 1 (((p1 / (8 : Int32)) * (8 : Int32)) + ((p1 + a2) - (p1 + a2) / (8 : Int32) * (8 : Int32))).toNatClampNeg)) (fun x8 => lt (fun (t9 : Int32) (t10 : Int32) => rec3 ((t9 + t10), (a2 + 1))) (fun j11 => lt (fun (t12 : Int32) => j11 t12 (0 : Int32)) (fun j13 => (if r6 = (-1 : Int32) then j13 a1 else (if (x8 &&& r6) = r6 then j13 a1 else j11 a1 (1 : Int32))))))))))) xF ((0 : Int32), (0 : Int32))
set_option maxHeartbeats 4000000 in
set_option maxRecDepth 100000 in
theorem c_X9_missesAt (l : Launch) (G : xGl) (q : Nat → Nat) (v : xSt) (p1 : Int32) {z : (Int32)} (hf : m_X9_missesAt v p1 = some z) : mRO l yX9_missesAt (wM yX9_missesAt cX9_missesAt 6 (some .int)) { frames := 1, cells := 0, slots := 0, locals := 21 } G (eMod G) 8 q v [.ref (q 0), .int p1] (qI z) := by
  refine xRO (cc := cX9_missesAt) (maxL := 6) (ret := (some .int)) (by decide) rfl (Nat.le_of_ble_eq_true rfl) ?_
  intro p e s m below meth c ls A hC hr hlk h hl
  have hx := hC.1
  have hb := hC.2.1
  have hl : lv_has ls 6 [(0, .ref (q 0)), (1, .int p1)] := hl
  unfold m_X9_missesAt at hf
  obtain ⟨H, hH⟩ : ∃ H, H = s.heap := ⟨_, rfl⟩
  obtain ⟨locs, hlo⟩ : ∃ x : List Loc, x = [] := ⟨_, rfl⟩
  have h : ho G (eMod G) 8 q v A s H locs := by rw [hH, hlo]; exact h
  rw [← hlo, ← hH]
  clear hH hlo
  refine lv_iconst (v := (0 : Int32)) hx hb dX9_missesAt_0 (by decide) ?_
  refine lv_istore_n (lv' := [(2, .int (0 : Int32)), (0, .ref (q 0)), (1, .int p1)]) hx hb dX9_missesAt_1 rfl hl (by decide) rfl (fun ls hl => ?_)
  refine lv_iconst (v := (0 : Int32)) hx hb dX9_missesAt_2 (by decide) ?_
  refine lv_istore_n (lv' := [(3, .int (0 : Int32)), (2, .int (0 : Int32)), (0, .ref (q 0)), (1, .int p1)]) hx hb dX9_missesAt_3 rfl hl (by decide) rfl (fun ls hl => ?_)
  refine lp_i (z := z) (P := fun (pp : Int32 × Int32) => ∀ (H : Heap) (locs : List Loc), ho G (eMod G) 8 q v A s H locs → ∀ (ls : Array Slot), lv_has ls 6 [(0, .ref (q 0)), (1, .int p1), (2, .int pp.1), (3, .int pp.2)] → W p l e { frames := 1, cells := 0, slots := 0, locals := 21 } s m [.ref (q 0), .int p1].toArray below meth c H locs 0 0 (MQ below ((qI z) (fun _ => True) A) [.ref (q 0), .int p1].toArray s 0 0 A) (F0 m 4 ls [])) ?_ _ _ hf H locs h ls (lv_sub hl [2, 3, 1, 0] rfl)
  intro rec3 hrec3 pp hf H locs h ls hl
  obtain ⟨a1, a2⟩ := pp
  have h : ho G (eMod G) 8 q v A s H locs := h
  have hl : lv_has ls 6 [(0, .ref (q 0)), (1, .int p1), (2, .int a1), (3, .int a2)] := hl
  have hf := un2_e hf
  refine lv_iload_n hx hb dX9_missesAt_4 rfl (lv_at hl 3 rfl) ?_
  refine lv_bipush (v := (8 : Int32)) hx hb dX9_missesAt_5 (by decide) ?_
  refine lv_icmp_ge (tgt := 68) hx hb dX9_missesAt_7 (by decide) (fun c4 => ?_) (fun c4 => ?_)
  · have hf := it_t c4 hf
    refine lv_iload_n hx hb dX9_missesAt_68 rfl (lv_at hl 2 rfl) ?_
    have hf := sm_e hf
    exact oiret hC hr hlk h (by rw [← hf]) dX9_missesAt_69
  · have hf := it_f c4 hf
    refine lv_aload_n hx hb dX9_missesAt_10 rfl (lv_at hl 0 rfl) ?_
    refine lv_iload_n hx hb dX9_missesAt_11 rfl (lv_at hl 3 rfl) ?_
    obtain ⟨r6, hy5, hf⟩ := ob_e hf
    refine xiO h (va_runV (As := [.int a2]) (rest := []) hC (c_X9_loadedFor l G q v a2 hy5 H.size) (xcwV hC lk_X9_235 in_X9 co_X9_loadedFor im_X9_loadedFor se_X9_loadedFor rfl rfl dd_X9_loadedFor ⟨Nat.le_of_ble_eq_true rfl, Nat.le_of_ble_eq_true rfl⟩) (preVO0 h.o (Nat.le_of_ble_eq_true rfl) eMod_0 rfl [.int a2]) rfl rfl hl.1 rfl (lv_room (Nat.le_of_ble_eq_true rfl)) dX9_missesAt_12 ⟨Nat.zero_le _, Nat.zero_le _⟩) (fun H locs h => ?_)
    refine lv_istore (lv' := [(4, .int r6), (0, .ref (q 0)), (1, .int p1), (2, .int a1), (3, .int a2)]) hx hb dX9_missesAt_15 hl (by decide) rfl (fun ls hl => ?_)
    refine lv_aload_n hx hb dX9_missesAt_17 rfl (lv_at hl 1 rfl) ?_
    refine xget hC h.o (C := RX9) (T := TX9) (N := 17) (wM_us uw_X9) 0 (Nat.le_of_ble_eq_true rfl) eMod_0 rfl 0 (by decide) (wM_in fl_X9_7) rfl dX9_missesAt_18 ?_
    refine lv_iload_n hx hb dX9_missesAt_21 rfl (lv_at hl 2 rfl) ?_
    refine lv_bipush (v := (8 : Int32)) hx hb dX9_missesAt_22 (by decide) ?_
    refine lv_idiv hx hb dX9_missesAt_24 (by decide) ?_
    refine lv_bipush (v := (8 : Int32)) hx hb dX9_missesAt_25 (by decide) ?_
    refine lv_imul hx hb dX9_missesAt_27 ?_
    refine lv_iload_n hx hb dX9_missesAt_28 rfl (lv_at hl 2 rfl) ?_
    refine lv_iload_n hx hb dX9_missesAt_29 rfl (lv_at hl 4 rfl) ?_
    refine lv_iadd hx hb dX9_missesAt_30 ?_
    refine lv_bipush (v := (8 : Int32)) hx hb dX9_missesAt_31 (by decide) ?_
    refine lv_irem hx hb dX9_missesAt_33 (by decide) ?_
    refine lv_iadd hx hb dX9_missesAt_34 ?_
    obtain ⟨hi7, hf⟩ := ck_e hf
    refine xiald hC h.o 1 (Nat.le_of_ble_eq_true rfl) eMod_1 hi7 dX9_missesAt_35 ?_
    obtain ⟨x8, ex8, hf⟩ := lt_e hf
    refine lv_nm ex8 ?_
    refine lv_istore (lv' := [(5, .int x8), (4, .int r6), (0, .ref (q 0)), (1, .int p1), (2, .int a1), (3, .int a2)]) hx hb dX9_missesAt_36 hl (by decide) rfl (fun ls hl => ?_)
    refine lv_iload_n hx hb dX9_missesAt_38 rfl (lv_at hl 4 rfl) ?_
    refine lv_iload hx hb dX9_missesAt_39 (lv_at hl 1 rfl) ?_
    refine lv_iconst (v := (-1 : Int32)) hx hb dX9_missesAt_41 (by decide) ?_
    obtain ⟨j11, ej11, hf⟩ := lt_e hf
    have hj11 : ∀ (t9 : Int32) (t10 : Int32) (H : Heap) (locs : List Loc), ho G (eMod G) 8 q v A s H locs → ∀ (ls : Array Slot), lv_has ls 6 [(0, .ref (q 0)), (1, .int p1), (3, .int a2)] → j11 t9 t10 = some z → W p l e { frames := 1, cells := 0, slots := 0, locals := 21 } s m [.ref (q 0), .int p1].toArray below meth c H locs 0 0 (MQ below ((qI z) (fun _ => True) A) [.ref (q 0), .int p1].toArray s 0 0 A) (F0 m 60 ls [.int t10, .int t9]) := by
      intro t9 t10 H locs h ls hl hf
      rw [ej11] at hf
      refine lv_iadd hx hb dX9_missesAt_60 ?_
      refine lv_istore_n (lv' := [(2, .int (t9 + t10)), (0, .ref (q 0)), (1, .int p1), (3, .int a2)]) hx hb dX9_missesAt_61 rfl hl (by decide) rfl (fun ls hl => ?_)
      refine lv_iinc (v := (a2 + 1)) (lv' := [(3, .int (a2 + 1)), (2, .int (t9 + t10)), (0, .ref (q 0)), (1, .int p1)]) hx hb dX9_missesAt_62 hl (k := 3) rfl rfl (by decide) rfl (fun ls hl => ?_)
      refine lv_goto (tgt := 4) hx hb dX9_missesAt_65 (by decide) ?_
      exact hrec3 ((t9 + t10), (a2 + 1)) hf H locs h ls (lv_sub hl [2, 3, 1, 0] rfl)
    obtain ⟨j13, ej13, hf⟩ := lt_e hf
    have hj13 : ∀ (t12 : Int32) (H : Heap) (locs : List Loc), ho G (eMod G) 8 q v A s H locs → ∀ (ls : Array Slot), lv_has ls 6 [(0, .ref (q 0)), (1, .int p1), (3, .int a2)] → j13 t12 = some z → W p l e { frames := 1, cells := 0, slots := 0, locals := 21 } s m [.ref (q 0), .int p1].toArray below meth c H locs 0 0 (MQ below ((qI z) (fun _ => True) A) [.ref (q 0), .int p1].toArray s 0 0 A) (F0 m 59 ls [.int t12]) := by
      intro t12 H locs h ls hl hf
      rw [ej13] at hf
      refine lv_iconst (v := (0 : Int32)) hx hb dX9_missesAt_59 (by decide) ?_
      exact hj11 t12 (0 : Int32) H locs h ls (lv_sub hl [0, 1, 2] rfl) hf
    refine lv_icmp_eq (tgt := 59) hx hb dX9_missesAt_42 (by decide) (fun c14 => ?_) (fun c14 => ?_)
    · have hf := it_t c14 hf
      exact hj13 a1 H locs h ls (lv_sub hl [2, 3, 5] rfl) hf
    · have hf := it_f c14 hf
      refine lv_iload hx hb dX9_missesAt_45 (lv_at hl 0 rfl) ?_
      refine lv_iload hx hb dX9_missesAt_47 (lv_at hl 1 rfl) ?_
      refine lv_iand hx hb dX9_missesAt_49 ?_
      refine lv_iload hx hb dX9_missesAt_50 (lv_at hl 1 rfl) ?_
      refine lv_icmp_eq (tgt := 59) hx hb dX9_missesAt_52 (by decide) (fun c15 => ?_) (fun c15 => ?_)
      · have hf := it_t c15 hf
        exact hj13 a1 H locs h ls (lv_sub hl [2, 3, 5] rfl) hf
      · have hf := it_f c15 hf
        refine lv_iconst (v := (1 : Int32)) hx hb dX9_missesAt_55 (by decide) ?_
        refine lv_goto (tgt := 60) hx hb dX9_missesAt_56 (by decide) ?_
        exact hj11 a1 (1 : Int32) H locs h ls (lv_sub hl [2, 3, 5] rfl) hf
def m_X9_misses (v : xSt) (p1 : Int32) : Option (Int32 × xSt) := lt (st2 v 0 8 (0 : Int32)) (fun v1 => (if (xwi p1 0 255) = 0 then ob (m_X9_fails v1 (1 : Int32)) (fun r5 => lt (r5.2) (fun v6 => some (r5.1, v6))) else ob (m_X9_missesAt v1 p1) (fun r8 => some (r8, v1))))
set_option maxHeartbeats 4000000 in
set_option maxRecDepth 100000 in
theorem c_X9_misses (l : Launch) (G : xGl) (q : Nat → Nat) (v : xSt) (p1 : Int32) {z : (Int32 × xSt)} (hf : m_X9_misses v p1 = some z) : mRW l yX9_misses (wM yX9_misses cX9_misses 2 (some .int)) { frames := 2, cells := 0, slots := 0, locals := 46 } G (eMod G) 8 q v [.ref (q 0), .int p1] (qI z.1) z.2 := by
  refine xRW (cc := cX9_misses) (maxL := 2) (ret := (some .int)) (by decide) rfl (Nat.le_of_ble_eq_true rfl) ?_
  intro p e s m below meth c ls A hC hr hlk h hl
  have hx := hC.1
  have hb := hC.2.1
  have hl : lv_has ls 2 [(0, .ref (q 0)), (1, .int p1)] := hl
  unfold m_X9_misses at hf
  obtain ⟨H, hH⟩ : ∃ H, H = s.heap := ⟨_, rfl⟩
  obtain ⟨locs, hlo⟩ : ∃ x : List Loc, x = [] := ⟨_, rfl⟩
  have h : hg G (eMod G) 8 q v A s H locs := by rw [hH, hlo]; exact h
  rw [← hlo, ← hH]
  clear hH hlo
  refine lv_aload_n hx hb dX9_misses_0 rfl (lv_at hl 0 rfl) ?_
  refine lv_iconst (v := (0 : Int32)) hx hb dX9_misses_1 (by decide) ?_
  refine xput hC h (C := RX9) (T := TX9) (N := 17) (wM_us uw_X9) tyX9_ok nmX9 0 (Nat.le_of_ble_eq_true rfl) eMod_0 rfl 8 (by decide) (wM_in fl_X9_31) rfl (ty := .int) (tyX9_ok 8 (by decide)) rfl rfl (Nat.le_of_ble_eq_true rfl) (eMod_0.trans rfl) dX9_misses_2 (fun H locs h => ?_)
  obtain ⟨v1, ev1, hf⟩ := lt_e hf
  rw [← ev1] at h
  refine lv_iload_n hx hb dX9_misses_5 rfl (lv_at hl 1 rfl) ?_
  refine xzG h (va_runS (As := [.int p1]) (rest := []) hC (k_X9_isCell l G q v1 p1 H.size) (xcwS hC lk_X9_151 in_X9 co_X9_isCell st_X9_isCell rfl rfl dd_X9_isCell ⟨Nat.le_of_ble_eq_true rfl, Nat.le_of_ble_eq_true rfl⟩) (preSN h.o [.int p1]) rfl rfl hl.1 rfl (lv_room (Nat.le_of_ble_eq_true rfl)) dX9_misses_6 ⟨Nat.zero_le _, Nat.zero_le _⟩) (fun H locs hz2 h => ?_)
  refine lv_if_eq (tgt := 20) hx hb dX9_misses_9 (by decide) (fun c3 => ?_) (fun c3 => ?_)
  · have hf := it_t c3 hf
    refine lv_aload_n hx hb dX9_misses_20 rfl (lv_at hl 0 rfl) ?_
    refine lv_iconst (v := (1 : Int32)) hx hb dX9_misses_21 (by decide) ?_
    obtain ⟨r5, hy4, hf⟩ := ob_e hf
    refine xi0 h (va_runV (As := [.int (1 : Int32)]) (rest := []) hC (c_X9_fails l G q v1 (1 : Int32) hy4 H.size) (xcwV hC lk_X9_142 in_X9 co_X9_fails im_X9_fails se_X9_fails rfl rfl dd_X9_fails ⟨Nat.le_of_ble_eq_true rfl, Nat.le_of_ble_eq_true rfl⟩) (preV0 h (Nat.le_of_ble_eq_true rfl) eMod_0 rfl [.int (1 : Int32)]) rfl rfl hl.1 rfl (lv_room (Nat.le_of_ble_eq_true rfl)) dX9_misses_22 ⟨Nat.zero_le _, Nat.zero_le _⟩) (fun H locs h => ?_)
    obtain ⟨v6, ev6, hf⟩ := lt_e hf
    rw [← ev6] at h
    have hf := sm_e hf
    exact xiret hC hr hlk h (by rw [← hf]) (by rw [← hf]) dX9_misses_25
  · have hf := it_f c3 hf
    refine lv_aload_n hx hb dX9_misses_12 rfl (lv_at hl 0 rfl) ?_
    refine lv_iload_n hx hb dX9_misses_13 rfl (lv_at hl 1 rfl) ?_
    obtain ⟨r8, hy7, hf⟩ := ob_e hf
    refine xiG h (va_runV (As := [.int p1]) (rest := []) hC (c_X9_missesAt l G q v1 p1 hy7 H.size) (xcwV hC lk_X9_271 in_X9 co_X9_missesAt im_X9_missesAt se_X9_missesAt rfl rfl dd_X9_missesAt ⟨Nat.le_of_ble_eq_true rfl, Nat.le_of_ble_eq_true rfl⟩) (preVO0 h.o (Nat.le_of_ble_eq_true rfl) eMod_0 rfl [.int p1]) rfl rfl hl.1 rfl (lv_room (Nat.le_of_ble_eq_true rfl)) dX9_misses_14 ⟨Nat.zero_le _, Nat.zero_le _⟩) (fun H locs h => ?_)
    refine lv_goto (tgt := 25) hx hb dX9_misses_17 (by decide) ?_
    have hf := sm_e hf
    exact xiret hC hr hlk h (by rw [← hf]) (by rw [← hf]) dX9_misses_25
def m_X9_fitting (v : xSt) : Option (Int32) := lp (fun (rec2 : Int32 → Option (Int32)) => un1 (fun (a1 : Int32) => (if (256 : Int32) ≤ a1 then some (-1 : Int32) else ob (m_X9_isLocked v (a1 / (32 : Int32))) (fun r5 => lt (fun (_ : Unit) => rec2 (a1 + 1)) (fun j7 => (if r5 = 0 then ob (m_X9_missesAt v a1) (fun r10 => (if r10 = 0 then some a1 else j7 ())) else j7 ())))))) xF (0 : Int32)
set_option maxHeartbeats 4000000 in
set_option maxRecDepth 100000 in
theorem c_X9_fitting (l : Launch) (G : xGl) (q : Nat → Nat) (v : xSt) {z : (Int32)} (hf : m_X9_fitting v = some z) : mRO l yX9_fitting (wM yX9_fitting cX9_fitting 2 (some .int)) { frames := 2, cells := 0, slots := 0, locals := 46 } G (eMod G) 8 q v [.ref (q 0)] (qI z) := by
  refine xRO (cc := cX9_fitting) (maxL := 2) (ret := (some .int)) (by decide) rfl (Nat.le_of_ble_eq_true rfl) ?_
  intro p e s m below meth c ls A hC hr hlk h hl
  have hx := hC.1
  have hb := hC.2.1
  have hl : lv_has ls 2 [(0, .ref (q 0))] := hl
  unfold m_X9_fitting at hf
  obtain ⟨H, hH⟩ : ∃ H, H = s.heap := ⟨_, rfl⟩
  obtain ⟨locs, hlo⟩ : ∃ x : List Loc, x = [] := ⟨_, rfl⟩
  have h : ho G (eMod G) 8 q v A s H locs := by rw [hH, hlo]; exact h
  rw [← hlo, ← hH]
  clear hH hlo
  refine lv_iconst (v := (0 : Int32)) hx hb dX9_fitting_0 (by decide) ?_
  refine lv_istore_n (lv' := [(1, .int (0 : Int32)), (0, .ref (q 0))]) hx hb dX9_fitting_1 rfl hl (by decide) rfl (fun ls hl => ?_)
  refine lp_i (z := z) (P := fun (pp : Int32) => ∀ (H : Heap) (locs : List Loc), ho G (eMod G) 8 q v A s H locs → ∀ (ls : Array Slot), lv_has ls 2 [(0, .ref (q 0)), (1, .int pp)] → W p l e { frames := 2, cells := 0, slots := 0, locals := 46 } s m [.ref (q 0)].toArray below meth c H locs 0 0 (MQ below ((qI z) (fun _ => True) A) [.ref (q 0)].toArray s 0 0 A) (F0 m 2 ls [])) ?_ _ _ hf H locs h ls (lv_sub hl [1, 0] rfl)
  intro rec2 hrec2 pp hf H locs h ls hl
  obtain ⟨a1, hpp⟩ : ∃ y, y = pp := ⟨_, rfl⟩
  subst hpp
  have h : ho G (eMod G) 8 q v A s H locs := h
  have hl : lv_has ls 2 [(0, .ref (q 0)), (1, .int a1)] := hl
  have hf := un1_e hf
  refine lv_iload_n hx hb dX9_fitting_2 rfl (lv_at hl 1 rfl) ?_
  refine lv_sipush (v := (256 : Int32)) hx hb dX9_fitting_3 (by decide) ?_
  refine lv_icmp_ge (tgt := 36) hx hb dX9_fitting_6 (by decide) (fun c3 => ?_) (fun c3 => ?_)
  · have hf := it_t c3 hf
    refine lv_iconst (v := (-1 : Int32)) hx hb dX9_fitting_36 (by decide) ?_
    have hf := sm_e hf
    exact oiret hC hr hlk h (by rw [← hf]) dX9_fitting_37
  · have hf := it_f c3 hf
    refine lv_aload_n hx hb dX9_fitting_9 rfl (lv_at hl 0 rfl) ?_
    refine lv_iload_n hx hb dX9_fitting_10 rfl (lv_at hl 1 rfl) ?_
    refine lv_bipush (v := (32 : Int32)) hx hb dX9_fitting_11 (by decide) ?_
    refine lv_idiv hx hb dX9_fitting_13 (by decide) ?_
    obtain ⟨r5, hy4, hf⟩ := ob_e hf
    refine xzO h (va_runV (As := [.int (a1 / (32 : Int32))]) (rest := []) hC (c_X9_isLocked l G q v (a1 / (32 : Int32)) hy4 H.size) (xcwV hC lk_X9_99 in_X9 co_X9_isLocked im_X9_isLocked se_X9_isLocked rfl rfl dd_X9_isLocked ⟨Nat.le_of_ble_eq_true rfl, Nat.le_of_ble_eq_true rfl⟩) (preVO0 h.o (Nat.le_of_ble_eq_true rfl) eMod_0 rfl [.int (a1 / (32 : Int32))]) rfl rfl hl.1 rfl (lv_room (Nat.le_of_ble_eq_true rfl)) dX9_fitting_14 ⟨Nat.zero_le _, Nat.zero_le _⟩) (fun H locs hz6 h => ?_)
    obtain ⟨j7, ej7, hf⟩ := lt_e hf
    have hj7 : ∀ (uu : Unit) (H : Heap) (locs : List Loc), ho G (eMod G) 8 q v A s H locs → ∀ (ls : Array Slot), lv_has ls 2 [(0, .ref (q 0)), (1, .int a1)] → j7 uu = some z → W p l e { frames := 2, cells := 0, slots := 0, locals := 46 } s m [.ref (q 0)].toArray below meth c H locs 0 0 (MQ below ((qI z) (fun _ => True) A) [.ref (q 0)].toArray s 0 0 A) (F0 m 30 ls []) := by
      intro uu H locs h ls hl hf
      rw [ej7] at hf
      refine lv_iinc (v := (a1 + 1)) (lv' := [(1, .int (a1 + 1)), (0, .ref (q 0))]) hx hb dX9_fitting_30 hl (k := 1) rfl rfl (by decide) rfl (fun ls hl => ?_)
      refine lv_goto (tgt := 2) hx hb dX9_fitting_33 (by decide) ?_
      exact hrec2 (a1 + 1) hf H locs h ls (lv_sub hl [1, 0] rfl)
    refine lv_if_ne (tgt := 30) hx hb dX9_fitting_17 (by decide) (fun c8 => ?_) (fun c8 => ?_)
    · have hf := it_f c8 hf
      exact hj7 () H locs h ls (lv_sub hl [0, 1] rfl) hf
    · have hf := it_t c8 hf
      refine lv_aload_n hx hb dX9_fitting_20 rfl (lv_at hl 0 rfl) ?_
      refine lv_iload_n hx hb dX9_fitting_21 rfl (lv_at hl 1 rfl) ?_
      obtain ⟨r10, hy9, hf⟩ := ob_e hf
      refine xiO h (va_runV (As := [.int a1]) (rest := []) hC (c_X9_missesAt l G q v a1 hy9 H.size) (xcwV hC lk_X9_271 in_X9 co_X9_missesAt im_X9_missesAt se_X9_missesAt rfl rfl dd_X9_missesAt ⟨Nat.le_of_ble_eq_true rfl, Nat.le_of_ble_eq_true rfl⟩) (preVO0 h.o (Nat.le_of_ble_eq_true rfl) eMod_0 rfl [.int a1]) rfl rfl hl.1 rfl (lv_room (Nat.le_of_ble_eq_true rfl)) dX9_fitting_22 ⟨Nat.zero_le _, Nat.zero_le _⟩) (fun H locs h => ?_)
      refine lv_if_ne (tgt := 30) hx hb dX9_fitting_25 (by decide) (fun c11 => ?_) (fun c11 => ?_)
      · have hf := it_f c11 hf
        exact hj7 () H locs h ls (lv_sub hl [0, 1] rfl) hf
      · have hf := it_t c11 hf
        refine lv_iload_n hx hb dX9_fitting_28 rfl (lv_at hl 1 rfl) ?_
        have hf := sm_e hf
        exact oiret hC hr hlk h (by rw [← hf]) dX9_fitting_29
def m_X9_fits (v : xSt) : Option (Int32 × xSt) := lt (st2 v 0 8 (0 : Int32)) (fun v1 => ob (m_X9_fitting v1) (fun r3 => some (r3, v1)))
set_option maxHeartbeats 4000000 in
set_option maxRecDepth 100000 in
theorem c_X9_fits (l : Launch) (G : xGl) (q : Nat → Nat) (v : xSt) {z : (Int32 × xSt)} (hf : m_X9_fits v = some z) : mRW l yX9_fits (wM yX9_fits cX9_fits 1 (some .int)) { frames := 3, cells := 0, slots := 0, locals := 67 } G (eMod G) 8 q v [.ref (q 0)] (qI z.1) z.2 := by
  refine xRW (cc := cX9_fits) (maxL := 1) (ret := (some .int)) (by decide) rfl (Nat.le_of_ble_eq_true rfl) ?_
  intro p e s m below meth c ls A hC hr hlk h hl
  have hx := hC.1
  have hb := hC.2.1
  have hl : lv_has ls 1 [(0, .ref (q 0))] := hl
  unfold m_X9_fits at hf
  obtain ⟨H, hH⟩ : ∃ H, H = s.heap := ⟨_, rfl⟩
  obtain ⟨locs, hlo⟩ : ∃ x : List Loc, x = [] := ⟨_, rfl⟩
  have h : hg G (eMod G) 8 q v A s H locs := by rw [hH, hlo]; exact h
  rw [← hlo, ← hH]
  clear hH hlo
  refine lv_aload_n hx hb dX9_fits_0 rfl (lv_at hl 0 rfl) ?_
  refine lv_iconst (v := (0 : Int32)) hx hb dX9_fits_1 (by decide) ?_
  refine xput hC h (C := RX9) (T := TX9) (N := 17) (wM_us uw_X9) tyX9_ok nmX9 0 (Nat.le_of_ble_eq_true rfl) eMod_0 rfl 8 (by decide) (wM_in fl_X9_31) rfl (ty := .int) (tyX9_ok 8 (by decide)) rfl rfl (Nat.le_of_ble_eq_true rfl) (eMod_0.trans rfl) dX9_fits_2 (fun H locs h => ?_)
  obtain ⟨v1, ev1, hf⟩ := lt_e hf
  rw [← ev1] at h
  refine lv_aload_n hx hb dX9_fits_5 rfl (lv_at hl 0 rfl) ?_
  obtain ⟨r3, hy2, hf⟩ := ob_e hf
  refine xiG h (va_runV (As := []) (rest := []) hC (c_X9_fitting l G q v1 hy2 H.size) (xcwV hC lk_X9_274 in_X9 co_X9_fitting im_X9_fitting se_X9_fitting rfl rfl dd_X9_fitting ⟨Nat.le_of_ble_eq_true rfl, Nat.le_of_ble_eq_true rfl⟩) (preVO0 h.o (Nat.le_of_ble_eq_true rfl) eMod_0 rfl []) rfl rfl hl.1 rfl (lv_room (Nat.le_of_ble_eq_true rfl)) dX9_fits_6 ⟨Nat.zero_le _, Nat.zero_le _⟩) (fun H locs h => ?_)
  have hf := sm_e hf
  exact xiret hC hr hlk h (by rw [← hf]) (by rw [← hf]) dX9_fits_9
def m_X9_isFree (v : xSt) : Option (Int32) := ob (m_X9_isBusy v) (fun r2 => lt (fun (_ : Unit) => some (0 : Int32)) (fun j4 => (if r2 = 0 then ob (m_X9_isAside v) (fun r7 => lt (fun (_ : Unit) => ob (m_X9_foremost v) (fun r11 => (if r11 = (-1 : Int32) then some (1 : Int32) else j4 ()))) (fun j9 => (if r7 = 0 then j9 () else ob (m_X9_apart v (6 : Int32)) (fun r15 => (if r15 = (1 : Int32) then j4 () else j9 ()))))) else j4 ())))
set_option maxHeartbeats 4000000 in
set_option maxRecDepth 100000 in
theorem c_X9_isFree (l : Launch) (G : xGl) (q : Nat → Nat) (v : xSt) {z : (Int32)} (hf : m_X9_isFree v = some z) : mRO l yX9_isFree (wM yX9_isFree cX9_isFree 1 (some .boolean)) { frames := 3, cells := 0, slots := 0, locals := 65 } G (eMod G) 8 q v [.ref (q 0)] (qZ z) := by
  refine xRO (cc := cX9_isFree) (maxL := 1) (ret := (some .boolean)) (by decide) rfl (Nat.le_of_ble_eq_true rfl) ?_
  intro p e s m below meth c ls A hC hr hlk h hl
  have hx := hC.1
  have hb := hC.2.1
  have hl : lv_has ls 1 [(0, .ref (q 0))] := hl
  unfold m_X9_isFree at hf
  obtain ⟨H, hH⟩ : ∃ H, H = s.heap := ⟨_, rfl⟩
  obtain ⟨locs, hlo⟩ : ∃ x : List Loc, x = [] := ⟨_, rfl⟩
  have h : ho G (eMod G) 8 q v A s H locs := by rw [hH, hlo]; exact h
  rw [← hlo, ← hH]
  clear hH hlo
  refine lv_aload_n hx hb dX9_isFree_0 rfl (lv_at hl 0 rfl) ?_
  obtain ⟨r2, hy1, hf⟩ := ob_e hf
  refine xzO h (va_runV (As := []) (rest := []) hC (c_X9_isBusy l G q v hy1 H.size) (xcwV hC lk_X9_116 in_X9 co_X9_isBusy im_X9_isBusy se_X9_isBusy rfl rfl dd_X9_isBusy ⟨Nat.le_of_ble_eq_true rfl, Nat.le_of_ble_eq_true rfl⟩) (preVO0 h.o (Nat.le_of_ble_eq_true rfl) eMod_0 rfl []) rfl rfl hl.1 rfl (lv_room (Nat.le_of_ble_eq_true rfl)) dX9_isFree_1 ⟨Nat.zero_le _, Nat.zero_le _⟩) (fun H locs hz3 h => ?_)
  obtain ⟨j4, ej4, hf⟩ := lt_e hf
  have hj4 : ∀ (uu : Unit) (H : Heap) (locs : List Loc), ho G (eMod G) 8 q v A s H locs → ∀ (ls : Array Slot), lv_has ls 1 [] → j4 uu = some z → W p l e { frames := 3, cells := 0, slots := 0, locals := 65 } s m [.ref (q 0)].toArray below meth c H locs 0 0 (MQ below ((qZ z) (fun _ => True) A) [.ref (q 0)].toArray s 0 0 A) (F0 m 36 ls []) := by
    intro uu H locs h ls hl hf
    rw [ej4] at hf
    refine lv_iconst (v := (0 : Int32)) hx hb dX9_isFree_36 (by decide) ?_
    have hf := sm_e hf
    exact ozret hC hr hlk h (by rw [← hf]) (by decide) dX9_isFree_37
  refine lv_if_ne (tgt := 36) hx hb dX9_isFree_4 (by decide) (fun c5 => ?_) (fun c5 => ?_)
  · have hf := it_f c5 hf
    exact hj4 () H locs h ls (lv_sub hl [] rfl) hf
  · have hf := it_t c5 hf
    refine lv_aload_n hx hb dX9_isFree_7 rfl (lv_at hl 0 rfl) ?_
    obtain ⟨r7, hy6, hf⟩ := ob_e hf
    refine xzO h (va_runV (As := []) (rest := []) hC (c_X9_isAside l G q v hy6 H.size) (xcwV hC lk_X9_103 in_X9 co_X9_isAside im_X9_isAside se_X9_isAside rfl rfl dd_X9_isAside ⟨Nat.le_of_ble_eq_true rfl, Nat.le_of_ble_eq_true rfl⟩) (preVO0 h.o (Nat.le_of_ble_eq_true rfl) eMod_0 rfl []) rfl rfl hl.1 rfl (lv_room (Nat.le_of_ble_eq_true rfl)) dX9_isFree_8 ⟨Nat.zero_le _, Nat.zero_le _⟩) (fun H locs hz8 h => ?_)
    obtain ⟨j9, ej9, hf⟩ := lt_e hf
    have hj9 : ∀ (uu : Unit) (H : Heap) (locs : List Loc), ho G (eMod G) 8 q v A s H locs → ∀ (ls : Array Slot), lv_has ls 1 [(0, .ref (q 0))] → j9 uu = some z → W p l e { frames := 3, cells := 0, slots := 0, locals := 65 } s m [.ref (q 0)].toArray below meth c H locs 0 0 (MQ below ((qZ z) (fun _ => True) A) [.ref (q 0)].toArray s 0 0 A) (F0 m 24 ls []) := by
      intro uu H locs h ls hl hf
      rw [ej9] at hf
      refine lv_aload_n hx hb dX9_isFree_24 rfl (lv_at hl 0 rfl) ?_
      obtain ⟨r11, hy10, hf⟩ := ob_e hf
      refine xiO h (va_runV (As := []) (rest := []) hC (c_X9_foremost l G q v hy10 H.size) (xcwV hC lk_X9_122 in_X9 co_X9_foremost im_X9_foremost se_X9_foremost rfl rfl dd_X9_foremost ⟨Nat.le_of_ble_eq_true rfl, Nat.le_of_ble_eq_true rfl⟩) (preVO0 h.o (Nat.le_of_ble_eq_true rfl) eMod_0 rfl []) rfl rfl hl.1 rfl (lv_room (Nat.le_of_ble_eq_true rfl)) dX9_isFree_25 ⟨Nat.zero_le _, Nat.zero_le _⟩) (fun H locs h => ?_)
      refine lv_iconst (v := (-1 : Int32)) hx hb dX9_isFree_28 (by decide) ?_
      refine lv_icmp_ne (tgt := 36) hx hb dX9_isFree_29 (by decide) (fun c12 => ?_) (fun c12 => ?_)
      · have hf := it_f c12 hf
        exact hj4 () H locs h ls (lv_sub hl [] rfl) hf
      · have hf := it_t c12 hf
        refine lv_iconst (v := (1 : Int32)) hx hb dX9_isFree_32 (by decide) ?_
        refine lv_goto (tgt := 37) hx hb dX9_isFree_33 (by decide) ?_
        have hf := sm_e hf
        exact ozret hC hr hlk h (by rw [← hf]) (by decide) dX9_isFree_37
    refine lv_if_eq (tgt := 24) hx hb dX9_isFree_11 (by decide) (fun c13 => ?_) (fun c13 => ?_)
    · have hf := it_t c13 hf
      exact hj9 () H locs h ls (lv_sub hl [0] rfl) hf
    · have hf := it_f c13 hf
      refine lv_aload_n hx hb dX9_isFree_14 rfl (lv_at hl 0 rfl) ?_
      refine lv_bipush (v := (6 : Int32)) hx hb dX9_isFree_15 (by decide) ?_
      obtain ⟨r15, hy14, hf⟩ := ob_e hf
      refine xiO h (va_runV (As := [.int (6 : Int32)]) (rest := []) hC (c_X9_apart l G q v (6 : Int32) hy14 H.size) (xcwV hC lk_X9_50 in_X9 co_X9_apart im_X9_apart se_X9_apart rfl rfl dd_X9_apart ⟨Nat.le_of_ble_eq_true rfl, Nat.le_of_ble_eq_true rfl⟩) (preVO0 h.o (Nat.le_of_ble_eq_true rfl) eMod_0 rfl [.int (6 : Int32)]) rfl rfl hl.1 rfl (lv_room (Nat.le_of_ble_eq_true rfl)) dX9_isFree_17 ⟨Nat.zero_le _, Nat.zero_le _⟩) (fun H locs h => ?_)
      refine lv_iconst (v := (1 : Int32)) hx hb dX9_isFree_20 (by decide) ?_
      refine lv_icmp_eq (tgt := 36) hx hb dX9_isFree_21 (by decide) (fun c16 => ?_) (fun c16 => ?_)
      · have hf := it_t c16 hf
        exact hj4 () H locs h ls (lv_sub hl [] rfl) hf
      · have hf := it_f c16 hf
        exact hj9 () H locs h ls (lv_sub hl [0] rfl) hf
def m_X9_freeTicks (v : xSt) : Option (Int32 × xSt) := ob (m_X9_copies 797 797 (ct 1 (sh 1 v) (sh 2 v)) (0 : Int32) (0 : Int32)) (fun r2 => lt (pu 2 1 (pu 1 1 v r2) (sh 1 r2)) (fun v3 => lp (fun (rec6 : Int32 × xSt → Option (Int32 × xSt)) => un2 (fun (a4 : Int32) (v5 : xSt) => lt (fun (_ : Unit) => ob (m_X9_copies 797 797 (ct 1 (sh 2 v5) (sh 1 v5)) (0 : Int32) (0 : Int32)) (fun r9 => lt (pu 1 1 (pu 2 1 v5 r9) (sh 1 r9)) (fun v10 => (if a4 ≤ (1000 : Int32) then some (a4, v10) else some ((-1 : Int32), v10))))) (fun j7 => (if (1000 : Int32) < a4 then j7 () else ob (m_X9_isFree v5) (fun r14 => (if r14 = 0 then ob (m_X9_ticks v5) (fun r18 => lt (r18.2) (fun v20 => rec6 ((a4 + 1), v20))) else j7 ())))))) xF ((0 : Int32), v3)))
set_option maxHeartbeats 4000000 in
set_option maxRecDepth 100000 in
theorem c_X9_freeTicks (l : Launch) (G : xGl) (q : Nat → Nat) (v : xSt) {z : (Int32 × xSt)} (hf : m_X9_freeTicks v = some z) : mRW l yX9_freeTicks (wM yX9_freeTicks cX9_freeTicks 3 (some .int)) { frames := 5, cells := 0, slots := 0, locals := 114 } G (eMod G) 8 q v [.ref (q 0)] (qI z.1) z.2 := by
  refine xRW (cc := cX9_freeTicks) (maxL := 3) (ret := (some .int)) (by decide) rfl (Nat.le_of_ble_eq_true rfl) ?_
  intro p e s m below meth c ls A hC hr hlk h hl
  have hx := hC.1
  have hb := hC.2.1
  have hl : lv_has ls 3 [(0, .ref (q 0))] := hl
  unfold m_X9_freeTicks at hf
  obtain ⟨H, hH⟩ : ∃ H, H = s.heap := ⟨_, rfl⟩
  obtain ⟨locs, hlo⟩ : ∃ x : List Loc, x = [] := ⟨_, rfl⟩
  have h : hg G (eMod G) 8 q v A s H locs := by rw [hH, hlo]; exact h
  rw [← hlo, ← hH]
  clear hH hlo
  refine lv_aload_n hx hb dX9_freeTicks_0 rfl (lv_at hl 0 rfl) ?_
  refine xget hC h.o (C := RX9) (T := TX9) (N := 17) (wM_us uw_X9) 0 (Nat.le_of_ble_eq_true rfl) eMod_0 rfl 0 (by decide) (wM_in fl_X9_7) rfl dX9_freeTicks_1 ?_
  refine lv_iconst (v := (0 : Int32)) hx hb dX9_freeTicks_4 (by decide) ?_
  refine lv_aload_n hx hb dX9_freeTicks_5 rfl (lv_at hl 0 rfl) ?_
  refine xget hC h.o (C := RX9) (T := TX9) (N := 17) (wM_us uw_X9) 0 (Nat.le_of_ble_eq_true rfl) eMod_0 rfl 1 (by decide) (wM_in fl_X9_13) rfl dX9_freeTicks_6 ?_
  refine lv_iconst (v := (0 : Int32)) hx hb dX9_freeTicks_9 (by decide) ?_
  obtain ⟨r2, hy1, hf⟩ := ob_e hf
  refine xv2 h 1 1 2 1 (x2E1 sMod_1 locInt) (x2E2 sMod_2) (Nat.le_of_ble_eq_true rfl) (Nat.le_of_ble_eq_true rfl) (by omega) (va_runS (As := [.ref (q 1), .int (0 : Int32), .ref (q 2), .int (0 : Int32)]) (rest := []) hC (c_X9_copies l G (ct 1 (sh 1 q) (sh 2 q)) 797 797 (ct 1 (sh 1 v) (sh 2 v)) (0 : Int32) (0 : Int32) hy1 H.size) (xcwS hC lk_X9_38 in_X9 co_X9_copies st_X9_copies rfl rfl dd_X9_copies ⟨Nat.le_of_ble_eq_true rfl, Nat.le_of_ble_eq_true rfl⟩) (preS2 h 1 1 2 1 (x2E1 sMod_1 locInt) (x2E2 sMod_2) (Nat.le_of_ble_eq_true rfl) (Nat.le_of_ble_eq_true rfl) (by omega) [.ref (q 1), .int (0 : Int32), .ref (q 2), .int (0 : Int32)]) rfl rfl hl.1 rfl (lv_room (Nat.le_of_ble_eq_true rfl)) dX9_freeTicks_10 ⟨Nat.zero_le _, Nat.zero_le _⟩) (fun H locs h => ?_)
  obtain ⟨v3, ev3, hf⟩ := lt_e hf
  rw [← ev3] at h
  refine lv_iconst (v := (0 : Int32)) hx hb dX9_freeTicks_13 (by decide) ?_
  refine lv_istore_n (lv' := [(1, .int (0 : Int32)), (0, .ref (q 0))]) hx hb dX9_freeTicks_14 rfl hl (by decide) rfl (fun ls hl => ?_)
  refine lp_i (z := z) (P := fun (pp : Int32 × xSt) => ∀ (H : Heap) (locs : List Loc), hg G (eMod G) 8 q pp.2 A s H locs → ∀ (ls : Array Slot), lv_has ls 3 [(0, .ref (q 0)), (1, .int pp.1)] → W p l e { frames := 5, cells := 0, slots := 0, locals := 114 } s m [.ref (q 0)].toArray below meth c H locs 0 0 (MQ below ((qI z.1) (cB G (eMod G) 8 q z.2 A) A) [.ref (q 0)].toArray s 0 0 A) (F0 m 15 ls [])) ?_ _ _ hf H locs h ls (lv_sub hl [1, 0] rfl)
  intro rec6 hrec6 pp hf H locs h ls hl
  obtain ⟨a4, v5⟩ := pp
  have h : hg G (eMod G) 8 q v5 A s H locs := h
  have hl : lv_has ls 3 [(0, .ref (q 0)), (1, .int a4)] := hl
  have hf := un2_e hf
  refine lv_iload_n hx hb dX9_freeTicks_15 rfl (lv_at hl 1 rfl) ?_
  refine lv_sipush (v := (1000 : Int32)) hx hb dX9_freeTicks_16 (by decide) ?_
  obtain ⟨j7, ej7, hf⟩ := lt_e hf
  have hj7 : ∀ (uu : Unit) (H : Heap) (locs : List Loc), hg G (eMod G) 8 q v5 A s H locs → ∀ (ls : Array Slot), lv_has ls 3 [(0, .ref (q 0)), (1, .int a4)] → j7 uu = some z → W p l e { frames := 5, cells := 0, slots := 0, locals := 114 } s m [.ref (q 0)].toArray below meth c H locs 0 0 (MQ below ((qI z.1) (cB G (eMod G) 8 q z.2 A) A) [.ref (q 0)].toArray s 0 0 A) (F0 m 40 ls []) := by
    intro uu H locs h ls hl hf
    rw [ej7] at hf
    refine lv_aload_n hx hb dX9_freeTicks_40 rfl (lv_at hl 0 rfl) ?_
    refine xget hC h.o (C := RX9) (T := TX9) (N := 17) (wM_us uw_X9) 0 (Nat.le_of_ble_eq_true rfl) eMod_0 rfl 1 (by decide) (wM_in fl_X9_13) rfl dX9_freeTicks_41 ?_
    refine lv_iconst (v := (0 : Int32)) hx hb dX9_freeTicks_44 (by decide) ?_
    refine lv_aload_n hx hb dX9_freeTicks_45 rfl (lv_at hl 0 rfl) ?_
    refine xget hC h.o (C := RX9) (T := TX9) (N := 17) (wM_us uw_X9) 0 (Nat.le_of_ble_eq_true rfl) eMod_0 rfl 0 (by decide) (wM_in fl_X9_7) rfl dX9_freeTicks_46 ?_
    refine lv_iconst (v := (0 : Int32)) hx hb dX9_freeTicks_49 (by decide) ?_
    obtain ⟨r9, hy8, hf⟩ := ob_e hf
    refine xv2 h 2 1 1 1 (x2E1 sMod_2 locInt) (x2E2 sMod_1) (Nat.le_of_ble_eq_true rfl) (Nat.le_of_ble_eq_true rfl) (by omega) (va_runS (As := [.ref (q 2), .int (0 : Int32), .ref (q 1), .int (0 : Int32)]) (rest := []) hC (c_X9_copies l G (ct 1 (sh 2 q) (sh 1 q)) 797 797 (ct 1 (sh 2 v5) (sh 1 v5)) (0 : Int32) (0 : Int32) hy8 H.size) (xcwS hC lk_X9_38 in_X9 co_X9_copies st_X9_copies rfl rfl dd_X9_copies ⟨Nat.le_of_ble_eq_true rfl, Nat.le_of_ble_eq_true rfl⟩) (preS2 h 2 1 1 1 (x2E1 sMod_2 locInt) (x2E2 sMod_1) (Nat.le_of_ble_eq_true rfl) (Nat.le_of_ble_eq_true rfl) (by omega) [.ref (q 2), .int (0 : Int32), .ref (q 1), .int (0 : Int32)]) rfl rfl hl.1 rfl (lv_room (Nat.le_of_ble_eq_true rfl)) dX9_freeTicks_50 ⟨Nat.zero_le _, Nat.zero_le _⟩) (fun H locs h => ?_)
    obtain ⟨v10, ev10, hf⟩ := lt_e hf
    rw [← ev10] at h
    refine lv_iload_n hx hb dX9_freeTicks_53 rfl (lv_at hl 1 rfl) ?_
    refine lv_sipush (v := (1000 : Int32)) hx hb dX9_freeTicks_54 (by decide) ?_
    refine lv_icmp_le (tgt := 64) hx hb dX9_freeTicks_57 (by decide) (fun c11 => ?_) (fun c11 => ?_)
    · have hf := it_t c11 hf
      refine lv_iload_n hx hb dX9_freeTicks_64 rfl (lv_at hl 1 rfl) ?_
      have hf := sm_e hf
      exact xiret hC hr hlk h (by rw [← hf]) (by rw [← hf]) dX9_freeTicks_65
    · have hf := it_f c11 hf
      refine lv_iconst (v := (-1 : Int32)) hx hb dX9_freeTicks_60 (by decide) ?_
      refine lv_goto (tgt := 65) hx hb dX9_freeTicks_61 (by decide) ?_
      have hf := sm_e hf
      exact xiret hC hr hlk h (by rw [← hf]) (by rw [← hf]) dX9_freeTicks_65
  refine lv_icmp_gt (tgt := 40) hx hb dX9_freeTicks_19 (by decide) (fun c12 => ?_) (fun c12 => ?_)
  · have hf := it_t c12 hf
    exact hj7 () H locs h ls (lv_sub hl [0, 1] rfl) hf
  · have hf := it_f c12 hf
    refine lv_aload_n hx hb dX9_freeTicks_22 rfl (lv_at hl 0 rfl) ?_
    obtain ⟨r14, hy13, hf⟩ := ob_e hf
    refine xzG h (va_runV (As := []) (rest := []) hC (c_X9_isFree l G q v5 hy13 H.size) (xcwV hC lk_X9_277 in_X9 co_X9_isFree im_X9_isFree se_X9_isFree rfl rfl dd_X9_isFree ⟨Nat.le_of_ble_eq_true rfl, Nat.le_of_ble_eq_true rfl⟩) (preVO0 h.o (Nat.le_of_ble_eq_true rfl) eMod_0 rfl []) rfl rfl hl.1 rfl (lv_room (Nat.le_of_ble_eq_true rfl)) dX9_freeTicks_23 ⟨Nat.zero_le _, Nat.zero_le _⟩) (fun H locs hz15 h => ?_)
    refine lv_if_ne (tgt := 40) hx hb dX9_freeTicks_26 (by decide) (fun c16 => ?_) (fun c16 => ?_)
    · have hf := it_f c16 hf
      exact hj7 () H locs h ls (lv_sub hl [0, 1] rfl) hf
    · have hf := it_t c16 hf
      refine lv_aload_n hx hb dX9_freeTicks_29 rfl (lv_at hl 0 rfl) ?_
      obtain ⟨r18, hy17, hf⟩ := ob_e hf
      refine xz0 h (va_runV (As := []) (rest := []) hC (c_X9_ticks l G q v5 hy17 H.size) (xcwV hC lk_X9_132 in_X9 co_X9_ticks im_X9_ticks se_X9_ticks rfl rfl dd_X9_ticks ⟨Nat.le_of_ble_eq_true rfl, Nat.le_of_ble_eq_true rfl⟩) (preV0 h (Nat.le_of_ble_eq_true rfl) eMod_0 rfl []) rfl rfl hl.1 rfl (lv_room (Nat.le_of_ble_eq_true rfl)) dX9_freeTicks_30 ⟨Nat.zero_le _, Nat.zero_le _⟩) (fun H locs hz19 h => ?_)
      obtain ⟨v20, ev20, hf⟩ := lt_e hf
      rw [← ev20] at h
      refine lv_istore_n (lv' := [(2, .int r18.1), (0, .ref (q 0)), (1, .int a4)]) hx hb dX9_freeTicks_33 rfl hl (by decide) rfl (fun ls hl => ?_)
      refine lv_iinc (v := (a4 + 1)) (lv' := [(1, .int (a4 + 1)), (2, .int r18.1), (0, .ref (q 0))]) hx hb dX9_freeTicks_34 hl (k := 2) rfl rfl (by decide) rfl (fun ls hl => ?_)
      refine lv_goto (tgt := 15) hx hb dX9_freeTicks_37 (by decide) ?_
      exact hrec6 ((a4 + 1), v20) hf H locs h ls (lv_sub hl [2, 0] rfl)
def m_X9_freeIn (v : xSt) : Option (Int32 × xSt) := lt (st2 v 0 8 (0 : Int32)) (fun v1 => ob (m_X9_freeTicks v1) (fun r3 => lt (r3.2) (fun v4 => some (r3.1, v4))))
set_option maxHeartbeats 4000000 in
set_option maxRecDepth 100000 in
theorem c_X9_freeIn (l : Launch) (G : xGl) (q : Nat → Nat) (v : xSt) {z : (Int32 × xSt)} (hf : m_X9_freeIn v = some z) : mRW l yX9_freeIn (wM yX9_freeIn cX9_freeIn 1 (some .int)) { frames := 6, cells := 0, slots := 0, locals := 136 } G (eMod G) 8 q v [.ref (q 0)] (qI z.1) z.2 := by
  refine xRW (cc := cX9_freeIn) (maxL := 1) (ret := (some .int)) (by decide) rfl (Nat.le_of_ble_eq_true rfl) ?_
  intro p e s m below meth c ls A hC hr hlk h hl
  have hx := hC.1
  have hb := hC.2.1
  have hl : lv_has ls 1 [(0, .ref (q 0))] := hl
  unfold m_X9_freeIn at hf
  obtain ⟨H, hH⟩ : ∃ H, H = s.heap := ⟨_, rfl⟩
  obtain ⟨locs, hlo⟩ : ∃ x : List Loc, x = [] := ⟨_, rfl⟩
  have h : hg G (eMod G) 8 q v A s H locs := by rw [hH, hlo]; exact h
  rw [← hlo, ← hH]
  clear hH hlo
  refine lv_aload_n hx hb dX9_freeIn_0 rfl (lv_at hl 0 rfl) ?_
  refine lv_iconst (v := (0 : Int32)) hx hb dX9_freeIn_1 (by decide) ?_
  refine xput hC h (C := RX9) (T := TX9) (N := 17) (wM_us uw_X9) tyX9_ok nmX9 0 (Nat.le_of_ble_eq_true rfl) eMod_0 rfl 8 (by decide) (wM_in fl_X9_31) rfl (ty := .int) (tyX9_ok 8 (by decide)) rfl rfl (Nat.le_of_ble_eq_true rfl) (eMod_0.trans rfl) dX9_freeIn_2 (fun H locs h => ?_)
  obtain ⟨v1, ev1, hf⟩ := lt_e hf
  rw [← ev1] at h
  refine lv_aload_n hx hb dX9_freeIn_5 rfl (lv_at hl 0 rfl) ?_
  obtain ⟨r3, hy2, hf⟩ := ob_e hf
  refine xi0 h (va_runV (As := []) (rest := []) hC (c_X9_freeTicks l G q v1 hy2 H.size) (xcwV hC lk_X9_280 in_X9 co_X9_freeTicks im_X9_freeTicks se_X9_freeTicks rfl rfl dd_X9_freeTicks ⟨Nat.le_of_ble_eq_true rfl, Nat.le_of_ble_eq_true rfl⟩) (preV0 h (Nat.le_of_ble_eq_true rfl) eMod_0 rfl []) rfl rfl hl.1 rfl (lv_room (Nat.le_of_ble_eq_true rfl)) dX9_freeIn_6 ⟨Nat.zero_le _, Nat.zero_le _⟩) (fun H locs h => ?_)
  obtain ⟨v4, ev4, hf⟩ := lt_e hf
  rw [← ev4] at h
  have hf := sm_e hf
  exact xiret hC hr hlk h (by rw [← hf]) (by rw [← hf]) dX9_freeIn_9
def m_X9_leastErased (v : xSt) : Option (Int32) := lp (fun (rec3 : Int32 × Int32 → Option (Int32)) => un2 (fun (a1 : Int32) (a2 : Int32) => (if (8 : Int32) ≤ a2 then some a1 else ob (m_X9_isLocked v a2) (fun r6 => lt (fun (t8 : Int32) => rec3 (t8, (a2 + 1))) (fun j9 => lt (fun (_ : Unit) => j9 a1) (fun j10 => (if r6 = 0 then lt (fun (_ : Unit) => j9 a2) (fun j12 => (if a1 = (-1 : Int32) then j12 () else ck (¬ (((544 : Int32) + a2) < 0 ∨ 797 ≤ ((544 : Int32) + a2).toNatClampNeg)) (ck (¬ (((544 : Int32) + a1) < 0 ∨ 797 ≤ ((544 : Int32) + a1).toNatClampNeg)) ((if (v 1 ((544 : Int32) + a1).toNatClampNeg) ≤ (v 1 ((544 : Int32) + a2).toNatClampNeg) then j10 () else j12 ()))))) else j10 ()))))))) xF ((-1 : Int32), (0 : Int32))
set_option maxHeartbeats 4000000 in
set_option maxRecDepth 100000 in
theorem c_X9_leastErased (l : Launch) (G : xGl) (q : Nat → Nat) (v : xSt) {z : (Int32)} (hf : m_X9_leastErased v = some z) : mRO l yX9_leastErased (wM yX9_leastErased cX9_leastErased 3 (some .int)) { frames := 1, cells := 0, slots := 0, locals := 22 } G (eMod G) 8 q v [.ref (q 0)] (qI z) := by
  refine xRO (cc := cX9_leastErased) (maxL := 3) (ret := (some .int)) (by decide) rfl (Nat.le_of_ble_eq_true rfl) ?_
  intro p e s m below meth c ls A hC hr hlk h hl
  have hx := hC.1
  have hb := hC.2.1
  have hl : lv_has ls 3 [(0, .ref (q 0))] := hl
  unfold m_X9_leastErased at hf
  obtain ⟨H, hH⟩ : ∃ H, H = s.heap := ⟨_, rfl⟩
  obtain ⟨locs, hlo⟩ : ∃ x : List Loc, x = [] := ⟨_, rfl⟩
  have h : ho G (eMod G) 8 q v A s H locs := by rw [hH, hlo]; exact h
  rw [← hlo, ← hH]
  clear hH hlo
  refine lv_iconst (v := (-1 : Int32)) hx hb dX9_leastErased_0 (by decide) ?_
  refine lv_istore_n (lv' := [(1, .int (-1 : Int32)), (0, .ref (q 0))]) hx hb dX9_leastErased_1 rfl hl (by decide) rfl (fun ls hl => ?_)
  refine lv_iconst (v := (0 : Int32)) hx hb dX9_leastErased_2 (by decide) ?_
  refine lv_istore_n (lv' := [(2, .int (0 : Int32)), (1, .int (-1 : Int32)), (0, .ref (q 0))]) hx hb dX9_leastErased_3 rfl hl (by decide) rfl (fun ls hl => ?_)
  refine lp_i (z := z) (P := fun (pp : Int32 × Int32) => ∀ (H : Heap) (locs : List Loc), ho G (eMod G) 8 q v A s H locs → ∀ (ls : Array Slot), lv_has ls 3 [(0, .ref (q 0)), (1, .int pp.1), (2, .int pp.2)] → W p l e { frames := 1, cells := 0, slots := 0, locals := 22 } s m [.ref (q 0)].toArray below meth c H locs 0 0 (MQ below ((qI z) (fun _ => True) A) [.ref (q 0)].toArray s 0 0 A) (F0 m 4 ls [])) ?_ _ _ hf H locs h ls (lv_sub hl [2, 1, 0] rfl)
  intro rec3 hrec3 pp hf H locs h ls hl
  obtain ⟨a1, a2⟩ := pp
  have h : ho G (eMod G) 8 q v A s H locs := h
  have hl : lv_has ls 3 [(0, .ref (q 0)), (1, .int a1), (2, .int a2)] := hl
  have hf := un2_e hf
  refine lv_iload_n hx hb dX9_leastErased_4 rfl (lv_at hl 2 rfl) ?_
  refine lv_bipush (v := (8 : Int32)) hx hb dX9_leastErased_5 (by decide) ?_
  refine lv_icmp_ge (tgt := 58) hx hb dX9_leastErased_7 (by decide) (fun c4 => ?_) (fun c4 => ?_)
  · have hf := it_t c4 hf
    refine lv_iload_n hx hb dX9_leastErased_58 rfl (lv_at hl 1 rfl) ?_
    have hf := sm_e hf
    exact oiret hC hr hlk h (by rw [← hf]) dX9_leastErased_59
  · have hf := it_f c4 hf
    refine lv_aload_n hx hb dX9_leastErased_10 rfl (lv_at hl 0 rfl) ?_
    refine lv_iload_n hx hb dX9_leastErased_11 rfl (lv_at hl 2 rfl) ?_
    obtain ⟨r6, hy5, hf⟩ := ob_e hf
    refine xzO h (va_runV (As := [.int a2]) (rest := []) hC (c_X9_isLocked l G q v a2 hy5 H.size) (xcwV hC lk_X9_99 in_X9 co_X9_isLocked im_X9_isLocked se_X9_isLocked rfl rfl dd_X9_isLocked ⟨Nat.le_of_ble_eq_true rfl, Nat.le_of_ble_eq_true rfl⟩) (preVO0 h.o (Nat.le_of_ble_eq_true rfl) eMod_0 rfl [.int a2]) rfl rfl hl.1 rfl (lv_room (Nat.le_of_ble_eq_true rfl)) dX9_leastErased_12 ⟨Nat.zero_le _, Nat.zero_le _⟩) (fun H locs hz7 h => ?_)
    obtain ⟨j9, ej9, hf⟩ := lt_e hf
    have hj9 : ∀ (t8 : Int32) (H : Heap) (locs : List Loc), ho G (eMod G) 8 q v A s H locs → ∀ (ls : Array Slot), lv_has ls 3 [(0, .ref (q 0)), (2, .int a2)] → j9 t8 = some z → W p l e { frames := 1, cells := 0, slots := 0, locals := 22 } s m [.ref (q 0)].toArray below meth c H locs 0 0 (MQ below ((qI z) (fun _ => True) A) [.ref (q 0)].toArray s 0 0 A) (F0 m 51 ls [.int t8]) := by
      intro t8 H locs h ls hl hf
      rw [ej9] at hf
      refine lv_istore_n (lv' := [(1, .int t8), (0, .ref (q 0)), (2, .int a2)]) hx hb dX9_leastErased_51 rfl hl (by decide) rfl (fun ls hl => ?_)
      refine lv_iinc (v := (a2 + 1)) (lv' := [(2, .int (a2 + 1)), (1, .int t8), (0, .ref (q 0))]) hx hb dX9_leastErased_52 hl (k := 2) rfl rfl (by decide) rfl (fun ls hl => ?_)
      refine lv_goto (tgt := 4) hx hb dX9_leastErased_55 (by decide) ?_
      exact hrec3 (t8, (a2 + 1)) hf H locs h ls (lv_sub hl [2, 1, 0] rfl)
    obtain ⟨j10, ej10, hf⟩ := lt_e hf
    have hj10 : ∀ (uu : Unit) (H : Heap) (locs : List Loc), ho G (eMod G) 8 q v A s H locs → ∀ (ls : Array Slot), lv_has ls 3 [(0, .ref (q 0)), (1, .int a1), (2, .int a2)] → j10 uu = some z → W p l e { frames := 1, cells := 0, slots := 0, locals := 22 } s m [.ref (q 0)].toArray below meth c H locs 0 0 (MQ below ((qI z) (fun _ => True) A) [.ref (q 0)].toArray s 0 0 A) (F0 m 50 ls []) := by
      intro uu H locs h ls hl hf
      rw [ej10] at hf
      refine lv_iload_n hx hb dX9_leastErased_50 rfl (lv_at hl 1 rfl) ?_
      exact hj9 a1 H locs h ls (lv_sub hl [0, 2] rfl) hf
    refine lv_if_ne (tgt := 50) hx hb dX9_leastErased_15 (by decide) (fun c11 => ?_) (fun c11 => ?_)
    · have hf := it_f c11 hf
      exact hj10 () H locs h ls (lv_sub hl [0, 1, 2] rfl) hf
    · have hf := it_t c11 hf
      refine lv_iload_n hx hb dX9_leastErased_18 rfl (lv_at hl 1 rfl) ?_
      refine lv_iconst (v := (-1 : Int32)) hx hb dX9_leastErased_19 (by decide) ?_
      obtain ⟨j12, ej12, hf⟩ := lt_e hf
      have hj12 : ∀ (uu : Unit) (H : Heap) (locs : List Loc), ho G (eMod G) 8 q v A s H locs → ∀ (ls : Array Slot), lv_has ls 3 [(0, .ref (q 0)), (2, .int a2)] → j12 uu = some z → W p l e { frames := 1, cells := 0, slots := 0, locals := 22 } s m [.ref (q 0)].toArray below meth c H locs 0 0 (MQ below ((qI z) (fun _ => True) A) [.ref (q 0)].toArray s 0 0 A) (F0 m 46 ls []) := by
        intro uu H locs h ls hl hf
        rw [ej12] at hf
        refine lv_iload_n hx hb dX9_leastErased_46 rfl (lv_at hl 1 rfl) ?_
        refine lv_goto (tgt := 51) hx hb dX9_leastErased_47 (by decide) ?_
        exact hj9 a2 H locs h ls (lv_sub hl [0, 1] rfl) hf
      refine lv_icmp_eq (tgt := 46) hx hb dX9_leastErased_20 (by decide) (fun c13 => ?_) (fun c13 => ?_)
      · have hf := it_t c13 hf
        exact hj12 () H locs h ls (lv_sub hl [0, 2] rfl) hf
      · have hf := it_f c13 hf
        refine lv_aload_n hx hb dX9_leastErased_23 rfl (lv_at hl 0 rfl) ?_
        refine xget hC h.o (C := RX9) (T := TX9) (N := 17) (wM_us uw_X9) 0 (Nat.le_of_ble_eq_true rfl) eMod_0 rfl 0 (by decide) (wM_in fl_X9_7) rfl dX9_leastErased_24 ?_
        refine lv_sipush (v := (544 : Int32)) hx hb dX9_leastErased_27 (by decide) ?_
        refine lv_iload_n hx hb dX9_leastErased_30 rfl (lv_at hl 2 rfl) ?_
        refine lv_iadd hx hb dX9_leastErased_31 ?_
        obtain ⟨hi14, hf⟩ := ck_e hf
        refine xiald hC h.o 1 (Nat.le_of_ble_eq_true rfl) eMod_1 hi14 dX9_leastErased_32 ?_
        refine lv_aload_n hx hb dX9_leastErased_33 rfl (lv_at hl 0 rfl) ?_
        refine xget hC h.o (C := RX9) (T := TX9) (N := 17) (wM_us uw_X9) 0 (Nat.le_of_ble_eq_true rfl) eMod_0 rfl 0 (by decide) (wM_in fl_X9_7) rfl dX9_leastErased_34 ?_
        refine lv_sipush (v := (544 : Int32)) hx hb dX9_leastErased_37 (by decide) ?_
        refine lv_iload_n hx hb dX9_leastErased_40 rfl (lv_at hl 1 rfl) ?_
        refine lv_iadd hx hb dX9_leastErased_41 ?_
        obtain ⟨hi15, hf⟩ := ck_e hf
        refine xiald hC h.o 1 (Nat.le_of_ble_eq_true rfl) eMod_1 hi15 dX9_leastErased_42 ?_
        refine lv_icmp_ge (tgt := 50) hx hb dX9_leastErased_43 (by decide) (fun c16 => ?_) (fun c16 => ?_)
        · have hf := it_t c16 hf
          exact hj10 () H locs h ls (lv_sub hl [0, 1, 2] rfl) hf
        · have hf := it_f c16 hf
          exact hj12 () H locs h ls (lv_sub hl [0, 2] rfl) hf
def m_X9_leastWorn (v : xSt) : Option (Int32 × xSt) := lt (st2 v 0 8 (0 : Int32)) (fun v1 => ob (m_X9_leastErased v1) (fun r3 => some (r3, v1)))
set_option maxHeartbeats 4000000 in
set_option maxRecDepth 100000 in
theorem c_X9_leastWorn (l : Launch) (G : xGl) (q : Nat → Nat) (v : xSt) {z : (Int32 × xSt)} (hf : m_X9_leastWorn v = some z) : mRW l yX9_leastWorn (wM yX9_leastWorn cX9_leastWorn 1 (some .int)) { frames := 2, cells := 0, slots := 0, locals := 44 } G (eMod G) 8 q v [.ref (q 0)] (qI z.1) z.2 := by
  refine xRW (cc := cX9_leastWorn) (maxL := 1) (ret := (some .int)) (by decide) rfl (Nat.le_of_ble_eq_true rfl) ?_
  intro p e s m below meth c ls A hC hr hlk h hl
  have hx := hC.1
  have hb := hC.2.1
  have hl : lv_has ls 1 [(0, .ref (q 0))] := hl
  unfold m_X9_leastWorn at hf
  obtain ⟨H, hH⟩ : ∃ H, H = s.heap := ⟨_, rfl⟩
  obtain ⟨locs, hlo⟩ : ∃ x : List Loc, x = [] := ⟨_, rfl⟩
  have h : hg G (eMod G) 8 q v A s H locs := by rw [hH, hlo]; exact h
  rw [← hlo, ← hH]
  clear hH hlo
  refine lv_aload_n hx hb dX9_leastWorn_0 rfl (lv_at hl 0 rfl) ?_
  refine lv_iconst (v := (0 : Int32)) hx hb dX9_leastWorn_1 (by decide) ?_
  refine xput hC h (C := RX9) (T := TX9) (N := 17) (wM_us uw_X9) tyX9_ok nmX9 0 (Nat.le_of_ble_eq_true rfl) eMod_0 rfl 8 (by decide) (wM_in fl_X9_31) rfl (ty := .int) (tyX9_ok 8 (by decide)) rfl rfl (Nat.le_of_ble_eq_true rfl) (eMod_0.trans rfl) dX9_leastWorn_2 (fun H locs h => ?_)
  obtain ⟨v1, ev1, hf⟩ := lt_e hf
  rw [← ev1] at h
  refine lv_aload_n hx hb dX9_leastWorn_5 rfl (lv_at hl 0 rfl) ?_
  obtain ⟨r3, hy2, hf⟩ := ob_e hf
  refine xiG h (va_runV (As := []) (rest := []) hC (c_X9_leastErased l G q v1 hy2 H.size) (xcwV hC lk_X9_283 in_X9 co_X9_leastErased im_X9_leastErased se_X9_leastErased rfl rfl dd_X9_leastErased ⟨Nat.le_of_ble_eq_true rfl, Nat.le_of_ble_eq_true rfl⟩) (preVO0 h.o (Nat.le_of_ble_eq_true rfl) eMod_0 rfl []) rfl rfl hl.1 rfl (lv_room (Nat.le_of_ble_eq_true rfl)) dX9_leastWorn_6 ⟨Nat.zero_le _, Nat.zero_le _⟩) (fun H locs h => ?_)
  have hf := sm_e hf
  exact xiret hC hr hlk h (by rw [← hf]) (by rw [← hf]) dX9_leastWorn_9
def m_X9_mostHeld (v : xSt) : Option (Int32 × xSt) := lp (fun (rec3 : Int32 × xSt → Option (Int32 × xSt)) => un2 (fun (a1 : Int32) (v2 : xSt) => (if (256 : Int32) ≤ a1 then lp (fun (rec7 : Int32 × xSt → Option (Int32 × xSt)) => un2 (fun (a5 : Int32) (v6 : xSt) => (if (256 : Int32) ≤ a5 then lp (fun (rec11 : Int32 × Int32 → Option (Int32 × xSt)) => un2 (fun (a9 : Int32) (a10 : Int32) => (if (256 : Int32) ≤ a10 then some (a9, v6) else ck (¬ (a10 < 0 ∨ 256 ≤ a10.toNatClampNeg)) (ck (¬ (a9 < 0 ∨ 256 ≤ a9.toNatClampNeg)) (lt (fun (t15 : Int32) => rec11 (t15, (a10 + 1))) (fun j16 => (if (v6 7 a10.toNatClampNeg) ≤ (v6 7 a9.toNatClampNeg) then j16 a9 else j16 a10))))))) xF ((0 : Int32), (1 : Int32)) else ck (¬ (a5 < 0 ∨ 797 ≤ a5.toNatClampNeg)) (ck (¬ ((v6 1 a5.toNatClampNeg) < 0 ∨ 256 ≤ (v6 1 a5.toNatClampNeg).toNatClampNeg)) (ck (¬ ((v6 1 a5.toNatClampNeg) < 0 ∨ 256 ≤ (v6 1 a5.toNatClampNeg).toNatClampNeg)) (lt (st2 v6 7 (v6 1 a5.toNatClampNeg).toNatClampNeg ((v6 7 (v6 1 a5.toNatClampNeg).toNatClampNeg) + (1 : Int32))) (fun v21 => rec7 ((a5 + 1), v21)))))))) xF ((0 : Int32), v2) else ck (¬ (a1 < 0 ∨ 256 ≤ a1.toNatClampNeg)) (lt (st2 v2 7 a1.toNatClampNeg (0 : Int32)) (fun v23 => rec3 ((a1 + 1), v23)))))) xF ((0 : Int32), v)
set_option maxHeartbeats 4000000 in
set_option maxRecDepth 100000 in
theorem c_X9_mostHeld (l : Launch) (G : xGl) (q : Nat → Nat) (v : xSt) {z : (Int32 × xSt)} (hf : m_X9_mostHeld v = some z) : mRW l yX9_mostHeld (wM yX9_mostHeld cX9_mostHeld 3 (some .int)) { frames := 0, cells := 0, slots := 0, locals := 0 } G (eMod G) 8 q v [.ref (q 0)] (qI z.1) z.2 := by
  refine xRW (cc := cX9_mostHeld) (maxL := 3) (ret := (some .int)) (by decide) rfl (Nat.le_of_ble_eq_true rfl) ?_
  intro p e s m below meth c ls A hC hr hlk h hl
  have hx := hC.1
  have hb := hC.2.1
  have hl : lv_has ls 3 [(0, .ref (q 0))] := hl
  unfold m_X9_mostHeld at hf
  obtain ⟨H, hH⟩ : ∃ H, H = s.heap := ⟨_, rfl⟩
  obtain ⟨locs, hlo⟩ : ∃ x : List Loc, x = [] := ⟨_, rfl⟩
  have h : hg G (eMod G) 8 q v A s H locs := by rw [hH, hlo]; exact h
  rw [← hlo, ← hH]
  clear hH hlo
  refine lv_iconst (v := (0 : Int32)) hx hb dX9_mostHeld_0 (by decide) ?_
  refine lv_istore_n (lv' := [(1, .int (0 : Int32)), (0, .ref (q 0))]) hx hb dX9_mostHeld_1 rfl hl (by decide) rfl (fun ls hl => ?_)
  refine lp_i (z := z) (P := fun (pp : Int32 × xSt) => ∀ (H : Heap) (locs : List Loc), hg G (eMod G) 8 q pp.2 A s H locs → ∀ (ls : Array Slot), lv_has ls 3 [(0, .ref (q 0)), (1, .int pp.1)] → W p l e { frames := 0, cells := 0, slots := 0, locals := 0 } s m [.ref (q 0)].toArray below meth c H locs 0 0 (MQ below ((qI z.1) (cB G (eMod G) 8 q z.2 A) A) [.ref (q 0)].toArray s 0 0 A) (F0 m 2 ls [])) ?_ _ _ hf H locs h ls (lv_sub hl [1, 0] rfl)
  intro rec3 hrec3 pp hf H locs h ls hl
  obtain ⟨a1, v2⟩ := pp
  have h : hg G (eMod G) 8 q v2 A s H locs := h
  have hl : lv_has ls 3 [(0, .ref (q 0)), (1, .int a1)] := hl
  have hf := un2_e hf
  refine lv_iload_n hx hb dX9_mostHeld_2 rfl (lv_at hl 1 rfl) ?_
  refine lv_sipush (v := (256 : Int32)) hx hb dX9_mostHeld_3 (by decide) ?_
  refine lv_icmp_ge (tgt := 22) hx hb dX9_mostHeld_6 (by decide) (fun c4 => ?_) (fun c4 => ?_)
  · have hf := it_t c4 hf
    refine lv_iconst (v := (0 : Int32)) hx hb dX9_mostHeld_22 (by decide) ?_
    refine lv_istore_n (lv' := [(1, .int (0 : Int32)), (0, .ref (q 0))]) hx hb dX9_mostHeld_23 rfl hl (by decide) rfl (fun ls hl => ?_)
    refine lp_i (z := z) (P := fun (pp : Int32 × xSt) => ∀ (H : Heap) (locs : List Loc), hg G (eMod G) 8 q pp.2 A s H locs → ∀ (ls : Array Slot), lv_has ls 3 [(0, .ref (q 0)), (1, .int pp.1)] → W p l e { frames := 0, cells := 0, slots := 0, locals := 0 } s m [.ref (q 0)].toArray below meth c H locs 0 0 (MQ below ((qI z.1) (cB G (eMod G) 8 q z.2 A) A) [.ref (q 0)].toArray s 0 0 A) (F0 m 24 ls [])) ?_ _ _ hf H locs h ls (lv_sub hl [1, 0] rfl)
    intro rec7 hrec7 pp hf H locs h ls hl
    obtain ⟨a5, v6⟩ := pp
    have h : hg G (eMod G) 8 q v6 A s H locs := h
    have hl : lv_has ls 3 [(0, .ref (q 0)), (1, .int a5)] := hl
    have hf := un2_e hf
    refine lv_iload_n hx hb dX9_mostHeld_24 rfl (lv_at hl 1 rfl) ?_
    refine lv_sipush (v := (256 : Int32)) hx hb dX9_mostHeld_25 (by decide) ?_
    refine lv_icmp_ge (tgt := 52) hx hb dX9_mostHeld_28 (by decide) (fun c8 => ?_) (fun c8 => ?_)
    · have hf := it_t c8 hf
      refine lv_iconst (v := (0 : Int32)) hx hb dX9_mostHeld_52 (by decide) ?_
      refine lv_istore_n (lv' := [(1, .int (0 : Int32)), (0, .ref (q 0))]) hx hb dX9_mostHeld_53 rfl hl (by decide) rfl (fun ls hl => ?_)
      refine lv_iconst (v := (1 : Int32)) hx hb dX9_mostHeld_54 (by decide) ?_
      refine lv_istore_n (lv' := [(2, .int (1 : Int32)), (1, .int (0 : Int32)), (0, .ref (q 0))]) hx hb dX9_mostHeld_55 rfl hl (by decide) rfl (fun ls hl => ?_)
      refine lp_i (z := z) (P := fun (pp : Int32 × Int32) => ∀ (H : Heap) (locs : List Loc), hg G (eMod G) 8 q v6 A s H locs → ∀ (ls : Array Slot), lv_has ls 3 [(0, .ref (q 0)), (1, .int pp.1), (2, .int pp.2)] → W p l e { frames := 0, cells := 0, slots := 0, locals := 0 } s m [.ref (q 0)].toArray below meth c H locs 0 0 (MQ below ((qI z.1) (cB G (eMod G) 8 q z.2 A) A) [.ref (q 0)].toArray s 0 0 A) (F0 m 56 ls [])) ?_ _ _ hf H locs h ls (lv_sub hl [2, 1, 0] rfl)
      intro rec11 hrec11 pp hf H locs h ls hl
      obtain ⟨a9, a10⟩ := pp
      have h : hg G (eMod G) 8 q v6 A s H locs := h
      have hl : lv_has ls 3 [(0, .ref (q 0)), (1, .int a9), (2, .int a10)] := hl
      have hf := un2_e hf
      refine lv_iload_n hx hb dX9_mostHeld_56 rfl (lv_at hl 2 rfl) ?_
      refine lv_sipush (v := (256 : Int32)) hx hb dX9_mostHeld_57 (by decide) ?_
      refine lv_icmp_ge (tgt := 90) hx hb dX9_mostHeld_60 (by decide) (fun c12 => ?_) (fun c12 => ?_)
      · have hf := it_t c12 hf
        refine lv_iload_n hx hb dX9_mostHeld_90 rfl (lv_at hl 1 rfl) ?_
        have hf := sm_e hf
        exact xiret hC hr hlk h (by rw [← hf]) (by rw [← hf]) dX9_mostHeld_91
      · have hf := it_f c12 hf
        refine lv_aload_n hx hb dX9_mostHeld_63 rfl (lv_at hl 0 rfl) ?_
        refine xget hC h.o (C := RX9) (T := TX9) (N := 17) (wM_us uw_X9) 0 (Nat.le_of_ble_eq_true rfl) eMod_0 rfl 16 (by decide) (wM_in fl_X9_28) rfl dX9_mostHeld_64 ?_
        refine lv_iload_n hx hb dX9_mostHeld_67 rfl (lv_at hl 2 rfl) ?_
        obtain ⟨hi13, hf⟩ := ck_e hf
        refine xiald hC h.o 7 (Nat.le_of_ble_eq_true rfl) eMod_7 hi13 dX9_mostHeld_68 ?_
        refine lv_aload_n hx hb dX9_mostHeld_69 rfl (lv_at hl 0 rfl) ?_
        refine xget hC h.o (C := RX9) (T := TX9) (N := 17) (wM_us uw_X9) 0 (Nat.le_of_ble_eq_true rfl) eMod_0 rfl 16 (by decide) (wM_in fl_X9_28) rfl dX9_mostHeld_70 ?_
        refine lv_iload_n hx hb dX9_mostHeld_73 rfl (lv_at hl 1 rfl) ?_
        obtain ⟨hi14, hf⟩ := ck_e hf
        refine xiald hC h.o 7 (Nat.le_of_ble_eq_true rfl) eMod_7 hi14 dX9_mostHeld_74 ?_
        obtain ⟨j16, ej16, hf⟩ := lt_e hf
        have hj16 : ∀ (t15 : Int32) (H : Heap) (locs : List Loc), hg G (eMod G) 8 q v6 A s H locs → ∀ (ls : Array Slot), lv_has ls 3 [(0, .ref (q 0)), (2, .int a10)] → j16 t15 = some z → W p l e { frames := 0, cells := 0, slots := 0, locals := 0 } s m [.ref (q 0)].toArray below meth c H locs 0 0 (MQ below ((qI z.1) (cB G (eMod G) 8 q z.2 A) A) [.ref (q 0)].toArray s 0 0 A) (F0 m 83 ls [.int t15]) := by
          intro t15 H locs h ls hl hf
          rw [ej16] at hf
          refine lv_istore_n (lv' := [(1, .int t15), (0, .ref (q 0)), (2, .int a10)]) hx hb dX9_mostHeld_83 rfl hl (by decide) rfl (fun ls hl => ?_)
          refine lv_iinc (v := (a10 + 1)) (lv' := [(2, .int (a10 + 1)), (1, .int t15), (0, .ref (q 0))]) hx hb dX9_mostHeld_84 hl (k := 2) rfl rfl (by decide) rfl (fun ls hl => ?_)
          refine lv_goto (tgt := 56) hx hb dX9_mostHeld_87 (by decide) ?_
          exact hrec11 (t15, (a10 + 1)) hf H locs h ls (lv_sub hl [2, 1, 0] rfl)
        refine lv_icmp_le (tgt := 82) hx hb dX9_mostHeld_75 (by decide) (fun c17 => ?_) (fun c17 => ?_)
        · have hf := it_t c17 hf
          refine lv_iload_n hx hb dX9_mostHeld_82 rfl (lv_at hl 1 rfl) ?_
          exact hj16 a9 H locs h ls (lv_sub hl [0, 2] rfl) hf
        · have hf := it_f c17 hf
          refine lv_iload_n hx hb dX9_mostHeld_78 rfl (lv_at hl 2 rfl) ?_
          refine lv_goto (tgt := 83) hx hb dX9_mostHeld_79 (by decide) ?_
          exact hj16 a10 H locs h ls (lv_sub hl [0, 2] rfl) hf
    · have hf := it_f c8 hf
      refine lv_aload_n hx hb dX9_mostHeld_31 rfl (lv_at hl 0 rfl) ?_
      refine xget hC h.o (C := RX9) (T := TX9) (N := 17) (wM_us uw_X9) 0 (Nat.le_of_ble_eq_true rfl) eMod_0 rfl 16 (by decide) (wM_in fl_X9_28) rfl dX9_mostHeld_32 ?_
      refine lv_aload_n hx hb dX9_mostHeld_35 rfl (lv_at hl 0 rfl) ?_
      refine xget hC h.o (C := RX9) (T := TX9) (N := 17) (wM_us uw_X9) 0 (Nat.le_of_ble_eq_true rfl) eMod_0 rfl 0 (by decide) (wM_in fl_X9_7) rfl dX9_mostHeld_36 ?_
      refine lv_iload_n hx hb dX9_mostHeld_39 rfl (lv_at hl 1 rfl) ?_
      obtain ⟨hi18, hf⟩ := ck_e hf
      refine xiald hC h.o 1 (Nat.le_of_ble_eq_true rfl) eMod_1 hi18 dX9_mostHeld_40 ?_
      refine lv_dup2_11 hx hb dX9_mostHeld_41 rfl rfl ?_
      obtain ⟨hi19, hf⟩ := ck_e hf
      refine xiald hC h.o 7 (Nat.le_of_ble_eq_true rfl) eMod_7 hi19 dX9_mostHeld_42 ?_
      refine lv_iconst (v := (1 : Int32)) hx hb dX9_mostHeld_43 (by decide) ?_
      refine lv_iadd hx hb dX9_mostHeld_44 ?_
      obtain ⟨hi20, hf⟩ := ck_e hf
      refine xiast hC h 7 (Nat.le_of_ble_eq_true rfl) (fun _ => eMod_7) hi20 dX9_mostHeld_45 (fun H locs h => ?_)
      obtain ⟨v21, ev21, hf⟩ := lt_e hf
      rw [← ev21] at h
      refine lv_iinc (v := (a5 + 1)) (lv' := [(1, .int (a5 + 1)), (0, .ref (q 0))]) hx hb dX9_mostHeld_46 hl (k := 1) rfl rfl (by decide) rfl (fun ls hl => ?_)
      refine lv_goto (tgt := 24) hx hb dX9_mostHeld_49 (by decide) ?_
      exact hrec7 ((a5 + 1), v21) hf H locs h ls (lv_sub hl [1, 0] rfl)
  · have hf := it_f c4 hf
    refine lv_aload_n hx hb dX9_mostHeld_9 rfl (lv_at hl 0 rfl) ?_
    refine xget hC h.o (C := RX9) (T := TX9) (N := 17) (wM_us uw_X9) 0 (Nat.le_of_ble_eq_true rfl) eMod_0 rfl 16 (by decide) (wM_in fl_X9_28) rfl dX9_mostHeld_10 ?_
    refine lv_iload_n hx hb dX9_mostHeld_13 rfl (lv_at hl 1 rfl) ?_
    refine lv_iconst (v := (0 : Int32)) hx hb dX9_mostHeld_14 (by decide) ?_
    obtain ⟨hi22, hf⟩ := ck_e hf
    refine xiast hC h 7 (Nat.le_of_ble_eq_true rfl) (fun _ => eMod_7) hi22 dX9_mostHeld_15 (fun H locs h => ?_)
    obtain ⟨v23, ev23, hf⟩ := lt_e hf
    rw [← ev23] at h
    refine lv_iinc (v := (a1 + 1)) (lv' := [(1, .int (a1 + 1)), (0, .ref (q 0))]) hx hb dX9_mostHeld_16 hl (k := 1) rfl rfl (by decide) rfl (fun ls hl => ?_)
    refine lv_goto (tgt := 2) hx hb dX9_mostHeld_19 (by decide) ?_
    exact hrec3 ((a1 + 1), v23) hf H locs h ls (lv_sub hl [1, 0] rfl)
def m_X9_commonest (v : xSt) : Option (Int32 × xSt) := lt (st2 v 0 8 (0 : Int32)) (fun v1 => ob (m_X9_mostHeld v1) (fun r3 => lt (r3.2) (fun v4 => some (r3.1, v4))))
set_option maxHeartbeats 4000000 in
set_option maxRecDepth 100000 in
theorem c_X9_commonest (l : Launch) (G : xGl) (q : Nat → Nat) (v : xSt) {z : (Int32 × xSt)} (hf : m_X9_commonest v = some z) : mRW l yX9_commonest (wM yX9_commonest cX9_commonest 1 (some .int)) { frames := 1, cells := 0, slots := 0, locals := 22 } G (eMod G) 8 q v [.ref (q 0)] (qI z.1) z.2 := by
  refine xRW (cc := cX9_commonest) (maxL := 1) (ret := (some .int)) (by decide) rfl (Nat.le_of_ble_eq_true rfl) ?_
  intro p e s m below meth c ls A hC hr hlk h hl
  have hx := hC.1
  have hb := hC.2.1
  have hl : lv_has ls 1 [(0, .ref (q 0))] := hl
  unfold m_X9_commonest at hf
  obtain ⟨H, hH⟩ : ∃ H, H = s.heap := ⟨_, rfl⟩
  obtain ⟨locs, hlo⟩ : ∃ x : List Loc, x = [] := ⟨_, rfl⟩
  have h : hg G (eMod G) 8 q v A s H locs := by rw [hH, hlo]; exact h
  rw [← hlo, ← hH]
  clear hH hlo
  refine lv_aload_n hx hb dX9_commonest_0 rfl (lv_at hl 0 rfl) ?_
  refine lv_iconst (v := (0 : Int32)) hx hb dX9_commonest_1 (by decide) ?_
  refine xput hC h (C := RX9) (T := TX9) (N := 17) (wM_us uw_X9) tyX9_ok nmX9 0 (Nat.le_of_ble_eq_true rfl) eMod_0 rfl 8 (by decide) (wM_in fl_X9_31) rfl (ty := .int) (tyX9_ok 8 (by decide)) rfl rfl (Nat.le_of_ble_eq_true rfl) (eMod_0.trans rfl) dX9_commonest_2 (fun H locs h => ?_)
  obtain ⟨v1, ev1, hf⟩ := lt_e hf
  rw [← ev1] at h
  refine lv_aload_n hx hb dX9_commonest_5 rfl (lv_at hl 0 rfl) ?_
  obtain ⟨r3, hy2, hf⟩ := ob_e hf
  refine xi0 h (va_runV (As := []) (rest := []) hC (c_X9_mostHeld l G q v1 hy2 H.size) (xcwV hC lk_X9_286 in_X9 co_X9_mostHeld im_X9_mostHeld se_X9_mostHeld rfl rfl dd_X9_mostHeld ⟨Nat.le_of_ble_eq_true rfl, Nat.le_of_ble_eq_true rfl⟩) (preV0 h (Nat.le_of_ble_eq_true rfl) eMod_0 rfl []) rfl rfl hl.1 rfl (lv_room (Nat.le_of_ble_eq_true rfl)) dX9_commonest_6 ⟨Nat.zero_le _, Nat.zero_le _⟩) (fun H locs h => ?_)
  obtain ⟨v4, ev4, hf⟩ := lt_e hf
  rw [← ev4] at h
  have hf := sm_e hf
  exact xiret hC hr hlk h (by rw [← hf]) (by rw [← hf]) dX9_commonest_9
