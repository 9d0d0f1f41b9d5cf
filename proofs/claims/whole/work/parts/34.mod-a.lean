def m_X9_thrown (v : xSt) : Option (Int32) := some (v 0 8)
set_option maxHeartbeats 4000000 in
set_option maxRecDepth 100000 in
theorem c_X9_thrown (l : Launch) (G : xGl) (q : Nat → Nat) (v : xSt) {z : (Int32)} (hf : m_X9_thrown v = some z) : mRO l yX9_thrown (wM yX9_thrown cX9_thrown 1 (some .int)) { frames := 0, cells := 0, slots := 0, locals := 0 } G (eMod G) 8 q v [.ref (q 0)] (qI z) := by
  refine xRO (cc := cX9_thrown) (maxL := 1) (ret := (some .int)) (by decide) rfl (Nat.le_of_ble_eq_true rfl) ?_
  intro p e s m below meth c ls A hC hr hlk h hl
  have hx := hC.1
  have hb := hC.2.1
  have hl : lv_has ls 1 [(0, .ref (q 0))] := hl
  unfold m_X9_thrown at hf
  obtain ⟨H, hH⟩ : ∃ H, H = s.heap := ⟨_, rfl⟩
  obtain ⟨locs, hlo⟩ : ∃ x : List Loc, x = [] := ⟨_, rfl⟩
  have h : ho G (eMod G) 8 q v A s H locs := by rw [hH, hlo]; exact h
  rw [← hlo, ← hH]
  clear hH hlo
  refine lv_aload_n hx hb dX9_thrown_0 rfl (lv_at hl 0 rfl) ?_
  refine xget hC h.o (C := RX9) (T := TX9) (N := 17) (wM_us uw_X9) 0 (Nat.le_of_ble_eq_true rfl) eMod_0 rfl 8 (by decide) (wM_in fl_X9_31) rfl dX9_thrown_1 ?_
  have hf := sm_e hf
  exact oiret hC hr hlk h (by rw [← hf]) dX9_thrown_4
def m_X9_fails (v : xSt) (p1 : Int32) : Option (Int32 × xSt) := lt (st2 v 0 8 p1) (fun v1 => some ((0 : Int32), v1))
set_option maxHeartbeats 4000000 in
set_option maxRecDepth 100000 in
theorem c_X9_fails (l : Launch) (G : xGl) (q : Nat → Nat) (v : xSt) (p1 : Int32) {z : (Int32 × xSt)} (hf : m_X9_fails v p1 = some z) : mRW l yX9_fails (wM yX9_fails cX9_fails 2 (some .int)) { frames := 0, cells := 0, slots := 0, locals := 0 } G (eMod G) 8 q v [.ref (q 0), .int p1] (qI z.1) z.2 := by
  refine xRW (cc := cX9_fails) (maxL := 2) (ret := (some .int)) (by decide) rfl (Nat.le_of_ble_eq_true rfl) ?_
  intro p e s m below meth c ls A hC hr hlk h hl
  have hx := hC.1
  have hb := hC.2.1
  have hl : lv_has ls 2 [(0, .ref (q 0)), (1, .int p1)] := hl
  unfold m_X9_fails at hf
  obtain ⟨H, hH⟩ : ∃ H, H = s.heap := ⟨_, rfl⟩
  obtain ⟨locs, hlo⟩ : ∃ x : List Loc, x = [] := ⟨_, rfl⟩
  have h : hg G (eMod G) 8 q v A s H locs := by rw [hH, hlo]; exact h
  rw [← hlo, ← hH]
  clear hH hlo
  refine lv_aload_n hx hb dX9_fails_0 rfl (lv_at hl 0 rfl) ?_
  refine lv_iload_n hx hb dX9_fails_1 rfl (lv_at hl 1 rfl) ?_
  refine xput hC h (C := RX9) (T := TX9) (N := 17) (wM_us uw_X9) tyX9_ok nmX9 0 (Nat.le_of_ble_eq_true rfl) eMod_0 rfl 8 (by decide) (wM_in fl_X9_31) rfl (ty := .int) (tyX9_ok 8 (by decide)) rfl rfl (Nat.le_of_ble_eq_true rfl) (eMod_0.trans rfl) dX9_fails_2 (fun H locs h => ?_)
  obtain ⟨v1, ev1, hf⟩ := lt_e hf
  rw [← ev1] at h
  refine lv_iconst (v := (0 : Int32)) hx hb dX9_fails_5 (by decide) ?_
  have hf := sm_e hf
  exact xiret hC hr hlk h (by rw [← hf]) (by rw [← hf]) dX9_fails_6
def m_X9_copies (N : Nat) (M : Nat) (v : xSt) (p1 : Int32) (p3 : Int32) : Option xSt := lp (fun (rec3 : Int32 × xSt → Option xSt) => un2 (fun (a1 : Int32) (v2 : xSt) => (if (797 : Int32) ≤ a1 then some v2 else ck (¬ ((p1 + a1) < 0 ∨ N ≤ (p1 + a1).toNatClampNeg)) (ck (¬ ((p3 + a1) < 0 ∨ M ≤ (p3 + a1).toNatClampNeg)) (lt (st2 v2 1 (p3 + a1).toNatClampNeg (v2 0 (p1 + a1).toNatClampNeg)) (fun v7 => rec3 ((a1 + 1), v7))))))) xF ((0 : Int32), v)
set_option maxHeartbeats 4000000 in
set_option maxRecDepth 100000 in
theorem c_X9_copies (l : Launch) (G : xGl) (q : Nat → Nat) (N : Nat) (M : Nat) (v : xSt) (p1 : Int32) (p3 : Int32) {z : xSt} (hf : m_X9_copies N M v p1 p3 = some z) : mRW l yX9_copies (wM yX9_copies cX9_copies 5 none) { frames := 0, cells := 0, slots := 0, locals := 0 } G (e2 1 (eInt G N) (eInt G M)) 2 q v [.ref (q 0), .int p1, .ref (q 1), .int p3] qV z := by
  refine xRW (cc := cX9_copies) (maxL := 5) (ret := none) (by decide) rfl (Nat.le_of_ble_eq_true rfl) ?_
  intro p e s m below meth c ls A hC hr hlk h hl
  have hx := hC.1
  have hb := hC.2.1
  have hl : lv_has ls 5 [(0, .ref (q 0)), (1, .int p1), (2, .ref (q 1)), (3, .int p3)] := hl
  unfold m_X9_copies at hf
  obtain ⟨H, hH⟩ : ∃ H, H = s.heap := ⟨_, rfl⟩
  obtain ⟨locs, hlo⟩ : ∃ x : List Loc, x = [] := ⟨_, rfl⟩
  have h : hg G (e2 1 (eInt G N) (eInt G M)) 2 q v A s H locs := by rw [hH, hlo]; exact h
  rw [← hlo, ← hH]
  clear hH hlo
  refine lv_iconst (v := (0 : Int32)) hx hb dX9_copies_0 (by decide) ?_
  refine lv_istore (lv' := [(4, .int (0 : Int32)), (0, .ref (q 0)), (1, .int p1), (2, .ref (q 1)), (3, .int p3)]) hx hb dX9_copies_1 hl (by decide) rfl (fun ls hl => ?_)
  refine lp_i (z := z) (P := fun (pp : Int32 × xSt) => ∀ (H : Heap) (locs : List Loc), hg G (e2 1 (eInt G N) (eInt G M)) 2 q pp.2 A s H locs → ∀ (ls : Array Slot), lv_has ls 5 [(0, .ref (q 0)), (1, .int p1), (2, .ref (q 1)), (3, .int p3), (4, .int pp.1)] → W p l e { frames := 0, cells := 0, slots := 0, locals := 0 } s m [.ref (q 0), .int p1, .ref (q 1), .int p3].toArray below meth c H locs 0 0 (MQ below (qV (cB G (e2 1 (eInt G N) (eInt G M)) 2 q z A) A) [.ref (q 0), .int p1, .ref (q 1), .int p3].toArray s 0 0 A) (F0 m 3 ls [])) ?_ _ _ hf H locs h ls (lv_sub hl [1, 2, 3, 4, 0] rfl)
  intro rec3 hrec3 pp hf H locs h ls hl
  obtain ⟨a1, v2⟩ := pp
  have h : hg G (e2 1 (eInt G N) (eInt G M)) 2 q v2 A s H locs := h
  have hl : lv_has ls 5 [(0, .ref (q 0)), (1, .int p1), (2, .ref (q 1)), (3, .int p3), (4, .int a1)] := hl
  have hf := un2_e hf
  refine lv_iload hx hb dX9_copies_3 (lv_at hl 4 rfl) ?_
  refine lv_sipush (v := (797 : Int32)) hx hb dX9_copies_5 (by decide) ?_
  refine lv_icmp_ge (tgt := 29) hx hb dX9_copies_8 (by decide) (fun c4 => ?_) (fun c4 => ?_)
  · have hf := it_t c4 hf
    have hf := sm_e hf
    exact xvret hC hr hlk h hf dX9_copies_29
  · have hf := it_f c4 hf
    refine lv_aload_n hx hb dX9_copies_11 rfl (lv_at hl 2 rfl) ?_
    refine lv_iload_n hx hb dX9_copies_12 rfl (lv_at hl 3 rfl) ?_
    refine lv_iload hx hb dX9_copies_13 (lv_at hl 4 rfl) ?_
    refine lv_iadd hx hb dX9_copies_15 ?_
    refine lv_aload_n hx hb dX9_copies_16 rfl (lv_at hl 0 rfl) ?_
    refine lv_iload_n hx hb dX9_copies_17 rfl (lv_at hl 1 rfl) ?_
    refine lv_iload hx hb dX9_copies_18 (lv_at hl 4 rfl) ?_
    refine lv_iadd hx hb dX9_copies_20 ?_
    obtain ⟨hi5, hf⟩ := ck_e hf
    refine xiald hC h.o 0 (Nat.le_of_ble_eq_true rfl) (show e2 1 (eInt G N) (eInt G M) q 0 _ = .inl (G.2 0, N, .inl _) from rfl) hi5 dX9_copies_21 ?_
    obtain ⟨hi6, hf⟩ := ck_e hf
    refine xiast hC h 1 (Nat.le_of_ble_eq_true rfl) (fun _ => (show e2 1 (eInt G N) (eInt G M) q 1 _ = .inl (G.2 0, M, .inl _) from rfl)) hi6 dX9_copies_22 (fun H locs h => ?_)
    obtain ⟨v7, ev7, hf⟩ := lt_e hf
    rw [← ev7] at h
    refine lv_iinc (v := (a1 + 1)) (lv' := [(4, .int (a1 + 1)), (0, .ref (q 0)), (1, .int p1), (2, .ref (q 1)), (3, .int p3)]) hx hb dX9_copies_23 hl (k := 4) rfl rfl (by decide) rfl (fun ls hl => ?_)
    refine lv_goto (tgt := 3) hx hb dX9_copies_26 (by decide) ?_
    exact hrec3 ((a1 + 1), v7) hf H locs h ls (lv_sub hl [1, 2, 3, 4, 0] rfl)
def m_X9_saves (v : xSt) : Option xSt := lt (fun (v1 : xSt) => ob (m_X9_copies 797 4782 (ct 1 (sh 1 v1) (sh 3 v1)) (0 : Int32) ((797 : Int32) * (v1 0 3))) (fun r4 => lt (pu 3 1 (pu 1 1 v1 r4) (sh 1 r4)) (fun v5 => lt (st2 v5 0 3 ((v5 0 3) + (1 : Int32))) (fun v6 => some v6)))) (fun j2 => (if (v 0 3) = (6 : Int32) then lp (fun (rec10 : Int32 × xSt → Option xSt) => un2 (fun (a8 : Int32) (v9 : xSt) => (if (3985 : Int32) ≤ a8 then lt (st2 v9 0 3 ((v9 0 3) - (1 : Int32))) (fun v12 => j2 v12) else ck (¬ ((a8 + (797 : Int32)) < 0 ∨ 4782 ≤ (a8 + (797 : Int32)).toNatClampNeg)) (ck (¬ (a8 < 0 ∨ 4782 ≤ a8.toNatClampNeg)) (lt (st2 v9 3 a8.toNatClampNeg (v9 3 (a8 + (797 : Int32)).toNatClampNeg)) (fun v15 => rec10 ((a8 + 1), v15))))))) xF ((0 : Int32), v) else j2 v))
set_option maxHeartbeats 4000000 in
set_option maxRecDepth 100000 in
theorem c_X9_saves (l : Launch) (G : xGl) (q : Nat → Nat) (v : xSt) {z : xSt} (hf : m_X9_saves v = some z) : mRW l yX9_saves (wM yX9_saves cX9_saves 2 none) { frames := 1, cells := 0, slots := 0, locals := 24 } G (eMod G) 8 q v [.ref (q 0)] qV z := by
  refine xRW (cc := cX9_saves) (maxL := 2) (ret := none) (by decide) rfl (Nat.le_of_ble_eq_true rfl) ?_
  intro p e s m below meth c ls A hC hr hlk h hl
  have hx := hC.1
  have hb := hC.2.1
  have hl : lv_has ls 2 [(0, .ref (q 0))] := hl
  unfold m_X9_saves at hf
  obtain ⟨H, hH⟩ : ∃ H, H = s.heap := ⟨_, rfl⟩
  obtain ⟨locs, hlo⟩ : ∃ x : List Loc, x = [] := ⟨_, rfl⟩
  have h : hg G (eMod G) 8 q v A s H locs := by rw [hH, hlo]; exact h
  rw [← hlo, ← hH]
  clear hH hlo
  refine lv_aload_n hx hb dX9_saves_0 rfl (lv_at hl 0 rfl) ?_
  refine xget hC h.o (C := RX9) (T := TX9) (N := 17) (wM_us uw_X9) 0 (Nat.le_of_ble_eq_true rfl) eMod_0 rfl 3 (by decide) (wM_in fl_X9_35) rfl dX9_saves_1 ?_
  refine lv_bipush (v := (6 : Int32)) hx hb dX9_saves_4 (by decide) ?_
  obtain ⟨j2, ej2, hf⟩ := lt_e hf
  have hj2 : ∀ (v1 : xSt) (H : Heap) (locs : List Loc), hg G (eMod G) 8 q v1 A s H locs → ∀ (ls : Array Slot), lv_has ls 2 [(0, .ref (q 0))] → j2 v1 = some z → W p l e { frames := 1, cells := 0, slots := 0, locals := 24 } s m [.ref (q 0)].toArray below meth c H locs 0 0 (MQ below (qV (cB G (eMod G) 8 q z A) A) [.ref (q 0)].toArray s 0 0 A) (F0 m 50 ls []) := by
    intro v1 H locs h ls hl hf
    rw [ej2] at hf
    refine lv_aload_n hx hb dX9_saves_50 rfl (lv_at hl 0 rfl) ?_
    refine xget hC h.o (C := RX9) (T := TX9) (N := 17) (wM_us uw_X9) 0 (Nat.le_of_ble_eq_true rfl) eMod_0 rfl 0 (by decide) (wM_in fl_X9_7) rfl dX9_saves_51 ?_
    refine lv_iconst (v := (0 : Int32)) hx hb dX9_saves_54 (by decide) ?_
    refine lv_aload_n hx hb dX9_saves_55 rfl (lv_at hl 0 rfl) ?_
    refine xget hC h.o (C := RX9) (T := TX9) (N := 17) (wM_us uw_X9) 0 (Nat.le_of_ble_eq_true rfl) eMod_0 rfl 2 (by decide) (wM_in fl_X9_16) rfl dX9_saves_56 ?_
    refine lv_sipush (v := (797 : Int32)) hx hb dX9_saves_59 (by decide) ?_
    refine lv_aload_n hx hb dX9_saves_62 rfl (lv_at hl 0 rfl) ?_
    refine xget hC h.o (C := RX9) (T := TX9) (N := 17) (wM_us uw_X9) 0 (Nat.le_of_ble_eq_true rfl) eMod_0 rfl 3 (by decide) (wM_in fl_X9_35) rfl dX9_saves_63 ?_
    refine lv_imul hx hb dX9_saves_66 ?_
    obtain ⟨r4, hy3, hf⟩ := ob_e hf
    refine xv2 h 1 1 3 1 (x2E1 sMod_1 locInt) (x2E2 sMod_3) (Nat.le_of_ble_eq_true rfl) (Nat.le_of_ble_eq_true rfl) (by omega) (va_runS (As := [.ref (q 1), .int (0 : Int32), .ref (q 3), .int ((797 : Int32) * (v1 0 3))]) (rest := []) hC (c_X9_copies l G (ct 1 (sh 1 q) (sh 3 q)) 797 4782 (ct 1 (sh 1 v1) (sh 3 v1)) (0 : Int32) ((797 : Int32) * (v1 0 3)) hy3 H.size) (xcwS hC lk_X9_38 in_X9 co_X9_copies st_X9_copies rfl rfl dd_X9_copies ⟨Nat.le_of_ble_eq_true rfl, Nat.le_of_ble_eq_true rfl⟩) (preS2 h 1 1 3 1 (x2E1 sMod_1 locInt) (x2E2 sMod_3) (Nat.le_of_ble_eq_true rfl) (Nat.le_of_ble_eq_true rfl) (by omega) [.ref (q 1), .int (0 : Int32), .ref (q 3), .int ((797 : Int32) * (v1 0 3))]) rfl rfl hl.1 rfl (lv_room (Nat.le_of_ble_eq_true rfl)) dX9_saves_67 ⟨Nat.zero_le _, Nat.zero_le _⟩) (fun H locs h => ?_)
    obtain ⟨v5, ev5, hf⟩ := lt_e hf
    rw [← ev5] at h
    refine lv_aload_n hx hb dX9_saves_70 rfl (lv_at hl 0 rfl) ?_
    refine lv_dup hx hb dX9_saves_71 rfl ?_
    refine xget hC h.o (C := RX9) (T := TX9) (N := 17) (wM_us uw_X9) 0 (Nat.le_of_ble_eq_true rfl) eMod_0 rfl 3 (by decide) (wM_in fl_X9_35) rfl dX9_saves_72 ?_
    refine lv_iconst (v := (1 : Int32)) hx hb dX9_saves_75 (by decide) ?_
    refine lv_iadd hx hb dX9_saves_76 ?_
    refine xput hC h (C := RX9) (T := TX9) (N := 17) (wM_us uw_X9) tyX9_ok nmX9 0 (Nat.le_of_ble_eq_true rfl) eMod_0 rfl 3 (by decide) (wM_in fl_X9_35) rfl (ty := .int) (tyX9_ok 3 (by decide)) rfl rfl (Nat.le_of_ble_eq_true rfl) (eMod_0.trans rfl) dX9_saves_77 (fun H locs h => ?_)
    obtain ⟨v6, ev6, hf⟩ := lt_e hf
    rw [← ev6] at h
    have hf := sm_e hf
    exact xvret hC hr hlk h hf dX9_saves_80
  refine lv_icmp_ne (tgt := 50) hx hb dX9_saves_6 (by decide) (fun c7 => ?_) (fun c7 => ?_)
  · have hf := it_f c7 hf
    exact hj2 v H locs h ls (lv_sub hl [0] rfl) hf
  · have hf := it_t c7 hf
    refine lv_iconst (v := (0 : Int32)) hx hb dX9_saves_9 (by decide) ?_
    refine lv_istore_n (lv' := [(1, .int (0 : Int32)), (0, .ref (q 0))]) hx hb dX9_saves_10 rfl hl (by decide) rfl (fun ls hl => ?_)
    refine lp_i (z := z) (P := fun (pp : Int32 × xSt) => ∀ (H : Heap) (locs : List Loc), hg G (eMod G) 8 q pp.2 A s H locs → ∀ (ls : Array Slot), lv_has ls 2 [(0, .ref (q 0)), (1, .int pp.1)] → W p l e { frames := 1, cells := 0, slots := 0, locals := 24 } s m [.ref (q 0)].toArray below meth c H locs 0 0 (MQ below (qV (cB G (eMod G) 8 q z A) A) [.ref (q 0)].toArray s 0 0 A) (F0 m 11 ls [])) ?_ _ _ hf H locs h ls (lv_sub hl [1, 0] rfl)
    intro rec10 hrec10 pp hf H locs h ls hl
    obtain ⟨a8, v9⟩ := pp
    have h : hg G (eMod G) 8 q v9 A s H locs := h
    have hl : lv_has ls 2 [(0, .ref (q 0)), (1, .int a8)] := hl
    have hf := un2_e hf
    refine lv_iload_n hx hb dX9_saves_11 rfl (lv_at hl 1 rfl) ?_
    refine lv_sipush (v := (3985 : Int32)) hx hb dX9_saves_12 (by decide) ?_
    refine lv_icmp_ge (tgt := 40) hx hb dX9_saves_15 (by decide) (fun c11 => ?_) (fun c11 => ?_)
    · have hf := it_t c11 hf
      refine lv_aload_n hx hb dX9_saves_40 rfl (lv_at hl 0 rfl) ?_
      refine lv_dup hx hb dX9_saves_41 rfl ?_
      refine xget hC h.o (C := RX9) (T := TX9) (N := 17) (wM_us uw_X9) 0 (Nat.le_of_ble_eq_true rfl) eMod_0 rfl 3 (by decide) (wM_in fl_X9_35) rfl dX9_saves_42 ?_
      refine lv_iconst (v := (1 : Int32)) hx hb dX9_saves_45 (by decide) ?_
      refine lv_isub hx hb dX9_saves_46 ?_
      refine xput hC h (C := RX9) (T := TX9) (N := 17) (wM_us uw_X9) tyX9_ok nmX9 0 (Nat.le_of_ble_eq_true rfl) eMod_0 rfl 3 (by decide) (wM_in fl_X9_35) rfl (ty := .int) (tyX9_ok 3 (by decide)) rfl rfl (Nat.le_of_ble_eq_true rfl) (eMod_0.trans rfl) dX9_saves_47 (fun H locs h => ?_)
      obtain ⟨v12, ev12, hf⟩ := lt_e hf
      rw [← ev12] at h
      exact hj2 v12 H locs h ls (lv_sub hl [0] rfl) hf
    · have hf := it_f c11 hf
      refine lv_aload_n hx hb dX9_saves_18 rfl (lv_at hl 0 rfl) ?_
      refine xget hC h.o (C := RX9) (T := TX9) (N := 17) (wM_us uw_X9) 0 (Nat.le_of_ble_eq_true rfl) eMod_0 rfl 2 (by decide) (wM_in fl_X9_16) rfl dX9_saves_19 ?_
      refine lv_iload_n hx hb dX9_saves_22 rfl (lv_at hl 1 rfl) ?_
      refine lv_aload_n hx hb dX9_saves_23 rfl (lv_at hl 0 rfl) ?_
      refine xget hC h.o (C := RX9) (T := TX9) (N := 17) (wM_us uw_X9) 0 (Nat.le_of_ble_eq_true rfl) eMod_0 rfl 2 (by decide) (wM_in fl_X9_16) rfl dX9_saves_24 ?_
      refine lv_iload_n hx hb dX9_saves_27 rfl (lv_at hl 1 rfl) ?_
      refine lv_sipush (v := (797 : Int32)) hx hb dX9_saves_28 (by decide) ?_
      refine lv_iadd hx hb dX9_saves_31 ?_
      obtain ⟨hi13, hf⟩ := ck_e hf
      refine xiald hC h.o 3 (Nat.le_of_ble_eq_true rfl) eMod_3 hi13 dX9_saves_32 ?_
      obtain ⟨hi14, hf⟩ := ck_e hf
      refine xiast hC h 3 (Nat.le_of_ble_eq_true rfl) (fun _ => eMod_3) hi14 dX9_saves_33 (fun H locs h => ?_)
      obtain ⟨v15, ev15, hf⟩ := lt_e hf
      rw [← ev15] at h
      refine lv_iinc (v := (a8 + 1)) (lv' := [(1, .int (a8 + 1)), (0, .ref (q 0))]) hx hb dX9_saves_34 hl (k := 1) rfl rfl (by decide) rfl (fun ls hl => ?_)
      refine lv_goto (tgt := 11) hx hb dX9_saves_37 (by decide) ?_
      exact hrec10 ((a8 + 1), v15) hf H locs h ls (lv_sub hl [1, 0] rfl)
def m_X9_ones (p0 : Int32) : Option (Int32) := lp (fun (rec3 : Int32 × Int32 → Option (Int32)) => un2 (fun (a1 : Int32) (a2 : Int32) => (if a2 = 0 then some a1 else rec3 ((a1 + 1), (a2 &&& (a2 - (1 : Int32))))))) xF ((0 : Int32), p0)
set_option maxHeartbeats 4000000 in
set_option maxRecDepth 100000 in
theorem c_X9_ones (l : Launch) (G : xGl) (q : Nat → Nat) (v : xSt) (p0 : Int32) {z : (Int32)} (hf : m_X9_ones p0 = some z) : mRO l yX9_ones (wM yX9_ones cX9_ones 3 (some .int)) { frames := 0, cells := 0, slots := 0, locals := 0 } G (e0) 0 q v [.int p0] (qI z) := by
  refine xRO (cc := cX9_ones) (maxL := 3) (ret := (some .int)) (by decide) rfl (Nat.le_of_ble_eq_true rfl) ?_
  intro p e s m below meth c ls A hC hr hlk h hl
  have hx := hC.1
  have hb := hC.2.1
  have hl : lv_has ls 3 [(0, .int p0)] := hl
  unfold m_X9_ones at hf
  obtain ⟨H, hH⟩ : ∃ H, H = s.heap := ⟨_, rfl⟩
  obtain ⟨locs, hlo⟩ : ∃ x : List Loc, x = [] := ⟨_, rfl⟩
  have h : ho G (e0) 0 q v A s H locs := by rw [hH, hlo]; exact h
  rw [← hlo, ← hH]
  clear hH hlo
  refine lv_iconst (v := (0 : Int32)) hx hb dX9_ones_0 (by decide) ?_
  refine lv_istore_n (lv' := [(1, .int (0 : Int32)), (0, .int p0)]) hx hb dX9_ones_1 rfl hl (by decide) rfl (fun ls hl => ?_)
  refine lv_iload_n hx hb dX9_ones_2 rfl (lv_at hl 1 rfl) ?_
  refine lv_istore_n (lv' := [(2, .int p0), (1, .int (0 : Int32)), (0, .int p0)]) hx hb dX9_ones_3 rfl hl (by decide) rfl (fun ls hl => ?_)
  refine lp_i (z := z) (P := fun (pp : Int32 × Int32) => ∀ (H : Heap) (locs : List Loc), ho G (e0) 0 q v A s H locs → ∀ (ls : Array Slot), lv_has ls 3 [(1, .int pp.1), (2, .int pp.2)] → W p l e { frames := 0, cells := 0, slots := 0, locals := 0 } s m [.int p0].toArray below meth c H locs 0 0 (MQ below ((qI z) (fun _ => True) A) [.int p0].toArray s 0 0 A) (F0 m 4 ls [])) ?_ _ _ hf H locs h ls (lv_sub hl [1, 0] rfl)
  intro rec3 hrec3 pp hf H locs h ls hl
  obtain ⟨a1, a2⟩ := pp
  have h : ho G (e0) 0 q v A s H locs := h
  have hl : lv_has ls 3 [(1, .int a1), (2, .int a2)] := hl
  have hf := un2_e hf
  refine lv_iload_n hx hb dX9_ones_4 rfl (lv_at hl 1 rfl) ?_
  refine lv_if_eq (tgt := 20) hx hb dX9_ones_5 (by decide) (fun c4 => ?_) (fun c4 => ?_)
  · have hf := it_t c4 hf
    refine lv_iload_n hx hb dX9_ones_20 rfl (lv_at hl 0 rfl) ?_
    have hf := sm_e hf
    exact oiret hC hr hlk h (by rw [← hf]) dX9_ones_21
  · have hf := it_f c4 hf
    refine lv_iinc (v := (a1 + 1)) (lv' := [(1, .int (a1 + 1)), (2, .int a2)]) hx hb dX9_ones_8 hl (k := 0) rfl rfl (by decide) rfl (fun ls hl => ?_)
    refine lv_iload_n hx hb dX9_ones_11 rfl (lv_at hl 1 rfl) ?_
    refine lv_iload_n hx hb dX9_ones_12 rfl (lv_at hl 1 rfl) ?_
    refine lv_iconst (v := (1 : Int32)) hx hb dX9_ones_13 (by decide) ?_
    refine lv_isub hx hb dX9_ones_14 ?_
    refine lv_iand hx hb dX9_ones_15 ?_
    refine lv_istore_n (lv' := [(2, .int (a2 &&& (a2 - (1 : Int32)))), (1, .int (a1 + 1))]) hx hb dX9_ones_16 rfl hl (by decide) rfl (fun ls hl => ?_)
    refine lv_goto (tgt := 4) hx hb dX9_ones_17 (by decide) ?_
    exact hrec3 ((a1 + 1), (a2 &&& (a2 - (1 : Int32)))) hf H locs h ls (lv_sub hl [1, 0] rfl)
def m_X9_under (v : xSt) (p1 : Int32) : Option (Int32) := ck (¬ (((581 : Int32) + p1) < 0 ∨ 797 ≤ ((581 : Int32) + p1).toNatClampNeg)) (some (v 1 ((581 : Int32) + p1).toNatClampNeg))
set_option maxHeartbeats 4000000 in
set_option maxRecDepth 100000 in
theorem c_X9_under (l : Launch) (G : xGl) (q : Nat → Nat) (v : xSt) (p1 : Int32) {z : (Int32)} (hf : m_X9_under v p1 = some z) : mRO l yX9_under (wM yX9_under cX9_under 2 (some .int)) { frames := 0, cells := 0, slots := 0, locals := 0 } G (eMod G) 8 q v [.ref (q 0), .int p1] (qI z) := by
  refine xRO (cc := cX9_under) (maxL := 2) (ret := (some .int)) (by decide) rfl (Nat.le_of_ble_eq_true rfl) ?_
  intro p e s m below meth c ls A hC hr hlk h hl
  have hx := hC.1
  have hb := hC.2.1
  have hl : lv_has ls 2 [(0, .ref (q 0)), (1, .int p1)] := hl
  unfold m_X9_under at hf
  obtain ⟨H, hH⟩ : ∃ H, H = s.heap := ⟨_, rfl⟩
  obtain ⟨locs, hlo⟩ : ∃ x : List Loc, x = [] := ⟨_, rfl⟩
  have h : ho G (eMod G) 8 q v A s H locs := by rw [hH, hlo]; exact h
  rw [← hlo, ← hH]
  clear hH hlo
  refine lv_aload_n hx hb dX9_under_0 rfl (lv_at hl 0 rfl) ?_
  refine xget hC h.o (C := RX9) (T := TX9) (N := 17) (wM_us uw_X9) 0 (Nat.le_of_ble_eq_true rfl) eMod_0 rfl 0 (by decide) (wM_in fl_X9_7) rfl dX9_under_1 ?_
  refine lv_sipush (v := (581 : Int32)) hx hb dX9_under_4 (by decide) ?_
  refine lv_iload_n hx hb dX9_under_7 rfl (lv_at hl 1 rfl) ?_
  refine lv_iadd hx hb dX9_under_8 ?_
  obtain ⟨hi1, hf⟩ := ck_e hf
  refine xiald hC h.o 1 (Nat.le_of_ble_eq_true rfl) eMod_1 hi1 dX9_under_9 ?_
  have hf := sm_e hf
  exact oiret hC hr hlk h (by rw [← hf]) dX9_under_10
def m_X9_apart (v : xSt) (p1 : Int32) : Option (Int32) := ck (¬ (((599 : Int32) + p1) < 0 ∨ 797 ≤ ((599 : Int32) + p1).toNatClampNeg)) (some (v 1 ((599 : Int32) + p1).toNatClampNeg))
set_option maxHeartbeats 4000000 in
set_option maxRecDepth 100000 in
theorem c_X9_apart (l : Launch) (G : xGl) (q : Nat → Nat) (v : xSt) (p1 : Int32) {z : (Int32)} (hf : m_X9_apart v p1 = some z) : mRO l yX9_apart (wM yX9_apart cX9_apart 2 (some .int)) { frames := 0, cells := 0, slots := 0, locals := 0 } G (eMod G) 8 q v [.ref (q 0), .int p1] (qI z) := by
  refine xRO (cc := cX9_apart) (maxL := 2) (ret := (some .int)) (by decide) rfl (Nat.le_of_ble_eq_true rfl) ?_
  intro p e s m below meth c ls A hC hr hlk h hl
  have hx := hC.1
  have hb := hC.2.1
  have hl : lv_has ls 2 [(0, .ref (q 0)), (1, .int p1)] := hl
  unfold m_X9_apart at hf
  obtain ⟨H, hH⟩ : ∃ H, H = s.heap := ⟨_, rfl⟩
  obtain ⟨locs, hlo⟩ : ∃ x : List Loc, x = [] := ⟨_, rfl⟩
  have h : ho G (eMod G) 8 q v A s H locs := by rw [hH, hlo]; exact h
  rw [← hlo, ← hH]
  clear hH hlo
  refine lv_aload_n hx hb dX9_apart_0 rfl (lv_at hl 0 rfl) ?_
  refine xget hC h.o (C := RX9) (T := TX9) (N := 17) (wM_us uw_X9) 0 (Nat.le_of_ble_eq_true rfl) eMod_0 rfl 0 (by decide) (wM_in fl_X9_7) rfl dX9_apart_1 ?_
  refine lv_sipush (v := (599 : Int32)) hx hb dX9_apart_4 (by decide) ?_
  refine lv_iload_n hx hb dX9_apart_7 rfl (lv_at hl 1 rfl) ?_
  refine lv_iadd hx hb dX9_apart_8 ?_
  obtain ⟨hi1, hf⟩ := ck_e hf
  refine xiald hC h.o 1 (Nat.le_of_ble_eq_true rfl) eMod_1 hi1 dX9_apart_9 ?_
  have hf := sm_e hf
  exact oiret hC hr hlk h (by rw [← hf]) dX9_apart_10
def m_X9_isBusy (v : xSt) : Option (Int32) := ob (m_X9_under v (0 : Int32)) (fun r2 => (if r2 ≤ 0 then some (0 : Int32) else some (1 : Int32)))
set_option maxHeartbeats 4000000 in
set_option maxRecDepth 100000 in
theorem c_X9_isBusy (l : Launch) (G : xGl) (q : Nat → Nat) (v : xSt) {z : (Int32)} (hf : m_X9_isBusy v = some z) : mRO l yX9_isBusy (wM yX9_isBusy cX9_isBusy 1 (some .boolean)) { frames := 1, cells := 0, slots := 0, locals := 21 } G (eMod G) 8 q v [.ref (q 0)] (qZ z) := by
  refine xRO (cc := cX9_isBusy) (maxL := 1) (ret := (some .boolean)) (by decide) rfl (Nat.le_of_ble_eq_true rfl) ?_
  intro p e s m below meth c ls A hC hr hlk h hl
  have hx := hC.1
  have hb := hC.2.1
  have hl : lv_has ls 1 [(0, .ref (q 0))] := hl
  unfold m_X9_isBusy at hf
  obtain ⟨H, hH⟩ : ∃ H, H = s.heap := ⟨_, rfl⟩
  obtain ⟨locs, hlo⟩ : ∃ x : List Loc, x = [] := ⟨_, rfl⟩
  have h : ho G (eMod G) 8 q v A s H locs := by rw [hH, hlo]; exact h
  rw [← hlo, ← hH]
  clear hH hlo
  refine lv_aload_n hx hb dX9_isBusy_0 rfl (lv_at hl 0 rfl) ?_
  refine lv_iconst (v := (0 : Int32)) hx hb dX9_isBusy_1 (by decide) ?_
  obtain ⟨r2, hy1, hf⟩ := ob_e hf
  refine xiO h (va_runV (As := [.int (0 : Int32)]) (rest := []) hC (c_X9_under l G q v (0 : Int32) hy1 H.size) (xcwV hC lk_X9_46 in_X9 co_X9_under im_X9_under se_X9_under rfl rfl dd_X9_under ⟨Nat.le_of_ble_eq_true rfl, Nat.le_of_ble_eq_true rfl⟩) (preVO0 h.o (Nat.le_of_ble_eq_true rfl) eMod_0 rfl [.int (0 : Int32)]) rfl rfl hl.1 rfl (lv_room (Nat.le_of_ble_eq_true rfl)) dX9_isBusy_2 ⟨Nat.zero_le _, Nat.zero_le _⟩) (fun H locs h => ?_)
  refine lv_if_le (tgt := 12) hx hb dX9_isBusy_5 (by decide) (fun c3 => ?_) (fun c3 => ?_)
  · have hf := it_t c3 hf
    refine lv_iconst (v := (0 : Int32)) hx hb dX9_isBusy_12 (by decide) ?_
    have hf := sm_e hf
    exact ozret hC hr hlk h (by rw [← hf]) (by decide) dX9_isBusy_13
  · have hf := it_f c3 hf
    refine lv_iconst (v := (1 : Int32)) hx hb dX9_isBusy_8 (by decide) ?_
    refine lv_goto (tgt := 13) hx hb dX9_isBusy_9 (by decide) ?_
    have hf := sm_e hf
    exact ozret hC hr hlk h (by rw [← hf]) (by decide) dX9_isBusy_13
def m_X9_isAside (v : xSt) : Option (Int32) := ob (m_X9_apart v (0 : Int32)) (fun r2 => (if r2 ≤ 0 then some (0 : Int32) else some (1 : Int32)))
set_option maxHeartbeats 4000000 in
set_option maxRecDepth 100000 in
theorem c_X9_isAside (l : Launch) (G : xGl) (q : Nat → Nat) (v : xSt) {z : (Int32)} (hf : m_X9_isAside v = some z) : mRO l yX9_isAside (wM yX9_isAside cX9_isAside 1 (some .boolean)) { frames := 1, cells := 0, slots := 0, locals := 21 } G (eMod G) 8 q v [.ref (q 0)] (qZ z) := by
  refine xRO (cc := cX9_isAside) (maxL := 1) (ret := (some .boolean)) (by decide) rfl (Nat.le_of_ble_eq_true rfl) ?_
  intro p e s m below meth c ls A hC hr hlk h hl
  have hx := hC.1
  have hb := hC.2.1
  have hl : lv_has ls 1 [(0, .ref (q 0))] := hl
  unfold m_X9_isAside at hf
  obtain ⟨H, hH⟩ : ∃ H, H = s.heap := ⟨_, rfl⟩
  obtain ⟨locs, hlo⟩ : ∃ x : List Loc, x = [] := ⟨_, rfl⟩
  have h : ho G (eMod G) 8 q v A s H locs := by rw [hH, hlo]; exact h
  rw [← hlo, ← hH]
  clear hH hlo
  refine lv_aload_n hx hb dX9_isAside_0 rfl (lv_at hl 0 rfl) ?_
  refine lv_iconst (v := (0 : Int32)) hx hb dX9_isAside_1 (by decide) ?_
  obtain ⟨r2, hy1, hf⟩ := ob_e hf
  refine xiO h (va_runV (As := [.int (0 : Int32)]) (rest := []) hC (c_X9_apart l G q v (0 : Int32) hy1 H.size) (xcwV hC lk_X9_50 in_X9 co_X9_apart im_X9_apart se_X9_apart rfl rfl dd_X9_apart ⟨Nat.le_of_ble_eq_true rfl, Nat.le_of_ble_eq_true rfl⟩) (preVO0 h.o (Nat.le_of_ble_eq_true rfl) eMod_0 rfl [.int (0 : Int32)]) rfl rfl hl.1 rfl (lv_room (Nat.le_of_ble_eq_true rfl)) dX9_isAside_2 ⟨Nat.zero_le _, Nat.zero_le _⟩) (fun H locs h => ?_)
  refine lv_if_le (tgt := 12) hx hb dX9_isAside_5 (by decide) (fun c3 => ?_) (fun c3 => ?_)
  · have hf := it_t c3 hf
    refine lv_iconst (v := (0 : Int32)) hx hb dX9_isAside_12 (by decide) ?_
    have hf := sm_e hf
    exact ozret hC hr hlk h (by rw [← hf]) (by decide) dX9_isAside_13
  · have hf := it_f c3 hf
    refine lv_iconst (v := (1 : Int32)) hx hb dX9_isAside_8 (by decide) ?_
    refine lv_goto (tgt := 13) hx hb dX9_isAside_9 (by decide) ?_
    have hf := sm_e hf
    exact ozret hC hr hlk h (by rw [← hf]) (by decide) dX9_isAside_13
def m_X9_sectorOf (v : xSt) (p1 : Int32) (p2 : Int32) : Option (Int32) := (if p1 = (1 : Int32) then some (p2 / (32 : Int32)) else some p2)
set_option maxHeartbeats 4000000 in
set_option maxRecDepth 100000 in
theorem c_X9_sectorOf (l : Launch) (G : xGl) (q : Nat → Nat) (v : xSt) (p1 : Int32) (p2 : Int32) {z : (Int32)} (hf : m_X9_sectorOf v p1 p2 = some z) : mRO l yX9_sectorOf (wM yX9_sectorOf cX9_sectorOf 3 (some .int)) { frames := 0, cells := 0, slots := 0, locals := 0 } G (eMod G) 8 q v [.ref (q 0), .int p1, .int p2] (qI z) := by
  refine xRO (cc := cX9_sectorOf) (maxL := 3) (ret := (some .int)) (by decide) rfl (Nat.le_of_ble_eq_true rfl) ?_
  intro p e s m below meth c ls A hC hr hlk h hl
  have hx := hC.1
  have hb := hC.2.1
  have hl : lv_has ls 3 [(0, .ref (q 0)), (1, .int p1), (2, .int p2)] := hl
  unfold m_X9_sectorOf at hf
  obtain ⟨H, hH⟩ : ∃ H, H = s.heap := ⟨_, rfl⟩
  obtain ⟨locs, hlo⟩ : ∃ x : List Loc, x = [] := ⟨_, rfl⟩
  have h : ho G (eMod G) 8 q v A s H locs := by rw [hH, hlo]; exact h
  rw [← hlo, ← hH]
  clear hH hlo
  refine lv_iload_n hx hb dX9_sectorOf_0 rfl (lv_at hl 1 rfl) ?_
  refine lv_iconst (v := (1 : Int32)) hx hb dX9_sectorOf_1 (by decide) ?_
  refine lv_icmp_ne (tgt := 12) hx hb dX9_sectorOf_2 (by decide) (fun c1 => ?_) (fun c1 => ?_)
  · have hf := it_f c1 hf
    refine lv_iload_n hx hb dX9_sectorOf_12 rfl (lv_at hl 2 rfl) ?_
    have hf := sm_e hf
    exact oiret hC hr hlk h (by rw [← hf]) dX9_sectorOf_13
  · have hf := it_t c1 hf
    refine lv_iload_n hx hb dX9_sectorOf_5 rfl (lv_at hl 2 rfl) ?_
    refine lv_bipush (v := (32 : Int32)) hx hb dX9_sectorOf_6 (by decide) ?_
    refine lv_idiv hx hb dX9_sectorOf_8 (by decide) ?_
    refine lv_goto (tgt := 13) hx hb dX9_sectorOf_9 (by decide) ?_
    have hf := sm_e hf
    exact oiret hC hr hlk h (by rw [← hf]) dX9_sectorOf_13
def m_X9_isLocked (v : xSt) (p1 : Int32) : Option (Int32) := ck (¬ ((554 : Int32) < 0 ∨ 797 ≤ (554 : Int32).toNatClampNeg)) (lt (fun (t2 : Int32) => ck (¬ ((555 : Int32) < 0 ∨ 797 ≤ (555 : Int32).toNatClampNeg)) ((if (v 1 (555 : Int32).toNatClampNeg) = (1 : Int32) then (if p1 < ((8 : Int32) - t2) then some (0 : Int32) else some (1 : Int32)) else (if t2 ≤ p1 then some (0 : Int32) else some (1 : Int32))))) (fun j3 => (if (v 1 (554 : Int32).toNatClampNeg) = 0 then j3 (0 : Int32) else ck (¬ ((554 : Int32) < 0 ∨ 797 ≤ (554 : Int32).toNatClampNeg)) (j3 ((1 : Int32) <<< (((v 1 (554 : Int32).toNatClampNeg) - (1 : Int32)) &&& 31))))))
set_option maxHeartbeats 4000000 in
set_option maxRecDepth 100000 in
theorem c_X9_isLocked (l : Launch) (G : xGl) (q : Nat → Nat) (v : xSt) (p1 : Int32) {z : (Int32)} (hf : m_X9_isLocked v p1 = some z) : mRO l yX9_isLocked (wM yX9_isLocked cX9_isLocked 3 (some .boolean)) { frames := 0, cells := 0, slots := 0, locals := 0 } G (eMod G) 8 q v [.ref (q 0), .int p1] (qZ z) := by
  refine xRO (cc := cX9_isLocked) (maxL := 3) (ret := (some .boolean)) (by decide) rfl (Nat.le_of_ble_eq_true rfl) ?_
  intro p e s m below meth c ls A hC hr hlk h hl
  have hx := hC.1
  have hb := hC.2.1
  have hl : lv_has ls 3 [(0, .ref (q 0)), (1, .int p1)] := hl
  unfold m_X9_isLocked at hf
  obtain ⟨H, hH⟩ : ∃ H, H = s.heap := ⟨_, rfl⟩
  obtain ⟨locs, hlo⟩ : ∃ x : List Loc, x = [] := ⟨_, rfl⟩
  have h : ho G (eMod G) 8 q v A s H locs := by rw [hH, hlo]; exact h
  rw [← hlo, ← hH]
  clear hH hlo
  refine lv_aload_n hx hb dX9_isLocked_0 rfl (lv_at hl 0 rfl) ?_
  refine xget hC h.o (C := RX9) (T := TX9) (N := 17) (wM_us uw_X9) 0 (Nat.le_of_ble_eq_true rfl) eMod_0 rfl 0 (by decide) (wM_in fl_X9_7) rfl dX9_isLocked_1 ?_
  refine lv_sipush (v := (554 : Int32)) hx hb dX9_isLocked_4 (by decide) ?_
  obtain ⟨hi1, hf⟩ := ck_e hf
  refine xiald hC h.o 1 (Nat.le_of_ble_eq_true rfl) eMod_1 hi1 dX9_isLocked_7 ?_
  obtain ⟨j3, ej3, hf⟩ := lt_e hf
  have hj3 : ∀ (t2 : Int32) (H : Heap) (locs : List Loc), ho G (eMod G) 8 q v A s H locs → ∀ (ls : Array Slot), lv_has ls 3 [(0, .ref (q 0)), (1, .int p1)] → j3 t2 = some z → W p l e { frames := 0, cells := 0, slots := 0, locals := 0 } s m [.ref (q 0), .int p1].toArray below meth c H locs 0 0 (MQ below ((qZ z) (fun _ => True) A) [.ref (q 0), .int p1].toArray s 0 0 A) (F0 m 27 ls [.int t2]) := by
    intro t2 H locs h ls hl hf
    rw [ej3] at hf
    refine lv_istore_n (lv' := [(2, .int t2), (0, .ref (q 0)), (1, .int p1)]) hx hb dX9_isLocked_27 rfl hl (by decide) rfl (fun ls hl => ?_)
    refine lv_aload_n hx hb dX9_isLocked_28 rfl (lv_at hl 1 rfl) ?_
    refine xget hC h.o (C := RX9) (T := TX9) (N := 17) (wM_us uw_X9) 0 (Nat.le_of_ble_eq_true rfl) eMod_0 rfl 0 (by decide) (wM_in fl_X9_7) rfl dX9_isLocked_29 ?_
    refine lv_sipush (v := (555 : Int32)) hx hb dX9_isLocked_32 (by decide) ?_
    obtain ⟨hi4, hf⟩ := ck_e hf
    refine xiald hC h.o 1 (Nat.le_of_ble_eq_true rfl) eMod_1 hi4 dX9_isLocked_35 ?_
    refine lv_iconst (v := (1 : Int32)) hx hb dX9_isLocked_36 (by decide) ?_
    refine lv_icmp_ne (tgt := 56) hx hb dX9_isLocked_37 (by decide) (fun c5 => ?_) (fun c5 => ?_)
    · have hf := it_f c5 hf
      refine lv_iload_n hx hb dX9_isLocked_56 rfl (lv_at hl 2 rfl) ?_
      refine lv_iload_n hx hb dX9_isLocked_57 rfl (lv_at hl 0 rfl) ?_
      refine lv_icmp_ge (tgt := 65) hx hb dX9_isLocked_58 (by decide) (fun c6 => ?_) (fun c6 => ?_)
      · have hf := it_t c6 hf
        refine lv_iconst (v := (0 : Int32)) hx hb dX9_isLocked_65 (by decide) ?_
        have hf := sm_e hf
        exact ozret hC hr hlk h (by rw [← hf]) (by decide) dX9_isLocked_66
      · have hf := it_f c6 hf
        refine lv_iconst (v := (1 : Int32)) hx hb dX9_isLocked_61 (by decide) ?_
        refine lv_goto (tgt := 66) hx hb dX9_isLocked_62 (by decide) ?_
        have hf := sm_e hf
        exact ozret hC hr hlk h (by rw [← hf]) (by decide) dX9_isLocked_66
    · have hf := it_t c5 hf
      refine lv_iload_n hx hb dX9_isLocked_40 rfl (lv_at hl 2 rfl) ?_
      refine lv_bipush (v := (8 : Int32)) hx hb dX9_isLocked_41 (by decide) ?_
      refine lv_iload_n hx hb dX9_isLocked_43 rfl (lv_at hl 0 rfl) ?_
      refine lv_isub hx hb dX9_isLocked_44 ?_
      refine lv_icmp_lt (tgt := 52) hx hb dX9_isLocked_45 (by decide) (fun c7 => ?_) (fun c7 => ?_)
      · have hf := it_t c7 hf
        refine lv_iconst (v := (0 : Int32)) hx hb dX9_isLocked_52 (by decide) ?_
        refine lv_goto (tgt := 66) hx hb dX9_isLocked_53 (by decide) ?_
        have hf := sm_e hf
        exact ozret hC hr hlk h (by rw [← hf]) (by decide) dX9_isLocked_66
      · have hf := it_f c7 hf
        refine lv_iconst (v := (1 : Int32)) hx hb dX9_isLocked_48 (by decide) ?_
        refine lv_goto (tgt := 66) hx hb dX9_isLocked_49 (by decide) ?_
        have hf := sm_e hf
        exact ozret hC hr hlk h (by rw [← hf]) (by decide) dX9_isLocked_66
  refine lv_if_ne (tgt := 15) hx hb dX9_isLocked_8 (by decide) (fun c8 => ?_) (fun c8 => ?_)
  · have hf := it_f c8 hf
    refine lv_iconst (v := (1 : Int32)) hx hb dX9_isLocked_15 (by decide) ?_
    refine lv_aload_n hx hb dX9_isLocked_16 rfl (lv_at hl 0 rfl) ?_
    refine xget hC h.o (C := RX9) (T := TX9) (N := 17) (wM_us uw_X9) 0 (Nat.le_of_ble_eq_true rfl) eMod_0 rfl 0 (by decide) (wM_in fl_X9_7) rfl dX9_isLocked_17 ?_
    refine lv_sipush (v := (554 : Int32)) hx hb dX9_isLocked_20 (by decide) ?_
    obtain ⟨hi9, hf⟩ := ck_e hf
    refine xiald hC h.o 1 (Nat.le_of_ble_eq_true rfl) eMod_1 hi9 dX9_isLocked_23 ?_
    refine lv_iconst (v := (1 : Int32)) hx hb dX9_isLocked_24 (by decide) ?_
    refine lv_isub hx hb dX9_isLocked_25 ?_
    refine lv_ishl hx hb dX9_isLocked_26 ?_
    exact hj3 ((1 : Int32) <<< (((v 1 (554 : Int32).toNatClampNeg) - (1 : Int32)) &&& 31)) H locs h ls (lv_sub hl [0, 1] rfl) hf
  · have hf := it_t c8 hf
    refine lv_iconst (v := (0 : Int32)) hx hb dX9_isLocked_11 (by decide) ?_
    refine lv_goto (tgt := 27) hx hb dX9_isLocked_12 (by decide) ?_
    exact hj3 (0 : Int32) H locs h ls (lv_sub hl [0, 1] rfl) hf
def m_X9_ofOrder (v : xSt) (p1 : Int32) (p2 : Int32) : Option (Int32) := ck (¬ ((((617 : Int32) + ((18 : Int32) * p1)) + p2) < 0 ∨ 797 ≤ (((617 : Int32) + ((18 : Int32) * p1)) + p2).toNatClampNeg)) (some (v 1 (((617 : Int32) + ((18 : Int32) * p1)) + p2).toNatClampNeg))
set_option maxHeartbeats 4000000 in
set_option maxRecDepth 100000 in
theorem c_X9_ofOrder (l : Launch) (G : xGl) (q : Nat → Nat) (v : xSt) (p1 : Int32) (p2 : Int32) {z : (Int32)} (hf : m_X9_ofOrder v p1 p2 = some z) : mRO l yX9_ofOrder (wM yX9_ofOrder cX9_ofOrder 3 (some .int)) { frames := 0, cells := 0, slots := 0, locals := 0 } G (eMod G) 8 q v [.ref (q 0), .int p1, .int p2] (qI z) := by
  refine xRO (cc := cX9_ofOrder) (maxL := 3) (ret := (some .int)) (by decide) rfl (Nat.le_of_ble_eq_true rfl) ?_
  intro p e s m below meth c ls A hC hr hlk h hl
  have hx := hC.1
  have hb := hC.2.1
  have hl : lv_has ls 3 [(0, .ref (q 0)), (1, .int p1), (2, .int p2)] := hl
  unfold m_X9_ofOrder at hf
  obtain ⟨H, hH⟩ : ∃ H, H = s.heap := ⟨_, rfl⟩
  obtain ⟨locs, hlo⟩ : ∃ x : List Loc, x = [] := ⟨_, rfl⟩
  have h : ho G (eMod G) 8 q v A s H locs := by rw [hH, hlo]; exact h
  rw [← hlo, ← hH]
  clear hH hlo
  refine lv_aload_n hx hb dX9_ofOrder_0 rfl (lv_at hl 0 rfl) ?_
  refine xget hC h.o (C := RX9) (T := TX9) (N := 17) (wM_us uw_X9) 0 (Nat.le_of_ble_eq_true rfl) eMod_0 rfl 0 (by decide) (wM_in fl_X9_7) rfl dX9_ofOrder_1 ?_
  refine lv_sipush (v := (617 : Int32)) hx hb dX9_ofOrder_4 (by decide) ?_
  refine lv_bipush (v := (18 : Int32)) hx hb dX9_ofOrder_7 (by decide) ?_
  refine lv_iload_n hx hb dX9_ofOrder_9 rfl (lv_at hl 1 rfl) ?_
  refine lv_imul hx hb dX9_ofOrder_10 ?_
  refine lv_iadd hx hb dX9_ofOrder_11 ?_
  refine lv_iload_n hx hb dX9_ofOrder_12 rfl (lv_at hl 2 rfl) ?_
  refine lv_iadd hx hb dX9_ofOrder_13 ?_
  obtain ⟨hi1, hf⟩ := ck_e hf
  refine xiald hC h.o 1 (Nat.le_of_ble_eq_true rfl) eMod_1 hi1 dX9_ofOrder_14 ?_
  have hf := sm_e hf
  exact oiret hC hr hlk h (by rw [← hf]) dX9_ofOrder_15
def m_X9_sectorAt (v : xSt) (p1 : Int32) : Option (Int32) := ob (m_X9_ofOrder v p1 (1 : Int32)) (fun r2 => (if r2 = 0 then ob (m_X9_ofOrder v p1 (2 : Int32)) (fun r7 => some (r7 / (32 : Int32))) else ob (m_X9_ofOrder v p1 (2 : Int32)) (fun r5 => some r5)))
set_option maxHeartbeats 4000000 in
set_option maxRecDepth 100000 in
theorem c_X9_sectorAt (l : Launch) (G : xGl) (q : Nat → Nat) (v : xSt) (p1 : Int32) {z : (Int32)} (hf : m_X9_sectorAt v p1 = some z) : mRO l yX9_sectorAt (wM yX9_sectorAt cX9_sectorAt 2 (some .int)) { frames := 1, cells := 0, slots := 0, locals := 22 } G (eMod G) 8 q v [.ref (q 0), .int p1] (qI z) := by
  refine xRO (cc := cX9_sectorAt) (maxL := 2) (ret := (some .int)) (by decide) rfl (Nat.le_of_ble_eq_true rfl) ?_
  intro p e s m below meth c ls A hC hr hlk h hl
  have hx := hC.1
  have hb := hC.2.1
  have hl : lv_has ls 2 [(0, .ref (q 0)), (1, .int p1)] := hl
  unfold m_X9_sectorAt at hf
  obtain ⟨H, hH⟩ : ∃ H, H = s.heap := ⟨_, rfl⟩
  obtain ⟨locs, hlo⟩ : ∃ x : List Loc, x = [] := ⟨_, rfl⟩
  have h : ho G (eMod G) 8 q v A s H locs := by rw [hH, hlo]; exact h
  rw [← hlo, ← hH]
  clear hH hlo
  refine lv_aload_n hx hb dX9_sectorAt_0 rfl (lv_at hl 0 rfl) ?_
  refine lv_iload_n hx hb dX9_sectorAt_1 rfl (lv_at hl 1 rfl) ?_
  refine lv_iconst (v := (1 : Int32)) hx hb dX9_sectorAt_2 (by decide) ?_
  obtain ⟨r2, hy1, hf⟩ := ob_e hf
  refine xiO h (va_runV (As := [.int p1, .int (1 : Int32)]) (rest := []) hC (c_X9_ofOrder l G q v p1 (1 : Int32) hy1 H.size) (xcwV hC lk_X9_53 in_X9 co_X9_ofOrder im_X9_ofOrder se_X9_ofOrder rfl rfl dd_X9_ofOrder ⟨Nat.le_of_ble_eq_true rfl, Nat.le_of_ble_eq_true rfl⟩) (preVO0 h.o (Nat.le_of_ble_eq_true rfl) eMod_0 rfl [.int p1, .int (1 : Int32)]) rfl rfl hl.1 rfl (lv_room (Nat.le_of_ble_eq_true rfl)) dX9_sectorAt_3 ⟨Nat.zero_le _, Nat.zero_le _⟩) (fun H locs h => ?_)
  refine lv_if_ne (tgt := 21) hx hb dX9_sectorAt_6 (by decide) (fun c3 => ?_) (fun c3 => ?_)
  · have hf := it_f c3 hf
    refine lv_aload_n hx hb dX9_sectorAt_21 rfl (lv_at hl 0 rfl) ?_
    refine lv_iload_n hx hb dX9_sectorAt_22 rfl (lv_at hl 1 rfl) ?_
    refine lv_iconst (v := (2 : Int32)) hx hb dX9_sectorAt_23 (by decide) ?_
    obtain ⟨r5, hy4, hf⟩ := ob_e hf
    refine xiO h (va_runV (As := [.int p1, .int (2 : Int32)]) (rest := []) hC (c_X9_ofOrder l G q v p1 (2 : Int32) hy4 H.size) (xcwV hC lk_X9_53 in_X9 co_X9_ofOrder im_X9_ofOrder se_X9_ofOrder rfl rfl dd_X9_ofOrder ⟨Nat.le_of_ble_eq_true rfl, Nat.le_of_ble_eq_true rfl⟩) (preVO0 h.o (Nat.le_of_ble_eq_true rfl) eMod_0 rfl [.int p1, .int (2 : Int32)]) rfl rfl hl.1 rfl (lv_room (Nat.le_of_ble_eq_true rfl)) dX9_sectorAt_24 ⟨Nat.zero_le _, Nat.zero_le _⟩) (fun H locs h => ?_)
    have hf := sm_e hf
    exact oiret hC hr hlk h (by rw [← hf]) dX9_sectorAt_27
  · have hf := it_t c3 hf
    refine lv_aload_n hx hb dX9_sectorAt_9 rfl (lv_at hl 0 rfl) ?_
    refine lv_iload_n hx hb dX9_sectorAt_10 rfl (lv_at hl 1 rfl) ?_
    refine lv_iconst (v := (2 : Int32)) hx hb dX9_sectorAt_11 (by decide) ?_
    obtain ⟨r7, hy6, hf⟩ := ob_e hf
    refine xiO h (va_runV (As := [.int p1, .int (2 : Int32)]) (rest := []) hC (c_X9_ofOrder l G q v p1 (2 : Int32) hy6 H.size) (xcwV hC lk_X9_53 in_X9 co_X9_ofOrder im_X9_ofOrder se_X9_ofOrder rfl rfl dd_X9_ofOrder ⟨Nat.le_of_ble_eq_true rfl, Nat.le_of_ble_eq_true rfl⟩) (preVO0 h.o (Nat.le_of_ble_eq_true rfl) eMod_0 rfl [.int p1, .int (2 : Int32)]) rfl rfl hl.1 rfl (lv_room (Nat.le_of_ble_eq_true rfl)) dX9_sectorAt_12 ⟨Nat.zero_le _, Nat.zero_le _⟩) (fun H locs h => ?_)
    refine lv_bipush (v := (32 : Int32)) hx hb dX9_sectorAt_15 (by decide) ?_
    refine lv_idiv hx hb dX9_sectorAt_17 (by decide) ?_
    refine lv_goto (tgt := 27) hx hb dX9_sectorAt_18 (by decide) ?_
    have hf := sm_e hf
    exact oiret hC hr hlk h (by rw [← hf]) dX9_sectorAt_27
def m_X9_removes (v : xSt) (p1 : Int32) : Option xSt := lp (fun (rec3 : Int32 × xSt → Option xSt) => un2 (fun (a1 : Int32) (v2 : xSt) => (if (797 : Int32) ≤ a1 then ck (¬ ((580 : Int32) < 0 ∨ 797 ≤ (580 : Int32).toNatClampNeg)) (ck (¬ ((580 : Int32) < 0 ∨ 797 ≤ (580 : Int32).toNatClampNeg)) (lt (st2 v2 1 (580 : Int32).toNatClampNeg ((v2 1 (580 : Int32).toNatClampNeg) - (1 : Int32))) (fun v7 => some v7))) else lt (fun (t8 : Int32) (t9 : Int32) => ck (¬ (t8 < 0 ∨ 797 ≤ t8.toNatClampNeg)) (lt (st2 v2 1 t8.toNatClampNeg t9) (fun v12 => rec3 ((a1 + 1), v12)))) (fun j10 => (if (797 : Int32) ≤ (a1 + (18 : Int32)) then j10 a1 (0 : Int32) else ck (¬ ((a1 + (18 : Int32)) < 0 ∨ 797 ≤ (a1 + (18 : Int32)).toNatClampNeg)) (j10 a1 (v2 1 (a1 + (18 : Int32)).toNatClampNeg))))))) xF (((617 : Int32) + ((18 : Int32) * p1)), v)
set_option maxHeartbeats 4000000 in
set_option maxRecDepth 100000 in
theorem c_X9_removes (l : Launch) (G : xGl) (q : Nat → Nat) (v : xSt) (p1 : Int32) {z : xSt} (hf : m_X9_removes v p1 = some z) : mRW l yX9_removes (wM yX9_removes cX9_removes 3 none) { frames := 0, cells := 0, slots := 0, locals := 0 } G (eMod G) 8 q v [.ref (q 0), .int p1] qV z := by
  refine xRW (cc := cX9_removes) (maxL := 3) (ret := none) (by decide) rfl (Nat.le_of_ble_eq_true rfl) ?_
  intro p e s m below meth c ls A hC hr hlk h hl
  have hx := hC.1
  have hb := hC.2.1
  have hl : lv_has ls 3 [(0, .ref (q 0)), (1, .int p1)] := hl
  unfold m_X9_removes at hf
  obtain ⟨H, hH⟩ : ∃ H, H = s.heap := ⟨_, rfl⟩
  obtain ⟨locs, hlo⟩ : ∃ x : List Loc, x = [] := ⟨_, rfl⟩
  have h : hg G (eMod G) 8 q v A s H locs := by rw [hH, hlo]; exact h
  rw [← hlo, ← hH]
  clear hH hlo
  refine lv_sipush (v := (617 : Int32)) hx hb dX9_removes_0 (by decide) ?_
  refine lv_bipush (v := (18 : Int32)) hx hb dX9_removes_3 (by decide) ?_
  refine lv_iload_n hx hb dX9_removes_5 rfl (lv_at hl 1 rfl) ?_
  refine lv_imul hx hb dX9_removes_6 ?_
  refine lv_iadd hx hb dX9_removes_7 ?_
  refine lv_istore_n (lv' := [(2, .int ((617 : Int32) + ((18 : Int32) * p1))), (0, .ref (q 0)), (1, .int p1)]) hx hb dX9_removes_8 rfl hl (by decide) rfl (fun ls hl => ?_)
  refine lp_i (z := z) (P := fun (pp : Int32 × xSt) => ∀ (H : Heap) (locs : List Loc), hg G (eMod G) 8 q pp.2 A s H locs → ∀ (ls : Array Slot), lv_has ls 3 [(0, .ref (q 0)), (2, .int pp.1)] → W p l e { frames := 0, cells := 0, slots := 0, locals := 0 } s m [.ref (q 0), .int p1].toArray below meth c H locs 0 0 (MQ below (qV (cB G (eMod G) 8 q z A) A) [.ref (q 0), .int p1].toArray s 0 0 A) (F0 m 9 ls [])) ?_ _ _ hf H locs h ls (lv_sub hl [1, 0] rfl)
  intro rec3 hrec3 pp hf H locs h ls hl
  obtain ⟨a1, v2⟩ := pp
  have h : hg G (eMod G) 8 q v2 A s H locs := h
  have hl : lv_has ls 3 [(0, .ref (q 0)), (2, .int a1)] := hl
  have hf := un2_e hf
  refine lv_iload_n hx hb dX9_removes_9 rfl (lv_at hl 1 rfl) ?_
  refine lv_sipush (v := (797 : Int32)) hx hb dX9_removes_10 (by decide) ?_
  refine lv_icmp_ge (tgt := 51) hx hb dX9_removes_13 (by decide) (fun c4 => ?_) (fun c4 => ?_)
  · have hf := it_t c4 hf
    refine lv_aload_n hx hb dX9_removes_51 rfl (lv_at hl 0 rfl) ?_
    refine xget hC h.o (C := RX9) (T := TX9) (N := 17) (wM_us uw_X9) 0 (Nat.le_of_ble_eq_true rfl) eMod_0 rfl 0 (by decide) (wM_in fl_X9_7) rfl dX9_removes_52 ?_
    refine lv_sipush (v := (580 : Int32)) hx hb dX9_removes_55 (by decide) ?_
    refine lv_dup2_11 hx hb dX9_removes_58 rfl rfl ?_
    obtain ⟨hi5, hf⟩ := ck_e hf
    refine xiald hC h.o 1 (Nat.le_of_ble_eq_true rfl) eMod_1 hi5 dX9_removes_59 ?_
    refine lv_iconst (v := (1 : Int32)) hx hb dX9_removes_60 (by decide) ?_
    refine lv_isub hx hb dX9_removes_61 ?_
    obtain ⟨hi6, hf⟩ := ck_e hf
    refine xiast hC h 1 (Nat.le_of_ble_eq_true rfl) (fun _ => eMod_1) hi6 dX9_removes_62 (fun H locs h => ?_)
    obtain ⟨v7, ev7, hf⟩ := lt_e hf
    rw [← ev7] at h
    have hf := sm_e hf
    exact xvret hC hr hlk h hf dX9_removes_63
  · have hf := it_f c4 hf
    refine lv_aload_n hx hb dX9_removes_16 rfl (lv_at hl 0 rfl) ?_
    refine xget hC h.o (C := RX9) (T := TX9) (N := 17) (wM_us uw_X9) 0 (Nat.le_of_ble_eq_true rfl) eMod_0 rfl 0 (by decide) (wM_in fl_X9_7) rfl dX9_removes_17 ?_
    refine lv_iload_n hx hb dX9_removes_20 rfl (lv_at hl 1 rfl) ?_
    refine lv_iload_n hx hb dX9_removes_21 rfl (lv_at hl 1 rfl) ?_
    refine lv_bipush (v := (18 : Int32)) hx hb dX9_removes_22 (by decide) ?_
    refine lv_iadd hx hb dX9_removes_24 ?_
    refine lv_sipush (v := (797 : Int32)) hx hb dX9_removes_25 (by decide) ?_
    obtain ⟨j10, ej10, hf⟩ := lt_e hf
    have hj10 : ∀ (t8 : Int32) (t9 : Int32) (H : Heap) (locs : List Loc), hg G (eMod G) 8 q v2 A s H locs → ∀ (ls : Array Slot), lv_has ls 3 [(0, .ref (q 0)), (2, .int a1)] → j10 t8 t9 = some z → W p l e { frames := 0, cells := 0, slots := 0, locals := 0 } s m [.ref (q 0), .int p1].toArray below meth c H locs 0 0 (MQ below (qV (cB G (eMod G) 8 q z A) A) [.ref (q 0), .int p1].toArray s 0 0 A) (F0 m 44 ls [.int t9, .int t8, .ref (q 1)]) := by
      intro t8 t9 H locs h ls hl hf
      rw [ej10] at hf
      obtain ⟨hi11, hf⟩ := ck_e hf
      refine xiast hC h 1 (Nat.le_of_ble_eq_true rfl) (fun _ => eMod_1) hi11 dX9_removes_44 (fun H locs h => ?_)
      obtain ⟨v12, ev12, hf⟩ := lt_e hf
      rw [← ev12] at h
      refine lv_iinc (v := (a1 + 1)) (lv' := [(2, .int (a1 + 1)), (0, .ref (q 0))]) hx hb dX9_removes_45 hl (k := 1) rfl rfl (by decide) rfl (fun ls hl => ?_)
      refine lv_goto (tgt := 9) hx hb dX9_removes_48 (by decide) ?_
      exact hrec3 ((a1 + 1), v12) hf H locs h ls (lv_sub hl [1, 0] rfl)
    refine lv_icmp_ge (tgt := 43) hx hb dX9_removes_28 (by decide) (fun c13 => ?_) (fun c13 => ?_)
    · have hf := it_t c13 hf
      refine lv_iconst (v := (0 : Int32)) hx hb dX9_removes_43 (by decide) ?_
      exact hj10 a1 (0 : Int32) H locs h ls (lv_sub hl [0, 1] rfl) hf
    · have hf := it_f c13 hf
      refine lv_aload_n hx hb dX9_removes_31 rfl (lv_at hl 0 rfl) ?_
      refine xget hC h.o (C := RX9) (T := TX9) (N := 17) (wM_us uw_X9) 0 (Nat.le_of_ble_eq_true rfl) eMod_0 rfl 0 (by decide) (wM_in fl_X9_7) rfl dX9_removes_32 ?_
      refine lv_iload_n hx hb dX9_removes_35 rfl (lv_at hl 1 rfl) ?_
      refine lv_bipush (v := (18 : Int32)) hx hb dX9_removes_36 (by decide) ?_
      refine lv_iadd hx hb dX9_removes_38 ?_
      obtain ⟨hi14, hf⟩ := ck_e hf
      refine xiald hC h.o 1 (Nat.le_of_ble_eq_true rfl) eMod_1 hi14 dX9_removes_39 ?_
      refine lv_goto (tgt := 44) hx hb dX9_removes_40 (by decide) ?_
      exact hj10 a1 (v2 1 (a1 + (18 : Int32)).toNatClampNeg) H locs h ls (lv_sub hl [0, 1] rfl) hf
def m_X9_lays (v : xSt) (p1 : Int32) (p2 : Int32) : Option xSt := ck (¬ (((581 : Int32) + p1) < 0 ∨ 797 ≤ ((581 : Int32) + p1).toNatClampNeg)) (lt (st2 v 1 ((581 : Int32) + p1).toNatClampNeg p2) (fun v2 => some v2))
set_option maxHeartbeats 4000000 in
set_option maxRecDepth 100000 in
theorem c_X9_lays (l : Launch) (G : xGl) (q : Nat → Nat) (v : xSt) (p1 : Int32) (p2 : Int32) {z : xSt} (hf : m_X9_lays v p1 p2 = some z) : mRW l yX9_lays (wM yX9_lays cX9_lays 3 none) { frames := 0, cells := 0, slots := 0, locals := 0 } G (eMod G) 8 q v [.ref (q 0), .int p1, .int p2] qV z := by
  refine xRW (cc := cX9_lays) (maxL := 3) (ret := none) (by decide) rfl (Nat.le_of_ble_eq_true rfl) ?_
  intro p e s m below meth c ls A hC hr hlk h hl
  have hx := hC.1
  have hb := hC.2.1
  have hl : lv_has ls 3 [(0, .ref (q 0)), (1, .int p1), (2, .int p2)] := hl
  unfold m_X9_lays at hf
  obtain ⟨H, hH⟩ : ∃ H, H = s.heap := ⟨_, rfl⟩
  obtain ⟨locs, hlo⟩ : ∃ x : List Loc, x = [] := ⟨_, rfl⟩
  have h : hg G (eMod G) 8 q v A s H locs := by rw [hH, hlo]; exact h
  rw [← hlo, ← hH]
  clear hH hlo
  refine lv_aload_n hx hb dX9_lays_0 rfl (lv_at hl 0 rfl) ?_
  refine xget hC h.o (C := RX9) (T := TX9) (N := 17) (wM_us uw_X9) 0 (Nat.le_of_ble_eq_true rfl) eMod_0 rfl 0 (by decide) (wM_in fl_X9_7) rfl dX9_lays_1 ?_
  refine lv_sipush (v := (581 : Int32)) hx hb dX9_lays_4 (by decide) ?_
  refine lv_iload_n hx hb dX9_lays_7 rfl (lv_at hl 1 rfl) ?_
  refine lv_iadd hx hb dX9_lays_8 ?_
  refine lv_iload_n hx hb dX9_lays_9 rfl (lv_at hl 2 rfl) ?_
  obtain ⟨hi1, hf⟩ := ck_e hf
  refine xiast hC h 1 (Nat.le_of_ble_eq_true rfl) (fun _ => eMod_1) hi1 dX9_lays_10 (fun H locs h => ?_)
  obtain ⟨v2, ev2, hf⟩ := lt_e hf
  rw [← ev2] at h
  have hf := sm_e hf
  exact xvret hC hr hlk h hf dX9_lays_11
def m_X9_clears (v : xSt) (p1 : Int32) : Option xSt := lp (fun (rec3 : Int32 × xSt → Option xSt) => un2 (fun (a1 : Int32) (v2 : xSt) => (if (18 : Int32) ≤ a1 then some v2 else ck (¬ ((((581 : Int32) + ((18 : Int32) * p1)) + a1) < 0 ∨ 797 ≤ (((581 : Int32) + ((18 : Int32) * p1)) + a1).toNatClampNeg)) (lt (st2 v2 1 (((581 : Int32) + ((18 : Int32) * p1)) + a1).toNatClampNeg (0 : Int32)) (fun v6 => rec3 ((a1 + 1), v6)))))) xF ((0 : Int32), v)
set_option maxHeartbeats 4000000 in
set_option maxRecDepth 100000 in
theorem c_X9_clears (l : Launch) (G : xGl) (q : Nat → Nat) (v : xSt) (p1 : Int32) {z : xSt} (hf : m_X9_clears v p1 = some z) : mRW l yX9_clears (wM yX9_clears cX9_clears 3 none) { frames := 0, cells := 0, slots := 0, locals := 0 } G (eMod G) 8 q v [.ref (q 0), .int p1] qV z := by
  refine xRW (cc := cX9_clears) (maxL := 3) (ret := none) (by decide) rfl (Nat.le_of_ble_eq_true rfl) ?_
  intro p e s m below meth c ls A hC hr hlk h hl
  have hx := hC.1
  have hb := hC.2.1
  have hl : lv_has ls 3 [(0, .ref (q 0)), (1, .int p1)] := hl
  unfold m_X9_clears at hf
  obtain ⟨H, hH⟩ : ∃ H, H = s.heap := ⟨_, rfl⟩
  obtain ⟨locs, hlo⟩ : ∃ x : List Loc, x = [] := ⟨_, rfl⟩
  have h : hg G (eMod G) 8 q v A s H locs := by rw [hH, hlo]; exact h
  rw [← hlo, ← hH]
  clear hH hlo
  refine lv_iconst (v := (0 : Int32)) hx hb dX9_clears_0 (by decide) ?_
  refine lv_istore_n (lv' := [(2, .int (0 : Int32)), (0, .ref (q 0)), (1, .int p1)]) hx hb dX9_clears_1 rfl hl (by decide) rfl (fun ls hl => ?_)
  refine lp_i (z := z) (P := fun (pp : Int32 × xSt) => ∀ (H : Heap) (locs : List Loc), hg G (eMod G) 8 q pp.2 A s H locs → ∀ (ls : Array Slot), lv_has ls 3 [(0, .ref (q 0)), (1, .int p1), (2, .int pp.1)] → W p l e { frames := 0, cells := 0, slots := 0, locals := 0 } s m [.ref (q 0), .int p1].toArray below meth c H locs 0 0 (MQ below (qV (cB G (eMod G) 8 q z A) A) [.ref (q 0), .int p1].toArray s 0 0 A) (F0 m 2 ls [])) ?_ _ _ hf H locs h ls (lv_sub hl [1, 2, 0] rfl)
  intro rec3 hrec3 pp hf H locs h ls hl
  obtain ⟨a1, v2⟩ := pp
  have h : hg G (eMod G) 8 q v2 A s H locs := h
  have hl : lv_has ls 3 [(0, .ref (q 0)), (1, .int p1), (2, .int a1)] := hl
  have hf := un2_e hf
  refine lv_iload_n hx hb dX9_clears_2 rfl (lv_at hl 2 rfl) ?_
  refine lv_bipush (v := (18 : Int32)) hx hb dX9_clears_3 (by decide) ?_
  refine lv_icmp_ge (tgt := 30) hx hb dX9_clears_5 (by decide) (fun c4 => ?_) (fun c4 => ?_)
  · have hf := it_t c4 hf
    have hf := sm_e hf
    exact xvret hC hr hlk h hf dX9_clears_30
  · have hf := it_f c4 hf
    refine lv_aload_n hx hb dX9_clears_8 rfl (lv_at hl 0 rfl) ?_
    refine xget hC h.o (C := RX9) (T := TX9) (N := 17) (wM_us uw_X9) 0 (Nat.le_of_ble_eq_true rfl) eMod_0 rfl 0 (by decide) (wM_in fl_X9_7) rfl dX9_clears_9 ?_
    refine lv_sipush (v := (581 : Int32)) hx hb dX9_clears_12 (by decide) ?_
    refine lv_bipush (v := (18 : Int32)) hx hb dX9_clears_15 (by decide) ?_
    refine lv_iload_n hx hb dX9_clears_17 rfl (lv_at hl 1 rfl) ?_
    refine lv_imul hx hb dX9_clears_18 ?_
    refine lv_iadd hx hb dX9_clears_19 ?_
    refine lv_iload_n hx hb dX9_clears_20 rfl (lv_at hl 2 rfl) ?_
    refine lv_iadd hx hb dX9_clears_21 ?_
    refine lv_iconst (v := (0 : Int32)) hx hb dX9_clears_22 (by decide) ?_
    obtain ⟨hi5, hf⟩ := ck_e hf
    refine xiast hC h 1 (Nat.le_of_ble_eq_true rfl) (fun _ => eMod_1) hi5 dX9_clears_23 (fun H locs h => ?_)
    obtain ⟨v6, ev6, hf⟩ := lt_e hf
    rw [← ev6] at h
    refine lv_iinc (v := (a1 + 1)) (lv' := [(2, .int (a1 + 1)), (0, .ref (q 0)), (1, .int p1)]) hx hb dX9_clears_24 hl (k := 2) rfl rfl (by decide) rfl (fun ls hl => ?_)
    refine lv_goto (tgt := 2) hx hb dX9_clears_27 (by decide) ?_
    exact hrec3 ((a1 + 1), v6) hf H locs h ls (lv_sub hl [1, 2, 0] rfl)
def m_X9_beginsWrite (v : xSt) (p1 : Int32) (p2 : Int32) (p3 : Int32) (p4 : Int32) : Option (Int32 × xSt) := lt (fun (t1 : Int32) => ob (m_X9_clears v (0 : Int32)) (fun r4 => ob (m_X9_lays r4 (0 : Int32) (1 : Int32)) (fun r6 => ob (m_X9_lays r6 (1 : Int32) p1) (fun r8 => ck (¬ ((556 : Int32) < 0 ∨ 797 ≤ (556 : Int32).toNatClampNeg)) (ob (m_X9_lays r8 (4 : Int32) (r8 1 (556 : Int32).toNatClampNeg)) (fun r11 => ck (¬ ((556 : Int32) < 0 ∨ 797 ≤ (556 : Int32).toNatClampNeg)) (ob (m_X9_lays r11 (3 : Int32) (t1 * (r11 1 (556 : Int32).toNatClampNeg))) (fun r14 => ob (m_X9_lays r14 (5 : Int32) p4) (fun r16 => lp (fun (rec19 : Int32 × xSt → Option (Int32 × xSt)) => un2 (fun (a17 : Int32) (v18 : xSt) => (if t1 ≤ a17 then ob (m_X9_under v18 (3 : Int32)) (fun r22 => some (r22, v18)) else lt (fun (t23 : Int32) (t24 : Int32) (t25 : Int32) => ck (¬ ((t24 + t25) < 0 ∨ 797 ≤ (t24 + t25).toNatClampNeg)) (ob (m_X9_lays v18 t23 (v18 1 (t24 + t25).toNatClampNeg)) (fun r29 => rec19 ((a17 + 1), r29)))) (fun j26 => (if p3 ≤ (a17 + (8 : Int32)) then j26 ((9 : Int32) + a17) p2 a17 else j26 ((9 : Int32) + a17) p2 (a17 + (8 : Int32))))))) xF ((0 : Int32), r16)))))))))) (fun j2 => (if (8 : Int32) ≤ p3 then j2 (8 : Int32) else j2 p3))
set_option maxHeartbeats 4000000 in
set_option maxRecDepth 100000 in
theorem c_X9_beginsWrite (l : Launch) (G : xGl) (q : Nat → Nat) (v : xSt) (p1 : Int32) (p2 : Int32) (p3 : Int32) (p4 : Int32) {z : (Int32 × xSt)} (hf : m_X9_beginsWrite v p1 p2 p3 p4 = some z) : mRW l yX9_beginsWrite (wM yX9_beginsWrite cX9_beginsWrite 7 (some .int)) { frames := 1, cells := 0, slots := 0, locals := 22 } G (eMod G) 8 q v [.ref (q 0), .int p1, .int p2, .int p3, .int p4] (qI z.1) z.2 := by
  refine xRW (cc := cX9_beginsWrite) (maxL := 7) (ret := (some .int)) (by decide) rfl (Nat.le_of_ble_eq_true rfl) ?_
  intro p e s m below meth c ls A hC hr hlk h hl
  have hx := hC.1
  have hb := hC.2.1
  have hl : lv_has ls 7 [(0, .ref (q 0)), (1, .int p1), (2, .int p2), (3, .int p3), (4, .int p4)] := hl
  unfold m_X9_beginsWrite at hf
  obtain ⟨H, hH⟩ : ∃ H, H = s.heap := ⟨_, rfl⟩
  obtain ⟨locs, hlo⟩ : ∃ x : List Loc, x = [] := ⟨_, rfl⟩
  have h : hg G (eMod G) 8 q v A s H locs := by rw [hH, hlo]; exact h
  rw [← hlo, ← hH]
  clear hH hlo
  refine lv_iload_n hx hb dX9_beginsWrite_0 rfl (lv_at hl 3 rfl) ?_
  refine lv_bipush (v := (8 : Int32)) hx hb dX9_beginsWrite_1 (by decide) ?_
  obtain ⟨j2, ej2, hf⟩ := lt_e hf
  have hj2 : ∀ (t1 : Int32) (H : Heap) (locs : List Loc), hg G (eMod G) 8 q v A s H locs → ∀ (ls : Array Slot), lv_has ls 7 [(0, .ref (q 0)), (1, .int p1), (2, .int p2), (3, .int p3), (4, .int p4)] → j2 t1 = some z → W p l e { frames := 1, cells := 0, slots := 0, locals := 22 } s m [.ref (q 0), .int p1, .int p2, .int p3, .int p4].toArray below meth c H locs 0 0 (MQ below ((qI z.1) (cB G (eMod G) 8 q z.2 A) A) [.ref (q 0), .int p1, .int p2, .int p3, .int p4].toArray s 0 0 A) (F0 m 12 ls [.int t1]) := by
    intro t1 H locs h ls hl hf
    rw [ej2] at hf
    refine lv_istore (lv' := [(5, .int t1), (0, .ref (q 0)), (1, .int p1), (2, .int p2), (3, .int p3), (4, .int p4)]) hx hb dX9_beginsWrite_12 hl (by decide) rfl (fun ls hl => ?_)
    refine lv_aload_n hx hb dX9_beginsWrite_14 rfl (lv_at hl 1 rfl) ?_
    refine lv_iconst (v := (0 : Int32)) hx hb dX9_beginsWrite_15 (by decide) ?_
    obtain ⟨r4, hy3, hf⟩ := ob_e hf
    refine xv0 h (va_runV (As := [.int (0 : Int32)]) (rest := []) hC (c_X9_clears l G q v (0 : Int32) hy3 H.size) (xcwV hC lk_X9_57 in_X9 co_X9_clears im_X9_clears se_X9_clears rfl rfl dd_X9_clears ⟨Nat.le_of_ble_eq_true rfl, Nat.le_of_ble_eq_true rfl⟩) (preV0 h (Nat.le_of_ble_eq_true rfl) eMod_0 rfl [.int (0 : Int32)]) rfl rfl hl.1 rfl (lv_room (Nat.le_of_ble_eq_true rfl)) dX9_beginsWrite_16 ⟨Nat.zero_le _, Nat.zero_le _⟩) (fun H locs h => ?_)
    refine lv_aload_n hx hb dX9_beginsWrite_19 rfl (lv_at hl 1 rfl) ?_
    refine lv_iconst (v := (0 : Int32)) hx hb dX9_beginsWrite_20 (by decide) ?_
    refine lv_iconst (v := (1 : Int32)) hx hb dX9_beginsWrite_21 (by decide) ?_
    obtain ⟨r6, hy5, hf⟩ := ob_e hf
    refine xv0 h (va_runV (As := [.int (0 : Int32), .int (1 : Int32)]) (rest := []) hC (c_X9_lays l G q r4 (0 : Int32) (1 : Int32) hy5 H.size) (xcwV hC lk_X9_61 in_X9 co_X9_lays im_X9_lays se_X9_lays rfl rfl dd_X9_lays ⟨Nat.le_of_ble_eq_true rfl, Nat.le_of_ble_eq_true rfl⟩) (preV0 h (Nat.le_of_ble_eq_true rfl) eMod_0 rfl [.int (0 : Int32), .int (1 : Int32)]) rfl rfl hl.1 rfl (lv_room (Nat.le_of_ble_eq_true rfl)) dX9_beginsWrite_22 ⟨Nat.zero_le _, Nat.zero_le _⟩) (fun H locs h => ?_)
    refine lv_aload_n hx hb dX9_beginsWrite_25 rfl (lv_at hl 1 rfl) ?_
    refine lv_iconst (v := (1 : Int32)) hx hb dX9_beginsWrite_26 (by decide) ?_
    refine lv_iload_n hx hb dX9_beginsWrite_27 rfl (lv_at hl 2 rfl) ?_
    obtain ⟨r8, hy7, hf⟩ := ob_e hf
    refine xv0 h (va_runV (As := [.int (1 : Int32), .int p1]) (rest := []) hC (c_X9_lays l G q r6 (1 : Int32) p1 hy7 H.size) (xcwV hC lk_X9_61 in_X9 co_X9_lays im_X9_lays se_X9_lays rfl rfl dd_X9_lays ⟨Nat.le_of_ble_eq_true rfl, Nat.le_of_ble_eq_true rfl⟩) (preV0 h (Nat.le_of_ble_eq_true rfl) eMod_0 rfl [.int (1 : Int32), .int p1]) rfl rfl hl.1 rfl (lv_room (Nat.le_of_ble_eq_true rfl)) dX9_beginsWrite_28 ⟨Nat.zero_le _, Nat.zero_le _⟩) (fun H locs h => ?_)
    refine lv_aload_n hx hb dX9_beginsWrite_31 rfl (lv_at hl 1 rfl) ?_
    refine lv_iconst (v := (4 : Int32)) hx hb dX9_beginsWrite_32 (by decide) ?_
    refine lv_aload_n hx hb dX9_beginsWrite_33 rfl (lv_at hl 1 rfl) ?_
    refine xget hC h.o (C := RX9) (T := TX9) (N := 17) (wM_us uw_X9) 0 (Nat.le_of_ble_eq_true rfl) eMod_0 rfl 0 (by decide) (wM_in fl_X9_7) rfl dX9_beginsWrite_34 ?_
    refine lv_sipush (v := (556 : Int32)) hx hb dX9_beginsWrite_37 (by decide) ?_
    obtain ⟨hi9, hf⟩ := ck_e hf
    refine xiald hC h.o 1 (Nat.le_of_ble_eq_true rfl) eMod_1 hi9 dX9_beginsWrite_40 ?_
    obtain ⟨r11, hy10, hf⟩ := ob_e hf
    refine xv0 h (va_runV (As := [.int (4 : Int32), .int (r8 1 (556 : Int32).toNatClampNeg)]) (rest := []) hC (c_X9_lays l G q r8 (4 : Int32) (r8 1 (556 : Int32).toNatClampNeg) hy10 H.size) (xcwV hC lk_X9_61 in_X9 co_X9_lays im_X9_lays se_X9_lays rfl rfl dd_X9_lays ⟨Nat.le_of_ble_eq_true rfl, Nat.le_of_ble_eq_true rfl⟩) (preV0 h (Nat.le_of_ble_eq_true rfl) eMod_0 rfl [.int (4 : Int32), .int (r8 1 (556 : Int32).toNatClampNeg)]) rfl rfl hl.1 rfl (lv_room (Nat.le_of_ble_eq_true rfl)) dX9_beginsWrite_41 ⟨Nat.zero_le _, Nat.zero_le _⟩) (fun H locs h => ?_)
    refine lv_aload_n hx hb dX9_beginsWrite_44 rfl (lv_at hl 1 rfl) ?_
    refine lv_iconst (v := (3 : Int32)) hx hb dX9_beginsWrite_45 (by decide) ?_
    refine lv_iload hx hb dX9_beginsWrite_46 (lv_at hl 0 rfl) ?_
    refine lv_aload_n hx hb dX9_beginsWrite_48 rfl (lv_at hl 1 rfl) ?_
    refine xget hC h.o (C := RX9) (T := TX9) (N := 17) (wM_us uw_X9) 0 (Nat.le_of_ble_eq_true rfl) eMod_0 rfl 0 (by decide) (wM_in fl_X9_7) rfl dX9_beginsWrite_49 ?_
    refine lv_sipush (v := (556 : Int32)) hx hb dX9_beginsWrite_52 (by decide) ?_
    obtain ⟨hi12, hf⟩ := ck_e hf
    refine xiald hC h.o 1 (Nat.le_of_ble_eq_true rfl) eMod_1 hi12 dX9_beginsWrite_55 ?_
    refine lv_imul hx hb dX9_beginsWrite_56 ?_
    obtain ⟨r14, hy13, hf⟩ := ob_e hf
    refine xv0 h (va_runV (As := [.int (3 : Int32), .int (t1 * (r11 1 (556 : Int32).toNatClampNeg))]) (rest := []) hC (c_X9_lays l G q r11 (3 : Int32) (t1 * (r11 1 (556 : Int32).toNatClampNeg)) hy13 H.size) (xcwV hC lk_X9_61 in_X9 co_X9_lays im_X9_lays se_X9_lays rfl rfl dd_X9_lays ⟨Nat.le_of_ble_eq_true rfl, Nat.le_of_ble_eq_true rfl⟩) (preV0 h (Nat.le_of_ble_eq_true rfl) eMod_0 rfl [.int (3 : Int32), .int (t1 * (r11 1 (556 : Int32).toNatClampNeg))]) rfl rfl hl.1 rfl (lv_room (Nat.le_of_ble_eq_true rfl)) dX9_beginsWrite_57 ⟨Nat.zero_le _, Nat.zero_le _⟩) (fun H locs h => ?_)
    refine lv_aload_n hx hb dX9_beginsWrite_60 rfl (lv_at hl 1 rfl) ?_
    refine lv_iconst (v := (5 : Int32)) hx hb dX9_beginsWrite_61 (by decide) ?_
    refine lv_iload hx hb dX9_beginsWrite_62 (lv_at hl 5 rfl) ?_
    obtain ⟨r16, hy15, hf⟩ := ob_e hf
    refine xv0 h (va_runV (As := [.int (5 : Int32), .int p4]) (rest := []) hC (c_X9_lays l G q r14 (5 : Int32) p4 hy15 H.size) (xcwV hC lk_X9_61 in_X9 co_X9_lays im_X9_lays se_X9_lays rfl rfl dd_X9_lays ⟨Nat.le_of_ble_eq_true rfl, Nat.le_of_ble_eq_true rfl⟩) (preV0 h (Nat.le_of_ble_eq_true rfl) eMod_0 rfl [.int (5 : Int32), .int p4]) rfl rfl hl.1 rfl (lv_room (Nat.le_of_ble_eq_true rfl)) dX9_beginsWrite_64 ⟨Nat.zero_le _, Nat.zero_le _⟩) (fun H locs h => ?_)
    refine lv_iconst (v := (0 : Int32)) hx hb dX9_beginsWrite_67 (by decide) ?_
    refine lv_istore (lv' := [(6, .int (0 : Int32)), (5, .int t1), (0, .ref (q 0)), (1, .int p1), (2, .int p2), (3, .int p3), (4, .int p4)]) hx hb dX9_beginsWrite_68 hl (by decide) rfl (fun ls hl => ?_)
    refine lp_i (z := z) (P := fun (pp : Int32 × xSt) => ∀ (H : Heap) (locs : List Loc), hg G (eMod G) 8 q pp.2 A s H locs → ∀ (ls : Array Slot), lv_has ls 7 [(0, .ref (q 0)), (2, .int p2), (3, .int p3), (5, .int t1), (6, .int pp.1)] → W p l e { frames := 1, cells := 0, slots := 0, locals := 22 } s m [.ref (q 0), .int p1, .int p2, .int p3, .int p4].toArray below meth c H locs 0 0 (MQ below ((qI z.1) (cB G (eMod G) 8 q z.2 A) A) [.ref (q 0), .int p1, .int p2, .int p3, .int p4].toArray s 0 0 A) (F0 m 70 ls [])) ?_ _ _ hf H locs h ls (lv_sub hl [2, 4, 5, 1, 0] rfl)
    intro rec19 hrec19 pp hf H locs h ls hl
    obtain ⟨a17, v18⟩ := pp
    have h : hg G (eMod G) 8 q v18 A s H locs := h
    have hl : lv_has ls 7 [(0, .ref (q 0)), (2, .int p2), (3, .int p3), (5, .int t1), (6, .int a17)] := hl
    have hf := un2_e hf
    refine lv_iload hx hb dX9_beginsWrite_70 (lv_at hl 4 rfl) ?_
    refine lv_iload hx hb dX9_beginsWrite_72 (lv_at hl 3 rfl) ?_
    refine lv_icmp_ge (tgt := 118) hx hb dX9_beginsWrite_74 (by decide) (fun c20 => ?_) (fun c20 => ?_)
    · have hf := it_t c20 hf
      refine lv_aload_n hx hb dX9_beginsWrite_118 rfl (lv_at hl 0 rfl) ?_
      refine lv_iconst (v := (3 : Int32)) hx hb dX9_beginsWrite_119 (by decide) ?_
      obtain ⟨r22, hy21, hf⟩ := ob_e hf
      refine xiG h (va_runV (As := [.int (3 : Int32)]) (rest := []) hC (c_X9_under l G q v18 (3 : Int32) hy21 H.size) (xcwV hC lk_X9_46 in_X9 co_X9_under im_X9_under se_X9_under rfl rfl dd_X9_under ⟨Nat.le_of_ble_eq_true rfl, Nat.le_of_ble_eq_true rfl⟩) (preVO0 h.o (Nat.le_of_ble_eq_true rfl) eMod_0 rfl [.int (3 : Int32)]) rfl rfl hl.1 rfl (lv_room (Nat.le_of_ble_eq_true rfl)) dX9_beginsWrite_120 ⟨Nat.zero_le _, Nat.zero_le _⟩) (fun H locs h => ?_)
      have hf := sm_e hf
      exact xiret hC hr hlk h (by rw [← hf]) (by rw [← hf]) dX9_beginsWrite_123
    · have hf := it_f c20 hf
      refine lv_aload_n hx hb dX9_beginsWrite_77 rfl (lv_at hl 0 rfl) ?_
      refine lv_bipush (v := (9 : Int32)) hx hb dX9_beginsWrite_78 (by decide) ?_
      refine lv_iload hx hb dX9_beginsWrite_80 (lv_at hl 4 rfl) ?_
      refine lv_iadd hx hb dX9_beginsWrite_82 ?_
      refine lv_aload_n hx hb dX9_beginsWrite_83 rfl (lv_at hl 0 rfl) ?_
      refine xget hC h.o (C := RX9) (T := TX9) (N := 17) (wM_us uw_X9) 0 (Nat.le_of_ble_eq_true rfl) eMod_0 rfl 0 (by decide) (wM_in fl_X9_7) rfl dX9_beginsWrite_84 ?_
      refine lv_iload_n hx hb dX9_beginsWrite_87 rfl (lv_at hl 1 rfl) ?_
      refine lv_iload hx hb dX9_beginsWrite_88 (lv_at hl 4 rfl) ?_
      refine lv_bipush (v := (8 : Int32)) hx hb dX9_beginsWrite_90 (by decide) ?_
      refine lv_iadd hx hb dX9_beginsWrite_92 ?_
      refine lv_iload_n hx hb dX9_beginsWrite_93 rfl (lv_at hl 2 rfl) ?_
      obtain ⟨j26, ej26, hf⟩ := lt_e hf
      have hj26 : ∀ (t23 : Int32) (t24 : Int32) (t25 : Int32) (H : Heap) (locs : List Loc), hg G (eMod G) 8 q v18 A s H locs → ∀ (ls : Array Slot), lv_has ls 7 [(0, .ref (q 0)), (2, .int p2), (3, .int p3), (5, .int t1), (6, .int a17)] → j26 t23 t24 t25 = some z → W p l e { frames := 1, cells := 0, slots := 0, locals := 22 } s m [.ref (q 0), .int p1, .int p2, .int p3, .int p4].toArray below meth c H locs 0 0 (MQ below ((qI z.1) (cB G (eMod G) 8 q z.2 A) A) [.ref (q 0), .int p1, .int p2, .int p3, .int p4].toArray s 0 0 A) (F0 m 107 ls [.int t25, .int t24, .ref (q 1), .int t23, .ref (q 0)]) := by
        intro t23 t24 t25 H locs h ls hl hf
        rw [ej26] at hf
        refine lv_iadd hx hb dX9_beginsWrite_107 ?_
        obtain ⟨hi27, hf⟩ := ck_e hf
        refine xiald hC h.o 1 (Nat.le_of_ble_eq_true rfl) eMod_1 hi27 dX9_beginsWrite_108 ?_
        obtain ⟨r29, hy28, hf⟩ := ob_e hf
        refine xv0 h (va_runV (As := [.int t23, .int (v18 1 (t24 + t25).toNatClampNeg)]) (rest := []) hC (c_X9_lays l G q v18 t23 (v18 1 (t24 + t25).toNatClampNeg) hy28 H.size) (xcwV hC lk_X9_61 in_X9 co_X9_lays im_X9_lays se_X9_lays rfl rfl dd_X9_lays ⟨Nat.le_of_ble_eq_true rfl, Nat.le_of_ble_eq_true rfl⟩) (preV0 h (Nat.le_of_ble_eq_true rfl) eMod_0 rfl [.int t23, .int (v18 1 (t24 + t25).toNatClampNeg)]) rfl rfl hl.1 rfl (lv_room (Nat.le_of_ble_eq_true rfl)) dX9_beginsWrite_109 ⟨Nat.zero_le _, Nat.zero_le _⟩) (fun H locs h => ?_)
        refine lv_iinc (v := (a17 + 1)) (lv' := [(6, .int (a17 + 1)), (0, .ref (q 0)), (2, .int p2), (3, .int p3), (5, .int t1)]) hx hb dX9_beginsWrite_112 hl (k := 4) rfl rfl (by decide) rfl (fun ls hl => ?_)
        refine lv_goto (tgt := 70) hx hb dX9_beginsWrite_115 (by decide) ?_
        exact hrec19 ((a17 + 1), r29) hf H locs h ls (lv_sub hl [1, 2, 3, 4, 0] rfl)
      refine lv_icmp_ge (tgt := 105) hx hb dX9_beginsWrite_94 (by decide) (fun c30 => ?_) (fun c30 => ?_)
      · have hf := it_t c30 hf
        refine lv_iload hx hb dX9_beginsWrite_105 (lv_at hl 4 rfl) ?_
        exact hj26 ((9 : Int32) + a17) p2 a17 H locs h ls (lv_sub hl [0, 1, 2, 3, 4] rfl) hf
      · have hf := it_f c30 hf
        refine lv_iload hx hb dX9_beginsWrite_97 (lv_at hl 4 rfl) ?_
        refine lv_bipush (v := (8 : Int32)) hx hb dX9_beginsWrite_99 (by decide) ?_
        refine lv_iadd hx hb dX9_beginsWrite_101 ?_
        refine lv_goto (tgt := 107) hx hb dX9_beginsWrite_102 (by decide) ?_
        exact hj26 ((9 : Int32) + a17) p2 (a17 + (8 : Int32)) H locs h ls (lv_sub hl [0, 1, 2, 3, 4] rfl) hf
  refine lv_icmp_ge (tgt := 10) hx hb dX9_beginsWrite_3 (by decide) (fun c31 => ?_) (fun c31 => ?_)
  · have hf := it_t c31 hf
    refine lv_bipush (v := (8 : Int32)) hx hb dX9_beginsWrite_10 (by decide) ?_
    exact hj2 (8 : Int32) H locs h ls (lv_sub hl [0, 1, 2, 3, 4] rfl) hf
  · have hf := it_f c31 hf
    refine lv_iload_n hx hb dX9_beginsWrite_6 rfl (lv_at hl 3 rfl) ?_
    refine lv_goto (tgt := 12) hx hb dX9_beginsWrite_7 (by decide) ?_
    exact hj2 p3 H locs h ls (lv_sub hl [0, 1, 2, 3, 4] rfl) hf
def m_X9_eraseTicks (v : xSt) (p1 : Int32) : Option (Int32) := ck (¬ ((557 : Int32) < 0 ∨ 797 ≤ (557 : Int32).toNatClampNeg)) (ck (¬ (((544 : Int32) + p1) < 0 ∨ 797 ≤ ((544 : Int32) + p1).toNatClampNeg)) (some (((4 : Int32) + (v 1 (557 : Int32).toNatClampNeg)) + ((v 1 ((544 : Int32) + p1).toNatClampNeg) / (4 : Int32)))))
set_option maxHeartbeats 4000000 in
set_option maxRecDepth 100000 in
theorem c_X9_eraseTicks (l : Launch) (G : xGl) (q : Nat → Nat) (v : xSt) (p1 : Int32) {z : (Int32)} (hf : m_X9_eraseTicks v p1 = some z) : mRO l yX9_eraseTicks (wM yX9_eraseTicks cX9_eraseTicks 2 (some .int)) { frames := 0, cells := 0, slots := 0, locals := 0 } G (eMod G) 8 q v [.ref (q 0), .int p1] (qI z) := by
  refine xRO (cc := cX9_eraseTicks) (maxL := 2) (ret := (some .int)) (by decide) rfl (Nat.le_of_ble_eq_true rfl) ?_
  intro p e s m below meth c ls A hC hr hlk h hl
  have hx := hC.1
  have hb := hC.2.1
  have hl : lv_has ls 2 [(0, .ref (q 0)), (1, .int p1)] := hl
  unfold m_X9_eraseTicks at hf
  obtain ⟨H, hH⟩ : ∃ H, H = s.heap := ⟨_, rfl⟩
  obtain ⟨locs, hlo⟩ : ∃ x : List Loc, x = [] := ⟨_, rfl⟩
  have h : ho G (eMod G) 8 q v A s H locs := by rw [hH, hlo]; exact h
  rw [← hlo, ← hH]
  clear hH hlo
  refine lv_iconst (v := (4 : Int32)) hx hb dX9_eraseTicks_0 (by decide) ?_
  refine lv_aload_n hx hb dX9_eraseTicks_1 rfl (lv_at hl 0 rfl) ?_
  refine xget hC h.o (C := RX9) (T := TX9) (N := 17) (wM_us uw_X9) 0 (Nat.le_of_ble_eq_true rfl) eMod_0 rfl 0 (by decide) (wM_in fl_X9_7) rfl dX9_eraseTicks_2 ?_
  refine lv_sipush (v := (557 : Int32)) hx hb dX9_eraseTicks_5 (by decide) ?_
  obtain ⟨hi1, hf⟩ := ck_e hf
  refine xiald hC h.o 1 (Nat.le_of_ble_eq_true rfl) eMod_1 hi1 dX9_eraseTicks_8 ?_
  refine lv_iadd hx hb dX9_eraseTicks_9 ?_
  refine lv_aload_n hx hb dX9_eraseTicks_10 rfl (lv_at hl 0 rfl) ?_
  refine xget hC h.o (C := RX9) (T := TX9) (N := 17) (wM_us uw_X9) 0 (Nat.le_of_ble_eq_true rfl) eMod_0 rfl 0 (by decide) (wM_in fl_X9_7) rfl dX9_eraseTicks_11 ?_
  refine lv_sipush (v := (544 : Int32)) hx hb dX9_eraseTicks_14 (by decide) ?_
  refine lv_iload_n hx hb dX9_eraseTicks_17 rfl (lv_at hl 1 rfl) ?_
  refine lv_iadd hx hb dX9_eraseTicks_18 ?_
  obtain ⟨hi2, hf⟩ := ck_e hf
  refine xiald hC h.o 1 (Nat.le_of_ble_eq_true rfl) eMod_1 hi2 dX9_eraseTicks_19 ?_
  refine lv_iconst (v := (4 : Int32)) hx hb dX9_eraseTicks_20 (by decide) ?_
  refine lv_idiv hx hb dX9_eraseTicks_21 (by decide) ?_
  refine lv_iadd hx hb dX9_eraseTicks_22 ?_
  have hf := sm_e hf
  exact oiret hC hr hlk h (by rw [← hf]) dX9_eraseTicks_23
def m_X9_beginsErase (v : xSt) (p1 : Int32) (p2 : Int32) : Option (Int32 × xSt) := ob (m_X9_clears v (0 : Int32)) (fun r2 => ob (m_X9_lays r2 (0 : Int32) (2 : Int32)) (fun r4 => ob (m_X9_lays r4 (1 : Int32) p1) (fun r6 => ob (m_X9_eraseTicks r6 p1) (fun r8 => ob (m_X9_lays r6 (3 : Int32) r8) (fun r10 => ob (m_X9_lays r10 (5 : Int32) p2) (fun r12 => ob (m_X9_under r12 (3 : Int32)) (fun r14 => some (r14, r12))))))))
set_option maxHeartbeats 4000000 in
set_option maxRecDepth 100000 in
theorem c_X9_beginsErase (l : Launch) (G : xGl) (q : Nat → Nat) (v : xSt) (p1 : Int32) (p2 : Int32) {z : (Int32 × xSt)} (hf : m_X9_beginsErase v p1 p2 = some z) : mRW l yX9_beginsErase (wM yX9_beginsErase cX9_beginsErase 3 (some .int)) { frames := 1, cells := 0, slots := 0, locals := 22 } G (eMod G) 8 q v [.ref (q 0), .int p1, .int p2] (qI z.1) z.2 := by
  refine xRW (cc := cX9_beginsErase) (maxL := 3) (ret := (some .int)) (by decide) rfl (Nat.le_of_ble_eq_true rfl) ?_
  intro p e s m below meth c ls A hC hr hlk h hl
  have hx := hC.1
  have hb := hC.2.1
  have hl : lv_has ls 3 [(0, .ref (q 0)), (1, .int p1), (2, .int p2)] := hl
  unfold m_X9_beginsErase at hf
  obtain ⟨H, hH⟩ : ∃ H, H = s.heap := ⟨_, rfl⟩
  obtain ⟨locs, hlo⟩ : ∃ x : List Loc, x = [] := ⟨_, rfl⟩
  have h : hg G (eMod G) 8 q v A s H locs := by rw [hH, hlo]; exact h
  rw [← hlo, ← hH]
  clear hH hlo
  refine lv_aload_n hx hb dX9_beginsErase_0 rfl (lv_at hl 0 rfl) ?_
  refine lv_iconst (v := (0 : Int32)) hx hb dX9_beginsErase_1 (by decide) ?_
  obtain ⟨r2, hy1, hf⟩ := ob_e hf
  refine xv0 h (va_runV (As := [.int (0 : Int32)]) (rest := []) hC (c_X9_clears l G q v (0 : Int32) hy1 H.size) (xcwV hC lk_X9_57 in_X9 co_X9_clears im_X9_clears se_X9_clears rfl rfl dd_X9_clears ⟨Nat.le_of_ble_eq_true rfl, Nat.le_of_ble_eq_true rfl⟩) (preV0 h (Nat.le_of_ble_eq_true rfl) eMod_0 rfl [.int (0 : Int32)]) rfl rfl hl.1 rfl (lv_room (Nat.le_of_ble_eq_true rfl)) dX9_beginsErase_2 ⟨Nat.zero_le _, Nat.zero_le _⟩) (fun H locs h => ?_)
  refine lv_aload_n hx hb dX9_beginsErase_5 rfl (lv_at hl 0 rfl) ?_
  refine lv_iconst (v := (0 : Int32)) hx hb dX9_beginsErase_6 (by decide) ?_
  refine lv_iconst (v := (2 : Int32)) hx hb dX9_beginsErase_7 (by decide) ?_
  obtain ⟨r4, hy3, hf⟩ := ob_e hf
  refine xv0 h (va_runV (As := [.int (0 : Int32), .int (2 : Int32)]) (rest := []) hC (c_X9_lays l G q r2 (0 : Int32) (2 : Int32) hy3 H.size) (xcwV hC lk_X9_61 in_X9 co_X9_lays im_X9_lays se_X9_lays rfl rfl dd_X9_lays ⟨Nat.le_of_ble_eq_true rfl, Nat.le_of_ble_eq_true rfl⟩) (preV0 h (Nat.le_of_ble_eq_true rfl) eMod_0 rfl [.int (0 : Int32), .int (2 : Int32)]) rfl rfl hl.1 rfl (lv_room (Nat.le_of_ble_eq_true rfl)) dX9_beginsErase_8 ⟨Nat.zero_le _, Nat.zero_le _⟩) (fun H locs h => ?_)
  refine lv_aload_n hx hb dX9_beginsErase_11 rfl (lv_at hl 0 rfl) ?_
  refine lv_iconst (v := (1 : Int32)) hx hb dX9_beginsErase_12 (by decide) ?_
  refine lv_iload_n hx hb dX9_beginsErase_13 rfl (lv_at hl 1 rfl) ?_
  obtain ⟨r6, hy5, hf⟩ := ob_e hf
  refine xv0 h (va_runV (As := [.int (1 : Int32), .int p1]) (rest := []) hC (c_X9_lays l G q r4 (1 : Int32) p1 hy5 H.size) (xcwV hC lk_X9_61 in_X9 co_X9_lays im_X9_lays se_X9_lays rfl rfl dd_X9_lays ⟨Nat.le_of_ble_eq_true rfl, Nat.le_of_ble_eq_true rfl⟩) (preV0 h (Nat.le_of_ble_eq_true rfl) eMod_0 rfl [.int (1 : Int32), .int p1]) rfl rfl hl.1 rfl (lv_room (Nat.le_of_ble_eq_true rfl)) dX9_beginsErase_14 ⟨Nat.zero_le _, Nat.zero_le _⟩) (fun H locs h => ?_)
  refine lv_aload_n hx hb dX9_beginsErase_17 rfl (lv_at hl 0 rfl) ?_
  refine lv_iconst (v := (3 : Int32)) hx hb dX9_beginsErase_18 (by decide) ?_
  refine lv_aload_n hx hb dX9_beginsErase_19 rfl (lv_at hl 0 rfl) ?_
  refine lv_iload_n hx hb dX9_beginsErase_20 rfl (lv_at hl 1 rfl) ?_
  obtain ⟨r8, hy7, hf⟩ := ob_e hf
  refine xiG h (va_runV (As := [.int p1]) (rest := [.int (3 : Int32), .ref (q 0)]) hC (c_X9_eraseTicks l G q r6 p1 hy7 H.size) (xcwV hC lk_X9_65 in_X9 co_X9_eraseTicks im_X9_eraseTicks se_X9_eraseTicks rfl rfl dd_X9_eraseTicks ⟨Nat.le_of_ble_eq_true rfl, Nat.le_of_ble_eq_true rfl⟩) (preVO0 h.o (Nat.le_of_ble_eq_true rfl) eMod_0 rfl [.int p1]) rfl rfl hl.1 rfl (lv_room (Nat.le_of_ble_eq_true rfl)) dX9_beginsErase_21 ⟨Nat.zero_le _, Nat.zero_le _⟩) (fun H locs h => ?_)
  obtain ⟨r10, hy9, hf⟩ := ob_e hf
  refine xv0 h (va_runV (As := [.int (3 : Int32), .int r8]) (rest := []) hC (c_X9_lays l G q r6 (3 : Int32) r8 hy9 H.size) (xcwV hC lk_X9_61 in_X9 co_X9_lays im_X9_lays se_X9_lays rfl rfl dd_X9_lays ⟨Nat.le_of_ble_eq_true rfl, Nat.le_of_ble_eq_true rfl⟩) (preV0 h (Nat.le_of_ble_eq_true rfl) eMod_0 rfl [.int (3 : Int32), .int r8]) rfl rfl hl.1 rfl (lv_room (Nat.le_of_ble_eq_true rfl)) dX9_beginsErase_24 ⟨Nat.zero_le _, Nat.zero_le _⟩) (fun H locs h => ?_)
  refine lv_aload_n hx hb dX9_beginsErase_27 rfl (lv_at hl 0 rfl) ?_
  refine lv_iconst (v := (5 : Int32)) hx hb dX9_beginsErase_28 (by decide) ?_
  refine lv_iload_n hx hb dX9_beginsErase_29 rfl (lv_at hl 2 rfl) ?_
  obtain ⟨r12, hy11, hf⟩ := ob_e hf
  refine xv0 h (va_runV (As := [.int (5 : Int32), .int p2]) (rest := []) hC (c_X9_lays l G q r10 (5 : Int32) p2 hy11 H.size) (xcwV hC lk_X9_61 in_X9 co_X9_lays im_X9_lays se_X9_lays rfl rfl dd_X9_lays ⟨Nat.le_of_ble_eq_true rfl, Nat.le_of_ble_eq_true rfl⟩) (preV0 h (Nat.le_of_ble_eq_true rfl) eMod_0 rfl [.int (5 : Int32), .int p2]) rfl rfl hl.1 rfl (lv_room (Nat.le_of_ble_eq_true rfl)) dX9_beginsErase_30 ⟨Nat.zero_le _, Nat.zero_le _⟩) (fun H locs h => ?_)
  refine lv_aload_n hx hb dX9_beginsErase_33 rfl (lv_at hl 0 rfl) ?_
  refine lv_iconst (v := (3 : Int32)) hx hb dX9_beginsErase_34 (by decide) ?_
  obtain ⟨r14, hy13, hf⟩ := ob_e hf
  refine xiG h (va_runV (As := [.int (3 : Int32)]) (rest := []) hC (c_X9_under l G q r12 (3 : Int32) hy13 H.size) (xcwV hC lk_X9_46 in_X9 co_X9_under im_X9_under se_X9_under rfl rfl dd_X9_under ⟨Nat.le_of_ble_eq_true rfl, Nat.le_of_ble_eq_true rfl⟩) (preVO0 h.o (Nat.le_of_ble_eq_true rfl) eMod_0 rfl [.int (3 : Int32)]) rfl rfl hl.1 rfl (lv_room (Nat.le_of_ble_eq_true rfl)) dX9_beginsErase_35 ⟨Nat.zero_le _, Nat.zero_le _⟩) (fun H locs h => ?_)
  have hf := sm_e hf
  exact xiret hC hr hlk h (by rw [← hf]) (by rw [← hf]) dX9_beginsErase_38
def m_X9_beginsLock (v : xSt) (p1 : Int32) (p2 : Int32) : Option (Int32 × xSt) := ob (m_X9_clears v (0 : Int32)) (fun r2 => ob (m_X9_lays r2 (0 : Int32) (3 : Int32)) (fun r4 => ob (m_X9_lays r4 (1 : Int32) p1) (fun r6 => ob (m_X9_lays r6 (7 : Int32) p2) (fun r8 => ck (¬ ((559 : Int32) < 0 ∨ 797 ≤ (559 : Int32).toNatClampNeg)) (ob (m_X9_lays r8 (3 : Int32) (r8 1 (559 : Int32).toNatClampNeg)) (fun r11 => ob (m_X9_lays r11 (5 : Int32) (-1 : Int32)) (fun r13 => ob (m_X9_under r13 (3 : Int32)) (fun r15 => some (r15, r13)))))))))
set_option maxHeartbeats 4000000 in
set_option maxRecDepth 100000 in
theorem c_X9_beginsLock (l : Launch) (G : xGl) (q : Nat → Nat) (v : xSt) (p1 : Int32) (p2 : Int32) {z : (Int32 × xSt)} (hf : m_X9_beginsLock v p1 p2 = some z) : mRW l yX9_beginsLock (wM yX9_beginsLock cX9_beginsLock 3 (some .int)) { frames := 1, cells := 0, slots := 0, locals := 22 } G (eMod G) 8 q v [.ref (q 0), .int p1, .int p2] (qI z.1) z.2 := by
  refine xRW (cc := cX9_beginsLock) (maxL := 3) (ret := (some .int)) (by decide) rfl (Nat.le_of_ble_eq_true rfl) ?_
  intro p e s m below meth c ls A hC hr hlk h hl
  have hx := hC.1
  have hb := hC.2.1
  have hl : lv_has ls 3 [(0, .ref (q 0)), (1, .int p1), (2, .int p2)] := hl
  unfold m_X9_beginsLock at hf
  obtain ⟨H, hH⟩ : ∃ H, H = s.heap := ⟨_, rfl⟩
  obtain ⟨locs, hlo⟩ : ∃ x : List Loc, x = [] := ⟨_, rfl⟩
  have h : hg G (eMod G) 8 q v A s H locs := by rw [hH, hlo]; exact h
  rw [← hlo, ← hH]
  clear hH hlo
  refine lv_aload_n hx hb dX9_beginsLock_0 rfl (lv_at hl 0 rfl) ?_
  refine lv_iconst (v := (0 : Int32)) hx hb dX9_beginsLock_1 (by decide) ?_
  obtain ⟨r2, hy1, hf⟩ := ob_e hf
  refine xv0 h (va_runV (As := [.int (0 : Int32)]) (rest := []) hC (c_X9_clears l G q v (0 : Int32) hy1 H.size) (xcwV hC lk_X9_57 in_X9 co_X9_clears im_X9_clears se_X9_clears rfl rfl dd_X9_clears ⟨Nat.le_of_ble_eq_true rfl, Nat.le_of_ble_eq_true rfl⟩) (preV0 h (Nat.le_of_ble_eq_true rfl) eMod_0 rfl [.int (0 : Int32)]) rfl rfl hl.1 rfl (lv_room (Nat.le_of_ble_eq_true rfl)) dX9_beginsLock_2 ⟨Nat.zero_le _, Nat.zero_le _⟩) (fun H locs h => ?_)
  refine lv_aload_n hx hb dX9_beginsLock_5 rfl (lv_at hl 0 rfl) ?_
  refine lv_iconst (v := (0 : Int32)) hx hb dX9_beginsLock_6 (by decide) ?_
  refine lv_iconst (v := (3 : Int32)) hx hb dX9_beginsLock_7 (by decide) ?_
  obtain ⟨r4, hy3, hf⟩ := ob_e hf
  refine xv0 h (va_runV (As := [.int (0 : Int32), .int (3 : Int32)]) (rest := []) hC (c_X9_lays l G q r2 (0 : Int32) (3 : Int32) hy3 H.size) (xcwV hC lk_X9_61 in_X9 co_X9_lays im_X9_lays se_X9_lays rfl rfl dd_X9_lays ⟨Nat.le_of_ble_eq_true rfl, Nat.le_of_ble_eq_true rfl⟩) (preV0 h (Nat.le_of_ble_eq_true rfl) eMod_0 rfl [.int (0 : Int32), .int (3 : Int32)]) rfl rfl hl.1 rfl (lv_room (Nat.le_of_ble_eq_true rfl)) dX9_beginsLock_8 ⟨Nat.zero_le _, Nat.zero_le _⟩) (fun H locs h => ?_)
  refine lv_aload_n hx hb dX9_beginsLock_11 rfl (lv_at hl 0 rfl) ?_
  refine lv_iconst (v := (1 : Int32)) hx hb dX9_beginsLock_12 (by decide) ?_
  refine lv_iload_n hx hb dX9_beginsLock_13 rfl (lv_at hl 1 rfl) ?_
  obtain ⟨r6, hy5, hf⟩ := ob_e hf
  refine xv0 h (va_runV (As := [.int (1 : Int32), .int p1]) (rest := []) hC (c_X9_lays l G q r4 (1 : Int32) p1 hy5 H.size) (xcwV hC lk_X9_61 in_X9 co_X9_lays im_X9_lays se_X9_lays rfl rfl dd_X9_lays ⟨Nat.le_of_ble_eq_true rfl, Nat.le_of_ble_eq_true rfl⟩) (preV0 h (Nat.le_of_ble_eq_true rfl) eMod_0 rfl [.int (1 : Int32), .int p1]) rfl rfl hl.1 rfl (lv_room (Nat.le_of_ble_eq_true rfl)) dX9_beginsLock_14 ⟨Nat.zero_le _, Nat.zero_le _⟩) (fun H locs h => ?_)
  refine lv_aload_n hx hb dX9_beginsLock_17 rfl (lv_at hl 0 rfl) ?_
  refine lv_bipush (v := (7 : Int32)) hx hb dX9_beginsLock_18 (by decide) ?_
  refine lv_iload_n hx hb dX9_beginsLock_20 rfl (lv_at hl 2 rfl) ?_
  obtain ⟨r8, hy7, hf⟩ := ob_e hf
  refine xv0 h (va_runV (As := [.int (7 : Int32), .int p2]) (rest := []) hC (c_X9_lays l G q r6 (7 : Int32) p2 hy7 H.size) (xcwV hC lk_X9_61 in_X9 co_X9_lays im_X9_lays se_X9_lays rfl rfl dd_X9_lays ⟨Nat.le_of_ble_eq_true rfl, Nat.le_of_ble_eq_true rfl⟩) (preV0 h (Nat.le_of_ble_eq_true rfl) eMod_0 rfl [.int (7 : Int32), .int p2]) rfl rfl hl.1 rfl (lv_room (Nat.le_of_ble_eq_true rfl)) dX9_beginsLock_21 ⟨Nat.zero_le _, Nat.zero_le _⟩) (fun H locs h => ?_)
  refine lv_aload_n hx hb dX9_beginsLock_24 rfl (lv_at hl 0 rfl) ?_
  refine lv_iconst (v := (3 : Int32)) hx hb dX9_beginsLock_25 (by decide) ?_
  refine lv_aload_n hx hb dX9_beginsLock_26 rfl (lv_at hl 0 rfl) ?_
  refine xget hC h.o (C := RX9) (T := TX9) (N := 17) (wM_us uw_X9) 0 (Nat.le_of_ble_eq_true rfl) eMod_0 rfl 0 (by decide) (wM_in fl_X9_7) rfl dX9_beginsLock_27 ?_
  refine lv_sipush (v := (559 : Int32)) hx hb dX9_beginsLock_30 (by decide) ?_
  obtain ⟨hi9, hf⟩ := ck_e hf
  refine xiald hC h.o 1 (Nat.le_of_ble_eq_true rfl) eMod_1 hi9 dX9_beginsLock_33 ?_
  obtain ⟨r11, hy10, hf⟩ := ob_e hf
  refine xv0 h (va_runV (As := [.int (3 : Int32), .int (r8 1 (559 : Int32).toNatClampNeg)]) (rest := []) hC (c_X9_lays l G q r8 (3 : Int32) (r8 1 (559 : Int32).toNatClampNeg) hy10 H.size) (xcwV hC lk_X9_61 in_X9 co_X9_lays im_X9_lays se_X9_lays rfl rfl dd_X9_lays ⟨Nat.le_of_ble_eq_true rfl, Nat.le_of_ble_eq_true rfl⟩) (preV0 h (Nat.le_of_ble_eq_true rfl) eMod_0 rfl [.int (3 : Int32), .int (r8 1 (559 : Int32).toNatClampNeg)]) rfl rfl hl.1 rfl (lv_room (Nat.le_of_ble_eq_true rfl)) dX9_beginsLock_34 ⟨Nat.zero_le _, Nat.zero_le _⟩) (fun H locs h => ?_)
  refine lv_aload_n hx hb dX9_beginsLock_37 rfl (lv_at hl 0 rfl) ?_
  refine lv_iconst (v := (5 : Int32)) hx hb dX9_beginsLock_38 (by decide) ?_
  refine lv_iconst (v := (-1 : Int32)) hx hb dX9_beginsLock_39 (by decide) ?_
  obtain ⟨r13, hy12, hf⟩ := ob_e hf
  refine xv0 h (va_runV (As := [.int (5 : Int32), .int (-1 : Int32)]) (rest := []) hC (c_X9_lays l G q r11 (5 : Int32) (-1 : Int32) hy12 H.size) (xcwV hC lk_X9_61 in_X9 co_X9_lays im_X9_lays se_X9_lays rfl rfl dd_X9_lays ⟨Nat.le_of_ble_eq_true rfl, Nat.le_of_ble_eq_true rfl⟩) (preV0 h (Nat.le_of_ble_eq_true rfl) eMod_0 rfl [.int (5 : Int32), .int (-1 : Int32)]) rfl rfl hl.1 rfl (lv_room (Nat.le_of_ble_eq_true rfl)) dX9_beginsLock_40 ⟨Nat.zero_le _, Nat.zero_le _⟩) (fun H locs h => ?_)
  refine lv_aload_n hx hb dX9_beginsLock_43 rfl (lv_at hl 0 rfl) ?_
  refine lv_iconst (v := (3 : Int32)) hx hb dX9_beginsLock_44 (by decide) ?_
  obtain ⟨r15, hy14, hf⟩ := ob_e hf
  refine xiG h (va_runV (As := [.int (3 : Int32)]) (rest := []) hC (c_X9_under l G q r13 (3 : Int32) hy14 H.size) (xcwV hC lk_X9_46 in_X9 co_X9_under im_X9_under se_X9_under rfl rfl dd_X9_under ⟨Nat.le_of_ble_eq_true rfl, Nat.le_of_ble_eq_true rfl⟩) (preVO0 h.o (Nat.le_of_ble_eq_true rfl) eMod_0 rfl [.int (3 : Int32)]) rfl rfl hl.1 rfl (lv_room (Nat.le_of_ble_eq_true rfl)) dX9_beginsLock_45 ⟨Nat.zero_le _, Nat.zero_le _⟩) (fun H locs h => ?_)
  have hf := sm_e hf
  exact xiret hC hr hlk h (by rw [← hf]) (by rw [← hf]) dX9_beginsLock_48
def m_X9_beginsOrder (v : xSt) (p1 : Int32) : Option xSt := ob (m_X9_ofOrder v p1 (1 : Int32)) (fun r2 => lt (fun (t3 : Int32) (v4 : xSt) => ob (m_X9_removes v4 p1) (fun r7 => some r7)) (fun j5 => (if r2 = 0 then ob (m_X9_ofOrder v p1 (2 : Int32)) (fun r17 => ob (m_X9_ofOrder v p1 (5 : Int32)) (fun r19 => ob (m_X9_ofOrder v p1 (3 : Int32)) (fun r21 => ob (m_X9_beginsWrite v r17 (((617 : Int32) + ((18 : Int32) * p1)) + (6 : Int32)) r19 r21) (fun r23 => lt (r23.2) (fun v24 => j5 r23.1 v24))))) else ob (m_X9_ofOrder v p1 (2 : Int32)) (fun r10 => ob (m_X9_ofOrder v p1 (3 : Int32)) (fun r12 => ob (m_X9_beginsErase v r10 r12) (fun r14 => lt (r14.2) (fun v15 => j5 r14.1 v15)))))))
set_option maxHeartbeats 4000000 in
set_option maxRecDepth 100000 in
theorem c_X9_beginsOrder (l : Launch) (G : xGl) (q : Nat → Nat) (v : xSt) (p1 : Int32) {z : xSt} (hf : m_X9_beginsOrder v p1 = some z) : mRW l yX9_beginsOrder (wM yX9_beginsOrder cX9_beginsOrder 3 none) { frames := 2, cells := 0, slots := 0, locals := 48 } G (eMod G) 8 q v [.ref (q 0), .int p1] qV z := by
  refine xRW (cc := cX9_beginsOrder) (maxL := 3) (ret := none) (by decide) rfl (Nat.le_of_ble_eq_true rfl) ?_
  intro p e s m below meth c ls A hC hr hlk h hl
  have hx := hC.1
  have hb := hC.2.1
  have hl : lv_has ls 3 [(0, .ref (q 0)), (1, .int p1)] := hl
  unfold m_X9_beginsOrder at hf
  obtain ⟨H, hH⟩ : ∃ H, H = s.heap := ⟨_, rfl⟩
  obtain ⟨locs, hlo⟩ : ∃ x : List Loc, x = [] := ⟨_, rfl⟩
  have h : hg G (eMod G) 8 q v A s H locs := by rw [hH, hlo]; exact h
  rw [← hlo, ← hH]
  clear hH hlo
  refine lv_aload_n hx hb dX9_beginsOrder_0 rfl (lv_at hl 0 rfl) ?_
  refine lv_iload_n hx hb dX9_beginsOrder_1 rfl (lv_at hl 1 rfl) ?_
  refine lv_iconst (v := (1 : Int32)) hx hb dX9_beginsOrder_2 (by decide) ?_
  obtain ⟨r2, hy1, hf⟩ := ob_e hf
  refine xiG h (va_runV (As := [.int p1, .int (1 : Int32)]) (rest := []) hC (c_X9_ofOrder l G q v p1 (1 : Int32) hy1 H.size) (xcwV hC lk_X9_53 in_X9 co_X9_ofOrder im_X9_ofOrder se_X9_ofOrder rfl rfl dd_X9_ofOrder ⟨Nat.le_of_ble_eq_true rfl, Nat.le_of_ble_eq_true rfl⟩) (preVO0 h.o (Nat.le_of_ble_eq_true rfl) eMod_0 rfl [.int p1, .int (1 : Int32)]) rfl rfl hl.1 rfl (lv_room (Nat.le_of_ble_eq_true rfl)) dX9_beginsOrder_3 ⟨Nat.zero_le _, Nat.zero_le _⟩) (fun H locs h => ?_)
  obtain ⟨j5, ej5, hf⟩ := lt_e hf
  have hj5 : ∀ (t3 : Int32) (v4 : xSt) (H : Heap) (locs : List Loc), hg G (eMod G) 8 q v4 A s H locs → ∀ (ls : Array Slot), lv_has ls 3 [(0, .ref (q 0)), (1, .int p1)] → j5 t3 v4 = some z → W p l e { frames := 2, cells := 0, slots := 0, locals := 48 } s m [.ref (q 0), .int p1].toArray below meth c H locs 0 0 (MQ below (qV (cB G (eMod G) 8 q z A) A) [.ref (q 0), .int p1].toArray s 0 0 A) (F0 m 61 ls [.int t3]) := by
    intro t3 v4 H locs h ls hl hf
    rw [ej5] at hf
    refine lv_istore_n (lv' := [(2, .int t3), (0, .ref (q 0)), (1, .int p1)]) hx hb dX9_beginsOrder_61 rfl hl (by decide) rfl (fun ls hl => ?_)
    refine lv_aload_n hx hb dX9_beginsOrder_62 rfl (lv_at hl 1 rfl) ?_
    refine lv_iload_n hx hb dX9_beginsOrder_63 rfl (lv_at hl 2 rfl) ?_
    obtain ⟨r7, hy6, hf⟩ := ob_e hf
    refine xv0 h (va_runV (As := [.int p1]) (rest := []) hC (c_X9_removes l G q v4 p1 hy6 H.size) (xcwV hC lk_X9_75 in_X9 co_X9_removes im_X9_removes se_X9_removes rfl rfl dd_X9_removes ⟨Nat.le_of_ble_eq_true rfl, Nat.le_of_ble_eq_true rfl⟩) (preV0 h (Nat.le_of_ble_eq_true rfl) eMod_0 rfl [.int p1]) rfl rfl hl.1 rfl (lv_room (Nat.le_of_ble_eq_true rfl)) dX9_beginsOrder_64 ⟨Nat.zero_le _, Nat.zero_le _⟩) (fun H locs h => ?_)
    have hf := sm_e hf
    exact xvret hC hr hlk h hf dX9_beginsOrder_67
  refine lv_if_ne (tgt := 45) hx hb dX9_beginsOrder_6 (by decide) (fun c8 => ?_) (fun c8 => ?_)
  · have hf := it_f c8 hf
    refine lv_aload_n hx hb dX9_beginsOrder_45 rfl (lv_at hl 0 rfl) ?_
    refine lv_aload_n hx hb dX9_beginsOrder_46 rfl (lv_at hl 0 rfl) ?_
    refine lv_iload_n hx hb dX9_beginsOrder_47 rfl (lv_at hl 1 rfl) ?_
    refine lv_iconst (v := (2 : Int32)) hx hb dX9_beginsOrder_48 (by decide) ?_
    obtain ⟨r10, hy9, hf⟩ := ob_e hf
    refine xiG h (va_runV (As := [.int p1, .int (2 : Int32)]) (rest := [.ref (q 0)]) hC (c_X9_ofOrder l G q v p1 (2 : Int32) hy9 H.size) (xcwV hC lk_X9_53 in_X9 co_X9_ofOrder im_X9_ofOrder se_X9_ofOrder rfl rfl dd_X9_ofOrder ⟨Nat.le_of_ble_eq_true rfl, Nat.le_of_ble_eq_true rfl⟩) (preVO0 h.o (Nat.le_of_ble_eq_true rfl) eMod_0 rfl [.int p1, .int (2 : Int32)]) rfl rfl hl.1 rfl (lv_room (Nat.le_of_ble_eq_true rfl)) dX9_beginsOrder_49 ⟨Nat.zero_le _, Nat.zero_le _⟩) (fun H locs h => ?_)
    refine lv_aload_n hx hb dX9_beginsOrder_52 rfl (lv_at hl 0 rfl) ?_
    refine lv_iload_n hx hb dX9_beginsOrder_53 rfl (lv_at hl 1 rfl) ?_
    refine lv_iconst (v := (3 : Int32)) hx hb dX9_beginsOrder_54 (by decide) ?_
    obtain ⟨r12, hy11, hf⟩ := ob_e hf
    refine xiG h (va_runV (As := [.int p1, .int (3 : Int32)]) (rest := [.int r10, .ref (q 0)]) hC (c_X9_ofOrder l G q v p1 (3 : Int32) hy11 H.size) (xcwV hC lk_X9_53 in_X9 co_X9_ofOrder im_X9_ofOrder se_X9_ofOrder rfl rfl dd_X9_ofOrder ⟨Nat.le_of_ble_eq_true rfl, Nat.le_of_ble_eq_true rfl⟩) (preVO0 h.o (Nat.le_of_ble_eq_true rfl) eMod_0 rfl [.int p1, .int (3 : Int32)]) rfl rfl hl.1 rfl (lv_room (Nat.le_of_ble_eq_true rfl)) dX9_beginsOrder_55 ⟨Nat.zero_le _, Nat.zero_le _⟩) (fun H locs h => ?_)
    obtain ⟨r14, hy13, hf⟩ := ob_e hf
    refine xi0 h (va_runV (As := [.int r10, .int r12]) (rest := []) hC (c_X9_beginsErase l G q v r10 r12 hy13 H.size) (xcwV hC lk_X9_72 in_X9 co_X9_beginsErase im_X9_beginsErase se_X9_beginsErase rfl rfl dd_X9_beginsErase ⟨Nat.le_of_ble_eq_true rfl, Nat.le_of_ble_eq_true rfl⟩) (preV0 h (Nat.le_of_ble_eq_true rfl) eMod_0 rfl [.int r10, .int r12]) rfl rfl hl.1 rfl (lv_room (Nat.le_of_ble_eq_true rfl)) dX9_beginsOrder_58 ⟨Nat.zero_le _, Nat.zero_le _⟩) (fun H locs h => ?_)
    obtain ⟨v15, ev15, hf⟩ := lt_e hf
    rw [← ev15] at h
    exact hj5 r14.1 v15 H locs h ls (lv_sub hl [0, 1] rfl) hf
  · have hf := it_t c8 hf
    refine lv_aload_n hx hb dX9_beginsOrder_9 rfl (lv_at hl 0 rfl) ?_
    refine lv_aload_n hx hb dX9_beginsOrder_10 rfl (lv_at hl 0 rfl) ?_
    refine lv_iload_n hx hb dX9_beginsOrder_11 rfl (lv_at hl 1 rfl) ?_
    refine lv_iconst (v := (2 : Int32)) hx hb dX9_beginsOrder_12 (by decide) ?_
    obtain ⟨r17, hy16, hf⟩ := ob_e hf
    refine xiG h (va_runV (As := [.int p1, .int (2 : Int32)]) (rest := [.ref (q 0)]) hC (c_X9_ofOrder l G q v p1 (2 : Int32) hy16 H.size) (xcwV hC lk_X9_53 in_X9 co_X9_ofOrder im_X9_ofOrder se_X9_ofOrder rfl rfl dd_X9_ofOrder ⟨Nat.le_of_ble_eq_true rfl, Nat.le_of_ble_eq_true rfl⟩) (preVO0 h.o (Nat.le_of_ble_eq_true rfl) eMod_0 rfl [.int p1, .int (2 : Int32)]) rfl rfl hl.1 rfl (lv_room (Nat.le_of_ble_eq_true rfl)) dX9_beginsOrder_13 ⟨Nat.zero_le _, Nat.zero_le _⟩) (fun H locs h => ?_)
    refine lv_sipush (v := (617 : Int32)) hx hb dX9_beginsOrder_16 (by decide) ?_
    refine lv_bipush (v := (18 : Int32)) hx hb dX9_beginsOrder_19 (by decide) ?_
    refine lv_iload_n hx hb dX9_beginsOrder_21 rfl (lv_at hl 1 rfl) ?_
    refine lv_imul hx hb dX9_beginsOrder_22 ?_
    refine lv_iadd hx hb dX9_beginsOrder_23 ?_
    refine lv_bipush (v := (6 : Int32)) hx hb dX9_beginsOrder_24 (by decide) ?_
    refine lv_iadd hx hb dX9_beginsOrder_26 ?_
    refine lv_aload_n hx hb dX9_beginsOrder_27 rfl (lv_at hl 0 rfl) ?_
    refine lv_iload_n hx hb dX9_beginsOrder_28 rfl (lv_at hl 1 rfl) ?_
    refine lv_iconst (v := (5 : Int32)) hx hb dX9_beginsOrder_29 (by decide) ?_
    obtain ⟨r19, hy18, hf⟩ := ob_e hf
    refine xiG h (va_runV (As := [.int p1, .int (5 : Int32)]) (rest := [.int (((617 : Int32) + ((18 : Int32) * p1)) + (6 : Int32)), .int r17, .ref (q 0)]) hC (c_X9_ofOrder l G q v p1 (5 : Int32) hy18 H.size) (xcwV hC lk_X9_53 in_X9 co_X9_ofOrder im_X9_ofOrder se_X9_ofOrder rfl rfl dd_X9_ofOrder ⟨Nat.le_of_ble_eq_true rfl, Nat.le_of_ble_eq_true rfl⟩) (preVO0 h.o (Nat.le_of_ble_eq_true rfl) eMod_0 rfl [.int p1, .int (5 : Int32)]) rfl rfl hl.1 rfl (lv_room (Nat.le_of_ble_eq_true rfl)) dX9_beginsOrder_30 ⟨Nat.zero_le _, Nat.zero_le _⟩) (fun H locs h => ?_)
    refine lv_aload_n hx hb dX9_beginsOrder_33 rfl (lv_at hl 0 rfl) ?_
    refine lv_iload_n hx hb dX9_beginsOrder_34 rfl (lv_at hl 1 rfl) ?_
    refine lv_iconst (v := (3 : Int32)) hx hb dX9_beginsOrder_35 (by decide) ?_
    obtain ⟨r21, hy20, hf⟩ := ob_e hf
    refine xiG h (va_runV (As := [.int p1, .int (3 : Int32)]) (rest := [.int r19, .int (((617 : Int32) + ((18 : Int32) * p1)) + (6 : Int32)), .int r17, .ref (q 0)]) hC (c_X9_ofOrder l G q v p1 (3 : Int32) hy20 H.size) (xcwV hC lk_X9_53 in_X9 co_X9_ofOrder im_X9_ofOrder se_X9_ofOrder rfl rfl dd_X9_ofOrder ⟨Nat.le_of_ble_eq_true rfl, Nat.le_of_ble_eq_true rfl⟩) (preVO0 h.o (Nat.le_of_ble_eq_true rfl) eMod_0 rfl [.int p1, .int (3 : Int32)]) rfl rfl hl.1 rfl (lv_room (Nat.le_of_ble_eq_true rfl)) dX9_beginsOrder_36 ⟨Nat.zero_le _, Nat.zero_le _⟩) (fun H locs h => ?_)
    obtain ⟨r23, hy22, hf⟩ := ob_e hf
    refine xi0 h (va_runV (As := [.int r17, .int (((617 : Int32) + ((18 : Int32) * p1)) + (6 : Int32)), .int r19, .int r21]) (rest := []) hC (c_X9_beginsWrite l G q v r17 (((617 : Int32) + ((18 : Int32) * p1)) + (6 : Int32)) r19 r21 hy22 H.size) (xcwV hC lk_X9_68 in_X9 co_X9_beginsWrite im_X9_beginsWrite se_X9_beginsWrite rfl rfl dd_X9_beginsWrite ⟨Nat.le_of_ble_eq_true rfl, Nat.le_of_ble_eq_true rfl⟩) (preV0 h (Nat.le_of_ble_eq_true rfl) eMod_0 rfl [.int r17, .int (((617 : Int32) + ((18 : Int32) * p1)) + (6 : Int32)), .int r19, .int r21]) rfl rfl hl.1 rfl (lv_room (Nat.le_of_ble_eq_true rfl)) dX9_beginsOrder_39 ⟨Nat.zero_le _, Nat.zero_le _⟩) (fun H locs h => ?_)
    obtain ⟨v24, ev24, hf⟩ := lt_e hf
    rw [← ev24] at h
    refine lv_goto (tgt := 61) hx hb dX9_beginsOrder_42 (by decide) ?_
    exact hj5 r23.1 v24 H locs h ls (lv_sub hl [0, 1] rfl) hf
def m_X9_falls (v : xSt) (p1 : Int32) (p2 : Int32) : Option xSt := ck (¬ ((563 : Int32) < 0 ∨ 797 ≤ (563 : Int32).toNatClampNeg)) (ck (¬ (p1 < 0 ∨ 797 ≤ p1.toNatClampNeg)) (ob (m_X9_ones (v 1 p1.toNatClampNeg)) (fun r4 => ob (m_X9_ones p2) (fun r6 => ck (¬ ((563 : Int32) < 0 ∨ 797 ≤ (563 : Int32).toNatClampNeg)) (lt (st2 v 1 (563 : Int32).toNatClampNeg ((v 1 (563 : Int32).toNatClampNeg) + (r4 - r6))) (fun v8 => ck (¬ (p1 < 0 ∨ 797 ≤ p1.toNatClampNeg)) (lt (st2 v8 1 p1.toNatClampNeg p2) (fun v10 => some v10))))))))
set_option maxHeartbeats 4000000 in
set_option maxRecDepth 100000 in
theorem c_X9_falls (l : Launch) (G : xGl) (q : Nat → Nat) (v : xSt) (p1 : Int32) (p2 : Int32) {z : xSt} (hf : m_X9_falls v p1 p2 = some z) : mRW l yX9_falls (wM yX9_falls cX9_falls 3 none) { frames := 1, cells := 0, slots := 0, locals := 22 } G (eMod G) 8 q v [.ref (q 0), .int p1, .int p2] qV z := by
  refine xRW (cc := cX9_falls) (maxL := 3) (ret := none) (by decide) rfl (Nat.le_of_ble_eq_true rfl) ?_
  intro p e s m below meth c ls A hC hr hlk h hl
  have hx := hC.1
  have hb := hC.2.1
  have hl : lv_has ls 3 [(0, .ref (q 0)), (1, .int p1), (2, .int p2)] := hl
  unfold m_X9_falls at hf
  obtain ⟨H, hH⟩ : ∃ H, H = s.heap := ⟨_, rfl⟩
  obtain ⟨locs, hlo⟩ : ∃ x : List Loc, x = [] := ⟨_, rfl⟩
  have h : hg G (eMod G) 8 q v A s H locs := by rw [hH, hlo]; exact h
  rw [← hlo, ← hH]
  clear hH hlo
  refine lv_aload_n hx hb dX9_falls_0 rfl (lv_at hl 0 rfl) ?_
  refine xget hC h.o (C := RX9) (T := TX9) (N := 17) (wM_us uw_X9) 0 (Nat.le_of_ble_eq_true rfl) eMod_0 rfl 0 (by decide) (wM_in fl_X9_7) rfl dX9_falls_1 ?_
  refine lv_sipush (v := (563 : Int32)) hx hb dX9_falls_4 (by decide) ?_
  refine lv_dup2_11 hx hb dX9_falls_7 rfl rfl ?_
  obtain ⟨hi1, hf⟩ := ck_e hf
  refine xiald hC h.o 1 (Nat.le_of_ble_eq_true rfl) eMod_1 hi1 dX9_falls_8 ?_
  refine lv_aload_n hx hb dX9_falls_9 rfl (lv_at hl 0 rfl) ?_
  refine xget hC h.o (C := RX9) (T := TX9) (N := 17) (wM_us uw_X9) 0 (Nat.le_of_ble_eq_true rfl) eMod_0 rfl 0 (by decide) (wM_in fl_X9_7) rfl dX9_falls_10 ?_
  refine lv_iload_n hx hb dX9_falls_13 rfl (lv_at hl 1 rfl) ?_
  obtain ⟨hi2, hf⟩ := ck_e hf
  refine xiald hC h.o 1 (Nat.le_of_ble_eq_true rfl) eMod_1 hi2 dX9_falls_14 ?_
  obtain ⟨r4, hy3, hf⟩ := ob_e hf
  refine xiG h (va_runS (As := [.int (v 1 p1.toNatClampNeg)]) (rest := [.int (v 1 (563 : Int32).toNatClampNeg), .int (563 : Int32), .ref (q 1)]) hC (c_X9_ones l G q v (v 1 p1.toNatClampNeg) hy3 H.size) (xcwS hC lk_X9_78 in_X9 co_X9_ones st_X9_ones rfl rfl dd_X9_ones ⟨Nat.le_of_ble_eq_true rfl, Nat.le_of_ble_eq_true rfl⟩) (preSN h.o [.int (v 1 p1.toNatClampNeg)]) rfl rfl hl.1 rfl (lv_room (Nat.le_of_ble_eq_true rfl)) dX9_falls_15 ⟨Nat.zero_le _, Nat.zero_le _⟩) (fun H locs h => ?_)
  refine lv_iload_n hx hb dX9_falls_18 rfl (lv_at hl 2 rfl) ?_
  obtain ⟨r6, hy5, hf⟩ := ob_e hf
  refine xiG h (va_runS (As := [.int p2]) (rest := [.int r4, .int (v 1 (563 : Int32).toNatClampNeg), .int (563 : Int32), .ref (q 1)]) hC (c_X9_ones l G q v p2 hy5 H.size) (xcwS hC lk_X9_78 in_X9 co_X9_ones st_X9_ones rfl rfl dd_X9_ones ⟨Nat.le_of_ble_eq_true rfl, Nat.le_of_ble_eq_true rfl⟩) (preSN h.o [.int p2]) rfl rfl hl.1 rfl (lv_room (Nat.le_of_ble_eq_true rfl)) dX9_falls_19 ⟨Nat.zero_le _, Nat.zero_le _⟩) (fun H locs h => ?_)
  refine lv_isub hx hb dX9_falls_22 ?_
  refine lv_iadd hx hb dX9_falls_23 ?_
  obtain ⟨hi7, hf⟩ := ck_e hf
  refine xiast hC h 1 (Nat.le_of_ble_eq_true rfl) (fun _ => eMod_1) hi7 dX9_falls_24 (fun H locs h => ?_)
  obtain ⟨v8, ev8, hf⟩ := lt_e hf
  rw [← ev8] at h
  refine lv_aload_n hx hb dX9_falls_25 rfl (lv_at hl 0 rfl) ?_
  refine xget hC h.o (C := RX9) (T := TX9) (N := 17) (wM_us uw_X9) 0 (Nat.le_of_ble_eq_true rfl) eMod_0 rfl 0 (by decide) (wM_in fl_X9_7) rfl dX9_falls_26 ?_
  refine lv_iload_n hx hb dX9_falls_29 rfl (lv_at hl 1 rfl) ?_
  refine lv_iload_n hx hb dX9_falls_30 rfl (lv_at hl 2 rfl) ?_
  obtain ⟨hi9, hf⟩ := ck_e hf
  refine xiast hC h 1 (Nat.le_of_ble_eq_true rfl) (fun _ => eMod_1) hi9 dX9_falls_31 (fun H locs h => ?_)
  obtain ⟨v10, ev10, hf⟩ := lt_e hf
  rw [← ev10] at h
  have hf := sm_e hf
  exact xvret hC hr hlk h hf dX9_falls_32
def m_X9_writesOn (v : xSt) : Option xSt := ob (m_X9_under v (2 : Int32)) (fun r2 => ob (m_X9_under v (4 : Int32)) (fun r4 => ck (¬ r4 = 0) (lt (fun (v6 : xSt) => ck (¬ ((562 : Int32) < 0 ∨ 797 ≤ (562 : Int32).toNatClampNeg)) (ob (m_X9_under v6 (2 : Int32)) (fun r10 => ob (m_X9_under v6 (3 : Int32)) (fun r12 => lt (fun (t13 : Int32) (t14 : Int32) (t15 : Int32) => ck (¬ (t13 < 0 ∨ 797 ≤ t13.toNatClampNeg)) (lt (st2 v6 1 t13.toNatClampNeg (t14 + t15)) (fun v18 => some v18))) (fun j16 => (if r10 = r12 then j16 (562 : Int32) (v6 1 (562 : Int32).toNatClampNeg) (1 : Int32) else j16 (562 : Int32) (v6 1 (562 : Int32).toNatClampNeg) (0 : Int32))))))) (fun j7 => (if (r2 - r2 / r4 * r4) = 0 then ob (m_X9_under v (2 : Int32)) (fun r22 => ob (m_X9_under v (4 : Int32)) (fun r24 => ck (¬ r24 = 0) (ob (m_X9_under v (1 : Int32)) (fun r27 => ob (m_X9_under v (1 : Int32)) (fun r29 => lt ((((r27 / (8 : Int32)) * (8 : Int32)) + ((r29 + ((r22 / r24) - (1 : Int32))) - (r29 + ((r22 / r24) - (1 : Int32))) / (8 : Int32) * (8 : Int32)))) (fun x30 => ck (¬ (x30 < 0 ∨ 797 ≤ x30.toNatClampNeg)) (ob (m_X9_under v ((9 : Int32) + ((r22 / r24) - (1 : Int32)))) (fun r33 => ob (m_X9_falls v x30 ((v 1 x30.toNatClampNeg) &&& r33)) (fun r35 => j7 r35))))))))) else j7 v)))))
set_option maxHeartbeats 4000000 in
set_option maxRecDepth 100000 in
theorem c_X9_writesOn (l : Launch) (G : xGl) (q : Nat → Nat) (v : xSt) {z : xSt} (hf : m_X9_writesOn v = some z) : mRW l yX9_writesOn (wM yX9_writesOn cX9_writesOn 3 none) { frames := 2, cells := 0, slots := 0, locals := 44 } G (eMod G) 8 q v [.ref (q 0)] qV z := by
  refine xRW (cc := cX9_writesOn) (maxL := 3) (ret := none) (by decide) rfl (Nat.le_of_ble_eq_true rfl) ?_
  intro p e s m below meth c ls A hC hr hlk h hl
  have hx := hC.1
  have hb := hC.2.1
  have hl : lv_has ls 3 [(0, .ref (q 0))] := hl
  unfold m_X9_writesOn at hf
  obtain ⟨H, hH⟩ : ∃ H, H = s.heap := ⟨_, rfl⟩
  obtain ⟨locs, hlo⟩ : ∃ x : List Loc, x = [] := ⟨_, rfl⟩
  have h : hg G (eMod G) 8 q v A s H locs := by rw [hH, hlo]; exact h
  rw [← hlo, ← hH]
  clear hH hlo
  refine lv_aload_n hx hb dX9_writesOn_0 rfl (lv_at hl 0 rfl) ?_
  refine lv_iconst (v := (2 : Int32)) hx hb dX9_writesOn_1 (by decide) ?_
  obtain ⟨r2, hy1, hf⟩ := ob_e hf
  refine xiG h (va_runV (As := [.int (2 : Int32)]) (rest := []) hC (c_X9_under l G q v (2 : Int32) hy1 H.size) (xcwV hC lk_X9_46 in_X9 co_X9_under im_X9_under se_X9_under rfl rfl dd_X9_under ⟨Nat.le_of_ble_eq_true rfl, Nat.le_of_ble_eq_true rfl⟩) (preVO0 h.o (Nat.le_of_ble_eq_true rfl) eMod_0 rfl [.int (2 : Int32)]) rfl rfl hl.1 rfl (lv_room (Nat.le_of_ble_eq_true rfl)) dX9_writesOn_2 ⟨Nat.zero_le _, Nat.zero_le _⟩) (fun H locs h => ?_)
  refine lv_aload_n hx hb dX9_writesOn_5 rfl (lv_at hl 0 rfl) ?_
  refine lv_iconst (v := (4 : Int32)) hx hb dX9_writesOn_6 (by decide) ?_
  obtain ⟨r4, hy3, hf⟩ := ob_e hf
  refine xiG h (va_runV (As := [.int (4 : Int32)]) (rest := [.int r2]) hC (c_X9_under l G q v (4 : Int32) hy3 H.size) (xcwV hC lk_X9_46 in_X9 co_X9_under im_X9_under se_X9_under rfl rfl dd_X9_under ⟨Nat.le_of_ble_eq_true rfl, Nat.le_of_ble_eq_true rfl⟩) (preVO0 h.o (Nat.le_of_ble_eq_true rfl) eMod_0 rfl [.int (4 : Int32)]) rfl rfl hl.1 rfl (lv_room (Nat.le_of_ble_eq_true rfl)) dX9_writesOn_7 ⟨Nat.zero_le _, Nat.zero_le _⟩) (fun H locs h => ?_)
  obtain ⟨hn5, hf⟩ := ck_e hf
  refine lv_irem hx hb dX9_writesOn_10 hn5 ?_
  obtain ⟨j7, ej7, hf⟩ := lt_e hf
  have hj7 : ∀ (v6 : xSt) (H : Heap) (locs : List Loc), hg G (eMod G) 8 q v6 A s H locs → ∀ (ls : Array Slot), lv_has ls 3 [(0, .ref (q 0))] → j7 v6 = some z → W p l e { frames := 2, cells := 0, slots := 0, locals := 44 } s m [.ref (q 0)].toArray below meth c H locs 0 0 (MQ below (qV (cB G (eMod G) 8 q z A) A) [.ref (q 0)].toArray s 0 0 A) (F0 m 71 ls []) := by
    intro v6 H locs h ls hl hf
    rw [ej7] at hf
    refine lv_aload_n hx hb dX9_writesOn_71 rfl (lv_at hl 0 rfl) ?_
    refine xget hC h.o (C := RX9) (T := TX9) (N := 17) (wM_us uw_X9) 0 (Nat.le_of_ble_eq_true rfl) eMod_0 rfl 0 (by decide) (wM_in fl_X9_7) rfl dX9_writesOn_72 ?_
    refine lv_sipush (v := (562 : Int32)) hx hb dX9_writesOn_75 (by decide) ?_
    refine lv_dup2_11 hx hb dX9_writesOn_78 rfl rfl ?_
    obtain ⟨hi8, hf⟩ := ck_e hf
    refine xiald hC h.o 1 (Nat.le_of_ble_eq_true rfl) eMod_1 hi8 dX9_writesOn_79 ?_
    refine lv_aload_n hx hb dX9_writesOn_80 rfl (lv_at hl 0 rfl) ?_
    refine lv_iconst (v := (2 : Int32)) hx hb dX9_writesOn_81 (by decide) ?_
    obtain ⟨r10, hy9, hf⟩ := ob_e hf
    refine xiG h (va_runV (As := [.int (2 : Int32)]) (rest := [.int (v6 1 (562 : Int32).toNatClampNeg), .int (562 : Int32), .ref (q 1)]) hC (c_X9_under l G q v6 (2 : Int32) hy9 H.size) (xcwV hC lk_X9_46 in_X9 co_X9_under im_X9_under se_X9_under rfl rfl dd_X9_under ⟨Nat.le_of_ble_eq_true rfl, Nat.le_of_ble_eq_true rfl⟩) (preVO0 h.o (Nat.le_of_ble_eq_true rfl) eMod_0 rfl [.int (2 : Int32)]) rfl rfl hl.1 rfl (lv_room (Nat.le_of_ble_eq_true rfl)) dX9_writesOn_82 ⟨Nat.zero_le _, Nat.zero_le _⟩) (fun H locs h => ?_)
    refine lv_aload_n hx hb dX9_writesOn_85 rfl (lv_at hl 0 rfl) ?_
    refine lv_iconst (v := (3 : Int32)) hx hb dX9_writesOn_86 (by decide) ?_
    obtain ⟨r12, hy11, hf⟩ := ob_e hf
    refine xiG h (va_runV (As := [.int (3 : Int32)]) (rest := [.int r10, .int (v6 1 (562 : Int32).toNatClampNeg), .int (562 : Int32), .ref (q 1)]) hC (c_X9_under l G q v6 (3 : Int32) hy11 H.size) (xcwV hC lk_X9_46 in_X9 co_X9_under im_X9_under se_X9_under rfl rfl dd_X9_under ⟨Nat.le_of_ble_eq_true rfl, Nat.le_of_ble_eq_true rfl⟩) (preVO0 h.o (Nat.le_of_ble_eq_true rfl) eMod_0 rfl [.int (3 : Int32)]) rfl rfl hl.1 rfl (lv_room (Nat.le_of_ble_eq_true rfl)) dX9_writesOn_87 ⟨Nat.zero_le _, Nat.zero_le _⟩) (fun H locs h => ?_)
    obtain ⟨j16, ej16, hf⟩ := lt_e hf
    have hj16 : ∀ (t13 : Int32) (t14 : Int32) (t15 : Int32) (H : Heap) (locs : List Loc), hg G (eMod G) 8 q v6 A s H locs → ∀ (ls : Array Slot), lv_has ls 3 [] → j16 t13 t14 t15 = some z → W p l e { frames := 2, cells := 0, slots := 0, locals := 44 } s m [.ref (q 0)].toArray below meth c H locs 0 0 (MQ below (qV (cB G (eMod G) 8 q z A) A) [.ref (q 0)].toArray s 0 0 A) (F0 m 98 ls [.int t15, .int t14, .int t13, .ref (q 1)]) := by
      intro t13 t14 t15 H locs h ls hl hf
      rw [ej16] at hf
      refine lv_iadd hx hb dX9_writesOn_98 ?_
      obtain ⟨hi17, hf⟩ := ck_e hf
      refine xiast hC h 1 (Nat.le_of_ble_eq_true rfl) (fun _ => eMod_1) hi17 dX9_writesOn_99 (fun H locs h => ?_)
      obtain ⟨v18, ev18, hf⟩ := lt_e hf
      rw [← ev18] at h
      have hf := sm_e hf
      exact xvret hC hr hlk h hf dX9_writesOn_100
    refine lv_icmp_ne (tgt := 97) hx hb dX9_writesOn_90 (by decide) (fun c19 => ?_) (fun c19 => ?_)
    · have hf := it_f c19 hf
      refine lv_iconst (v := (0 : Int32)) hx hb dX9_writesOn_97 (by decide) ?_
      exact hj16 (562 : Int32) (v6 1 (562 : Int32).toNatClampNeg) (0 : Int32) H locs h ls (lv_sub hl [] rfl) hf
    · have hf := it_t c19 hf
      refine lv_iconst (v := (1 : Int32)) hx hb dX9_writesOn_93 (by decide) ?_
      refine lv_goto (tgt := 98) hx hb dX9_writesOn_94 (by decide) ?_
      exact hj16 (562 : Int32) (v6 1 (562 : Int32).toNatClampNeg) (1 : Int32) H locs h ls (lv_sub hl [] rfl) hf
  refine lv_if_ne (tgt := 71) hx hb dX9_writesOn_11 (by decide) (fun c20 => ?_) (fun c20 => ?_)
  · have hf := it_f c20 hf
    exact hj7 v H locs h ls (lv_sub hl [0] rfl) hf
  · have hf := it_t c20 hf
    refine lv_aload_n hx hb dX9_writesOn_14 rfl (lv_at hl 0 rfl) ?_
    refine lv_iconst (v := (2 : Int32)) hx hb dX9_writesOn_15 (by decide) ?_
    obtain ⟨r22, hy21, hf⟩ := ob_e hf
    refine xiG h (va_runV (As := [.int (2 : Int32)]) (rest := []) hC (c_X9_under l G q v (2 : Int32) hy21 H.size) (xcwV hC lk_X9_46 in_X9 co_X9_under im_X9_under se_X9_under rfl rfl dd_X9_under ⟨Nat.le_of_ble_eq_true rfl, Nat.le_of_ble_eq_true rfl⟩) (preVO0 h.o (Nat.le_of_ble_eq_true rfl) eMod_0 rfl [.int (2 : Int32)]) rfl rfl hl.1 rfl (lv_room (Nat.le_of_ble_eq_true rfl)) dX9_writesOn_16 ⟨Nat.zero_le _, Nat.zero_le _⟩) (fun H locs h => ?_)
    refine lv_aload_n hx hb dX9_writesOn_19 rfl (lv_at hl 0 rfl) ?_
    refine lv_iconst (v := (4 : Int32)) hx hb dX9_writesOn_20 (by decide) ?_
    obtain ⟨r24, hy23, hf⟩ := ob_e hf
    refine xiG h (va_runV (As := [.int (4 : Int32)]) (rest := [.int r22]) hC (c_X9_under l G q v (4 : Int32) hy23 H.size) (xcwV hC lk_X9_46 in_X9 co_X9_under im_X9_under se_X9_under rfl rfl dd_X9_under ⟨Nat.le_of_ble_eq_true rfl, Nat.le_of_ble_eq_true rfl⟩) (preVO0 h.o (Nat.le_of_ble_eq_true rfl) eMod_0 rfl [.int (4 : Int32)]) rfl rfl hl.1 rfl (lv_room (Nat.le_of_ble_eq_true rfl)) dX9_writesOn_21 ⟨Nat.zero_le _, Nat.zero_le _⟩) (fun H locs h => ?_)
    obtain ⟨hn25, hf⟩ := ck_e hf
    refine lv_idiv hx hb dX9_writesOn_24 hn25 ?_
    refine lv_iconst (v := (1 : Int32)) hx hb dX9_writesOn_25 (by decide) ?_
    refine lv_isub hx hb dX9_writesOn_26 ?_
    refine lv_istore_n (lv' := [(1, .int ((r22 / r24) - (1 : Int32))), (0, .ref (q 0))]) hx hb dX9_writesOn_27 rfl hl (by decide) rfl (fun ls hl => ?_)
    refine lv_aload_n hx hb dX9_writesOn_28 rfl (lv_at hl 1 rfl) ?_
    refine lv_iconst (v := (1 : Int32)) hx hb dX9_writesOn_29 (by decide) ?_
    obtain ⟨r27, hy26, hf⟩ := ob_e hf
    refine xiG h (va_runV (As := [.int (1 : Int32)]) (rest := []) hC (c_X9_under l G q v (1 : Int32) hy26 H.size) (xcwV hC lk_X9_46 in_X9 co_X9_under im_X9_under se_X9_under rfl rfl dd_X9_under ⟨Nat.le_of_ble_eq_true rfl, Nat.le_of_ble_eq_true rfl⟩) (preVO0 h.o (Nat.le_of_ble_eq_true rfl) eMod_0 rfl [.int (1 : Int32)]) rfl rfl hl.1 rfl (lv_room (Nat.le_of_ble_eq_true rfl)) dX9_writesOn_30 ⟨Nat.zero_le _, Nat.zero_le _⟩) (fun H locs h => ?_)
    refine lv_bipush (v := (8 : Int32)) hx hb dX9_writesOn_33 (by decide) ?_
    refine lv_idiv hx hb dX9_writesOn_35 (by decide) ?_
    refine lv_bipush (v := (8 : Int32)) hx hb dX9_writesOn_36 (by decide) ?_
    refine lv_imul hx hb dX9_writesOn_38 ?_
    refine lv_aload_n hx hb dX9_writesOn_39 rfl (lv_at hl 1 rfl) ?_
    refine lv_iconst (v := (1 : Int32)) hx hb dX9_writesOn_40 (by decide) ?_
    obtain ⟨r29, hy28, hf⟩ := ob_e hf
    refine xiG h (va_runV (As := [.int (1 : Int32)]) (rest := [.int ((r27 / (8 : Int32)) * (8 : Int32))]) hC (c_X9_under l G q v (1 : Int32) hy28 H.size) (xcwV hC lk_X9_46 in_X9 co_X9_under im_X9_under se_X9_under rfl rfl dd_X9_under ⟨Nat.le_of_ble_eq_true rfl, Nat.le_of_ble_eq_true rfl⟩) (preVO0 h.o (Nat.le_of_ble_eq_true rfl) eMod_0 rfl [.int (1 : Int32)]) rfl rfl hl.1 rfl (lv_room (Nat.le_of_ble_eq_true rfl)) dX9_writesOn_41 ⟨Nat.zero_le _, Nat.zero_le _⟩) (fun H locs h => ?_)
    refine lv_iload_n hx hb dX9_writesOn_44 rfl (lv_at hl 0 rfl) ?_
    refine lv_iadd hx hb dX9_writesOn_45 ?_
    refine lv_bipush (v := (8 : Int32)) hx hb dX9_writesOn_46 (by decide) ?_
    refine lv_irem hx hb dX9_writesOn_48 (by decide) ?_
    refine lv_iadd hx hb dX9_writesOn_49 ?_
    obtain ⟨x30, ex30, hf⟩ := lt_e hf
    refine lv_nm ex30 ?_
    refine lv_istore_n (lv' := [(2, .int x30), (1, .int ((r22 / r24) - (1 : Int32))), (0, .ref (q 0))]) hx hb dX9_writesOn_50 rfl hl (by decide) rfl (fun ls hl => ?_)
    refine lv_aload_n hx hb dX9_writesOn_51 rfl (lv_at hl 2 rfl) ?_
    refine lv_iload_n hx hb dX9_writesOn_52 rfl (lv_at hl 0 rfl) ?_
    refine lv_aload_n hx hb dX9_writesOn_53 rfl (lv_at hl 2 rfl) ?_
    refine xget hC h.o (C := RX9) (T := TX9) (N := 17) (wM_us uw_X9) 0 (Nat.le_of_ble_eq_true rfl) eMod_0 rfl 0 (by decide) (wM_in fl_X9_7) rfl dX9_writesOn_54 ?_
    refine lv_iload_n hx hb dX9_writesOn_57 rfl (lv_at hl 0 rfl) ?_
    obtain ⟨hi31, hf⟩ := ck_e hf
    refine xiald hC h.o 1 (Nat.le_of_ble_eq_true rfl) eMod_1 hi31 dX9_writesOn_58 ?_
    refine lv_aload_n hx hb dX9_writesOn_59 rfl (lv_at hl 2 rfl) ?_
    refine lv_bipush (v := (9 : Int32)) hx hb dX9_writesOn_60 (by decide) ?_
    refine lv_iload_n hx hb dX9_writesOn_62 rfl (lv_at hl 1 rfl) ?_
    refine lv_iadd hx hb dX9_writesOn_63 ?_
    obtain ⟨r33, hy32, hf⟩ := ob_e hf
    refine xiG h (va_runV (As := [.int ((9 : Int32) + ((r22 / r24) - (1 : Int32)))]) (rest := [.int (v 1 x30.toNatClampNeg), .int x30, .ref (q 0)]) hC (c_X9_under l G q v ((9 : Int32) + ((r22 / r24) - (1 : Int32))) hy32 H.size) (xcwV hC lk_X9_46 in_X9 co_X9_under im_X9_under se_X9_under rfl rfl dd_X9_under ⟨Nat.le_of_ble_eq_true rfl, Nat.le_of_ble_eq_true rfl⟩) (preVO0 h.o (Nat.le_of_ble_eq_true rfl) eMod_0 rfl [.int ((9 : Int32) + ((r22 / r24) - (1 : Int32)))]) rfl rfl hl.1 rfl (lv_room (Nat.le_of_ble_eq_true rfl)) dX9_writesOn_64 ⟨Nat.zero_le _, Nat.zero_le _⟩) (fun H locs h => ?_)
    refine lv_iand hx hb dX9_writesOn_67 ?_
    obtain ⟨r35, hy34, hf⟩ := ob_e hf
    refine xv0 h (va_runV (As := [.int x30, .int ((v 1 x30.toNatClampNeg) &&& r33)]) (rest := []) hC (c_X9_falls l G q v x30 ((v 1 x30.toNatClampNeg) &&& r33) hy34 H.size) (xcwV hC lk_X9_81 in_X9 co_X9_falls im_X9_falls se_X9_falls rfl rfl dd_X9_falls ⟨Nat.le_of_ble_eq_true rfl, Nat.le_of_ble_eq_true rfl⟩) (preV0 h (Nat.le_of_ble_eq_true rfl) eMod_0 rfl [.int x30, .int ((v 1 x30.toNatClampNeg) &&& r33)]) rfl rfl hl.1 rfl (lv_room (Nat.le_of_ble_eq_true rfl)) dX9_writesOn_68 ⟨Nat.zero_le _, Nat.zero_le _⟩) (fun H locs h => ?_)
    exact hj7 r35 H locs h ls (lv_sub hl [2] rfl) hf
def m_X9_endsErase (v : xSt) (p1 : Int32) : Option xSt := lp (fun (rec3 : Int32 × xSt → Option xSt) => un2 (fun (a1 : Int32) (v2 : xSt) => (if (((32 : Int32) * p1) + (32 : Int32)) ≤ a1 then ck (¬ (((544 : Int32) + p1) < 0 ∨ 797 ≤ ((544 : Int32) + p1).toNatClampNeg)) (ck (¬ (((544 : Int32) + p1) < 0 ∨ 797 ≤ ((544 : Int32) + p1).toNatClampNeg)) (lt (st2 v2 1 ((544 : Int32) + p1).toNatClampNeg ((v2 1 ((544 : Int32) + p1).toNatClampNeg) + (1 : Int32))) (fun v7 => ck (¬ (((544 : Int32) + p1) < 0 ∨ 797 ≤ ((544 : Int32) + p1).toNatClampNeg)) (lt ((v7 1 ((544 : Int32) + p1).toNatClampNeg)) (fun x9 => ck (¬ ((558 : Int32) < 0 ∨ 797 ≤ (558 : Int32).toNatClampNeg)) ((if x9 ≤ (v7 1 (558 : Int32).toNatClampNeg) then some v7 else lt ((((32 : Int32) * p1) + (x9 - x9 / (32 : Int32) * (32 : Int32)))) (fun x12 => ck (¬ (((256 : Int32) + x12) < 0 ∨ 797 ≤ ((256 : Int32) + x12).toNatClampNeg)) (ck (¬ (((256 : Int32) + x12) < 0 ∨ 797 ≤ ((256 : Int32) + x12).toNatClampNeg)) (lt (st2 v7 1 ((256 : Int32) + x12).toNatClampNeg ((v7 1 ((256 : Int32) + x12).toNatClampNeg) ||| ((1 : Int32) <<< ((x9 - x9 / (8 : Int32) * (8 : Int32)) &&& 31)))) (fun v15 => ck (¬ (((256 : Int32) + x12) < 0 ∨ 797 ≤ ((256 : Int32) + x12).toNatClampNeg)) (ck (¬ (x12 < 0 ∨ 797 ≤ x12.toNatClampNeg)) (lt (st2 v15 1 x12.toNatClampNeg ((255 : Int32) &&& ((v15 1 ((256 : Int32) + x12).toNatClampNeg) ^^^ (-1 : Int32)))) (fun v18 => some v18)))))))))))))) else ck (¬ (((256 : Int32) + a1) < 0 ∨ 797 ≤ ((256 : Int32) + a1).toNatClampNeg)) (ck (¬ (a1 < 0 ∨ 797 ≤ a1.toNatClampNeg)) (lt (st2 v2 1 a1.toNatClampNeg ((255 : Int32) &&& ((v2 1 ((256 : Int32) + a1).toNatClampNeg) ^^^ (-1 : Int32)))) (fun v21 => ck (¬ (((512 : Int32) + (a1 / (8 : Int32))) < 0 ∨ 797 ≤ ((512 : Int32) + (a1 / (8 : Int32))).toNatClampNeg)) (lt (st2 v21 1 ((512 : Int32) + (a1 / (8 : Int32))).toNatClampNeg (0 : Int32)) (fun v23 => rec3 ((a1 + 1), v23))))))))) xF (((32 : Int32) * p1), v)
set_option maxHeartbeats 4000000 in
set_option maxRecDepth 100000 in
theorem c_X9_endsErase (l : Launch) (G : xGl) (q : Nat → Nat) (v : xSt) (p1 : Int32) {z : xSt} (hf : m_X9_endsErase v p1 = some z) : mRW l yX9_endsErase (wM yX9_endsErase cX9_endsErase 4 none) { frames := 0, cells := 0, slots := 0, locals := 0 } G (eMod G) 8 q v [.ref (q 0), .int p1] qV z := by
  refine xRW (cc := cX9_endsErase) (maxL := 4) (ret := none) (by decide) rfl (Nat.le_of_ble_eq_true rfl) ?_
  intro p e s m below meth c ls A hC hr hlk h hl
  have hx := hC.1
  have hb := hC.2.1
  have hl : lv_has ls 4 [(0, .ref (q 0)), (1, .int p1)] := hl
  unfold m_X9_endsErase at hf
  obtain ⟨H, hH⟩ : ∃ H, H = s.heap := ⟨_, rfl⟩
  obtain ⟨locs, hlo⟩ : ∃ x : List Loc, x = [] := ⟨_, rfl⟩
  have h : hg G (eMod G) 8 q v A s H locs := by rw [hH, hlo]; exact h
  rw [← hlo, ← hH]
  clear hH hlo
  refine lv_bipush (v := (32 : Int32)) hx hb dX9_endsErase_0 (by decide) ?_
  refine lv_iload_n hx hb dX9_endsErase_2 rfl (lv_at hl 1 rfl) ?_
  refine lv_imul hx hb dX9_endsErase_3 ?_
  refine lv_istore_n (lv' := [(2, .int ((32 : Int32) * p1)), (0, .ref (q 0)), (1, .int p1)]) hx hb dX9_endsErase_4 rfl hl (by decide) rfl (fun ls hl => ?_)
  refine lp_i (z := z) (P := fun (pp : Int32 × xSt) => ∀ (H : Heap) (locs : List Loc), hg G (eMod G) 8 q pp.2 A s H locs → ∀ (ls : Array Slot), lv_has ls 4 [(0, .ref (q 0)), (1, .int p1), (2, .int pp.1)] → W p l e { frames := 0, cells := 0, slots := 0, locals := 0 } s m [.ref (q 0), .int p1].toArray below meth c H locs 0 0 (MQ below (qV (cB G (eMod G) 8 q z A) A) [.ref (q 0), .int p1].toArray s 0 0 A) (F0 m 5 ls [])) ?_ _ _ hf H locs h ls (lv_sub hl [1, 2, 0] rfl)
  intro rec3 hrec3 pp hf H locs h ls hl
  obtain ⟨a1, v2⟩ := pp
  have h : hg G (eMod G) 8 q v2 A s H locs := h
  have hl : lv_has ls 4 [(0, .ref (q 0)), (1, .int p1), (2, .int a1)] := hl
  have hf := un2_e hf
  refine lv_iload_n hx hb dX9_endsErase_5 rfl (lv_at hl 2 rfl) ?_
  refine lv_bipush (v := (32 : Int32)) hx hb dX9_endsErase_6 (by decide) ?_
  refine lv_iload_n hx hb dX9_endsErase_8 rfl (lv_at hl 1 rfl) ?_
  refine lv_imul hx hb dX9_endsErase_9 ?_
  refine lv_bipush (v := (32 : Int32)) hx hb dX9_endsErase_10 (by decide) ?_
  refine lv_iadd hx hb dX9_endsErase_12 ?_
  refine lv_icmp_ge (tgt := 58) hx hb dX9_endsErase_13 (by decide) (fun c4 => ?_) (fun c4 => ?_)
  · have hf := it_t c4 hf
    refine lv_aload_n hx hb dX9_endsErase_58 rfl (lv_at hl 0 rfl) ?_
    refine xget hC h.o (C := RX9) (T := TX9) (N := 17) (wM_us uw_X9) 0 (Nat.le_of_ble_eq_true rfl) eMod_0 rfl 0 (by decide) (wM_in fl_X9_7) rfl dX9_endsErase_59 ?_
    refine lv_sipush (v := (544 : Int32)) hx hb dX9_endsErase_62 (by decide) ?_
    refine lv_iload_n hx hb dX9_endsErase_65 rfl (lv_at hl 1 rfl) ?_
    refine lv_iadd hx hb dX9_endsErase_66 ?_
    refine lv_dup2_11 hx hb dX9_endsErase_67 rfl rfl ?_
    obtain ⟨hi5, hf⟩ := ck_e hf
    refine xiald hC h.o 1 (Nat.le_of_ble_eq_true rfl) eMod_1 hi5 dX9_endsErase_68 ?_
    refine lv_iconst (v := (1 : Int32)) hx hb dX9_endsErase_69 (by decide) ?_
    refine lv_iadd hx hb dX9_endsErase_70 ?_
    obtain ⟨hi6, hf⟩ := ck_e hf
    refine xiast hC h 1 (Nat.le_of_ble_eq_true rfl) (fun _ => eMod_1) hi6 dX9_endsErase_71 (fun H locs h => ?_)
    obtain ⟨v7, ev7, hf⟩ := lt_e hf
    rw [← ev7] at h
    refine lv_aload_n hx hb dX9_endsErase_72 rfl (lv_at hl 0 rfl) ?_
    refine xget hC h.o (C := RX9) (T := TX9) (N := 17) (wM_us uw_X9) 0 (Nat.le_of_ble_eq_true rfl) eMod_0 rfl 0 (by decide) (wM_in fl_X9_7) rfl dX9_endsErase_73 ?_
    refine lv_sipush (v := (544 : Int32)) hx hb dX9_endsErase_76 (by decide) ?_
    refine lv_iload_n hx hb dX9_endsErase_79 rfl (lv_at hl 1 rfl) ?_
    refine lv_iadd hx hb dX9_endsErase_80 ?_
    obtain ⟨hi8, hf⟩ := ck_e hf
    refine xiald hC h.o 1 (Nat.le_of_ble_eq_true rfl) eMod_1 hi8 dX9_endsErase_81 ?_
    obtain ⟨x9, ex9, hf⟩ := lt_e hf
    refine lv_nm ex9 ?_
    refine lv_istore_n (lv' := [(2, .int x9), (0, .ref (q 0)), (1, .int p1)]) hx hb dX9_endsErase_82 rfl hl (by decide) rfl (fun ls hl => ?_)
    refine lv_iload_n hx hb dX9_endsErase_83 rfl (lv_at hl 0 rfl) ?_
    refine lv_aload_n hx hb dX9_endsErase_84 rfl (lv_at hl 1 rfl) ?_
    refine xget hC h.o (C := RX9) (T := TX9) (N := 17) (wM_us uw_X9) 0 (Nat.le_of_ble_eq_true rfl) eMod_0 rfl 0 (by decide) (wM_in fl_X9_7) rfl dX9_endsErase_85 ?_
    refine lv_sipush (v := (558 : Int32)) hx hb dX9_endsErase_88 (by decide) ?_
    obtain ⟨hi10, hf⟩ := ck_e hf
    refine xiald hC h.o 1 (Nat.le_of_ble_eq_true rfl) eMod_1 hi10 dX9_endsErase_91 ?_
    refine lv_icmp_le (tgt := 146) hx hb dX9_endsErase_92 (by decide) (fun c11 => ?_) (fun c11 => ?_)
    · have hf := it_t c11 hf
      have hf := sm_e hf
      exact xvret hC hr hlk h hf dX9_endsErase_146
    · have hf := it_f c11 hf
      refine lv_bipush (v := (32 : Int32)) hx hb dX9_endsErase_95 (by decide) ?_
      refine lv_iload_n hx hb dX9_endsErase_97 rfl (lv_at hl 2 rfl) ?_
      refine lv_imul hx hb dX9_endsErase_98 ?_
      refine lv_iload_n hx hb dX9_endsErase_99 rfl (lv_at hl 0 rfl) ?_
      refine lv_bipush (v := (32 : Int32)) hx hb dX9_endsErase_100 (by decide) ?_
      refine lv_irem hx hb dX9_endsErase_102 (by decide) ?_
      refine lv_iadd hx hb dX9_endsErase_103 ?_
      obtain ⟨x12, ex12, hf⟩ := lt_e hf
      refine lv_nm ex12 ?_
      refine lv_istore_n (lv' := [(3, .int x12), (2, .int x9), (0, .ref (q 0)), (1, .int p1)]) hx hb dX9_endsErase_104 rfl hl (by decide) rfl (fun ls hl => ?_)
      refine lv_aload_n hx hb dX9_endsErase_105 rfl (lv_at hl 2 rfl) ?_
      refine xget hC h.o (C := RX9) (T := TX9) (N := 17) (wM_us uw_X9) 0 (Nat.le_of_ble_eq_true rfl) eMod_0 rfl 0 (by decide) (wM_in fl_X9_7) rfl dX9_endsErase_106 ?_
      refine lv_sipush (v := (256 : Int32)) hx hb dX9_endsErase_109 (by decide) ?_
      refine lv_iload_n hx hb dX9_endsErase_112 rfl (lv_at hl 0 rfl) ?_
      refine lv_iadd hx hb dX9_endsErase_113 ?_
      refine lv_dup2_11 hx hb dX9_endsErase_114 rfl rfl ?_
      obtain ⟨hi13, hf⟩ := ck_e hf
      refine xiald hC h.o 1 (Nat.le_of_ble_eq_true rfl) eMod_1 hi13 dX9_endsErase_115 ?_
      refine lv_iconst (v := (1 : Int32)) hx hb dX9_endsErase_116 (by decide) ?_
      refine lv_iload_n hx hb dX9_endsErase_117 rfl (lv_at hl 1 rfl) ?_
      refine lv_bipush (v := (8 : Int32)) hx hb dX9_endsErase_118 (by decide) ?_
      refine lv_irem hx hb dX9_endsErase_120 (by decide) ?_
      refine lv_ishl hx hb dX9_endsErase_121 ?_
      refine lv_ior hx hb dX9_endsErase_122 ?_
      obtain ⟨hi14, hf⟩ := ck_e hf
      refine xiast hC h 1 (Nat.le_of_ble_eq_true rfl) (fun _ => eMod_1) hi14 dX9_endsErase_123 (fun H locs h => ?_)
      obtain ⟨v15, ev15, hf⟩ := lt_e hf
      rw [← ev15] at h
      refine lv_aload_n hx hb dX9_endsErase_124 rfl (lv_at hl 2 rfl) ?_
      refine xget hC h.o (C := RX9) (T := TX9) (N := 17) (wM_us uw_X9) 0 (Nat.le_of_ble_eq_true rfl) eMod_0 rfl 0 (by decide) (wM_in fl_X9_7) rfl dX9_endsErase_125 ?_
      refine lv_iload_n hx hb dX9_endsErase_128 rfl (lv_at hl 0 rfl) ?_
      refine lv_sipush (v := (255 : Int32)) hx hb dX9_endsErase_129 (by decide) ?_
      refine lv_aload_n hx hb dX9_endsErase_132 rfl (lv_at hl 2 rfl) ?_
      refine xget hC h.o (C := RX9) (T := TX9) (N := 17) (wM_us uw_X9) 0 (Nat.le_of_ble_eq_true rfl) eMod_0 rfl 0 (by decide) (wM_in fl_X9_7) rfl dX9_endsErase_133 ?_
      refine lv_sipush (v := (256 : Int32)) hx hb dX9_endsErase_136 (by decide) ?_
      refine lv_iload_n hx hb dX9_endsErase_139 rfl (lv_at hl 0 rfl) ?_
      refine lv_iadd hx hb dX9_endsErase_140 ?_
      obtain ⟨hi16, hf⟩ := ck_e hf
      refine xiald hC h.o 1 (Nat.le_of_ble_eq_true rfl) eMod_1 hi16 dX9_endsErase_141 ?_
      refine lv_iconst (v := (-1 : Int32)) hx hb dX9_endsErase_142 (by decide) ?_
      refine lv_ixor hx hb dX9_endsErase_143 ?_
      refine lv_iand hx hb dX9_endsErase_144 ?_
      obtain ⟨hi17, hf⟩ := ck_e hf
      refine xiast hC h 1 (Nat.le_of_ble_eq_true rfl) (fun _ => eMod_1) hi17 dX9_endsErase_145 (fun H locs h => ?_)
      obtain ⟨v18, ev18, hf⟩ := lt_e hf
      rw [← ev18] at h
      have hf := sm_e hf
      exact xvret hC hr hlk h hf dX9_endsErase_146
  · have hf := it_f c4 hf
    refine lv_aload_n hx hb dX9_endsErase_16 rfl (lv_at hl 0 rfl) ?_
    refine xget hC h.o (C := RX9) (T := TX9) (N := 17) (wM_us uw_X9) 0 (Nat.le_of_ble_eq_true rfl) eMod_0 rfl 0 (by decide) (wM_in fl_X9_7) rfl dX9_endsErase_17 ?_
    refine lv_iload_n hx hb dX9_endsErase_20 rfl (lv_at hl 2 rfl) ?_
    refine lv_sipush (v := (255 : Int32)) hx hb dX9_endsErase_21 (by decide) ?_
    refine lv_aload_n hx hb dX9_endsErase_24 rfl (lv_at hl 0 rfl) ?_
    refine xget hC h.o (C := RX9) (T := TX9) (N := 17) (wM_us uw_X9) 0 (Nat.le_of_ble_eq_true rfl) eMod_0 rfl 0 (by decide) (wM_in fl_X9_7) rfl dX9_endsErase_25 ?_
    refine lv_sipush (v := (256 : Int32)) hx hb dX9_endsErase_28 (by decide) ?_
    refine lv_iload_n hx hb dX9_endsErase_31 rfl (lv_at hl 2 rfl) ?_
    refine lv_iadd hx hb dX9_endsErase_32 ?_
    obtain ⟨hi19, hf⟩ := ck_e hf
    refine xiald hC h.o 1 (Nat.le_of_ble_eq_true rfl) eMod_1 hi19 dX9_endsErase_33 ?_
    refine lv_iconst (v := (-1 : Int32)) hx hb dX9_endsErase_34 (by decide) ?_
    refine lv_ixor hx hb dX9_endsErase_35 ?_
    refine lv_iand hx hb dX9_endsErase_36 ?_
    obtain ⟨hi20, hf⟩ := ck_e hf
    refine xiast hC h 1 (Nat.le_of_ble_eq_true rfl) (fun _ => eMod_1) hi20 dX9_endsErase_37 (fun H locs h => ?_)
    obtain ⟨v21, ev21, hf⟩ := lt_e hf
    rw [← ev21] at h
    refine lv_aload_n hx hb dX9_endsErase_38 rfl (lv_at hl 0 rfl) ?_
    refine xget hC h.o (C := RX9) (T := TX9) (N := 17) (wM_us uw_X9) 0 (Nat.le_of_ble_eq_true rfl) eMod_0 rfl 0 (by decide) (wM_in fl_X9_7) rfl dX9_endsErase_39 ?_
    refine lv_sipush (v := (512 : Int32)) hx hb dX9_endsErase_42 (by decide) ?_
    refine lv_iload_n hx hb dX9_endsErase_45 rfl (lv_at hl 2 rfl) ?_
    refine lv_bipush (v := (8 : Int32)) hx hb dX9_endsErase_46 (by decide) ?_
    refine lv_idiv hx hb dX9_endsErase_48 (by decide) ?_
    refine lv_iadd hx hb dX9_endsErase_49 ?_
    refine lv_iconst (v := (0 : Int32)) hx hb dX9_endsErase_50 (by decide) ?_
    obtain ⟨hi22, hf⟩ := ck_e hf
    refine xiast hC h 1 (Nat.le_of_ble_eq_true rfl) (fun _ => eMod_1) hi22 dX9_endsErase_51 (fun H locs h => ?_)
    obtain ⟨v23, ev23, hf⟩ := lt_e hf
    rw [← ev23] at h
    refine lv_iinc (v := (a1 + 1)) (lv' := [(2, .int (a1 + 1)), (0, .ref (q 0)), (1, .int p1)]) hx hb dX9_endsErase_52 hl (k := 2) rfl rfl (by decide) rfl (fun ls hl => ?_)
    refine lv_goto (tgt := 5) hx hb dX9_endsErase_55 (by decide) ?_
    exact hrec3 ((a1 + 1), v23) hf H locs h ls (lv_sub hl [1, 2, 0] rfl)
def m_X9_erasesOn (v : xSt) : Option xSt := ob (m_X9_under v (1 : Int32)) (fun r2 => ob (m_X9_under v (2 : Int32)) (fun r4 => lt (fun (v5 : xSt) => ob (m_X9_under v5 (2 : Int32)) (fun r8 => ob (m_X9_under v5 (3 : Int32)) (fun r10 => (if r8 = r10 then ob (m_X9_endsErase v5 r2) (fun r13 => some r13) else some v5)))) (fun j6 => (if (4 : Int32) < r4 then j6 v else ob (m_X9_under v (2 : Int32)) (fun r16 => lt ((((32 : Int32) * r2) + ((8 : Int32) * (r16 - (1 : Int32))))) (fun x17 => lp (fun (rec20 : Int32 × xSt → Option xSt) => un2 (fun (a18 : Int32) (v19 : xSt) => (if (x17 + (8 : Int32)) ≤ a18 then j6 v19 else ob (m_X9_falls v19 a18 (0 : Int32)) (fun r23 => rec20 ((a18 + 1), r23))))) xF (x17, v)))))))
set_option maxHeartbeats 4000000 in
set_option maxRecDepth 100000 in
theorem c_X9_erasesOn (l : Launch) (G : xGl) (q : Nat → Nat) (v : xSt) {z : xSt} (hf : m_X9_erasesOn v = some z) : mRW l yX9_erasesOn (wM yX9_erasesOn cX9_erasesOn 4 none) { frames := 2, cells := 0, slots := 0, locals := 44 } G (eMod G) 8 q v [.ref (q 0)] qV z := by
  refine xRW (cc := cX9_erasesOn) (maxL := 4) (ret := none) (by decide) rfl (Nat.le_of_ble_eq_true rfl) ?_
  intro p e s m below meth c ls A hC hr hlk h hl
  have hx := hC.1
  have hb := hC.2.1
  have hl : lv_has ls 4 [(0, .ref (q 0))] := hl
  unfold m_X9_erasesOn at hf
  obtain ⟨H, hH⟩ : ∃ H, H = s.heap := ⟨_, rfl⟩
  obtain ⟨locs, hlo⟩ : ∃ x : List Loc, x = [] := ⟨_, rfl⟩
  have h : hg G (eMod G) 8 q v A s H locs := by rw [hH, hlo]; exact h
  rw [← hlo, ← hH]
  clear hH hlo
  refine lv_aload_n hx hb dX9_erasesOn_0 rfl (lv_at hl 0 rfl) ?_
  refine lv_iconst (v := (1 : Int32)) hx hb dX9_erasesOn_1 (by decide) ?_
  obtain ⟨r2, hy1, hf⟩ := ob_e hf
  refine xiG h (va_runV (As := [.int (1 : Int32)]) (rest := []) hC (c_X9_under l G q v (1 : Int32) hy1 H.size) (xcwV hC lk_X9_46 in_X9 co_X9_under im_X9_under se_X9_under rfl rfl dd_X9_under ⟨Nat.le_of_ble_eq_true rfl, Nat.le_of_ble_eq_true rfl⟩) (preVO0 h.o (Nat.le_of_ble_eq_true rfl) eMod_0 rfl [.int (1 : Int32)]) rfl rfl hl.1 rfl (lv_room (Nat.le_of_ble_eq_true rfl)) dX9_erasesOn_2 ⟨Nat.zero_le _, Nat.zero_le _⟩) (fun H locs h => ?_)
  refine lv_istore_n (lv' := [(1, .int r2), (0, .ref (q 0))]) hx hb dX9_erasesOn_5 rfl hl (by decide) rfl (fun ls hl => ?_)
  refine lv_aload_n hx hb dX9_erasesOn_6 rfl (lv_at hl 1 rfl) ?_
  refine lv_iconst (v := (2 : Int32)) hx hb dX9_erasesOn_7 (by decide) ?_
  obtain ⟨r4, hy3, hf⟩ := ob_e hf
  refine xiG h (va_runV (As := [.int (2 : Int32)]) (rest := []) hC (c_X9_under l G q v (2 : Int32) hy3 H.size) (xcwV hC lk_X9_46 in_X9 co_X9_under im_X9_under se_X9_under rfl rfl dd_X9_under ⟨Nat.le_of_ble_eq_true rfl, Nat.le_of_ble_eq_true rfl⟩) (preVO0 h.o (Nat.le_of_ble_eq_true rfl) eMod_0 rfl [.int (2 : Int32)]) rfl rfl hl.1 rfl (lv_room (Nat.le_of_ble_eq_true rfl)) dX9_erasesOn_8 ⟨Nat.zero_le _, Nat.zero_le _⟩) (fun H locs h => ?_)
  refine lv_iconst (v := (4 : Int32)) hx hb dX9_erasesOn_11 (by decide) ?_
  obtain ⟨j6, ej6, hf⟩ := lt_e hf
  have hj6 : ∀ (v5 : xSt) (H : Heap) (locs : List Loc), hg G (eMod G) 8 q v5 A s H locs → ∀ (ls : Array Slot), lv_has ls 4 [(0, .ref (q 0)), (1, .int r2)] → j6 v5 = some z → W p l e { frames := 2, cells := 0, slots := 0, locals := 44 } s m [.ref (q 0)].toArray below meth c H locs 0 0 (MQ below (qV (cB G (eMod G) 8 q z A) A) [.ref (q 0)].toArray s 0 0 A) (F0 m 53 ls []) := by
    intro v5 H locs h ls hl hf
    rw [ej6] at hf
    refine lv_aload_n hx hb dX9_erasesOn_53 rfl (lv_at hl 0 rfl) ?_
    refine lv_iconst (v := (2 : Int32)) hx hb dX9_erasesOn_54 (by decide) ?_
    obtain ⟨r8, hy7, hf⟩ := ob_e hf
    refine xiG h (va_runV (As := [.int (2 : Int32)]) (rest := []) hC (c_X9_under l G q v5 (2 : Int32) hy7 H.size) (xcwV hC lk_X9_46 in_X9 co_X9_under im_X9_under se_X9_under rfl rfl dd_X9_under ⟨Nat.le_of_ble_eq_true rfl, Nat.le_of_ble_eq_true rfl⟩) (preVO0 h.o (Nat.le_of_ble_eq_true rfl) eMod_0 rfl [.int (2 : Int32)]) rfl rfl hl.1 rfl (lv_room (Nat.le_of_ble_eq_true rfl)) dX9_erasesOn_55 ⟨Nat.zero_le _, Nat.zero_le _⟩) (fun H locs h => ?_)
    refine lv_aload_n hx hb dX9_erasesOn_58 rfl (lv_at hl 0 rfl) ?_
    refine lv_iconst (v := (3 : Int32)) hx hb dX9_erasesOn_59 (by decide) ?_
    obtain ⟨r10, hy9, hf⟩ := ob_e hf
    refine xiG h (va_runV (As := [.int (3 : Int32)]) (rest := [.int r8]) hC (c_X9_under l G q v5 (3 : Int32) hy9 H.size) (xcwV hC lk_X9_46 in_X9 co_X9_under im_X9_under se_X9_under rfl rfl dd_X9_under ⟨Nat.le_of_ble_eq_true rfl, Nat.le_of_ble_eq_true rfl⟩) (preVO0 h.o (Nat.le_of_ble_eq_true rfl) eMod_0 rfl [.int (3 : Int32)]) rfl rfl hl.1 rfl (lv_room (Nat.le_of_ble_eq_true rfl)) dX9_erasesOn_60 ⟨Nat.zero_le _, Nat.zero_le _⟩) (fun H locs h => ?_)
    refine lv_icmp_ne (tgt := 71) hx hb dX9_erasesOn_63 (by decide) (fun c11 => ?_) (fun c11 => ?_)
    · have hf := it_f c11 hf
      have hf := sm_e hf
      exact xvret hC hr hlk h hf dX9_erasesOn_71
    · have hf := it_t c11 hf
      refine lv_aload_n hx hb dX9_erasesOn_66 rfl (lv_at hl 0 rfl) ?_
      refine lv_iload_n hx hb dX9_erasesOn_67 rfl (lv_at hl 1 rfl) ?_
      obtain ⟨r13, hy12, hf⟩ := ob_e hf
      refine xv0 h (va_runV (As := [.int r2]) (rest := []) hC (c_X9_endsErase l G q v5 r2 hy12 H.size) (xcwV hC lk_X9_84 in_X9 co_X9_endsErase im_X9_endsErase se_X9_endsErase rfl rfl dd_X9_endsErase ⟨Nat.le_of_ble_eq_true rfl, Nat.le_of_ble_eq_true rfl⟩) (preV0 h (Nat.le_of_ble_eq_true rfl) eMod_0 rfl [.int r2]) rfl rfl hl.1 rfl (lv_room (Nat.le_of_ble_eq_true rfl)) dX9_erasesOn_68 ⟨Nat.zero_le _, Nat.zero_le _⟩) (fun H locs h => ?_)
      have hf := sm_e hf
      exact xvret hC hr hlk h hf dX9_erasesOn_71
  refine lv_icmp_gt (tgt := 53) hx hb dX9_erasesOn_12 (by decide) (fun c14 => ?_) (fun c14 => ?_)
  · have hf := it_t c14 hf
    exact hj6 v H locs h ls (lv_sub hl [1, 0] rfl) hf
  · have hf := it_f c14 hf
    refine lv_bipush (v := (32 : Int32)) hx hb dX9_erasesOn_15 (by decide) ?_
    refine lv_iload_n hx hb dX9_erasesOn_17 rfl (lv_at hl 0 rfl) ?_
    refine lv_imul hx hb dX9_erasesOn_18 ?_
    refine lv_bipush (v := (8 : Int32)) hx hb dX9_erasesOn_19 (by decide) ?_
    refine lv_aload_n hx hb dX9_erasesOn_21 rfl (lv_at hl 1 rfl) ?_
    refine lv_iconst (v := (2 : Int32)) hx hb dX9_erasesOn_22 (by decide) ?_
    obtain ⟨r16, hy15, hf⟩ := ob_e hf
    refine xiG h (va_runV (As := [.int (2 : Int32)]) (rest := [.int (8 : Int32), .int ((32 : Int32) * r2)]) hC (c_X9_under l G q v (2 : Int32) hy15 H.size) (xcwV hC lk_X9_46 in_X9 co_X9_under im_X9_under se_X9_under rfl rfl dd_X9_under ⟨Nat.le_of_ble_eq_true rfl, Nat.le_of_ble_eq_true rfl⟩) (preVO0 h.o (Nat.le_of_ble_eq_true rfl) eMod_0 rfl [.int (2 : Int32)]) rfl rfl hl.1 rfl (lv_room (Nat.le_of_ble_eq_true rfl)) dX9_erasesOn_23 ⟨Nat.zero_le _, Nat.zero_le _⟩) (fun H locs h => ?_)
    refine lv_iconst (v := (1 : Int32)) hx hb dX9_erasesOn_26 (by decide) ?_
    refine lv_isub hx hb dX9_erasesOn_27 ?_
    refine lv_imul hx hb dX9_erasesOn_28 ?_
    refine lv_iadd hx hb dX9_erasesOn_29 ?_
    obtain ⟨x17, ex17, hf⟩ := lt_e hf
    refine lv_nm ex17 ?_
    refine lv_istore_n (lv' := [(2, .int x17), (1, .int r2), (0, .ref (q 0))]) hx hb dX9_erasesOn_30 rfl hl (by decide) rfl (fun ls hl => ?_)
    refine lv_iload_n hx hb dX9_erasesOn_31 rfl (lv_at hl 0 rfl) ?_
    refine lv_istore_n (lv' := [(3, .int x17), (2, .int x17), (1, .int r2), (0, .ref (q 0))]) hx hb dX9_erasesOn_32 rfl hl (by decide) rfl (fun ls hl => ?_)
    refine lp_i (z := z) (P := fun (pp : Int32 × xSt) => ∀ (H : Heap) (locs : List Loc), hg G (eMod G) 8 q pp.2 A s H locs → ∀ (ls : Array Slot), lv_has ls 4 [(0, .ref (q 0)), (1, .int r2), (2, .int x17), (3, .int pp.1)] → W p l e { frames := 2, cells := 0, slots := 0, locals := 44 } s m [.ref (q 0)].toArray below meth c H locs 0 0 (MQ below (qV (cB G (eMod G) 8 q z A) A) [.ref (q 0)].toArray s 0 0 A) (F0 m 33 ls [])) ?_ _ _ hf H locs h ls (lv_sub hl [3, 2, 1, 0] rfl)
    intro rec20 hrec20 pp hf H locs h ls hl
    obtain ⟨a18, v19⟩ := pp
    have h : hg G (eMod G) 8 q v19 A s H locs := h
    have hl : lv_has ls 4 [(0, .ref (q 0)), (1, .int r2), (2, .int x17), (3, .int a18)] := hl
    have hf := un2_e hf
    refine lv_iload_n hx hb dX9_erasesOn_33 rfl (lv_at hl 3 rfl) ?_
    refine lv_iload_n hx hb dX9_erasesOn_34 rfl (lv_at hl 2 rfl) ?_
    refine lv_bipush (v := (8 : Int32)) hx hb dX9_erasesOn_35 (by decide) ?_
    refine lv_iadd hx hb dX9_erasesOn_37 ?_
    refine lv_icmp_ge (tgt := 53) hx hb dX9_erasesOn_38 (by decide) (fun c21 => ?_) (fun c21 => ?_)
    · have hf := it_t c21 hf
      exact hj6 v19 H locs h ls (lv_sub hl [0, 1] rfl) hf
    · have hf := it_f c21 hf
      refine lv_aload_n hx hb dX9_erasesOn_41 rfl (lv_at hl 0 rfl) ?_
      refine lv_iload_n hx hb dX9_erasesOn_42 rfl (lv_at hl 3 rfl) ?_
      refine lv_iconst (v := (0 : Int32)) hx hb dX9_erasesOn_43 (by decide) ?_
      obtain ⟨r23, hy22, hf⟩ := ob_e hf
      refine xv0 h (va_runV (As := [.int a18, .int (0 : Int32)]) (rest := []) hC (c_X9_falls l G q v19 a18 (0 : Int32) hy22 H.size) (xcwV hC lk_X9_81 in_X9 co_X9_falls im_X9_falls se_X9_falls rfl rfl dd_X9_falls ⟨Nat.le_of_ble_eq_true rfl, Nat.le_of_ble_eq_true rfl⟩) (preV0 h (Nat.le_of_ble_eq_true rfl) eMod_0 rfl [.int a18, .int (0 : Int32)]) rfl rfl hl.1 rfl (lv_room (Nat.le_of_ble_eq_true rfl)) dX9_erasesOn_44 ⟨Nat.zero_le _, Nat.zero_le _⟩) (fun H locs h => ?_)
      refine lv_iinc (v := (a18 + 1)) (lv' := [(3, .int (a18 + 1)), (0, .ref (q 0)), (1, .int r2), (2, .int x17)]) hx hb dX9_erasesOn_47 hl (k := 3) rfl rfl (by decide) rfl (fun ls hl => ?_)
      refine lv_goto (tgt := 33) hx hb dX9_erasesOn_50 (by decide) ?_
      exact hrec20 ((a18 + 1), r23) hf H locs h ls (lv_sub hl [1, 2, 3, 0] rfl)
def m_X9_locksOn (v : xSt) : Option xSt := ob (m_X9_under v (2 : Int32)) (fun r2 => ob (m_X9_under v (3 : Int32)) (fun r4 => (if r2 = r4 then ob (m_X9_under v (1 : Int32)) (fun r7 => ck (¬ ((554 : Int32) < 0 ∨ 797 ≤ (554 : Int32).toNatClampNeg)) (lt (st2 v 1 (554 : Int32).toNatClampNeg r7) (fun v9 => ob (m_X9_under v9 (7 : Int32)) (fun r11 => ck (¬ ((555 : Int32) < 0 ∨ 797 ≤ (555 : Int32).toNatClampNeg)) (lt (st2 v9 1 (555 : Int32).toNatClampNeg r11) (fun v13 => some v13)))))) else some v)))
set_option maxHeartbeats 4000000 in
set_option maxRecDepth 100000 in
theorem c_X9_locksOn (l : Launch) (G : xGl) (q : Nat → Nat) (v : xSt) {z : xSt} (hf : m_X9_locksOn v = some z) : mRW l yX9_locksOn (wM yX9_locksOn cX9_locksOn 1 none) { frames := 1, cells := 0, slots := 0, locals := 21 } G (eMod G) 8 q v [.ref (q 0)] qV z := by
  refine xRW (cc := cX9_locksOn) (maxL := 1) (ret := none) (by decide) rfl (Nat.le_of_ble_eq_true rfl) ?_
  intro p e s m below meth c ls A hC hr hlk h hl
  have hx := hC.1
  have hb := hC.2.1
  have hl : lv_has ls 1 [(0, .ref (q 0))] := hl
  unfold m_X9_locksOn at hf
  obtain ⟨H, hH⟩ : ∃ H, H = s.heap := ⟨_, rfl⟩
  obtain ⟨locs, hlo⟩ : ∃ x : List Loc, x = [] := ⟨_, rfl⟩
  have h : hg G (eMod G) 8 q v A s H locs := by rw [hH, hlo]; exact h
  rw [← hlo, ← hH]
  clear hH hlo
  refine lv_aload_n hx hb dX9_locksOn_0 rfl (lv_at hl 0 rfl) ?_
  refine lv_iconst (v := (2 : Int32)) hx hb dX9_locksOn_1 (by decide) ?_
  obtain ⟨r2, hy1, hf⟩ := ob_e hf
  refine xiG h (va_runV (As := [.int (2 : Int32)]) (rest := []) hC (c_X9_under l G q v (2 : Int32) hy1 H.size) (xcwV hC lk_X9_46 in_X9 co_X9_under im_X9_under se_X9_under rfl rfl dd_X9_under ⟨Nat.le_of_ble_eq_true rfl, Nat.le_of_ble_eq_true rfl⟩) (preVO0 h.o (Nat.le_of_ble_eq_true rfl) eMod_0 rfl [.int (2 : Int32)]) rfl rfl hl.1 rfl (lv_room (Nat.le_of_ble_eq_true rfl)) dX9_locksOn_2 ⟨Nat.zero_le _, Nat.zero_le _⟩) (fun H locs h => ?_)
  refine lv_aload_n hx hb dX9_locksOn_5 rfl (lv_at hl 0 rfl) ?_
  refine lv_iconst (v := (3 : Int32)) hx hb dX9_locksOn_6 (by decide) ?_
  obtain ⟨r4, hy3, hf⟩ := ob_e hf
  refine xiG h (va_runV (As := [.int (3 : Int32)]) (rest := [.int r2]) hC (c_X9_under l G q v (3 : Int32) hy3 H.size) (xcwV hC lk_X9_46 in_X9 co_X9_under im_X9_under se_X9_under rfl rfl dd_X9_under ⟨Nat.le_of_ble_eq_true rfl, Nat.le_of_ble_eq_true rfl⟩) (preVO0 h.o (Nat.le_of_ble_eq_true rfl) eMod_0 rfl [.int (3 : Int32)]) rfl rfl hl.1 rfl (lv_room (Nat.le_of_ble_eq_true rfl)) dX9_locksOn_7 ⟨Nat.zero_le _, Nat.zero_le _⟩) (fun H locs h => ?_)
  refine lv_icmp_ne (tgt := 40) hx hb dX9_locksOn_10 (by decide) (fun c5 => ?_) (fun c5 => ?_)
  · have hf := it_f c5 hf
    have hf := sm_e hf
    exact xvret hC hr hlk h hf dX9_locksOn_40
  · have hf := it_t c5 hf
    refine lv_aload_n hx hb dX9_locksOn_13 rfl (lv_at hl 0 rfl) ?_
    refine xget hC h.o (C := RX9) (T := TX9) (N := 17) (wM_us uw_X9) 0 (Nat.le_of_ble_eq_true rfl) eMod_0 rfl 0 (by decide) (wM_in fl_X9_7) rfl dX9_locksOn_14 ?_
    refine lv_sipush (v := (554 : Int32)) hx hb dX9_locksOn_17 (by decide) ?_
    refine lv_aload_n hx hb dX9_locksOn_20 rfl (lv_at hl 0 rfl) ?_
    refine lv_iconst (v := (1 : Int32)) hx hb dX9_locksOn_21 (by decide) ?_
    obtain ⟨r7, hy6, hf⟩ := ob_e hf
    refine xiG h (va_runV (As := [.int (1 : Int32)]) (rest := [.int (554 : Int32), .ref (q 1)]) hC (c_X9_under l G q v (1 : Int32) hy6 H.size) (xcwV hC lk_X9_46 in_X9 co_X9_under im_X9_under se_X9_under rfl rfl dd_X9_under ⟨Nat.le_of_ble_eq_true rfl, Nat.le_of_ble_eq_true rfl⟩) (preVO0 h.o (Nat.le_of_ble_eq_true rfl) eMod_0 rfl [.int (1 : Int32)]) rfl rfl hl.1 rfl (lv_room (Nat.le_of_ble_eq_true rfl)) dX9_locksOn_22 ⟨Nat.zero_le _, Nat.zero_le _⟩) (fun H locs h => ?_)
    obtain ⟨hi8, hf⟩ := ck_e hf
    refine xiast hC h 1 (Nat.le_of_ble_eq_true rfl) (fun _ => eMod_1) hi8 dX9_locksOn_25 (fun H locs h => ?_)
    obtain ⟨v9, ev9, hf⟩ := lt_e hf
    rw [← ev9] at h
    refine lv_aload_n hx hb dX9_locksOn_26 rfl (lv_at hl 0 rfl) ?_
    refine xget hC h.o (C := RX9) (T := TX9) (N := 17) (wM_us uw_X9) 0 (Nat.le_of_ble_eq_true rfl) eMod_0 rfl 0 (by decide) (wM_in fl_X9_7) rfl dX9_locksOn_27 ?_
    refine lv_sipush (v := (555 : Int32)) hx hb dX9_locksOn_30 (by decide) ?_
    refine lv_aload_n hx hb dX9_locksOn_33 rfl (lv_at hl 0 rfl) ?_
    refine lv_bipush (v := (7 : Int32)) hx hb dX9_locksOn_34 (by decide) ?_
    obtain ⟨r11, hy10, hf⟩ := ob_e hf
    refine xiG h (va_runV (As := [.int (7 : Int32)]) (rest := [.int (555 : Int32), .ref (q 1)]) hC (c_X9_under l G q v9 (7 : Int32) hy10 H.size) (xcwV hC lk_X9_46 in_X9 co_X9_under im_X9_under se_X9_under rfl rfl dd_X9_under ⟨Nat.le_of_ble_eq_true rfl, Nat.le_of_ble_eq_true rfl⟩) (preVO0 h.o (Nat.le_of_ble_eq_true rfl) eMod_0 rfl [.int (7 : Int32)]) rfl rfl hl.1 rfl (lv_room (Nat.le_of_ble_eq_true rfl)) dX9_locksOn_36 ⟨Nat.zero_le _, Nat.zero_le _⟩) (fun H locs h => ?_)
    obtain ⟨hi12, hf⟩ := ck_e hf
    refine xiast hC h 1 (Nat.le_of_ble_eq_true rfl) (fun _ => eMod_1) hi12 dX9_locksOn_39 (fun H locs h => ?_)
    obtain ⟨v13, ev13, hf⟩ := lt_e hf
    rw [← ev13] at h
    have hf := sm_e hf
    exact xvret hC hr hlk h hf dX9_locksOn_40
def m_X9_goesOn (v : xSt) : Option xSt := ck (¬ ((583 : Int32) < 0 ∨ 797 ≤ (583 : Int32).toNatClampNeg)) (ck (¬ ((583 : Int32) < 0 ∨ 797 ≤ (583 : Int32).toNatClampNeg)) (lt (st2 v 1 (583 : Int32).toNatClampNeg ((v 1 (583 : Int32).toNatClampNeg) + (1 : Int32))) (fun v3 => ob (m_X9_under v3 (0 : Int32)) (fun r5 => lt (fun (v6 : xSt) => ob (m_X9_under v6 (2 : Int32)) (fun r9 => ob (m_X9_under v6 (3 : Int32)) (fun r11 => (if r9 = r11 then ob (m_X9_clears v6 (0 : Int32)) (fun r14 => some r14) else some v6)))) (fun j7 => (if r5 = 1 then ob (m_X9_writesOn v3) (fun r17 => j7 r17) else (if r5 = 2 then ob (m_X9_erasesOn v3) (fun r20 => j7 r20) else ob (m_X9_locksOn v3) (fun r22 => j7 r22))))))))
set_option maxHeartbeats 4000000 in
set_option maxRecDepth 100000 in
theorem c_X9_goesOn (l : Launch) (G : xGl) (q : Nat → Nat) (v : xSt) {z : xSt} (hf : m_X9_goesOn v = some z) : mRW l yX9_goesOn (wM yX9_goesOn cX9_goesOn 1 none) { frames := 3, cells := 0, slots := 0, locals := 67 } G (eMod G) 8 q v [.ref (q 0)] qV z := by
  refine xRW (cc := cX9_goesOn) (maxL := 1) (ret := none) (by decide) rfl (Nat.le_of_ble_eq_true rfl) ?_
  intro p e s m below meth c ls A hC hr hlk h hl
  have hx := hC.1
  have hb := hC.2.1
  have hl : lv_has ls 1 [(0, .ref (q 0))] := hl
  unfold m_X9_goesOn at hf
  obtain ⟨H, hH⟩ : ∃ H, H = s.heap := ⟨_, rfl⟩
  obtain ⟨locs, hlo⟩ : ∃ x : List Loc, x = [] := ⟨_, rfl⟩
  have h : hg G (eMod G) 8 q v A s H locs := by rw [hH, hlo]; exact h
  rw [← hlo, ← hH]
  clear hH hlo
  refine lv_aload_n hx hb dX9_goesOn_0 rfl (lv_at hl 0 rfl) ?_
  refine xget hC h.o (C := RX9) (T := TX9) (N := 17) (wM_us uw_X9) 0 (Nat.le_of_ble_eq_true rfl) eMod_0 rfl 0 (by decide) (wM_in fl_X9_7) rfl dX9_goesOn_1 ?_
  refine lv_sipush (v := (583 : Int32)) hx hb dX9_goesOn_4 (by decide) ?_
  refine lv_dup2_11 hx hb dX9_goesOn_7 rfl rfl ?_
  obtain ⟨hi1, hf⟩ := ck_e hf
  refine xiald hC h.o 1 (Nat.le_of_ble_eq_true rfl) eMod_1 hi1 dX9_goesOn_8 ?_
  refine lv_iconst (v := (1 : Int32)) hx hb dX9_goesOn_9 (by decide) ?_
  refine lv_iadd hx hb dX9_goesOn_10 ?_
  obtain ⟨hi2, hf⟩ := ck_e hf
  refine xiast hC h 1 (Nat.le_of_ble_eq_true rfl) (fun _ => eMod_1) hi2 dX9_goesOn_11 (fun H locs h => ?_)
  obtain ⟨v3, ev3, hf⟩ := lt_e hf
  rw [← ev3] at h
  refine lv_aload_n hx hb dX9_goesOn_12 rfl (lv_at hl 0 rfl) ?_
  refine lv_iconst (v := (0 : Int32)) hx hb dX9_goesOn_13 (by decide) ?_
  obtain ⟨r5, hy4, hf⟩ := ob_e hf
  refine xiG h (va_runV (As := [.int (0 : Int32)]) (rest := []) hC (c_X9_under l G q v3 (0 : Int32) hy4 H.size) (xcwV hC lk_X9_46 in_X9 co_X9_under im_X9_under se_X9_under rfl rfl dd_X9_under ⟨Nat.le_of_ble_eq_true rfl, Nat.le_of_ble_eq_true rfl⟩) (preVO0 h.o (Nat.le_of_ble_eq_true rfl) eMod_0 rfl [.int (0 : Int32)]) rfl rfl hl.1 rfl (lv_room (Nat.le_of_ble_eq_true rfl)) dX9_goesOn_14 ⟨Nat.zero_le _, Nat.zero_le _⟩) (fun H locs h => ?_)
  obtain ⟨j7, ej7, hf⟩ := lt_e hf
  have hj7 : ∀ (v6 : xSt) (H : Heap) (locs : List Loc), hg G (eMod G) 8 q v6 A s H locs → ∀ (ls : Array Slot), lv_has ls 1 [(0, .ref (q 0))] → j7 v6 = some z → W p l e { frames := 3, cells := 0, slots := 0, locals := 67 } s m [.ref (q 0)].toArray below meth c H locs 0 0 (MQ below (qV (cB G (eMod G) 8 q z A) A) [.ref (q 0)].toArray s 0 0 A) (F0 m 62 ls []) := by
    intro v6 H locs h ls hl hf
    rw [ej7] at hf
    refine lv_aload_n hx hb dX9_goesOn_62 rfl (lv_at hl 0 rfl) ?_
    refine lv_iconst (v := (2 : Int32)) hx hb dX9_goesOn_63 (by decide) ?_
    obtain ⟨r9, hy8, hf⟩ := ob_e hf
    refine xiG h (va_runV (As := [.int (2 : Int32)]) (rest := []) hC (c_X9_under l G q v6 (2 : Int32) hy8 H.size) (xcwV hC lk_X9_46 in_X9 co_X9_under im_X9_under se_X9_under rfl rfl dd_X9_under ⟨Nat.le_of_ble_eq_true rfl, Nat.le_of_ble_eq_true rfl⟩) (preVO0 h.o (Nat.le_of_ble_eq_true rfl) eMod_0 rfl [.int (2 : Int32)]) rfl rfl hl.1 rfl (lv_room (Nat.le_of_ble_eq_true rfl)) dX9_goesOn_64 ⟨Nat.zero_le _, Nat.zero_le _⟩) (fun H locs h => ?_)
    refine lv_aload_n hx hb dX9_goesOn_67 rfl (lv_at hl 0 rfl) ?_
    refine lv_iconst (v := (3 : Int32)) hx hb dX9_goesOn_68 (by decide) ?_
    obtain ⟨r11, hy10, hf⟩ := ob_e hf
    refine xiG h (va_runV (As := [.int (3 : Int32)]) (rest := [.int r9]) hC (c_X9_under l G q v6 (3 : Int32) hy10 H.size) (xcwV hC lk_X9_46 in_X9 co_X9_under im_X9_under se_X9_under rfl rfl dd_X9_under ⟨Nat.le_of_ble_eq_true rfl, Nat.le_of_ble_eq_true rfl⟩) (preVO0 h.o (Nat.le_of_ble_eq_true rfl) eMod_0 rfl [.int (3 : Int32)]) rfl rfl hl.1 rfl (lv_room (Nat.le_of_ble_eq_true rfl)) dX9_goesOn_69 ⟨Nat.zero_le _, Nat.zero_le _⟩) (fun H locs h => ?_)
    refine lv_icmp_ne (tgt := 80) hx hb dX9_goesOn_72 (by decide) (fun c12 => ?_) (fun c12 => ?_)
    · have hf := it_f c12 hf
      have hf := sm_e hf
      exact xvret hC hr hlk h hf dX9_goesOn_80
    · have hf := it_t c12 hf
      refine lv_aload_n hx hb dX9_goesOn_75 rfl (lv_at hl 0 rfl) ?_
      refine lv_iconst (v := (0 : Int32)) hx hb dX9_goesOn_76 (by decide) ?_
      obtain ⟨r14, hy13, hf⟩ := ob_e hf
      refine xv0 h (va_runV (As := [.int (0 : Int32)]) (rest := []) hC (c_X9_clears l G q v6 (0 : Int32) hy13 H.size) (xcwV hC lk_X9_57 in_X9 co_X9_clears im_X9_clears se_X9_clears rfl rfl dd_X9_clears ⟨Nat.le_of_ble_eq_true rfl, Nat.le_of_ble_eq_true rfl⟩) (preV0 h (Nat.le_of_ble_eq_true rfl) eMod_0 rfl [.int (0 : Int32)]) rfl rfl hl.1 rfl (lv_room (Nat.le_of_ble_eq_true rfl)) dX9_goesOn_77 ⟨Nat.zero_le _, Nat.zero_le _⟩) (fun H locs h => ?_)
      have hf := sm_e hf
      exact xvret hC hr hlk h hf dX9_goesOn_80
  by_cases c15 : r5 = 1
  · have hf := it_t c15 hf
    refine lv_lookup (off := 27) (tgt := 44) hx hb dX9_goesOn_17 (by decide) (by rw [c15]; decide) (by decide) ?_
    refine lv_aload_n hx hb dX9_goesOn_44 rfl (lv_at hl 0 rfl) ?_
    obtain ⟨r17, hy16, hf⟩ := ob_e hf
    refine xv0 h (va_runV (As := []) (rest := []) hC (c_X9_writesOn l G q v3 hy16 H.size) (xcwV hC lk_X9_87 in_X9 co_X9_writesOn im_X9_writesOn se_X9_writesOn rfl rfl dd_X9_writesOn ⟨Nat.le_of_ble_eq_true rfl, Nat.le_of_ble_eq_true rfl⟩) (preV0 h (Nat.le_of_ble_eq_true rfl) eMod_0 rfl []) rfl rfl hl.1 rfl (lv_room (Nat.le_of_ble_eq_true rfl)) dX9_goesOn_45 ⟨Nat.zero_le _, Nat.zero_le _⟩) (fun H locs h => ?_)
    refine lv_goto (tgt := 62) hx hb dX9_goesOn_48 (by decide) ?_
    exact hj7 r17 H locs h ls (lv_sub hl [0] rfl) hf
  have hf := it_f c15 hf
  by_cases c18 : r5 = 2
  · have hf := it_t c18 hf
    refine lv_lookup (off := 34) (tgt := 51) hx hb dX9_goesOn_17 (by decide) (by rw [c18]; decide) (by decide) ?_
    refine lv_aload_n hx hb dX9_goesOn_51 rfl (lv_at hl 0 rfl) ?_
    obtain ⟨r20, hy19, hf⟩ := ob_e hf
    refine xv0 h (va_runV (As := []) (rest := []) hC (c_X9_erasesOn l G q v3 hy19 H.size) (xcwV hC lk_X9_90 in_X9 co_X9_erasesOn im_X9_erasesOn se_X9_erasesOn rfl rfl dd_X9_erasesOn ⟨Nat.le_of_ble_eq_true rfl, Nat.le_of_ble_eq_true rfl⟩) (preV0 h (Nat.le_of_ble_eq_true rfl) eMod_0 rfl []) rfl rfl hl.1 rfl (lv_room (Nat.le_of_ble_eq_true rfl)) dX9_goesOn_52 ⟨Nat.zero_le _, Nat.zero_le _⟩) (fun H locs h => ?_)
    refine lv_goto (tgt := 62) hx hb dX9_goesOn_55 (by decide) ?_
    exact hj7 r20 H locs h ls (lv_sub hl [0] rfl) hf
  have hf := it_f c18 hf
  refine lv_lookup (off := 41) (tgt := 58) hx hb dX9_goesOn_17 (by decide) (by have nc15 := (xne (k := 1) (by decide) c15).symm; have nc18 := (xne (k := 2) (by decide) c18).symm; simp [Op.lookupswitch.offset, nc15, nc18]) (by decide) ?_
  refine lv_aload_n hx hb dX9_goesOn_58 rfl (lv_at hl 0 rfl) ?_
  obtain ⟨r22, hy21, hf⟩ := ob_e hf
  refine xv0 h (va_runV (As := []) (rest := []) hC (c_X9_locksOn l G q v3 hy21 H.size) (xcwV hC lk_X9_93 in_X9 co_X9_locksOn im_X9_locksOn se_X9_locksOn rfl rfl dd_X9_locksOn ⟨Nat.le_of_ble_eq_true rfl, Nat.le_of_ble_eq_true rfl⟩) (preV0 h (Nat.le_of_ble_eq_true rfl) eMod_0 rfl []) rfl rfl hl.1 rfl (lv_room (Nat.le_of_ble_eq_true rfl)) dX9_goesOn_59 ⟨Nat.zero_le _, Nat.zero_le _⟩) (fun H locs h => ?_)
  exact hj7 r22 H locs h ls (lv_sub hl [0] rfl) hf
def m_X9_setsAside (v : xSt) (p1 : Int32) : Option xSt := lp (fun (rec3 : Int32 × xSt → Option xSt) => un2 (fun (a1 : Int32) (v2 : xSt) => (if (18 : Int32) ≤ a1 then ck (¬ ((605 : Int32) < 0 ∨ 797 ≤ (605 : Int32).toNatClampNeg)) (lt (st2 v2 1 (605 : Int32).toNatClampNeg p1) (fun v6 => ob (m_X9_clears v6 (0 : Int32)) (fun r8 => ck (¬ ((565 : Int32) < 0 ∨ 797 ≤ (565 : Int32).toNatClampNeg)) (ck (¬ ((565 : Int32) < 0 ∨ 797 ≤ (565 : Int32).toNatClampNeg)) (lt (st2 r8 1 (565 : Int32).toNatClampNeg ((r8 1 (565 : Int32).toNatClampNeg) + (1 : Int32))) (fun v11 => some v11)))))) else ck (¬ (((581 : Int32) + a1) < 0 ∨ 797 ≤ ((581 : Int32) + a1).toNatClampNeg)) (ck (¬ (((599 : Int32) + a1) < 0 ∨ 797 ≤ ((599 : Int32) + a1).toNatClampNeg)) (lt (st2 v2 1 ((599 : Int32) + a1).toNatClampNeg (v2 1 ((581 : Int32) + a1).toNatClampNeg)) (fun v14 => rec3 ((a1 + 1), v14))))))) xF ((0 : Int32), v)
set_option maxHeartbeats 4000000 in
set_option maxRecDepth 100000 in
theorem c_X9_setsAside (l : Launch) (G : xGl) (q : Nat → Nat) (v : xSt) (p1 : Int32) {z : xSt} (hf : m_X9_setsAside v p1 = some z) : mRW l yX9_setsAside (wM yX9_setsAside cX9_setsAside 3 none) { frames := 1, cells := 0, slots := 0, locals := 22 } G (eMod G) 8 q v [.ref (q 0), .int p1] qV z := by
  refine xRW (cc := cX9_setsAside) (maxL := 3) (ret := none) (by decide) rfl (Nat.le_of_ble_eq_true rfl) ?_
  intro p e s m below meth c ls A hC hr hlk h hl
  have hx := hC.1
  have hb := hC.2.1
  have hl : lv_has ls 3 [(0, .ref (q 0)), (1, .int p1)] := hl
  unfold m_X9_setsAside at hf
  obtain ⟨H, hH⟩ : ∃ H, H = s.heap := ⟨_, rfl⟩
  obtain ⟨locs, hlo⟩ : ∃ x : List Loc, x = [] := ⟨_, rfl⟩
  have h : hg G (eMod G) 8 q v A s H locs := by rw [hH, hlo]; exact h
  rw [← hlo, ← hH]
  clear hH hlo
  refine lv_iconst (v := (0 : Int32)) hx hb dX9_setsAside_0 (by decide) ?_
  refine lv_istore_n (lv' := [(2, .int (0 : Int32)), (0, .ref (q 0)), (1, .int p1)]) hx hb dX9_setsAside_1 rfl hl (by decide) rfl (fun ls hl => ?_)
  refine lp_i (z := z) (P := fun (pp : Int32 × xSt) => ∀ (H : Heap) (locs : List Loc), hg G (eMod G) 8 q pp.2 A s H locs → ∀ (ls : Array Slot), lv_has ls 3 [(0, .ref (q 0)), (1, .int p1), (2, .int pp.1)] → W p l e { frames := 1, cells := 0, slots := 0, locals := 22 } s m [.ref (q 0), .int p1].toArray below meth c H locs 0 0 (MQ below (qV (cB G (eMod G) 8 q z A) A) [.ref (q 0), .int p1].toArray s 0 0 A) (F0 m 2 ls [])) ?_ _ _ hf H locs h ls (lv_sub hl [1, 2, 0] rfl)
  intro rec3 hrec3 pp hf H locs h ls hl
  obtain ⟨a1, v2⟩ := pp
  have h : hg G (eMod G) 8 q v2 A s H locs := h
  have hl : lv_has ls 3 [(0, .ref (q 0)), (1, .int p1), (2, .int a1)] := hl
  have hf := un2_e hf
  refine lv_iload_n hx hb dX9_setsAside_2 rfl (lv_at hl 2 rfl) ?_
  refine lv_bipush (v := (18 : Int32)) hx hb dX9_setsAside_3 (by decide) ?_
  refine lv_icmp_ge (tgt := 34) hx hb dX9_setsAside_5 (by decide) (fun c4 => ?_) (fun c4 => ?_)
  · have hf := it_t c4 hf
    refine lv_aload_n hx hb dX9_setsAside_34 rfl (lv_at hl 0 rfl) ?_
    refine xget hC h.o (C := RX9) (T := TX9) (N := 17) (wM_us uw_X9) 0 (Nat.le_of_ble_eq_true rfl) eMod_0 rfl 0 (by decide) (wM_in fl_X9_7) rfl dX9_setsAside_35 ?_
    refine lv_sipush (v := (605 : Int32)) hx hb dX9_setsAside_38 (by decide) ?_
    refine lv_iload_n hx hb dX9_setsAside_41 rfl (lv_at hl 1 rfl) ?_
    obtain ⟨hi5, hf⟩ := ck_e hf
    refine xiast hC h 1 (Nat.le_of_ble_eq_true rfl) (fun _ => eMod_1) hi5 dX9_setsAside_42 (fun H locs h => ?_)
    obtain ⟨v6, ev6, hf⟩ := lt_e hf
    rw [← ev6] at h
    refine lv_aload_n hx hb dX9_setsAside_43 rfl (lv_at hl 0 rfl) ?_
    refine lv_iconst (v := (0 : Int32)) hx hb dX9_setsAside_44 (by decide) ?_
    obtain ⟨r8, hy7, hf⟩ := ob_e hf
    refine xv0 h (va_runV (As := [.int (0 : Int32)]) (rest := []) hC (c_X9_clears l G q v6 (0 : Int32) hy7 H.size) (xcwV hC lk_X9_57 in_X9 co_X9_clears im_X9_clears se_X9_clears rfl rfl dd_X9_clears ⟨Nat.le_of_ble_eq_true rfl, Nat.le_of_ble_eq_true rfl⟩) (preV0 h (Nat.le_of_ble_eq_true rfl) eMod_0 rfl [.int (0 : Int32)]) rfl rfl hl.1 rfl (lv_room (Nat.le_of_ble_eq_true rfl)) dX9_setsAside_45 ⟨Nat.zero_le _, Nat.zero_le _⟩) (fun H locs h => ?_)
    refine lv_aload_n hx hb dX9_setsAside_48 rfl (lv_at hl 0 rfl) ?_
    refine xget hC h.o (C := RX9) (T := TX9) (N := 17) (wM_us uw_X9) 0 (Nat.le_of_ble_eq_true rfl) eMod_0 rfl 0 (by decide) (wM_in fl_X9_7) rfl dX9_setsAside_49 ?_
    refine lv_sipush (v := (565 : Int32)) hx hb dX9_setsAside_52 (by decide) ?_
    refine lv_dup2_11 hx hb dX9_setsAside_55 rfl rfl ?_
    obtain ⟨hi9, hf⟩ := ck_e hf
    refine xiald hC h.o 1 (Nat.le_of_ble_eq_true rfl) eMod_1 hi9 dX9_setsAside_56 ?_
    refine lv_iconst (v := (1 : Int32)) hx hb dX9_setsAside_57 (by decide) ?_
    refine lv_iadd hx hb dX9_setsAside_58 ?_
    obtain ⟨hi10, hf⟩ := ck_e hf
    refine xiast hC h 1 (Nat.le_of_ble_eq_true rfl) (fun _ => eMod_1) hi10 dX9_setsAside_59 (fun H locs h => ?_)
    obtain ⟨v11, ev11, hf⟩ := lt_e hf
    rw [← ev11] at h
    have hf := sm_e hf
    exact xvret hC hr hlk h hf dX9_setsAside_60
  · have hf := it_f c4 hf
    refine lv_aload_n hx hb dX9_setsAside_8 rfl (lv_at hl 0 rfl) ?_
    refine xget hC h.o (C := RX9) (T := TX9) (N := 17) (wM_us uw_X9) 0 (Nat.le_of_ble_eq_true rfl) eMod_0 rfl 0 (by decide) (wM_in fl_X9_7) rfl dX9_setsAside_9 ?_
    refine lv_sipush (v := (599 : Int32)) hx hb dX9_setsAside_12 (by decide) ?_
    refine lv_iload_n hx hb dX9_setsAside_15 rfl (lv_at hl 2 rfl) ?_
    refine lv_iadd hx hb dX9_setsAside_16 ?_
    refine lv_aload_n hx hb dX9_setsAside_17 rfl (lv_at hl 0 rfl) ?_
    refine xget hC h.o (C := RX9) (T := TX9) (N := 17) (wM_us uw_X9) 0 (Nat.le_of_ble_eq_true rfl) eMod_0 rfl 0 (by decide) (wM_in fl_X9_7) rfl dX9_setsAside_18 ?_
    refine lv_sipush (v := (581 : Int32)) hx hb dX9_setsAside_21 (by decide) ?_
    refine lv_iload_n hx hb dX9_setsAside_24 rfl (lv_at hl 2 rfl) ?_
    refine lv_iadd hx hb dX9_setsAside_25 ?_
    obtain ⟨hi12, hf⟩ := ck_e hf
    refine xiald hC h.o 1 (Nat.le_of_ble_eq_true rfl) eMod_1 hi12 dX9_setsAside_26 ?_
    obtain ⟨hi13, hf⟩ := ck_e hf
    refine xiast hC h 1 (Nat.le_of_ble_eq_true rfl) (fun _ => eMod_1) hi13 dX9_setsAside_27 (fun H locs h => ?_)
    obtain ⟨v14, ev14, hf⟩ := lt_e hf
    rw [← ev14] at h
    refine lv_iinc (v := (a1 + 1)) (lv' := [(2, .int (a1 + 1)), (0, .ref (q 0)), (1, .int p1)]) hx hb dX9_setsAside_28 hl (k := 2) rfl rfl (by decide) rfl (fun ls hl => ?_)
    refine lv_goto (tgt := 2) hx hb dX9_setsAside_31 (by decide) ?_
    exact hrec3 ((a1 + 1), v14) hf H locs h ls (lv_sub hl [1, 2, 0] rfl)
def m_X9_takesBack (v : xSt) : Option xSt := lp (fun (rec3 : Int32 × xSt → Option xSt) => un2 (fun (a1 : Int32) (v2 : xSt) => (if (18 : Int32) ≤ a1 then ob (m_X9_lays v2 (6 : Int32) (0 : Int32)) (fun r6 => ob (m_X9_clears r6 (1 : Int32)) (fun r8 => some r8)) else ck (¬ (((599 : Int32) + a1) < 0 ∨ 797 ≤ ((599 : Int32) + a1).toNatClampNeg)) (ck (¬ (((581 : Int32) + a1) < 0 ∨ 797 ≤ ((581 : Int32) + a1).toNatClampNeg)) (lt (st2 v2 1 ((581 : Int32) + a1).toNatClampNeg (v2 1 ((599 : Int32) + a1).toNatClampNeg)) (fun v11 => rec3 ((a1 + 1), v11))))))) xF ((0 : Int32), v)
set_option maxHeartbeats 4000000 in
set_option maxRecDepth 100000 in
theorem c_X9_takesBack (l : Launch) (G : xGl) (q : Nat → Nat) (v : xSt) {z : xSt} (hf : m_X9_takesBack v = some z) : mRW l yX9_takesBack (wM yX9_takesBack cX9_takesBack 2 none) { frames := 1, cells := 0, slots := 0, locals := 22 } G (eMod G) 8 q v [.ref (q 0)] qV z := by
  refine xRW (cc := cX9_takesBack) (maxL := 2) (ret := none) (by decide) rfl (Nat.le_of_ble_eq_true rfl) ?_
  intro p e s m below meth c ls A hC hr hlk h hl
  have hx := hC.1
  have hb := hC.2.1
  have hl : lv_has ls 2 [(0, .ref (q 0))] := hl
  unfold m_X9_takesBack at hf
  obtain ⟨H, hH⟩ : ∃ H, H = s.heap := ⟨_, rfl⟩
  obtain ⟨locs, hlo⟩ : ∃ x : List Loc, x = [] := ⟨_, rfl⟩
  have h : hg G (eMod G) 8 q v A s H locs := by rw [hH, hlo]; exact h
  rw [← hlo, ← hH]
  clear hH hlo
  refine lv_iconst (v := (0 : Int32)) hx hb dX9_takesBack_0 (by decide) ?_
  refine lv_istore_n (lv' := [(1, .int (0 : Int32)), (0, .ref (q 0))]) hx hb dX9_takesBack_1 rfl hl (by decide) rfl (fun ls hl => ?_)
  refine lp_i (z := z) (P := fun (pp : Int32 × xSt) => ∀ (H : Heap) (locs : List Loc), hg G (eMod G) 8 q pp.2 A s H locs → ∀ (ls : Array Slot), lv_has ls 2 [(0, .ref (q 0)), (1, .int pp.1)] → W p l e { frames := 1, cells := 0, slots := 0, locals := 22 } s m [.ref (q 0)].toArray below meth c H locs 0 0 (MQ below (qV (cB G (eMod G) 8 q z A) A) [.ref (q 0)].toArray s 0 0 A) (F0 m 2 ls [])) ?_ _ _ hf H locs h ls (lv_sub hl [1, 0] rfl)
  intro rec3 hrec3 pp hf H locs h ls hl
  obtain ⟨a1, v2⟩ := pp
  have h : hg G (eMod G) 8 q v2 A s H locs := h
  have hl : lv_has ls 2 [(0, .ref (q 0)), (1, .int a1)] := hl
  have hf := un2_e hf
  refine lv_iload_n hx hb dX9_takesBack_2 rfl (lv_at hl 1 rfl) ?_
  refine lv_bipush (v := (18 : Int32)) hx hb dX9_takesBack_3 (by decide) ?_
  refine lv_icmp_ge (tgt := 34) hx hb dX9_takesBack_5 (by decide) (fun c4 => ?_) (fun c4 => ?_)
  · have hf := it_t c4 hf
    refine lv_aload_n hx hb dX9_takesBack_34 rfl (lv_at hl 0 rfl) ?_
    refine lv_bipush (v := (6 : Int32)) hx hb dX9_takesBack_35 (by decide) ?_
    refine lv_iconst (v := (0 : Int32)) hx hb dX9_takesBack_37 (by decide) ?_
    obtain ⟨r6, hy5, hf⟩ := ob_e hf
    refine xv0 h (va_runV (As := [.int (6 : Int32), .int (0 : Int32)]) (rest := []) hC (c_X9_lays l G q v2 (6 : Int32) (0 : Int32) hy5 H.size) (xcwV hC lk_X9_61 in_X9 co_X9_lays im_X9_lays se_X9_lays rfl rfl dd_X9_lays ⟨Nat.le_of_ble_eq_true rfl, Nat.le_of_ble_eq_true rfl⟩) (preV0 h (Nat.le_of_ble_eq_true rfl) eMod_0 rfl [.int (6 : Int32), .int (0 : Int32)]) rfl rfl hl.1 rfl (lv_room (Nat.le_of_ble_eq_true rfl)) dX9_takesBack_38 ⟨Nat.zero_le _, Nat.zero_le _⟩) (fun H locs h => ?_)
    refine lv_aload_n hx hb dX9_takesBack_41 rfl (lv_at hl 0 rfl) ?_
    refine lv_iconst (v := (1 : Int32)) hx hb dX9_takesBack_42 (by decide) ?_
    obtain ⟨r8, hy7, hf⟩ := ob_e hf
    refine xv0 h (va_runV (As := [.int (1 : Int32)]) (rest := []) hC (c_X9_clears l G q r6 (1 : Int32) hy7 H.size) (xcwV hC lk_X9_57 in_X9 co_X9_clears im_X9_clears se_X9_clears rfl rfl dd_X9_clears ⟨Nat.le_of_ble_eq_true rfl, Nat.le_of_ble_eq_true rfl⟩) (preV0 h (Nat.le_of_ble_eq_true rfl) eMod_0 rfl [.int (1 : Int32)]) rfl rfl hl.1 rfl (lv_room (Nat.le_of_ble_eq_true rfl)) dX9_takesBack_43 ⟨Nat.zero_le _, Nat.zero_le _⟩) (fun H locs h => ?_)
    have hf := sm_e hf
    exact xvret hC hr hlk h hf dX9_takesBack_46
  · have hf := it_f c4 hf
    refine lv_aload_n hx hb dX9_takesBack_8 rfl (lv_at hl 0 rfl) ?_
    refine xget hC h.o (C := RX9) (T := TX9) (N := 17) (wM_us uw_X9) 0 (Nat.le_of_ble_eq_true rfl) eMod_0 rfl 0 (by decide) (wM_in fl_X9_7) rfl dX9_takesBack_9 ?_
    refine lv_sipush (v := (581 : Int32)) hx hb dX9_takesBack_12 (by decide) ?_
    refine lv_iload_n hx hb dX9_takesBack_15 rfl (lv_at hl 1 rfl) ?_
    refine lv_iadd hx hb dX9_takesBack_16 ?_
    refine lv_aload_n hx hb dX9_takesBack_17 rfl (lv_at hl 0 rfl) ?_
    refine xget hC h.o (C := RX9) (T := TX9) (N := 17) (wM_us uw_X9) 0 (Nat.le_of_ble_eq_true rfl) eMod_0 rfl 0 (by decide) (wM_in fl_X9_7) rfl dX9_takesBack_18 ?_
    refine lv_sipush (v := (599 : Int32)) hx hb dX9_takesBack_21 (by decide) ?_
    refine lv_iload_n hx hb dX9_takesBack_24 rfl (lv_at hl 1 rfl) ?_
    refine lv_iadd hx hb dX9_takesBack_25 ?_
    obtain ⟨hi9, hf⟩ := ck_e hf
    refine xiald hC h.o 1 (Nat.le_of_ble_eq_true rfl) eMod_1 hi9 dX9_takesBack_26 ?_
    obtain ⟨hi10, hf⟩ := ck_e hf
    refine xiast hC h 1 (Nat.le_of_ble_eq_true rfl) (fun _ => eMod_1) hi10 dX9_takesBack_27 (fun H locs h => ?_)
    obtain ⟨v11, ev11, hf⟩ := lt_e hf
    rw [← ev11] at h
    refine lv_iinc (v := (a1 + 1)) (lv' := [(1, .int (a1 + 1)), (0, .ref (q 0))]) hx hb dX9_takesBack_28 hl (k := 1) rfl rfl (by decide) rfl (fun ls hl => ?_)
    refine lv_goto (tgt := 2) hx hb dX9_takesBack_31 (by decide) ?_
    exact hrec3 ((a1 + 1), v11) hf H locs h ls (lv_sub hl [1, 0] rfl)
def m_X9_foremost (v : xSt) : Option (Int32) := ck (¬ ((580 : Int32) < 0 ∨ 797 ≤ (580 : Int32).toNatClampNeg)) (lt (((v 1 (580 : Int32).toNatClampNeg) - (1 : Int32))) (fun x2 => lp (fun (rec5 : Int32 × Int32 → Option (Int32)) => un2 (fun (a3 : Int32) (a4 : Int32) => (if a4 < 0 then some a3 else ob (m_X9_sectorAt v a4) (fun r8 => ob (m_X9_isLocked v r8) (fun r10 => lt (fun (t12 : Int32) => rec5 (t12, (a4 + (-1)))) (fun j13 => (if r10 = 0 then j13 a4 else j13 a3))))))) xF ((-1 : Int32), x2)))
set_option maxHeartbeats 4000000 in
set_option maxRecDepth 100000 in
theorem c_X9_foremost (l : Launch) (G : xGl) (q : Nat → Nat) (v : xSt) {z : (Int32)} (hf : m_X9_foremost v = some z) : mRO l yX9_foremost (wM yX9_foremost cX9_foremost 3 (some .int)) { frames := 2, cells := 0, slots := 0, locals := 43 } G (eMod G) 8 q v [.ref (q 0)] (qI z) := by
  refine xRO (cc := cX9_foremost) (maxL := 3) (ret := (some .int)) (by decide) rfl (Nat.le_of_ble_eq_true rfl) ?_
  intro p e s m below meth c ls A hC hr hlk h hl
  have hx := hC.1
  have hb := hC.2.1
  have hl : lv_has ls 3 [(0, .ref (q 0))] := hl
  unfold m_X9_foremost at hf
  obtain ⟨H, hH⟩ : ∃ H, H = s.heap := ⟨_, rfl⟩
  obtain ⟨locs, hlo⟩ : ∃ x : List Loc, x = [] := ⟨_, rfl⟩
  have h : ho G (eMod G) 8 q v A s H locs := by rw [hH, hlo]; exact h
  rw [← hlo, ← hH]
  clear hH hlo
  refine lv_iconst (v := (-1 : Int32)) hx hb dX9_foremost_0 (by decide) ?_
  refine lv_istore_n (lv' := [(1, .int (-1 : Int32)), (0, .ref (q 0))]) hx hb dX9_foremost_1 rfl hl (by decide) rfl (fun ls hl => ?_)
  refine lv_aload_n hx hb dX9_foremost_2 rfl (lv_at hl 1 rfl) ?_
  refine xget hC h.o (C := RX9) (T := TX9) (N := 17) (wM_us uw_X9) 0 (Nat.le_of_ble_eq_true rfl) eMod_0 rfl 0 (by decide) (wM_in fl_X9_7) rfl dX9_foremost_3 ?_
  refine lv_sipush (v := (580 : Int32)) hx hb dX9_foremost_6 (by decide) ?_
  obtain ⟨hi1, hf⟩ := ck_e hf
  refine xiald hC h.o 1 (Nat.le_of_ble_eq_true rfl) eMod_1 hi1 dX9_foremost_9 ?_
  refine lv_iconst (v := (1 : Int32)) hx hb dX9_foremost_10 (by decide) ?_
  refine lv_isub hx hb dX9_foremost_11 ?_
  obtain ⟨x2, ex2, hf⟩ := lt_e hf
  refine lv_nm ex2 ?_
  refine lv_istore_n (lv' := [(2, .int x2), (1, .int (-1 : Int32)), (0, .ref (q 0))]) hx hb dX9_foremost_12 rfl hl (by decide) rfl (fun ls hl => ?_)
  refine lp_i (z := z) (P := fun (pp : Int32 × Int32) => ∀ (H : Heap) (locs : List Loc), ho G (eMod G) 8 q v A s H locs → ∀ (ls : Array Slot), lv_has ls 3 [(0, .ref (q 0)), (1, .int pp.1), (2, .int pp.2)] → W p l e { frames := 2, cells := 0, slots := 0, locals := 43 } s m [.ref (q 0)].toArray below meth c H locs 0 0 (MQ below ((qI z) (fun _ => True) A) [.ref (q 0)].toArray s 0 0 A) (F0 m 13 ls [])) ?_ _ _ hf H locs h ls (lv_sub hl [2, 1, 0] rfl)
  intro rec5 hrec5 pp hf H locs h ls hl
  obtain ⟨a3, a4⟩ := pp
  have h : ho G (eMod G) 8 q v A s H locs := h
  have hl : lv_has ls 3 [(0, .ref (q 0)), (1, .int a3), (2, .int a4)] := hl
  have hf := un2_e hf
  refine lv_iload_n hx hb dX9_foremost_13 rfl (lv_at hl 2 rfl) ?_
  refine lv_if_lt (tgt := 41) hx hb dX9_foremost_14 (by decide) (fun c6 => ?_) (fun c6 => ?_)
  · have hf := it_t c6 hf
    refine lv_iload_n hx hb dX9_foremost_41 rfl (lv_at hl 1 rfl) ?_
    have hf := sm_e hf
    exact oiret hC hr hlk h (by rw [← hf]) dX9_foremost_42
  · have hf := it_f c6 hf
    refine lv_aload_n hx hb dX9_foremost_17 rfl (lv_at hl 0 rfl) ?_
    refine lv_aload_n hx hb dX9_foremost_18 rfl (lv_at hl 0 rfl) ?_
    refine lv_iload_n hx hb dX9_foremost_19 rfl (lv_at hl 2 rfl) ?_
    obtain ⟨r8, hy7, hf⟩ := ob_e hf
    refine xiO h (va_runV (As := [.int a4]) (rest := [.ref (q 0)]) hC (c_X9_sectorAt l G q v a4 hy7 H.size) (xcwV hC lk_X9_96 in_X9 co_X9_sectorAt im_X9_sectorAt se_X9_sectorAt rfl rfl dd_X9_sectorAt ⟨Nat.le_of_ble_eq_true rfl, Nat.le_of_ble_eq_true rfl⟩) (preVO0 h.o (Nat.le_of_ble_eq_true rfl) eMod_0 rfl [.int a4]) rfl rfl hl.1 rfl (lv_room (Nat.le_of_ble_eq_true rfl)) dX9_foremost_20 ⟨Nat.zero_le _, Nat.zero_le _⟩) (fun H locs h => ?_)
    obtain ⟨r10, hy9, hf⟩ := ob_e hf
    refine xzO h (va_runV (As := [.int r8]) (rest := []) hC (c_X9_isLocked l G q v r8 hy9 H.size) (xcwV hC lk_X9_99 in_X9 co_X9_isLocked im_X9_isLocked se_X9_isLocked rfl rfl dd_X9_isLocked ⟨Nat.le_of_ble_eq_true rfl, Nat.le_of_ble_eq_true rfl⟩) (preVO0 h.o (Nat.le_of_ble_eq_true rfl) eMod_0 rfl [.int r8]) rfl rfl hl.1 rfl (lv_room (Nat.le_of_ble_eq_true rfl)) dX9_foremost_23 ⟨Nat.zero_le _, Nat.zero_le _⟩) (fun H locs hz11 h => ?_)
    obtain ⟨j13, ej13, hf⟩ := lt_e hf
    have hj13 : ∀ (t12 : Int32) (H : Heap) (locs : List Loc), ho G (eMod G) 8 q v A s H locs → ∀ (ls : Array Slot), lv_has ls 3 [(0, .ref (q 0)), (2, .int a4)] → j13 t12 = some z → W p l e { frames := 2, cells := 0, slots := 0, locals := 43 } s m [.ref (q 0)].toArray below meth c H locs 0 0 (MQ below ((qI z) (fun _ => True) A) [.ref (q 0)].toArray s 0 0 A) (F0 m 34 ls [.int t12]) := by
      intro t12 H locs h ls hl hf
      rw [ej13] at hf
      refine lv_istore_n (lv' := [(1, .int t12), (0, .ref (q 0)), (2, .int a4)]) hx hb dX9_foremost_34 rfl hl (by decide) rfl (fun ls hl => ?_)
      refine lv_iinc (v := (a4 + (-1))) (lv' := [(2, .int (a4 + (-1))), (1, .int t12), (0, .ref (q 0))]) hx hb dX9_foremost_35 hl (k := 2) rfl rfl (by decide) rfl (fun ls hl => ?_)
      refine lv_goto (tgt := 13) hx hb dX9_foremost_38 (by decide) ?_
      exact hrec5 (t12, (a4 + (-1))) hf H locs h ls (lv_sub hl [2, 1, 0] rfl)
    refine lv_if_eq (tgt := 33) hx hb dX9_foremost_26 (by decide) (fun c14 => ?_) (fun c14 => ?_)
    · have hf := it_t c14 hf
      refine lv_iload_n hx hb dX9_foremost_33 rfl (lv_at hl 2 rfl) ?_
      exact hj13 a4 H locs h ls (lv_sub hl [0, 2] rfl) hf
    · have hf := it_f c14 hf
      refine lv_iload_n hx hb dX9_foremost_29 rfl (lv_at hl 1 rfl) ?_
      refine lv_goto (tgt := 34) hx hb dX9_foremost_30 (by decide) ?_
      exact hj13 a3 H locs h ls (lv_sub hl [0, 2] rfl) hf
def m_X9_presses (v : xSt) (p1 : Int32) (p2 : Int32) : Option (Int32) := ck (¬ ((580 : Int32) < 0 ∨ 797 ≤ (580 : Int32).toNatClampNeg)) (lt (((v 1 (580 : Int32).toNatClampNeg) - (1 : Int32))) (fun x2 => lp (fun (rec5 : Int32 × Int32 → Option (Int32)) => un2 (fun (a3 : Int32) (a4 : Int32) => (if a4 < 0 then some a3 else ob (m_X9_ofOrder v a4 (1 : Int32)) (fun r8 => lt (fun (t9 : Int32) => lt (fun (t11 : Int32) => rec5 (t11, (a4 + (-1)))) (fun j12 => (if t9 = 0 then j12 a3 else j12 a4))) (fun j10 => lt (fun (_ : Unit) => j10 (0 : Int32)) (fun j14 => (if r8 = 0 then ob (m_X9_sectorAt v a4) (fun r17 => (if r17 = p1 then j14 () else ob (m_X9_ofOrder v a4 (3 : Int32)) (fun r20 => ck (¬ ((560 : Int32) < 0 ∨ 797 ≤ (560 : Int32).toNatClampNeg)) ((if r20 < (p2 + (v 1 (560 : Int32).toNatClampNeg)) then j14 () else ob (m_X9_sectorAt v a4) (fun r24 => ob (m_X9_isLocked v r24) (fun r26 => (if r26 = 0 then j10 (1 : Int32) else j14 ())))))))) else j14 ()))))))) xF ((-1 : Int32), x2)))
set_option maxHeartbeats 4000000 in
set_option maxRecDepth 100000 in
theorem c_X9_presses (l : Launch) (G : xGl) (q : Nat → Nat) (v : xSt) (p1 : Int32) (p2 : Int32) {z : (Int32)} (hf : m_X9_presses v p1 p2 = some z) : mRO l yX9_presses (wM yX9_presses cX9_presses 6 (some .int)) { frames := 2, cells := 0, slots := 0, locals := 43 } G (eMod G) 8 q v [.ref (q 0), .int p1, .int p2] (qI z) := by
  refine xRO (cc := cX9_presses) (maxL := 6) (ret := (some .int)) (by decide) rfl (Nat.le_of_ble_eq_true rfl) ?_
  intro p e s m below meth c ls A hC hr hlk h hl
  have hx := hC.1
  have hb := hC.2.1
  have hl : lv_has ls 6 [(0, .ref (q 0)), (1, .int p1), (2, .int p2)] := hl
  unfold m_X9_presses at hf
  obtain ⟨H, hH⟩ : ∃ H, H = s.heap := ⟨_, rfl⟩
  obtain ⟨locs, hlo⟩ : ∃ x : List Loc, x = [] := ⟨_, rfl⟩
  have h : ho G (eMod G) 8 q v A s H locs := by rw [hH, hlo]; exact h
  rw [← hlo, ← hH]
  clear hH hlo
  refine lv_iconst (v := (-1 : Int32)) hx hb dX9_presses_0 (by decide) ?_
  refine lv_istore_n (lv' := [(3, .int (-1 : Int32)), (0, .ref (q 0)), (1, .int p1), (2, .int p2)]) hx hb dX9_presses_1 rfl hl (by decide) rfl (fun ls hl => ?_)
  refine lv_aload_n hx hb dX9_presses_2 rfl (lv_at hl 1 rfl) ?_
  refine xget hC h.o (C := RX9) (T := TX9) (N := 17) (wM_us uw_X9) 0 (Nat.le_of_ble_eq_true rfl) eMod_0 rfl 0 (by decide) (wM_in fl_X9_7) rfl dX9_presses_3 ?_
  refine lv_sipush (v := (580 : Int32)) hx hb dX9_presses_6 (by decide) ?_
  obtain ⟨hi1, hf⟩ := ck_e hf
  refine xiald hC h.o 1 (Nat.le_of_ble_eq_true rfl) eMod_1 hi1 dX9_presses_9 ?_
  refine lv_iconst (v := (1 : Int32)) hx hb dX9_presses_10 (by decide) ?_
  refine lv_isub hx hb dX9_presses_11 ?_
  obtain ⟨x2, ex2, hf⟩ := lt_e hf
  refine lv_nm ex2 ?_
  refine lv_istore (lv' := [(4, .int x2), (3, .int (-1 : Int32)), (0, .ref (q 0)), (1, .int p1), (2, .int p2)]) hx hb dX9_presses_12 hl (by decide) rfl (fun ls hl => ?_)
  refine lp_i (z := z) (P := fun (pp : Int32 × Int32) => ∀ (H : Heap) (locs : List Loc), ho G (eMod G) 8 q v A s H locs → ∀ (ls : Array Slot), lv_has ls 6 [(0, .ref (q 0)), (1, .int p1), (2, .int p2), (3, .int pp.1), (4, .int pp.2)] → W p l e { frames := 2, cells := 0, slots := 0, locals := 43 } s m [.ref (q 0), .int p1, .int p2].toArray below meth c H locs 0 0 (MQ below ((qI z) (fun _ => True) A) [.ref (q 0), .int p1, .int p2].toArray s 0 0 A) (F0 m 14 ls [])) ?_ _ _ hf H locs h ls (lv_sub hl [2, 3, 4, 1, 0] rfl)
  intro rec5 hrec5 pp hf H locs h ls hl
  obtain ⟨a3, a4⟩ := pp
  have h : ho G (eMod G) 8 q v A s H locs := h
  have hl : lv_has ls 6 [(0, .ref (q 0)), (1, .int p1), (2, .int p2), (3, .int a3), (4, .int a4)] := hl
  have hf := un2_e hf
  refine lv_iload hx hb dX9_presses_14 (lv_at hl 4 rfl) ?_
  refine lv_if_lt (tgt := 97) hx hb dX9_presses_16 (by decide) (fun c6 => ?_) (fun c6 => ?_)
  · have hf := it_t c6 hf
    refine lv_iload_n hx hb dX9_presses_97 rfl (lv_at hl 3 rfl) ?_
    have hf := sm_e hf
    exact oiret hC hr hlk h (by rw [← hf]) dX9_presses_98
  · have hf := it_f c6 hf
    refine lv_aload_n hx hb dX9_presses_19 rfl (lv_at hl 0 rfl) ?_
    refine lv_iload hx hb dX9_presses_20 (lv_at hl 4 rfl) ?_
    refine lv_iconst (v := (1 : Int32)) hx hb dX9_presses_22 (by decide) ?_
    obtain ⟨r8, hy7, hf⟩ := ob_e hf
    refine xiO h (va_runV (As := [.int a4, .int (1 : Int32)]) (rest := []) hC (c_X9_ofOrder l G q v a4 (1 : Int32) hy7 H.size) (xcwV hC lk_X9_53 in_X9 co_X9_ofOrder im_X9_ofOrder se_X9_ofOrder rfl rfl dd_X9_ofOrder ⟨Nat.le_of_ble_eq_true rfl, Nat.le_of_ble_eq_true rfl⟩) (preVO0 h.o (Nat.le_of_ble_eq_true rfl) eMod_0 rfl [.int a4, .int (1 : Int32)]) rfl rfl hl.1 rfl (lv_room (Nat.le_of_ble_eq_true rfl)) dX9_presses_23 ⟨Nat.zero_le _, Nat.zero_le _⟩) (fun H locs h => ?_)
    obtain ⟨j10, ej10, hf⟩ := lt_e hf
    have hj10 : ∀ (t9 : Int32) (H : Heap) (locs : List Loc), ho G (eMod G) 8 q v A s H locs → ∀ (ls : Array Slot), lv_has ls 6 [(0, .ref (q 0)), (1, .int p1), (2, .int p2), (3, .int a3), (4, .int a4)] → j10 t9 = some z → W p l e { frames := 2, cells := 0, slots := 0, locals := 43 } s m [.ref (q 0), .int p1, .int p2].toArray below meth c H locs 0 0 (MQ below ((qI z) (fun _ => True) A) [.ref (q 0), .int p1, .int p2].toArray s 0 0 A) (F0 m 77 ls [.int t9]) := by
      intro t9 H locs h ls hl hf
      rw [ej10] at hf
      refine lv_istore (lv' := [(5, .int t9), (0, .ref (q 0)), (1, .int p1), (2, .int p2), (3, .int a3), (4, .int a4)]) hx hb dX9_presses_77 hl (by decide) rfl (fun ls hl => ?_)
      refine lv_iload hx hb dX9_presses_79 (lv_at hl 0 rfl) ?_
      obtain ⟨j12, ej12, hf⟩ := lt_e hf
      have hj12 : ∀ (t11 : Int32) (H : Heap) (locs : List Loc), ho G (eMod G) 8 q v A s H locs → ∀ (ls : Array Slot), lv_has ls 6 [(0, .ref (q 0)), (1, .int p1), (2, .int p2), (4, .int a4)] → j12 t11 = some z → W p l e { frames := 2, cells := 0, slots := 0, locals := 43 } s m [.ref (q 0), .int p1, .int p2].toArray below meth c H locs 0 0 (MQ below ((qI z) (fun _ => True) A) [.ref (q 0), .int p1, .int p2].toArray s 0 0 A) (F0 m 90 ls [.int t11]) := by
        intro t11 H locs h ls hl hf
        rw [ej12] at hf
        refine lv_istore_n (lv' := [(3, .int t11), (0, .ref (q 0)), (1, .int p1), (2, .int p2), (4, .int a4)]) hx hb dX9_presses_90 rfl hl (by decide) rfl (fun ls hl => ?_)
        refine lv_iinc (v := (a4 + (-1))) (lv' := [(4, .int (a4 + (-1))), (3, .int t11), (0, .ref (q 0)), (1, .int p1), (2, .int p2)]) hx hb dX9_presses_91 hl (k := 4) rfl rfl (by decide) rfl (fun ls hl => ?_)
        refine lv_goto (tgt := 14) hx hb dX9_presses_94 (by decide) ?_
        exact hrec5 (t11, (a4 + (-1))) hf H locs h ls (lv_sub hl [2, 3, 4, 1, 0] rfl)
      refine lv_if_eq (tgt := 89) hx hb dX9_presses_81 (by decide) (fun c13 => ?_) (fun c13 => ?_)
      · have hf := it_t c13 hf
        refine lv_iload_n hx hb dX9_presses_89 rfl (lv_at hl 4 rfl) ?_
        exact hj12 a3 H locs h ls (lv_sub hl [1, 2, 3, 5] rfl) hf
      · have hf := it_f c13 hf
        refine lv_iload hx hb dX9_presses_84 (lv_at hl 5 rfl) ?_
        refine lv_goto (tgt := 90) hx hb dX9_presses_86 (by decide) ?_
        exact hj12 a4 H locs h ls (lv_sub hl [1, 2, 3, 5] rfl) hf
    obtain ⟨j14, ej14, hf⟩ := lt_e hf
    have hj14 : ∀ (uu : Unit) (H : Heap) (locs : List Loc), ho G (eMod G) 8 q v A s H locs → ∀ (ls : Array Slot), lv_has ls 6 [(0, .ref (q 0)), (1, .int p1), (2, .int p2), (3, .int a3), (4, .int a4)] → j14 uu = some z → W p l e { frames := 2, cells := 0, slots := 0, locals := 43 } s m [.ref (q 0), .int p1, .int p2].toArray below meth c H locs 0 0 (MQ below ((qI z) (fun _ => True) A) [.ref (q 0), .int p1, .int p2].toArray s 0 0 A) (F0 m 76 ls []) := by
      intro uu H locs h ls hl hf
      rw [ej14] at hf
      refine lv_iconst (v := (0 : Int32)) hx hb dX9_presses_76 (by decide) ?_
      exact hj10 (0 : Int32) H locs h ls (lv_sub hl [0, 1, 2, 3, 4] rfl) hf
    refine lv_if_ne (tgt := 76) hx hb dX9_presses_26 (by decide) (fun c15 => ?_) (fun c15 => ?_)
    · have hf := it_f c15 hf
      exact hj14 () H locs h ls (lv_sub hl [0, 1, 2, 3, 4] rfl) hf
    · have hf := it_t c15 hf
      refine lv_aload_n hx hb dX9_presses_29 rfl (lv_at hl 0 rfl) ?_
      refine lv_iload hx hb dX9_presses_30 (lv_at hl 4 rfl) ?_
      obtain ⟨r17, hy16, hf⟩ := ob_e hf
      refine xiO h (va_runV (As := [.int a4]) (rest := []) hC (c_X9_sectorAt l G q v a4 hy16 H.size) (xcwV hC lk_X9_96 in_X9 co_X9_sectorAt im_X9_sectorAt se_X9_sectorAt rfl rfl dd_X9_sectorAt ⟨Nat.le_of_ble_eq_true rfl, Nat.le_of_ble_eq_true rfl⟩) (preVO0 h.o (Nat.le_of_ble_eq_true rfl) eMod_0 rfl [.int a4]) rfl rfl hl.1 rfl (lv_room (Nat.le_of_ble_eq_true rfl)) dX9_presses_32 ⟨Nat.zero_le _, Nat.zero_le _⟩) (fun H locs h => ?_)
      refine lv_iload_n hx hb dX9_presses_35 rfl (lv_at hl 1 rfl) ?_
      refine lv_icmp_eq (tgt := 76) hx hb dX9_presses_36 (by decide) (fun c18 => ?_) (fun c18 => ?_)
      · have hf := it_t c18 hf
        exact hj14 () H locs h ls (lv_sub hl [0, 1, 2, 3, 4] rfl) hf
      · have hf := it_f c18 hf
        refine lv_aload_n hx hb dX9_presses_39 rfl (lv_at hl 0 rfl) ?_
        refine lv_iload hx hb dX9_presses_40 (lv_at hl 4 rfl) ?_
        refine lv_iconst (v := (3 : Int32)) hx hb dX9_presses_42 (by decide) ?_
        obtain ⟨r20, hy19, hf⟩ := ob_e hf
        refine xiO h (va_runV (As := [.int a4, .int (3 : Int32)]) (rest := []) hC (c_X9_ofOrder l G q v a4 (3 : Int32) hy19 H.size) (xcwV hC lk_X9_53 in_X9 co_X9_ofOrder im_X9_ofOrder se_X9_ofOrder rfl rfl dd_X9_ofOrder ⟨Nat.le_of_ble_eq_true rfl, Nat.le_of_ble_eq_true rfl⟩) (preVO0 h.o (Nat.le_of_ble_eq_true rfl) eMod_0 rfl [.int a4, .int (3 : Int32)]) rfl rfl hl.1 rfl (lv_room (Nat.le_of_ble_eq_true rfl)) dX9_presses_43 ⟨Nat.zero_le _, Nat.zero_le _⟩) (fun H locs h => ?_)
        refine lv_iload_n hx hb dX9_presses_46 rfl (lv_at hl 2 rfl) ?_
        refine lv_aload_n hx hb dX9_presses_47 rfl (lv_at hl 0 rfl) ?_
        refine xget hC h.o (C := RX9) (T := TX9) (N := 17) (wM_us uw_X9) 0 (Nat.le_of_ble_eq_true rfl) eMod_0 rfl 0 (by decide) (wM_in fl_X9_7) rfl dX9_presses_48 ?_
        refine lv_sipush (v := (560 : Int32)) hx hb dX9_presses_51 (by decide) ?_
        obtain ⟨hi21, hf⟩ := ck_e hf
        refine xiald hC h.o 1 (Nat.le_of_ble_eq_true rfl) eMod_1 hi21 dX9_presses_54 ?_
        refine lv_iadd hx hb dX9_presses_55 ?_
        refine lv_icmp_lt (tgt := 76) hx hb dX9_presses_56 (by decide) (fun c22 => ?_) (fun c22 => ?_)
        · have hf := it_t c22 hf
          exact hj14 () H locs h ls (lv_sub hl [0, 1, 2, 3, 4] rfl) hf
        · have hf := it_f c22 hf
          refine lv_aload_n hx hb dX9_presses_59 rfl (lv_at hl 0 rfl) ?_
          refine lv_aload_n hx hb dX9_presses_60 rfl (lv_at hl 0 rfl) ?_
          refine lv_iload hx hb dX9_presses_61 (lv_at hl 4 rfl) ?_
          obtain ⟨r24, hy23, hf⟩ := ob_e hf
          refine xiO h (va_runV (As := [.int a4]) (rest := [.ref (q 0)]) hC (c_X9_sectorAt l G q v a4 hy23 H.size) (xcwV hC lk_X9_96 in_X9 co_X9_sectorAt im_X9_sectorAt se_X9_sectorAt rfl rfl dd_X9_sectorAt ⟨Nat.le_of_ble_eq_true rfl, Nat.le_of_ble_eq_true rfl⟩) (preVO0 h.o (Nat.le_of_ble_eq_true rfl) eMod_0 rfl [.int a4]) rfl rfl hl.1 rfl (lv_room (Nat.le_of_ble_eq_true rfl)) dX9_presses_63 ⟨Nat.zero_le _, Nat.zero_le _⟩) (fun H locs h => ?_)
          obtain ⟨r26, hy25, hf⟩ := ob_e hf
          refine xzO h (va_runV (As := [.int r24]) (rest := []) hC (c_X9_isLocked l G q v r24 hy25 H.size) (xcwV hC lk_X9_99 in_X9 co_X9_isLocked im_X9_isLocked se_X9_isLocked rfl rfl dd_X9_isLocked ⟨Nat.le_of_ble_eq_true rfl, Nat.le_of_ble_eq_true rfl⟩) (preVO0 h.o (Nat.le_of_ble_eq_true rfl) eMod_0 rfl [.int r24]) rfl rfl hl.1 rfl (lv_room (Nat.le_of_ble_eq_true rfl)) dX9_presses_66 ⟨Nat.zero_le _, Nat.zero_le _⟩) (fun H locs hz27 h => ?_)
          refine lv_if_ne (tgt := 76) hx hb dX9_presses_69 (by decide) (fun c28 => ?_) (fun c28 => ?_)
          · have hf := it_f c28 hf
            exact hj14 () H locs h ls (lv_sub hl [0, 1, 2, 3, 4] rfl) hf
          · have hf := it_t c28 hf
            refine lv_iconst (v := (1 : Int32)) hx hb dX9_presses_72 (by decide) ?_
            refine lv_goto (tgt := 77) hx hb dX9_presses_73 (by decide) ?_
            exact hj10 (1 : Int32) H locs h ls (lv_sub hl [0, 1, 2, 3, 4] rfl) hf
