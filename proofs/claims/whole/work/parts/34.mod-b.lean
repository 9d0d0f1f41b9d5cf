def m_X9_acts (v : xSt) : Option xSt := ob (m_X9_under v (0 : Int32)) (fun r2 => lt (fun (t3 : Int32) => lt (fun (t5 : Int32) => (if t5 = (-1 : Int32) then ob (m_X9_isBusy v) (fun r9 => (if r9 = 0 then ob (m_X9_isAside v) (fun r13 => lt (fun (_ : Unit) => ob (m_X9_isAside v) (fun r17 => (if r17 = 0 then ob (m_X9_foremost v) (fun r21 => (if r21 = (-1 : Int32) then some v else ob (m_X9_beginsOrder v r21) (fun r24 => some r24))) else ob (m_X9_apart v (1 : Int32)) (fun r26 => ob (m_X9_apart v (5 : Int32)) (fun r28 => ob (m_X9_presses v r26 r28) (fun r30 => (if r30 = (-1 : Int32) then ob (m_X9_takesBack v) (fun r35 => some r35) else ob (m_X9_beginsOrder v r30) (fun r33 => some r33)))))))) (fun j15 => (if r13 = 0 then j15 () else ob (m_X9_apart v (6 : Int32)) (fun r38 => (if r38 = 0 then some v else j15 ()))))) else some v)) else ob (m_X9_setsAside v (1 : Int32)) (fun r41 => ob (m_X9_beginsOrder r41 t5) (fun r43 => some r43)))) (fun j6 => (if t3 = 0 then j6 (-1 : Int32) else ob (m_X9_under v (1 : Int32)) (fun r46 => ob (m_X9_under v (5 : Int32)) (fun r48 => ob (m_X9_presses v r46 r48) (fun r50 => j6 r50)))))) (fun j4 => lt (fun (_ : Unit) => j4 (0 : Int32)) (fun j51 => (if r2 = (2 : Int32) then ob (m_X9_under v (5 : Int32)) (fun r54 => (if r54 = (-1 : Int32) then j51 () else ob (m_X9_isAside v) (fun r57 => (if r57 = 0 then j4 (1 : Int32) else j51 ())))) else j51 ()))))
set_option maxHeartbeats 4000000 in
set_option maxRecDepth 100000 in
theorem c_X9_acts (l : Launch) (G : xGl) (q : Nat → Nat) (v : xSt) {z : xSt} (hf : m_X9_acts v = some z) : mRW l yX9_acts (wM yX9_acts cX9_acts 4 none) { frames := 3, cells := 0, slots := 0, locals := 70 } G (eMod G) 8 q v [.ref (q 0)] qV z := by
  refine xRW (cc := cX9_acts) (maxL := 4) (ret := none) (by decide) rfl (Nat.le_of_ble_eq_true rfl) ?_
  intro p e s m below meth c ls A hC hr hlk h hl
  have hx := hC.1
  have hb := hC.2.1
  have hl : lv_has ls 4 [(0, .ref (q 0))] := hl
  unfold m_X9_acts at hf
  obtain ⟨H, hH⟩ : ∃ H, H = s.heap := ⟨_, rfl⟩
  obtain ⟨locs, hlo⟩ : ∃ x : List Loc, x = [] := ⟨_, rfl⟩
  have h : hg G (eMod G) 8 q v A s H locs := by rw [hH, hlo]; exact h
  rw [← hlo, ← hH]
  clear hH hlo
  refine lv_aload_n hx hb dX9_acts_0 rfl (lv_at hl 0 rfl) ?_
  refine lv_iconst (v := (0 : Int32)) hx hb dX9_acts_1 (by decide) ?_
  obtain ⟨r2, hy1, hf⟩ := ob_e hf
  refine xiG h (va_runV (As := [.int (0 : Int32)]) (rest := []) hC (c_X9_under l G q v (0 : Int32) hy1 H.size) (xcwV hC lk_X9_46 in_X9 co_X9_under im_X9_under se_X9_under rfl rfl dd_X9_under ⟨Nat.le_of_ble_eq_true rfl, Nat.le_of_ble_eq_true rfl⟩) (preVO0 h.o (Nat.le_of_ble_eq_true rfl) eMod_0 rfl [.int (0 : Int32)]) rfl rfl hl.1 rfl (lv_room (Nat.le_of_ble_eq_true rfl)) dX9_acts_2 ⟨Nat.zero_le _, Nat.zero_le _⟩) (fun H locs h => ?_)
  refine lv_iconst (v := (2 : Int32)) hx hb dX9_acts_5 (by decide) ?_
  obtain ⟨j4, ej4, hf⟩ := lt_e hf
  have hj4 : ∀ (t3 : Int32) (H : Heap) (locs : List Loc), hg G (eMod G) 8 q v A s H locs → ∀ (ls : Array Slot), lv_has ls 4 [(0, .ref (q 0))] → j4 t3 = some z → W p l e { frames := 3, cells := 0, slots := 0, locals := 70 } s m [.ref (q 0)].toArray below meth c H locs 0 0 (MQ below (qV (cB G (eMod G) 8 q z A) A) [.ref (q 0)].toArray s 0 0 A) (F0 m 30 ls [.int t3]) := by
    intro t3 H locs h ls hl hf
    rw [ej4] at hf
    refine lv_istore_n (lv' := [(1, .int t3), (0, .ref (q 0))]) hx hb dX9_acts_30 rfl hl (by decide) rfl (fun ls hl => ?_)
    refine lv_iload_n hx hb dX9_acts_31 rfl (lv_at hl 0 rfl) ?_
    obtain ⟨j6, ej6, hf⟩ := lt_e hf
    have hj6 : ∀ (t5 : Int32) (H : Heap) (locs : List Loc), hg G (eMod G) 8 q v A s H locs → ∀ (ls : Array Slot), lv_has ls 4 [(0, .ref (q 0))] → j6 t5 = some z → W p l e { frames := 3, cells := 0, slots := 0, locals := 70 } s m [.ref (q 0)].toArray below meth c H locs 0 0 (MQ below (qV (cB G (eMod G) 8 q z A) A) [.ref (q 0)].toArray s 0 0 A) (F0 m 53 ls [.int t5]) := by
      intro t5 H locs h ls hl hf
      rw [ej6] at hf
      refine lv_istore_n (lv' := [(2, .int t5), (0, .ref (q 0))]) hx hb dX9_acts_53 rfl hl (by decide) rfl (fun ls hl => ?_)
      refine lv_iload_n hx hb dX9_acts_54 rfl (lv_at hl 0 rfl) ?_
      refine lv_iconst (v := (-1 : Int32)) hx hb dX9_acts_55 (by decide) ?_
      refine lv_icmp_eq (tgt := 70) hx hb dX9_acts_56 (by decide) (fun c7 => ?_) (fun c7 => ?_)
      · have hf := it_t c7 hf
        refine lv_aload_n hx hb dX9_acts_70 rfl (lv_at hl 1 rfl) ?_
        obtain ⟨r9, hy8, hf⟩ := ob_e hf
        refine xzG h (va_runV (As := []) (rest := []) hC (c_X9_isBusy l G q v hy8 H.size) (xcwV hC lk_X9_116 in_X9 co_X9_isBusy im_X9_isBusy se_X9_isBusy rfl rfl dd_X9_isBusy ⟨Nat.le_of_ble_eq_true rfl, Nat.le_of_ble_eq_true rfl⟩) (preVO0 h.o (Nat.le_of_ble_eq_true rfl) eMod_0 rfl []) rfl rfl hl.1 rfl (lv_room (Nat.le_of_ble_eq_true rfl)) dX9_acts_71 ⟨Nat.zero_le _, Nat.zero_le _⟩) (fun H locs hz10 h => ?_)
        refine lv_if_ne (tgt := 93) hx hb dX9_acts_74 (by decide) (fun c11 => ?_) (fun c11 => ?_)
        · have hf := it_f c11 hf
          have hf := sm_e hf
          exact xvret hC hr hlk h hf dX9_acts_93
        · have hf := it_t c11 hf
          refine lv_aload_n hx hb dX9_acts_77 rfl (lv_at hl 1 rfl) ?_
          obtain ⟨r13, hy12, hf⟩ := ob_e hf
          refine xzG h (va_runV (As := []) (rest := []) hC (c_X9_isAside l G q v hy12 H.size) (xcwV hC lk_X9_103 in_X9 co_X9_isAside im_X9_isAside se_X9_isAside rfl rfl dd_X9_isAside ⟨Nat.le_of_ble_eq_true rfl, Nat.le_of_ble_eq_true rfl⟩) (preVO0 h.o (Nat.le_of_ble_eq_true rfl) eMod_0 rfl []) rfl rfl hl.1 rfl (lv_room (Nat.le_of_ble_eq_true rfl)) dX9_acts_78 ⟨Nat.zero_le _, Nat.zero_le _⟩) (fun H locs hz14 h => ?_)
          obtain ⟨j15, ej15, hf⟩ := lt_e hf
          have hj15 : ∀ (uu : Unit) (H : Heap) (locs : List Loc), hg G (eMod G) 8 q v A s H locs → ∀ (ls : Array Slot), lv_has ls 4 [(0, .ref (q 0))] → j15 uu = some z → W p l e { frames := 3, cells := 0, slots := 0, locals := 70 } s m [.ref (q 0)].toArray below meth c H locs 0 0 (MQ below (qV (cB G (eMod G) 8 q z A) A) [.ref (q 0)].toArray s 0 0 A) (F0 m 94 ls []) := by
            intro uu H locs h ls hl hf
            rw [ej15] at hf
            refine lv_aload_n hx hb dX9_acts_94 rfl (lv_at hl 0 rfl) ?_
            obtain ⟨r17, hy16, hf⟩ := ob_e hf
            refine xzG h (va_runV (As := []) (rest := []) hC (c_X9_isAside l G q v hy16 H.size) (xcwV hC lk_X9_103 in_X9 co_X9_isAside im_X9_isAside se_X9_isAside rfl rfl dd_X9_isAside ⟨Nat.le_of_ble_eq_true rfl, Nat.le_of_ble_eq_true rfl⟩) (preVO0 h.o (Nat.le_of_ble_eq_true rfl) eMod_0 rfl []) rfl rfl hl.1 rfl (lv_room (Nat.le_of_ble_eq_true rfl)) dX9_acts_95 ⟨Nat.zero_le _, Nat.zero_le _⟩) (fun H locs hz18 h => ?_)
            refine lv_if_eq (tgt := 134) hx hb dX9_acts_98 (by decide) (fun c19 => ?_) (fun c19 => ?_)
            · have hf := it_t c19 hf
              refine lv_aload_n hx hb dX9_acts_134 rfl (lv_at hl 0 rfl) ?_
              obtain ⟨r21, hy20, hf⟩ := ob_e hf
              refine xiG h (va_runV (As := []) (rest := []) hC (c_X9_foremost l G q v hy20 H.size) (xcwV hC lk_X9_122 in_X9 co_X9_foremost im_X9_foremost se_X9_foremost rfl rfl dd_X9_foremost ⟨Nat.le_of_ble_eq_true rfl, Nat.le_of_ble_eq_true rfl⟩) (preVO0 h.o (Nat.le_of_ble_eq_true rfl) eMod_0 rfl []) rfl rfl hl.1 rfl (lv_room (Nat.le_of_ble_eq_true rfl)) dX9_acts_135 ⟨Nat.zero_le _, Nat.zero_le _⟩) (fun H locs h => ?_)
              refine lv_istore_n (lv' := [(3, .int r21), (0, .ref (q 0))]) hx hb dX9_acts_138 rfl hl (by decide) rfl (fun ls hl => ?_)
              refine lv_iload_n hx hb dX9_acts_139 rfl (lv_at hl 0 rfl) ?_
              refine lv_iconst (v := (-1 : Int32)) hx hb dX9_acts_140 (by decide) ?_
              refine lv_icmp_eq (tgt := 149) hx hb dX9_acts_141 (by decide) (fun c22 => ?_) (fun c22 => ?_)
              · have hf := it_t c22 hf
                have hf := sm_e hf
                exact xvret hC hr hlk h hf dX9_acts_149
              · have hf := it_f c22 hf
                refine lv_aload_n hx hb dX9_acts_144 rfl (lv_at hl 1 rfl) ?_
                refine lv_iload_n hx hb dX9_acts_145 rfl (lv_at hl 0 rfl) ?_
                obtain ⟨r24, hy23, hf⟩ := ob_e hf
                refine xv0 h (va_runV (As := [.int r21]) (rest := []) hC (c_X9_beginsOrder l G q v r21 hy23 H.size) (xcwV hC lk_X9_113 in_X9 co_X9_beginsOrder im_X9_beginsOrder se_X9_beginsOrder rfl rfl dd_X9_beginsOrder ⟨Nat.le_of_ble_eq_true rfl, Nat.le_of_ble_eq_true rfl⟩) (preV0 h (Nat.le_of_ble_eq_true rfl) eMod_0 rfl [.int r21]) rfl rfl hl.1 rfl (lv_room (Nat.le_of_ble_eq_true rfl)) dX9_acts_146 ⟨Nat.zero_le _, Nat.zero_le _⟩) (fun H locs h => ?_)
                have hf := sm_e hf
                exact xvret hC hr hlk h hf dX9_acts_149
            · have hf := it_f c19 hf
              refine lv_aload_n hx hb dX9_acts_101 rfl (lv_at hl 0 rfl) ?_
              refine lv_aload_n hx hb dX9_acts_102 rfl (lv_at hl 0 rfl) ?_
              refine lv_iconst (v := (1 : Int32)) hx hb dX9_acts_103 (by decide) ?_
              obtain ⟨r26, hy25, hf⟩ := ob_e hf
              refine xiG h (va_runV (As := [.int (1 : Int32)]) (rest := [.ref (q 0)]) hC (c_X9_apart l G q v (1 : Int32) hy25 H.size) (xcwV hC lk_X9_50 in_X9 co_X9_apart im_X9_apart se_X9_apart rfl rfl dd_X9_apart ⟨Nat.le_of_ble_eq_true rfl, Nat.le_of_ble_eq_true rfl⟩) (preVO0 h.o (Nat.le_of_ble_eq_true rfl) eMod_0 rfl [.int (1 : Int32)]) rfl rfl hl.1 rfl (lv_room (Nat.le_of_ble_eq_true rfl)) dX9_acts_104 ⟨Nat.zero_le _, Nat.zero_le _⟩) (fun H locs h => ?_)
              refine lv_aload_n hx hb dX9_acts_107 rfl (lv_at hl 0 rfl) ?_
              refine lv_iconst (v := (5 : Int32)) hx hb dX9_acts_108 (by decide) ?_
              obtain ⟨r28, hy27, hf⟩ := ob_e hf
              refine xiG h (va_runV (As := [.int (5 : Int32)]) (rest := [.int r26, .ref (q 0)]) hC (c_X9_apart l G q v (5 : Int32) hy27 H.size) (xcwV hC lk_X9_50 in_X9 co_X9_apart im_X9_apart se_X9_apart rfl rfl dd_X9_apart ⟨Nat.le_of_ble_eq_true rfl, Nat.le_of_ble_eq_true rfl⟩) (preVO0 h.o (Nat.le_of_ble_eq_true rfl) eMod_0 rfl [.int (5 : Int32)]) rfl rfl hl.1 rfl (lv_room (Nat.le_of_ble_eq_true rfl)) dX9_acts_109 ⟨Nat.zero_le _, Nat.zero_le _⟩) (fun H locs h => ?_)
              obtain ⟨r30, hy29, hf⟩ := ob_e hf
              refine xiG h (va_runV (As := [.int r26, .int r28]) (rest := []) hC (c_X9_presses l G q v r26 r28 hy29 H.size) (xcwV hC lk_X9_107 in_X9 co_X9_presses im_X9_presses se_X9_presses rfl rfl dd_X9_presses ⟨Nat.le_of_ble_eq_true rfl, Nat.le_of_ble_eq_true rfl⟩) (preVO0 h.o (Nat.le_of_ble_eq_true rfl) eMod_0 rfl [.int r26, .int r28]) rfl rfl hl.1 rfl (lv_room (Nat.le_of_ble_eq_true rfl)) dX9_acts_112 ⟨Nat.zero_le _, Nat.zero_le _⟩) (fun H locs h => ?_)
              refine lv_istore_n (lv' := [(3, .int r30), (0, .ref (q 0))]) hx hb dX9_acts_115 rfl hl (by decide) rfl (fun ls hl => ?_)
              refine lv_iload_n hx hb dX9_acts_116 rfl (lv_at hl 0 rfl) ?_
              refine lv_iconst (v := (-1 : Int32)) hx hb dX9_acts_117 (by decide) ?_
              refine lv_icmp_ne (tgt := 128) hx hb dX9_acts_118 (by decide) (fun c31 => ?_) (fun c31 => ?_)
              · have hf := it_f c31 hf
                refine lv_aload_n hx hb dX9_acts_128 rfl (lv_at hl 1 rfl) ?_
                refine lv_iload_n hx hb dX9_acts_129 rfl (lv_at hl 0 rfl) ?_
                obtain ⟨r33, hy32, hf⟩ := ob_e hf
                refine xv0 h (va_runV (As := [.int r30]) (rest := []) hC (c_X9_beginsOrder l G q v r30 hy32 H.size) (xcwV hC lk_X9_113 in_X9 co_X9_beginsOrder im_X9_beginsOrder se_X9_beginsOrder rfl rfl dd_X9_beginsOrder ⟨Nat.le_of_ble_eq_true rfl, Nat.le_of_ble_eq_true rfl⟩) (preV0 h (Nat.le_of_ble_eq_true rfl) eMod_0 rfl [.int r30]) rfl rfl hl.1 rfl (lv_room (Nat.le_of_ble_eq_true rfl)) dX9_acts_130 ⟨Nat.zero_le _, Nat.zero_le _⟩) (fun H locs h => ?_)
                have hf := sm_e hf
                exact xvret hC hr hlk h hf dX9_acts_133
              · have hf := it_t c31 hf
                refine lv_aload_n hx hb dX9_acts_121 rfl (lv_at hl 1 rfl) ?_
                obtain ⟨r35, hy34, hf⟩ := ob_e hf
                refine xv0 h (va_runV (As := []) (rest := []) hC (c_X9_takesBack l G q v hy34 H.size) (xcwV hC lk_X9_119 in_X9 co_X9_takesBack im_X9_takesBack se_X9_takesBack rfl rfl dd_X9_takesBack ⟨Nat.le_of_ble_eq_true rfl, Nat.le_of_ble_eq_true rfl⟩) (preV0 h (Nat.le_of_ble_eq_true rfl) eMod_0 rfl []) rfl rfl hl.1 rfl (lv_room (Nat.le_of_ble_eq_true rfl)) dX9_acts_122 ⟨Nat.zero_le _, Nat.zero_le _⟩) (fun H locs h => ?_)
                refine lv_goto (tgt := 133) hx hb dX9_acts_125 (by decide) ?_
                have hf := sm_e hf
                exact xvret hC hr hlk h hf dX9_acts_133
          refine lv_if_eq (tgt := 94) hx hb dX9_acts_81 (by decide) (fun c36 => ?_) (fun c36 => ?_)
          · have hf := it_t c36 hf
            exact hj15 () H locs h ls (lv_sub hl [1] rfl) hf
          · have hf := it_f c36 hf
            refine lv_aload_n hx hb dX9_acts_84 rfl (lv_at hl 1 rfl) ?_
            refine lv_bipush (v := (6 : Int32)) hx hb dX9_acts_85 (by decide) ?_
            obtain ⟨r38, hy37, hf⟩ := ob_e hf
            refine xiG h (va_runV (As := [.int (6 : Int32)]) (rest := []) hC (c_X9_apart l G q v (6 : Int32) hy37 H.size) (xcwV hC lk_X9_50 in_X9 co_X9_apart im_X9_apart se_X9_apart rfl rfl dd_X9_apart ⟨Nat.le_of_ble_eq_true rfl, Nat.le_of_ble_eq_true rfl⟩) (preVO0 h.o (Nat.le_of_ble_eq_true rfl) eMod_0 rfl [.int (6 : Int32)]) rfl rfl hl.1 rfl (lv_room (Nat.le_of_ble_eq_true rfl)) dX9_acts_87 ⟨Nat.zero_le _, Nat.zero_le _⟩) (fun H locs h => ?_)
            refine lv_if_ne (tgt := 94) hx hb dX9_acts_90 (by decide) (fun c39 => ?_) (fun c39 => ?_)
            · have hf := it_f c39 hf
              exact hj15 () H locs h ls (lv_sub hl [1] rfl) hf
            · have hf := it_t c39 hf
              have hf := sm_e hf
              exact xvret hC hr hlk h hf dX9_acts_93
      · have hf := it_f c7 hf
        refine lv_aload_n hx hb dX9_acts_59 rfl (lv_at hl 1 rfl) ?_
        refine lv_iconst (v := (1 : Int32)) hx hb dX9_acts_60 (by decide) ?_
        obtain ⟨r41, hy40, hf⟩ := ob_e hf
        refine xv0 h (va_runV (As := [.int (1 : Int32)]) (rest := []) hC (c_X9_setsAside l G q v (1 : Int32) hy40 H.size) (xcwV hC lk_X9_110 in_X9 co_X9_setsAside im_X9_setsAside se_X9_setsAside rfl rfl dd_X9_setsAside ⟨Nat.le_of_ble_eq_true rfl, Nat.le_of_ble_eq_true rfl⟩) (preV0 h (Nat.le_of_ble_eq_true rfl) eMod_0 rfl [.int (1 : Int32)]) rfl rfl hl.1 rfl (lv_room (Nat.le_of_ble_eq_true rfl)) dX9_acts_61 ⟨Nat.zero_le _, Nat.zero_le _⟩) (fun H locs h => ?_)
        refine lv_aload_n hx hb dX9_acts_64 rfl (lv_at hl 1 rfl) ?_
        refine lv_iload_n hx hb dX9_acts_65 rfl (lv_at hl 0 rfl) ?_
        obtain ⟨r43, hy42, hf⟩ := ob_e hf
        refine xv0 h (va_runV (As := [.int t5]) (rest := []) hC (c_X9_beginsOrder l G q r41 t5 hy42 H.size) (xcwV hC lk_X9_113 in_X9 co_X9_beginsOrder im_X9_beginsOrder se_X9_beginsOrder rfl rfl dd_X9_beginsOrder ⟨Nat.le_of_ble_eq_true rfl, Nat.le_of_ble_eq_true rfl⟩) (preV0 h (Nat.le_of_ble_eq_true rfl) eMod_0 rfl [.int t5]) rfl rfl hl.1 rfl (lv_room (Nat.le_of_ble_eq_true rfl)) dX9_acts_66 ⟨Nat.zero_le _, Nat.zero_le _⟩) (fun H locs h => ?_)
        have hf := sm_e hf
        exact xvret hC hr hlk h hf dX9_acts_69
    refine lv_if_eq (tgt := 52) hx hb dX9_acts_32 (by decide) (fun c44 => ?_) (fun c44 => ?_)
    · have hf := it_t c44 hf
      refine lv_iconst (v := (-1 : Int32)) hx hb dX9_acts_52 (by decide) ?_
      exact hj6 (-1 : Int32) H locs h ls (lv_sub hl [1] rfl) hf
    · have hf := it_f c44 hf
      refine lv_aload_n hx hb dX9_acts_35 rfl (lv_at hl 1 rfl) ?_
      refine lv_aload_n hx hb dX9_acts_36 rfl (lv_at hl 1 rfl) ?_
      refine lv_iconst (v := (1 : Int32)) hx hb dX9_acts_37 (by decide) ?_
      obtain ⟨r46, hy45, hf⟩ := ob_e hf
      refine xiG h (va_runV (As := [.int (1 : Int32)]) (rest := [.ref (q 0)]) hC (c_X9_under l G q v (1 : Int32) hy45 H.size) (xcwV hC lk_X9_46 in_X9 co_X9_under im_X9_under se_X9_under rfl rfl dd_X9_under ⟨Nat.le_of_ble_eq_true rfl, Nat.le_of_ble_eq_true rfl⟩) (preVO0 h.o (Nat.le_of_ble_eq_true rfl) eMod_0 rfl [.int (1 : Int32)]) rfl rfl hl.1 rfl (lv_room (Nat.le_of_ble_eq_true rfl)) dX9_acts_38 ⟨Nat.zero_le _, Nat.zero_le _⟩) (fun H locs h => ?_)
      refine lv_aload_n hx hb dX9_acts_41 rfl (lv_at hl 1 rfl) ?_
      refine lv_iconst (v := (5 : Int32)) hx hb dX9_acts_42 (by decide) ?_
      obtain ⟨r48, hy47, hf⟩ := ob_e hf
      refine xiG h (va_runV (As := [.int (5 : Int32)]) (rest := [.int r46, .ref (q 0)]) hC (c_X9_under l G q v (5 : Int32) hy47 H.size) (xcwV hC lk_X9_46 in_X9 co_X9_under im_X9_under se_X9_under rfl rfl dd_X9_under ⟨Nat.le_of_ble_eq_true rfl, Nat.le_of_ble_eq_true rfl⟩) (preVO0 h.o (Nat.le_of_ble_eq_true rfl) eMod_0 rfl [.int (5 : Int32)]) rfl rfl hl.1 rfl (lv_room (Nat.le_of_ble_eq_true rfl)) dX9_acts_43 ⟨Nat.zero_le _, Nat.zero_le _⟩) (fun H locs h => ?_)
      obtain ⟨r50, hy49, hf⟩ := ob_e hf
      refine xiG h (va_runV (As := [.int r46, .int r48]) (rest := []) hC (c_X9_presses l G q v r46 r48 hy49 H.size) (xcwV hC lk_X9_107 in_X9 co_X9_presses im_X9_presses se_X9_presses rfl rfl dd_X9_presses ⟨Nat.le_of_ble_eq_true rfl, Nat.le_of_ble_eq_true rfl⟩) (preVO0 h.o (Nat.le_of_ble_eq_true rfl) eMod_0 rfl [.int r46, .int r48]) rfl rfl hl.1 rfl (lv_room (Nat.le_of_ble_eq_true rfl)) dX9_acts_46 ⟨Nat.zero_le _, Nat.zero_le _⟩) (fun H locs h => ?_)
      refine lv_goto (tgt := 53) hx hb dX9_acts_49 (by decide) ?_
      exact hj6 r50 H locs h ls (lv_sub hl [1] rfl) hf
  obtain ⟨j51, ej51, hf⟩ := lt_e hf
  have hj51 : ∀ (uu : Unit) (H : Heap) (locs : List Loc), hg G (eMod G) 8 q v A s H locs → ∀ (ls : Array Slot), lv_has ls 4 [(0, .ref (q 0))] → j51 uu = some z → W p l e { frames := 3, cells := 0, slots := 0, locals := 70 } s m [.ref (q 0)].toArray below meth c H locs 0 0 (MQ below (qV (cB G (eMod G) 8 q z A) A) [.ref (q 0)].toArray s 0 0 A) (F0 m 29 ls []) := by
    intro uu H locs h ls hl hf
    rw [ej51] at hf
    refine lv_iconst (v := (0 : Int32)) hx hb dX9_acts_29 (by decide) ?_
    exact hj4 (0 : Int32) H locs h ls (lv_sub hl [0] rfl) hf
  refine lv_icmp_ne (tgt := 29) hx hb dX9_acts_6 (by decide) (fun c52 => ?_) (fun c52 => ?_)
  · have hf := it_f c52 hf
    exact hj51 () H locs h ls (lv_sub hl [0] rfl) hf
  · have hf := it_t c52 hf
    refine lv_aload_n hx hb dX9_acts_9 rfl (lv_at hl 0 rfl) ?_
    refine lv_iconst (v := (5 : Int32)) hx hb dX9_acts_10 (by decide) ?_
    obtain ⟨r54, hy53, hf⟩ := ob_e hf
    refine xiG h (va_runV (As := [.int (5 : Int32)]) (rest := []) hC (c_X9_under l G q v (5 : Int32) hy53 H.size) (xcwV hC lk_X9_46 in_X9 co_X9_under im_X9_under se_X9_under rfl rfl dd_X9_under ⟨Nat.le_of_ble_eq_true rfl, Nat.le_of_ble_eq_true rfl⟩) (preVO0 h.o (Nat.le_of_ble_eq_true rfl) eMod_0 rfl [.int (5 : Int32)]) rfl rfl hl.1 rfl (lv_room (Nat.le_of_ble_eq_true rfl)) dX9_acts_11 ⟨Nat.zero_le _, Nat.zero_le _⟩) (fun H locs h => ?_)
    refine lv_iconst (v := (-1 : Int32)) hx hb dX9_acts_14 (by decide) ?_
    refine lv_icmp_eq (tgt := 29) hx hb dX9_acts_15 (by decide) (fun c55 => ?_) (fun c55 => ?_)
    · have hf := it_t c55 hf
      exact hj51 () H locs h ls (lv_sub hl [0] rfl) hf
    · have hf := it_f c55 hf
      refine lv_aload_n hx hb dX9_acts_18 rfl (lv_at hl 0 rfl) ?_
      obtain ⟨r57, hy56, hf⟩ := ob_e hf
      refine xzG h (va_runV (As := []) (rest := []) hC (c_X9_isAside l G q v hy56 H.size) (xcwV hC lk_X9_103 in_X9 co_X9_isAside im_X9_isAside se_X9_isAside rfl rfl dd_X9_isAside ⟨Nat.le_of_ble_eq_true rfl, Nat.le_of_ble_eq_true rfl⟩) (preVO0 h.o (Nat.le_of_ble_eq_true rfl) eMod_0 rfl []) rfl rfl hl.1 rfl (lv_room (Nat.le_of_ble_eq_true rfl)) dX9_acts_19 ⟨Nat.zero_le _, Nat.zero_le _⟩) (fun H locs hz58 h => ?_)
      refine lv_if_ne (tgt := 29) hx hb dX9_acts_22 (by decide) (fun c59 => ?_) (fun c59 => ?_)
      · have hf := it_f c59 hf
        exact hj51 () H locs h ls (lv_sub hl [0] rfl) hf
      · have hf := it_t c59 hf
        refine lv_iconst (v := (1 : Int32)) hx hb dX9_acts_25 (by decide) ?_
        refine lv_goto (tgt := 30) hx hb dX9_acts_26 (by decide) ?_
        exact hj4 (1 : Int32) H locs h ls (lv_sub hl [0] rfl) hf
def m_X9_ticks (v : xSt) : Option (Int32 × xSt) := ob (m_X9_acts v) (fun r2 => ob (m_X9_isBusy r2) (fun r4 => lt (fun (v6 : xSt) => ck (¬ ((561 : Int32) < 0 ∨ 797 ≤ (561 : Int32).toNatClampNeg)) (ck (¬ ((561 : Int32) < 0 ∨ 797 ≤ (561 : Int32).toNatClampNeg)) (lt (st2 v6 1 (561 : Int32).toNatClampNeg ((v6 1 (561 : Int32).toNatClampNeg) + (1 : Int32))) (fun v10 => some (r4, v10))))) (fun j7 => (if r4 = 0 then j7 r2 else ob (m_X9_goesOn r2) (fun r13 => j7 r13)))))
set_option maxHeartbeats 4000000 in
set_option maxRecDepth 100000 in
theorem c_X9_ticks (l : Launch) (G : xGl) (q : Nat → Nat) (v : xSt) {z : (Int32 × xSt)} (hf : m_X9_ticks v = some z) : mRW l yX9_ticks (wM yX9_ticks cX9_ticks 2 (some .boolean)) { frames := 4, cells := 0, slots := 0, locals := 93 } G (eMod G) 8 q v [.ref (q 0)] (qZ z.1) z.2 := by
  refine xRW (cc := cX9_ticks) (maxL := 2) (ret := (some .boolean)) (by decide) rfl (Nat.le_of_ble_eq_true rfl) ?_
  intro p e s m below meth c ls A hC hr hlk h hl
  have hx := hC.1
  have hb := hC.2.1
  have hl : lv_has ls 2 [(0, .ref (q 0))] := hl
  unfold m_X9_ticks at hf
  obtain ⟨H, hH⟩ : ∃ H, H = s.heap := ⟨_, rfl⟩
  obtain ⟨locs, hlo⟩ : ∃ x : List Loc, x = [] := ⟨_, rfl⟩
  have h : hg G (eMod G) 8 q v A s H locs := by rw [hH, hlo]; exact h
  rw [← hlo, ← hH]
  clear hH hlo
  refine lv_aload_n hx hb dX9_ticks_0 rfl (lv_at hl 0 rfl) ?_
  obtain ⟨r2, hy1, hf⟩ := ob_e hf
  refine xv0 h (va_runV (As := []) (rest := []) hC (c_X9_acts l G q v hy1 H.size) (xcwV hC lk_X9_126 in_X9 co_X9_acts im_X9_acts se_X9_acts rfl rfl dd_X9_acts ⟨Nat.le_of_ble_eq_true rfl, Nat.le_of_ble_eq_true rfl⟩) (preV0 h (Nat.le_of_ble_eq_true rfl) eMod_0 rfl []) rfl rfl hl.1 rfl (lv_room (Nat.le_of_ble_eq_true rfl)) dX9_ticks_1 ⟨Nat.zero_le _, Nat.zero_le _⟩) (fun H locs h => ?_)
  refine lv_aload_n hx hb dX9_ticks_4 rfl (lv_at hl 0 rfl) ?_
  obtain ⟨r4, hy3, hf⟩ := ob_e hf
  refine xzG h (va_runV (As := []) (rest := []) hC (c_X9_isBusy l G q r2 hy3 H.size) (xcwV hC lk_X9_116 in_X9 co_X9_isBusy im_X9_isBusy se_X9_isBusy rfl rfl dd_X9_isBusy ⟨Nat.le_of_ble_eq_true rfl, Nat.le_of_ble_eq_true rfl⟩) (preVO0 h.o (Nat.le_of_ble_eq_true rfl) eMod_0 rfl []) rfl rfl hl.1 rfl (lv_room (Nat.le_of_ble_eq_true rfl)) dX9_ticks_5 ⟨Nat.zero_le _, Nat.zero_le _⟩) (fun H locs hz5 h => ?_)
  refine lv_istore_n (lv' := [(1, .int r4), (0, .ref (q 0))]) hx hb dX9_ticks_8 rfl hl (by decide) rfl (fun ls hl => ?_)
  refine lv_iload_n hx hb dX9_ticks_9 rfl (lv_at hl 0 rfl) ?_
  obtain ⟨j7, ej7, hf⟩ := lt_e hf
  have hj7 : ∀ (v6 : xSt) (H : Heap) (locs : List Loc), hg G (eMod G) 8 q v6 A s H locs → ∀ (ls : Array Slot), lv_has ls 2 [(0, .ref (q 0)), (1, .int r4)] → j7 v6 = some z → W p l e { frames := 4, cells := 0, slots := 0, locals := 93 } s m [.ref (q 0)].toArray below meth c H locs 0 0 (MQ below ((qZ z.1) (cB G (eMod G) 8 q z.2 A) A) [.ref (q 0)].toArray s 0 0 A) (F0 m 17 ls []) := by
    intro v6 H locs h ls hl hf
    rw [ej7] at hf
    refine lv_aload_n hx hb dX9_ticks_17 rfl (lv_at hl 0 rfl) ?_
    refine xget hC h.o (C := RX9) (T := TX9) (N := 17) (wM_us uw_X9) 0 (Nat.le_of_ble_eq_true rfl) eMod_0 rfl 0 (by decide) (wM_in fl_X9_7) rfl dX9_ticks_18 ?_
    refine lv_sipush (v := (561 : Int32)) hx hb dX9_ticks_21 (by decide) ?_
    refine lv_dup2_11 hx hb dX9_ticks_24 rfl rfl ?_
    obtain ⟨hi8, hf⟩ := ck_e hf
    refine xiald hC h.o 1 (Nat.le_of_ble_eq_true rfl) eMod_1 hi8 dX9_ticks_25 ?_
    refine lv_iconst (v := (1 : Int32)) hx hb dX9_ticks_26 (by decide) ?_
    refine lv_iadd hx hb dX9_ticks_27 ?_
    obtain ⟨hi9, hf⟩ := ck_e hf
    refine xiast hC h 1 (Nat.le_of_ble_eq_true rfl) (fun _ => eMod_1) hi9 dX9_ticks_28 (fun H locs h => ?_)
    obtain ⟨v10, ev10, hf⟩ := lt_e hf
    rw [← ev10] at h
    refine lv_iload_n hx hb dX9_ticks_29 rfl (lv_at hl 1 rfl) ?_
    have hf := sm_e hf
    exact xzret hC hr hlk h (by rw [← hf]) hz5 (by rw [← hf]) dX9_ticks_30
  refine lv_if_eq (tgt := 17) hx hb dX9_ticks_10 (by decide) (fun c11 => ?_) (fun c11 => ?_)
  · have hf := it_t c11 hf
    exact hj7 r2 H locs h ls (lv_sub hl [1, 0] rfl) hf
  · have hf := it_f c11 hf
    refine lv_aload_n hx hb dX9_ticks_13 rfl (lv_at hl 1 rfl) ?_
    obtain ⟨r13, hy12, hf⟩ := ob_e hf
    refine xv0 h (va_runV (As := []) (rest := []) hC (c_X9_goesOn l G q r2 hy12 H.size) (xcwV hC lk_X9_129 in_X9 co_X9_goesOn im_X9_goesOn se_X9_goesOn rfl rfl dd_X9_goesOn ⟨Nat.le_of_ble_eq_true rfl, Nat.le_of_ble_eq_true rfl⟩) (preV0 h (Nat.le_of_ble_eq_true rfl) eMod_0 rfl []) rfl rfl hl.1 rfl (lv_room (Nat.le_of_ble_eq_true rfl)) dX9_ticks_14 ⟨Nat.zero_le _, Nat.zero_le _⟩) (fun H locs h => ?_)
    exact hj7 r13 H locs h ls (lv_sub hl [1, 0] rfl) hf
def m_X9_passes (v : xSt) (p1 : Int32) : Option (Int32 × xSt) := lp (fun (rec4 : Int32 × Int32 × xSt → Option (Int32 × xSt)) => un3 (fun (a1 : Int32) (a2 : Int32) (v3 : xSt) => (if p1 ≤ a2 then some (a1, v3) else ob (m_X9_ticks v3) (fun r7 => lt (r7.2) (fun v9 => lt (fun (t10 : Int32) (t11 : Int32) => rec4 ((t10 + t11), (a2 + 1), v9)) (fun j12 => (if r7.1 = 0 then j12 a1 (0 : Int32) else j12 a1 (1 : Int32)))))))) xF ((0 : Int32), (0 : Int32), v)
set_option maxHeartbeats 4000000 in
set_option maxRecDepth 100000 in
theorem c_X9_passes (l : Launch) (G : xGl) (q : Nat → Nat) (v : xSt) (p1 : Int32) {z : (Int32 × xSt)} (hf : m_X9_passes v p1 = some z) : mRW l yX9_passes (wM yX9_passes cX9_passes 4 (some .int)) { frames := 5, cells := 0, slots := 0, locals := 114 } G (eMod G) 8 q v [.ref (q 0), .int p1] (qI z.1) z.2 := by
  refine xRW (cc := cX9_passes) (maxL := 4) (ret := (some .int)) (by decide) rfl (Nat.le_of_ble_eq_true rfl) ?_
  intro p e s m below meth c ls A hC hr hlk h hl
  have hx := hC.1
  have hb := hC.2.1
  have hl : lv_has ls 4 [(0, .ref (q 0)), (1, .int p1)] := hl
  unfold m_X9_passes at hf
  obtain ⟨H, hH⟩ : ∃ H, H = s.heap := ⟨_, rfl⟩
  obtain ⟨locs, hlo⟩ : ∃ x : List Loc, x = [] := ⟨_, rfl⟩
  have h : hg G (eMod G) 8 q v A s H locs := by rw [hH, hlo]; exact h
  rw [← hlo, ← hH]
  clear hH hlo
  refine lv_iconst (v := (0 : Int32)) hx hb dX9_passes_0 (by decide) ?_
  refine lv_istore_n (lv' := [(2, .int (0 : Int32)), (0, .ref (q 0)), (1, .int p1)]) hx hb dX9_passes_1 rfl hl (by decide) rfl (fun ls hl => ?_)
  refine lv_iconst (v := (0 : Int32)) hx hb dX9_passes_2 (by decide) ?_
  refine lv_istore_n (lv' := [(3, .int (0 : Int32)), (2, .int (0 : Int32)), (0, .ref (q 0)), (1, .int p1)]) hx hb dX9_passes_3 rfl hl (by decide) rfl (fun ls hl => ?_)
  refine lp_i (z := z) (P := fun (pp : Int32 × Int32 × xSt) => ∀ (H : Heap) (locs : List Loc), hg G (eMod G) 8 q pp.2.2 A s H locs → ∀ (ls : Array Slot), lv_has ls 4 [(0, .ref (q 0)), (1, .int p1), (2, .int pp.1), (3, .int pp.2.1)] → W p l e { frames := 5, cells := 0, slots := 0, locals := 114 } s m [.ref (q 0), .int p1].toArray below meth c H locs 0 0 (MQ below ((qI z.1) (cB G (eMod G) 8 q z.2 A) A) [.ref (q 0), .int p1].toArray s 0 0 A) (F0 m 4 ls [])) ?_ _ _ hf H locs h ls (lv_sub hl [2, 3, 1, 0] rfl)
  intro rec4 hrec4 pp hf H locs h ls hl
  obtain ⟨a1, a2, v3⟩ := pp
  have h : hg G (eMod G) 8 q v3 A s H locs := h
  have hl : lv_has ls 4 [(0, .ref (q 0)), (1, .int p1), (2, .int a1), (3, .int a2)] := hl
  have hf := un3_e hf
  refine lv_iload_n hx hb dX9_passes_4 rfl (lv_at hl 3 rfl) ?_
  refine lv_iload_n hx hb dX9_passes_5 rfl (lv_at hl 1 rfl) ?_
  refine lv_icmp_ge (tgt := 30) hx hb dX9_passes_6 (by decide) (fun c5 => ?_) (fun c5 => ?_)
  · have hf := it_t c5 hf
    refine lv_iload_n hx hb dX9_passes_30 rfl (lv_at hl 2 rfl) ?_
    have hf := sm_e hf
    exact xiret hC hr hlk h (by rw [← hf]) (by rw [← hf]) dX9_passes_31
  · have hf := it_f c5 hf
    refine lv_iload_n hx hb dX9_passes_9 rfl (lv_at hl 2 rfl) ?_
    refine lv_aload_n hx hb dX9_passes_10 rfl (lv_at hl 0 rfl) ?_
    obtain ⟨r7, hy6, hf⟩ := ob_e hf
    refine xz0 h (va_runV (As := []) (rest := [.int a1]) hC (c_X9_ticks l G q v3 hy6 H.size) (xcwV hC lk_X9_132 in_X9 co_X9_ticks im_X9_ticks se_X9_ticks rfl rfl dd_X9_ticks ⟨Nat.le_of_ble_eq_true rfl, Nat.le_of_ble_eq_true rfl⟩) (preV0 h (Nat.le_of_ble_eq_true rfl) eMod_0 rfl []) rfl rfl hl.1 rfl (lv_room (Nat.le_of_ble_eq_true rfl)) dX9_passes_11 ⟨Nat.zero_le _, Nat.zero_le _⟩) (fun H locs hz8 h => ?_)
    obtain ⟨v9, ev9, hf⟩ := lt_e hf
    rw [← ev9] at h
    obtain ⟨j12, ej12, hf⟩ := lt_e hf
    have hj12 : ∀ (t10 : Int32) (t11 : Int32) (H : Heap) (locs : List Loc), hg G (eMod G) 8 q v9 A s H locs → ∀ (ls : Array Slot), lv_has ls 4 [(0, .ref (q 0)), (1, .int p1), (3, .int a2)] → j12 t10 t11 = some z → W p l e { frames := 5, cells := 0, slots := 0, locals := 114 } s m [.ref (q 0), .int p1].toArray below meth c H locs 0 0 (MQ below ((qI z.1) (cB G (eMod G) 8 q z.2 A) A) [.ref (q 0), .int p1].toArray s 0 0 A) (F0 m 22 ls [.int t11, .int t10]) := by
      intro t10 t11 H locs h ls hl hf
      rw [ej12] at hf
      refine lv_iadd hx hb dX9_passes_22 ?_
      refine lv_istore_n (lv' := [(2, .int (t10 + t11)), (0, .ref (q 0)), (1, .int p1), (3, .int a2)]) hx hb dX9_passes_23 rfl hl (by decide) rfl (fun ls hl => ?_)
      refine lv_iinc (v := (a2 + 1)) (lv' := [(3, .int (a2 + 1)), (2, .int (t10 + t11)), (0, .ref (q 0)), (1, .int p1)]) hx hb dX9_passes_24 hl (k := 3) rfl rfl (by decide) rfl (fun ls hl => ?_)
      refine lv_goto (tgt := 4) hx hb dX9_passes_27 (by decide) ?_
      exact hrec4 ((t10 + t11), (a2 + 1), v9) hf H locs h ls (lv_sub hl [2, 3, 1, 0] rfl)
    refine lv_if_eq (tgt := 21) hx hb dX9_passes_14 (by decide) (fun c13 => ?_) (fun c13 => ?_)
    · have hf := it_t c13 hf
      refine lv_iconst (v := (0 : Int32)) hx hb dX9_passes_21 (by decide) ?_
      exact hj12 a1 (0 : Int32) H locs h ls (lv_sub hl [0, 1, 3] rfl) hf
    · have hf := it_f c13 hf
      refine lv_iconst (v := (1 : Int32)) hx hb dX9_passes_17 (by decide) ?_
      refine lv_goto (tgt := 22) hx hb dX9_passes_18 (by decide) ?_
      exact hj12 a1 (1 : Int32) H locs h ls (lv_sub hl [0, 1, 3] rfl) hf
def m_X9_allows (v : xSt) (p1 : Int32) (p2 : Int32) : Option (Int32) := ob (m_X9_isAside v) (fun r2 => (if r2 = 0 then some (1 : Int32) else ob (m_X9_apart v (0 : Int32)) (fun r6 => lt (fun (_ : Unit) => some (0 : Int32)) (fun j7 => (if r6 = (2 : Int32) then (if p1 = (1 : Int32) then ob (m_X9_apart v (1 : Int32)) (fun r11 => (if (p2 / (32 : Int32)) = r11 then j7 () else some (1 : Int32))) else j7 ()) else j7 ())))))
set_option maxHeartbeats 4000000 in
set_option maxRecDepth 100000 in
theorem c_X9_allows (l : Launch) (G : xGl) (q : Nat → Nat) (v : xSt) (p1 : Int32) (p2 : Int32) {z : (Int32)} (hf : m_X9_allows v p1 p2 = some z) : mRO l yX9_allows (wM yX9_allows cX9_allows 3 (some .boolean)) { frames := 2, cells := 0, slots := 0, locals := 41 } G (eMod G) 8 q v [.ref (q 0), .int p1, .int p2] (qZ z) := by
  refine xRO (cc := cX9_allows) (maxL := 3) (ret := (some .boolean)) (by decide) rfl (Nat.le_of_ble_eq_true rfl) ?_
  intro p e s m below meth c ls A hC hr hlk h hl
  have hx := hC.1
  have hb := hC.2.1
  have hl : lv_has ls 3 [(0, .ref (q 0)), (1, .int p1), (2, .int p2)] := hl
  unfold m_X9_allows at hf
  obtain ⟨H, hH⟩ : ∃ H, H = s.heap := ⟨_, rfl⟩
  obtain ⟨locs, hlo⟩ : ∃ x : List Loc, x = [] := ⟨_, rfl⟩
  have h : ho G (eMod G) 8 q v A s H locs := by rw [hH, hlo]; exact h
  rw [← hlo, ← hH]
  clear hH hlo
  refine lv_aload_n hx hb dX9_allows_0 rfl (lv_at hl 0 rfl) ?_
  obtain ⟨r2, hy1, hf⟩ := ob_e hf
  refine xzO h (va_runV (As := []) (rest := []) hC (c_X9_isAside l G q v hy1 H.size) (xcwV hC lk_X9_103 in_X9 co_X9_isAside im_X9_isAside se_X9_isAside rfl rfl dd_X9_isAside ⟨Nat.le_of_ble_eq_true rfl, Nat.le_of_ble_eq_true rfl⟩) (preVO0 h.o (Nat.le_of_ble_eq_true rfl) eMod_0 rfl []) rfl rfl hl.1 rfl (lv_room (Nat.le_of_ble_eq_true rfl)) dX9_allows_1 ⟨Nat.zero_le _, Nat.zero_le _⟩) (fun H locs hz3 h => ?_)
  refine lv_if_ne (tgt := 9) hx hb dX9_allows_4 (by decide) (fun c4 => ?_) (fun c4 => ?_)
  · have hf := it_f c4 hf
    refine lv_aload_n hx hb dX9_allows_9 rfl (lv_at hl 0 rfl) ?_
    refine lv_iconst (v := (0 : Int32)) hx hb dX9_allows_10 (by decide) ?_
    obtain ⟨r6, hy5, hf⟩ := ob_e hf
    refine xiO h (va_runV (As := [.int (0 : Int32)]) (rest := []) hC (c_X9_apart l G q v (0 : Int32) hy5 H.size) (xcwV hC lk_X9_50 in_X9 co_X9_apart im_X9_apart se_X9_apart rfl rfl dd_X9_apart ⟨Nat.le_of_ble_eq_true rfl, Nat.le_of_ble_eq_true rfl⟩) (preVO0 h.o (Nat.le_of_ble_eq_true rfl) eMod_0 rfl [.int (0 : Int32)]) rfl rfl hl.1 rfl (lv_room (Nat.le_of_ble_eq_true rfl)) dX9_allows_11 ⟨Nat.zero_le _, Nat.zero_le _⟩) (fun H locs h => ?_)
    refine lv_iconst (v := (2 : Int32)) hx hb dX9_allows_14 (by decide) ?_
    obtain ⟨j7, ej7, hf⟩ := lt_e hf
    have hj7 : ∀ (uu : Unit) (H : Heap) (locs : List Loc), ho G (eMod G) 8 q v A s H locs → ∀ (ls : Array Slot), lv_has ls 3 [] → j7 uu = some z → W p l e { frames := 2, cells := 0, slots := 0, locals := 41 } s m [.ref (q 0), .int p1, .int p2].toArray below meth c H locs 0 0 (MQ below ((qZ z) (fun _ => True) A) [.ref (q 0), .int p1, .int p2].toArray s 0 0 A) (F0 m 39 ls []) := by
      intro uu H locs h ls hl hf
      rw [ej7] at hf
      refine lv_iconst (v := (0 : Int32)) hx hb dX9_allows_39 (by decide) ?_
      have hf := sm_e hf
      exact ozret hC hr hlk h (by rw [← hf]) (by decide) dX9_allows_40
    refine lv_icmp_ne (tgt := 39) hx hb dX9_allows_15 (by decide) (fun c8 => ?_) (fun c8 => ?_)
    · have hf := it_f c8 hf
      exact hj7 () H locs h ls (lv_sub hl [] rfl) hf
    · have hf := it_t c8 hf
      refine lv_iload_n hx hb dX9_allows_18 rfl (lv_at hl 1 rfl) ?_
      refine lv_iconst (v := (1 : Int32)) hx hb dX9_allows_19 (by decide) ?_
      refine lv_icmp_ne (tgt := 39) hx hb dX9_allows_20 (by decide) (fun c9 => ?_) (fun c9 => ?_)
      · have hf := it_f c9 hf
        exact hj7 () H locs h ls (lv_sub hl [] rfl) hf
      · have hf := it_t c9 hf
        refine lv_iload_n hx hb dX9_allows_23 rfl (lv_at hl 2 rfl) ?_
        refine lv_bipush (v := (32 : Int32)) hx hb dX9_allows_24 (by decide) ?_
        refine lv_idiv hx hb dX9_allows_26 (by decide) ?_
        refine lv_aload_n hx hb dX9_allows_27 rfl (lv_at hl 0 rfl) ?_
        refine lv_iconst (v := (1 : Int32)) hx hb dX9_allows_28 (by decide) ?_
        obtain ⟨r11, hy10, hf⟩ := ob_e hf
        refine xiO h (va_runV (As := [.int (1 : Int32)]) (rest := [.int (p2 / (32 : Int32))]) hC (c_X9_apart l G q v (1 : Int32) hy10 H.size) (xcwV hC lk_X9_50 in_X9 co_X9_apart im_X9_apart se_X9_apart rfl rfl dd_X9_apart ⟨Nat.le_of_ble_eq_true rfl, Nat.le_of_ble_eq_true rfl⟩) (preVO0 h.o (Nat.le_of_ble_eq_true rfl) eMod_0 rfl [.int (1 : Int32)]) rfl rfl hl.1 rfl (lv_room (Nat.le_of_ble_eq_true rfl)) dX9_allows_29 ⟨Nat.zero_le _, Nat.zero_le _⟩) (fun H locs h => ?_)
        refine lv_icmp_eq (tgt := 39) hx hb dX9_allows_32 (by decide) (fun c12 => ?_) (fun c12 => ?_)
        · have hf := it_t c12 hf
          exact hj7 () H locs h ls (lv_sub hl [] rfl) hf
        · have hf := it_f c12 hf
          refine lv_iconst (v := (1 : Int32)) hx hb dX9_allows_35 (by decide) ?_
          refine lv_goto (tgt := 40) hx hb dX9_allows_36 (by decide) ?_
          have hf := sm_e hf
          exact ozret hC hr hlk h (by rw [← hf]) (by decide) dX9_allows_40
  · have hf := it_t c4 hf
    refine lv_iconst (v := (1 : Int32)) hx hb dX9_allows_7 (by decide) ?_
    have hf := sm_e hf
    exact ozret hC hr hlk h (by rw [← hf]) (by decide) dX9_allows_8
def m_X9_whyNot (v : xSt) (p1 : Int32) (p2 : Int32) : Option (Int32) := ob (m_X9_isBusy v) (fun r2 => (if r2 = 0 then ck (¬ ((552 : Int32) < 0 ∨ 797 ≤ (552 : Int32).toNatClampNeg)) ((if (v 1 (552 : Int32).toNatClampNeg) = 0 then some (2 : Int32) else lt (fun (_ : Unit) => ob (m_X9_allows v p1 p2) (fun r9 => (if r9 = 0 then some (4 : Int32) else lt (fun (_ : Unit) => some (0 : Int32)) (fun j12 => (if p1 = (1 : Int32) then ck (¬ ((567 : Int32) < 0 ∨ 797 ≤ (567 : Int32).toNatClampNeg)) ((if (v 1 (567 : Int32).toNatClampNeg) = 0 then some (5 : Int32) else j12 ())) else j12 ()))))) (fun j7 => (if p1 = (3 : Int32) then ck (¬ ((553 : Int32) < 0 ∨ 797 ≤ (553 : Int32).toNatClampNeg)) ((if (v 1 (553 : Int32).toNatClampNeg) = (1 : Int32) then some (3 : Int32) else j7 ())) else ob (m_X9_sectorOf v p1 p2) (fun r18 => ob (m_X9_isLocked v r18) (fun r20 => (if r20 = 0 then j7 () else some (3 : Int32)))))))) else some (1 : Int32)))
set_option maxHeartbeats 4000000 in
set_option maxRecDepth 100000 in
theorem c_X9_whyNot (l : Launch) (G : xGl) (q : Nat → Nat) (v : xSt) (p1 : Int32) (p2 : Int32) {z : (Int32)} (hf : m_X9_whyNot v p1 p2 = some z) : mRO l yX9_whyNot (wM yX9_whyNot cX9_whyNot 3 (some .int)) { frames := 3, cells := 0, slots := 0, locals := 63 } G (eMod G) 8 q v [.ref (q 0), .int p1, .int p2] (qI z) := by
  refine xRO (cc := cX9_whyNot) (maxL := 3) (ret := (some .int)) (by decide) rfl (Nat.le_of_ble_eq_true rfl) ?_
  intro p e s m below meth c ls A hC hr hlk h hl
  have hx := hC.1
  have hb := hC.2.1
  have hl : lv_has ls 3 [(0, .ref (q 0)), (1, .int p1), (2, .int p2)] := hl
  unfold m_X9_whyNot at hf
  obtain ⟨H, hH⟩ : ∃ H, H = s.heap := ⟨_, rfl⟩
  obtain ⟨locs, hlo⟩ : ∃ x : List Loc, x = [] := ⟨_, rfl⟩
  have h : ho G (eMod G) 8 q v A s H locs := by rw [hH, hlo]; exact h
  rw [← hlo, ← hH]
  clear hH hlo
  refine lv_aload_n hx hb dX9_whyNot_0 rfl (lv_at hl 0 rfl) ?_
  obtain ⟨r2, hy1, hf⟩ := ob_e hf
  refine xzO h (va_runV (As := []) (rest := []) hC (c_X9_isBusy l G q v hy1 H.size) (xcwV hC lk_X9_116 in_X9 co_X9_isBusy im_X9_isBusy se_X9_isBusy rfl rfl dd_X9_isBusy ⟨Nat.le_of_ble_eq_true rfl, Nat.le_of_ble_eq_true rfl⟩) (preVO0 h.o (Nat.le_of_ble_eq_true rfl) eMod_0 rfl []) rfl rfl hl.1 rfl (lv_room (Nat.le_of_ble_eq_true rfl)) dX9_whyNot_1 ⟨Nat.zero_le _, Nat.zero_le _⟩) (fun H locs hz3 h => ?_)
  refine lv_if_eq (tgt := 9) hx hb dX9_whyNot_4 (by decide) (fun c4 => ?_) (fun c4 => ?_)
  · have hf := it_t c4 hf
    refine lv_aload_n hx hb dX9_whyNot_9 rfl (lv_at hl 0 rfl) ?_
    refine xget hC h.o (C := RX9) (T := TX9) (N := 17) (wM_us uw_X9) 0 (Nat.le_of_ble_eq_true rfl) eMod_0 rfl 0 (by decide) (wM_in fl_X9_7) rfl dX9_whyNot_10 ?_
    refine lv_sipush (v := (552 : Int32)) hx hb dX9_whyNot_13 (by decide) ?_
    obtain ⟨hi5, hf⟩ := ck_e hf
    refine xiald hC h.o 1 (Nat.le_of_ble_eq_true rfl) eMod_1 hi5 dX9_whyNot_16 ?_
    refine lv_if_ne (tgt := 22) hx hb dX9_whyNot_17 (by decide) (fun c6 => ?_) (fun c6 => ?_)
    · have hf := it_f c6 hf
      refine lv_iload_n hx hb dX9_whyNot_22 rfl (lv_at hl 1 rfl) ?_
      refine lv_iconst (v := (3 : Int32)) hx hb dX9_whyNot_23 (by decide) ?_
      obtain ⟨j7, ej7, hf⟩ := lt_e hf
      have hj7 : ∀ (uu : Unit) (H : Heap) (locs : List Loc), ho G (eMod G) 8 q v A s H locs → ∀ (ls : Array Slot), lv_has ls 3 [(0, .ref (q 0)), (1, .int p1), (2, .int p2)] → j7 uu = some z → W p l e { frames := 3, cells := 0, slots := 0, locals := 63 } s m [.ref (q 0), .int p1, .int p2].toArray below meth c H locs 0 0 (MQ below ((qI z) (fun _ => True) A) [.ref (q 0), .int p1, .int p2].toArray s 0 0 A) (F0 m 57 ls []) := by
        intro uu H locs h ls hl hf
        rw [ej7] at hf
        refine lv_aload_n hx hb dX9_whyNot_57 rfl (lv_at hl 0 rfl) ?_
        refine lv_iload_n hx hb dX9_whyNot_58 rfl (lv_at hl 1 rfl) ?_
        refine lv_iload_n hx hb dX9_whyNot_59 rfl (lv_at hl 2 rfl) ?_
        obtain ⟨r9, hy8, hf⟩ := ob_e hf
        refine xzO h (va_runV (As := [.int p1, .int p2]) (rest := []) hC (c_X9_allows l G q v p1 p2 hy8 H.size) (xcwV hC lk_X9_138 in_X9 co_X9_allows im_X9_allows se_X9_allows rfl rfl dd_X9_allows ⟨Nat.le_of_ble_eq_true rfl, Nat.le_of_ble_eq_true rfl⟩) (preVO0 h.o (Nat.le_of_ble_eq_true rfl) eMod_0 rfl [.int p1, .int p2]) rfl rfl hl.1 rfl (lv_room (Nat.le_of_ble_eq_true rfl)) dX9_whyNot_60 ⟨Nat.zero_le _, Nat.zero_le _⟩) (fun H locs hz10 h => ?_)
        refine lv_if_ne (tgt := 70) hx hb dX9_whyNot_63 (by decide) (fun c11 => ?_) (fun c11 => ?_)
        · have hf := it_f c11 hf
          refine lv_iload_n hx hb dX9_whyNot_70 rfl (lv_at hl 1 rfl) ?_
          refine lv_iconst (v := (1 : Int32)) hx hb dX9_whyNot_71 (by decide) ?_
          obtain ⟨j12, ej12, hf⟩ := lt_e hf
          have hj12 : ∀ (uu : Unit) (H : Heap) (locs : List Loc), ho G (eMod G) 8 q v A s H locs → ∀ (ls : Array Slot), lv_has ls 3 [] → j12 uu = some z → W p l e { frames := 3, cells := 0, slots := 0, locals := 63 } s m [.ref (q 0), .int p1, .int p2].toArray below meth c H locs 0 0 (MQ below ((qI z) (fun _ => True) A) [.ref (q 0), .int p1, .int p2].toArray s 0 0 A) (F0 m 90 ls []) := by
            intro uu H locs h ls hl hf
            rw [ej12] at hf
            refine lv_iconst (v := (0 : Int32)) hx hb dX9_whyNot_90 (by decide) ?_
            have hf := sm_e hf
            exact oiret hC hr hlk h (by rw [← hf]) dX9_whyNot_91
          refine lv_icmp_ne (tgt := 90) hx hb dX9_whyNot_72 (by decide) (fun c13 => ?_) (fun c13 => ?_)
          · have hf := it_f c13 hf
            exact hj12 () H locs h ls (lv_sub hl [] rfl) hf
          · have hf := it_t c13 hf
            refine lv_aload_n hx hb dX9_whyNot_75 rfl (lv_at hl 0 rfl) ?_
            refine xget hC h.o (C := RX9) (T := TX9) (N := 17) (wM_us uw_X9) 0 (Nat.le_of_ble_eq_true rfl) eMod_0 rfl 0 (by decide) (wM_in fl_X9_7) rfl dX9_whyNot_76 ?_
            refine lv_sipush (v := (567 : Int32)) hx hb dX9_whyNot_79 (by decide) ?_
            obtain ⟨hi14, hf⟩ := ck_e hf
            refine xiald hC h.o 1 (Nat.le_of_ble_eq_true rfl) eMod_1 hi14 dX9_whyNot_82 ?_
            refine lv_if_ne (tgt := 90) hx hb dX9_whyNot_83 (by decide) (fun c15 => ?_) (fun c15 => ?_)
            · have hf := it_f c15 hf
              exact hj12 () H locs h ls (lv_sub hl [] rfl) hf
            · have hf := it_t c15 hf
              refine lv_iconst (v := (5 : Int32)) hx hb dX9_whyNot_86 (by decide) ?_
              refine lv_goto (tgt := 91) hx hb dX9_whyNot_87 (by decide) ?_
              have hf := sm_e hf
              exact oiret hC hr hlk h (by rw [← hf]) dX9_whyNot_91
        · have hf := it_t c11 hf
          refine lv_iconst (v := (4 : Int32)) hx hb dX9_whyNot_66 (by decide) ?_
          refine lv_goto (tgt := 91) hx hb dX9_whyNot_67 (by decide) ?_
          have hf := sm_e hf
          exact oiret hC hr hlk h (by rw [← hf]) dX9_whyNot_91
      refine lv_icmp_ne (tgt := 42) hx hb dX9_whyNot_24 (by decide) (fun c16 => ?_) (fun c16 => ?_)
      · have hf := it_f c16 hf
        refine lv_aload_n hx hb dX9_whyNot_42 rfl (lv_at hl 0 rfl) ?_
        refine lv_aload_n hx hb dX9_whyNot_43 rfl (lv_at hl 0 rfl) ?_
        refine lv_iload_n hx hb dX9_whyNot_44 rfl (lv_at hl 1 rfl) ?_
        refine lv_iload_n hx hb dX9_whyNot_45 rfl (lv_at hl 2 rfl) ?_
        obtain ⟨r18, hy17, hf⟩ := ob_e hf
        refine xiO h (va_runV (As := [.int p1, .int p2]) (rest := [.ref (q 0)]) hC (c_X9_sectorOf l G q v p1 p2 hy17 H.size) (xcwV hC lk_X9_135 in_X9 co_X9_sectorOf im_X9_sectorOf se_X9_sectorOf rfl rfl dd_X9_sectorOf ⟨Nat.le_of_ble_eq_true rfl, Nat.le_of_ble_eq_true rfl⟩) (preVO0 h.o (Nat.le_of_ble_eq_true rfl) eMod_0 rfl [.int p1, .int p2]) rfl rfl hl.1 rfl (lv_room (Nat.le_of_ble_eq_true rfl)) dX9_whyNot_46 ⟨Nat.zero_le _, Nat.zero_le _⟩) (fun H locs h => ?_)
        obtain ⟨r20, hy19, hf⟩ := ob_e hf
        refine xzO h (va_runV (As := [.int r18]) (rest := []) hC (c_X9_isLocked l G q v r18 hy19 H.size) (xcwV hC lk_X9_99 in_X9 co_X9_isLocked im_X9_isLocked se_X9_isLocked rfl rfl dd_X9_isLocked ⟨Nat.le_of_ble_eq_true rfl, Nat.le_of_ble_eq_true rfl⟩) (preVO0 h.o (Nat.le_of_ble_eq_true rfl) eMod_0 rfl [.int r18]) rfl rfl hl.1 rfl (lv_room (Nat.le_of_ble_eq_true rfl)) dX9_whyNot_49 ⟨Nat.zero_le _, Nat.zero_le _⟩) (fun H locs hz21 h => ?_)
        refine lv_if_eq (tgt := 57) hx hb dX9_whyNot_52 (by decide) (fun c22 => ?_) (fun c22 => ?_)
        · have hf := it_t c22 hf
          exact hj7 () H locs h ls (lv_sub hl [0, 1, 2] rfl) hf
        · have hf := it_f c22 hf
          refine lv_iconst (v := (3 : Int32)) hx hb dX9_whyNot_55 (by decide) ?_
          have hf := sm_e hf
          exact oiret hC hr hlk h (by rw [← hf]) dX9_whyNot_56
      · have hf := it_t c16 hf
        refine lv_aload_n hx hb dX9_whyNot_27 rfl (lv_at hl 0 rfl) ?_
        refine xget hC h.o (C := RX9) (T := TX9) (N := 17) (wM_us uw_X9) 0 (Nat.le_of_ble_eq_true rfl) eMod_0 rfl 0 (by decide) (wM_in fl_X9_7) rfl dX9_whyNot_28 ?_
        refine lv_sipush (v := (553 : Int32)) hx hb dX9_whyNot_31 (by decide) ?_
        obtain ⟨hi23, hf⟩ := ck_e hf
        refine xiald hC h.o 1 (Nat.le_of_ble_eq_true rfl) eMod_1 hi23 dX9_whyNot_34 ?_
        refine lv_iconst (v := (1 : Int32)) hx hb dX9_whyNot_35 (by decide) ?_
        refine lv_icmp_ne (tgt := 57) hx hb dX9_whyNot_36 (by decide) (fun c24 => ?_) (fun c24 => ?_)
        · have hf := it_f c24 hf
          exact hj7 () H locs h ls (lv_sub hl [0, 1, 2] rfl) hf
        · have hf := it_t c24 hf
          refine lv_goto (tgt := 55) hx hb dX9_whyNot_39 (by decide) ?_
          refine lv_iconst (v := (3 : Int32)) hx hb dX9_whyNot_55 (by decide) ?_
          have hf := sm_e hf
          exact oiret hC hr hlk h (by rw [← hf]) dX9_whyNot_56
    · have hf := it_t c6 hf
      refine lv_iconst (v := (2 : Int32)) hx hb dX9_whyNot_20 (by decide) ?_
      have hf := sm_e hf
      exact oiret hC hr hlk h (by rw [← hf]) dX9_whyNot_21
  · have hf := it_f c4 hf
    refine lv_iconst (v := (1 : Int32)) hx hb dX9_whyNot_7 (by decide) ?_
    have hf := sm_e hf
    exact oiret hC hr hlk h (by rw [← hf]) dX9_whyNot_8
def m_X9_arm (v : xSt) : Option (Int32 × xSt) := lt (st2 v 0 8 (0 : Int32)) (fun v1 => ob (m_X9_isBusy v1) (fun r3 => (if r3 = 0 then ob (m_X9_saves v1) (fun r7 => ck (¬ ((552 : Int32) < 0 ∨ 797 ≤ (552 : Int32).toNatClampNeg)) (ck (¬ ((552 : Int32) < 0 ∨ 797 ≤ (552 : Int32).toNatClampNeg)) (lt (st2 r7 1 (552 : Int32).toNatClampNeg (1 : Int32)) (fun v10 => some ((r7 1 (552 : Int32).toNatClampNeg), v10))))) else ob (m_X9_fails v1 (1 : Int32)) (fun r12 => lt (r12.2) (fun v13 => some (r12.1, v13))))))
set_option maxHeartbeats 4000000 in
set_option maxRecDepth 100000 in
theorem c_X9_arm (l : Launch) (G : xGl) (q : Nat → Nat) (v : xSt) {z : (Int32 × xSt)} (hf : m_X9_arm v = some z) : mRW l yX9_arm (wM yX9_arm cX9_arm 2 (some .int)) { frames := 2, cells := 0, slots := 0, locals := 45 } G (eMod G) 8 q v [.ref (q 0)] (qI z.1) z.2 := by
  refine xRW (cc := cX9_arm) (maxL := 2) (ret := (some .int)) (by decide) rfl (Nat.le_of_ble_eq_true rfl) ?_
  intro p e s m below meth c ls A hC hr hlk h hl
  have hx := hC.1
  have hb := hC.2.1
  have hl : lv_has ls 2 [(0, .ref (q 0))] := hl
  unfold m_X9_arm at hf
  obtain ⟨H, hH⟩ : ∃ H, H = s.heap := ⟨_, rfl⟩
  obtain ⟨locs, hlo⟩ : ∃ x : List Loc, x = [] := ⟨_, rfl⟩
  have h : hg G (eMod G) 8 q v A s H locs := by rw [hH, hlo]; exact h
  rw [← hlo, ← hH]
  clear hH hlo
  refine lv_aload_n hx hb dX9_arm_0 rfl (lv_at hl 0 rfl) ?_
  refine lv_iconst (v := (0 : Int32)) hx hb dX9_arm_1 (by decide) ?_
  refine xput hC h (C := RX9) (T := TX9) (N := 17) (wM_us uw_X9) tyX9_ok nmX9 0 (Nat.le_of_ble_eq_true rfl) eMod_0 rfl 8 (by decide) (wM_in fl_X9_31) rfl (ty := .int) (tyX9_ok 8 (by decide)) rfl rfl (Nat.le_of_ble_eq_true rfl) (eMod_0.trans rfl) dX9_arm_2 (fun H locs h => ?_)
  obtain ⟨v1, ev1, hf⟩ := lt_e hf
  rw [← ev1] at h
  refine lv_aload_n hx hb dX9_arm_5 rfl (lv_at hl 0 rfl) ?_
  obtain ⟨r3, hy2, hf⟩ := ob_e hf
  refine xzG h (va_runV (As := []) (rest := []) hC (c_X9_isBusy l G q v1 hy2 H.size) (xcwV hC lk_X9_116 in_X9 co_X9_isBusy im_X9_isBusy se_X9_isBusy rfl rfl dd_X9_isBusy ⟨Nat.le_of_ble_eq_true rfl, Nat.le_of_ble_eq_true rfl⟩) (preVO0 h.o (Nat.le_of_ble_eq_true rfl) eMod_0 rfl []) rfl rfl hl.1 rfl (lv_room (Nat.le_of_ble_eq_true rfl)) dX9_arm_6 ⟨Nat.zero_le _, Nat.zero_le _⟩) (fun H locs hz4 h => ?_)
  refine lv_if_eq (tgt := 18) hx hb dX9_arm_9 (by decide) (fun c5 => ?_) (fun c5 => ?_)
  · have hf := it_t c5 hf
    refine lv_aload_n hx hb dX9_arm_18 rfl (lv_at hl 0 rfl) ?_
    obtain ⟨r7, hy6, hf⟩ := ob_e hf
    refine xv0 h (va_runV (As := []) (rest := []) hC (c_X9_saves l G q v1 hy6 H.size) (xcwV hC lk_X9_145 in_X9 co_X9_saves im_X9_saves se_X9_saves rfl rfl dd_X9_saves ⟨Nat.le_of_ble_eq_true rfl, Nat.le_of_ble_eq_true rfl⟩) (preV0 h (Nat.le_of_ble_eq_true rfl) eMod_0 rfl []) rfl rfl hl.1 rfl (lv_room (Nat.le_of_ble_eq_true rfl)) dX9_arm_19 ⟨Nat.zero_le _, Nat.zero_le _⟩) (fun H locs h => ?_)
    refine lv_aload_n hx hb dX9_arm_22 rfl (lv_at hl 0 rfl) ?_
    refine xget hC h.o (C := RX9) (T := TX9) (N := 17) (wM_us uw_X9) 0 (Nat.le_of_ble_eq_true rfl) eMod_0 rfl 0 (by decide) (wM_in fl_X9_7) rfl dX9_arm_23 ?_
    refine lv_sipush (v := (552 : Int32)) hx hb dX9_arm_26 (by decide) ?_
    obtain ⟨hi8, hf⟩ := ck_e hf
    refine xiald hC h.o 1 (Nat.le_of_ble_eq_true rfl) eMod_1 hi8 dX9_arm_29 ?_
    refine lv_istore_n (lv' := [(1, .int (r7 1 (552 : Int32).toNatClampNeg)), (0, .ref (q 0))]) hx hb dX9_arm_30 rfl hl (by decide) rfl (fun ls hl => ?_)
    refine lv_aload_n hx hb dX9_arm_31 rfl (lv_at hl 1 rfl) ?_
    refine xget hC h.o (C := RX9) (T := TX9) (N := 17) (wM_us uw_X9) 0 (Nat.le_of_ble_eq_true rfl) eMod_0 rfl 0 (by decide) (wM_in fl_X9_7) rfl dX9_arm_32 ?_
    refine lv_sipush (v := (552 : Int32)) hx hb dX9_arm_35 (by decide) ?_
    refine lv_iconst (v := (1 : Int32)) hx hb dX9_arm_38 (by decide) ?_
    obtain ⟨hi9, hf⟩ := ck_e hf
    refine xiast hC h 1 (Nat.le_of_ble_eq_true rfl) (fun _ => eMod_1) hi9 dX9_arm_39 (fun H locs h => ?_)
    obtain ⟨v10, ev10, hf⟩ := lt_e hf
    rw [← ev10] at h
    refine lv_iload_n hx hb dX9_arm_40 rfl (lv_at hl 0 rfl) ?_
    have hf := sm_e hf
    exact xiret hC hr hlk h (by rw [← hf]) (by rw [← hf]) dX9_arm_41
  · have hf := it_f c5 hf
    refine lv_aload_n hx hb dX9_arm_12 rfl (lv_at hl 0 rfl) ?_
    refine lv_iconst (v := (1 : Int32)) hx hb dX9_arm_13 (by decide) ?_
    obtain ⟨r12, hy11, hf⟩ := ob_e hf
    refine xi0 h (va_runV (As := [.int (1 : Int32)]) (rest := []) hC (c_X9_fails l G q v1 (1 : Int32) hy11 H.size) (xcwV hC lk_X9_142 in_X9 co_X9_fails im_X9_fails se_X9_fails rfl rfl dd_X9_fails ⟨Nat.le_of_ble_eq_true rfl, Nat.le_of_ble_eq_true rfl⟩) (preV0 h (Nat.le_of_ble_eq_true rfl) eMod_0 rfl [.int (1 : Int32)]) rfl rfl hl.1 rfl (lv_room (Nat.le_of_ble_eq_true rfl)) dX9_arm_14 ⟨Nat.zero_le _, Nat.zero_le _⟩) (fun H locs h => ?_)
    obtain ⟨v13, ev13, hf⟩ := lt_e hf
    rw [← ev13] at h
    have hf := sm_e hf
    exact xiret hC hr hlk h (by rw [← hf]) (by rw [← hf]) dX9_arm_17
def m_X9_load (v : xSt) (p1 : Int32) : Option (Int32 × xSt) := lt (st2 v 0 8 (0 : Int32)) (fun v1 => (if (xwi p1 (0 : Int32) (255 : Int32)) = 0 then ob (m_X9_fails v1 (1 : Int32)) (fun r19 => lt (r19.2) (fun v20 => some (r19.1, v20))) else ck (¬ ((567 : Int32) < 0 ∨ 797 ≤ (567 : Int32).toNatClampNeg)) ((if (v1 1 (567 : Int32).toNatClampNeg) = (12 : Int32) then ob (m_X9_fails v1 (2 : Int32)) (fun r16 => lt (r16.2) (fun v17 => some (r16.1, v17))) else ob (m_X9_saves v1) (fun r7 => ck (¬ ((567 : Int32) < 0 ∨ 797 ≤ (567 : Int32).toNatClampNeg)) (ck (¬ (((568 : Int32) + (r7 1 (567 : Int32).toNatClampNeg)) < 0 ∨ 797 ≤ ((568 : Int32) + (r7 1 (567 : Int32).toNatClampNeg)).toNatClampNeg)) (lt (st2 r7 1 ((568 : Int32) + (r7 1 (567 : Int32).toNatClampNeg)).toNatClampNeg p1) (fun v10 => ck (¬ ((567 : Int32) < 0 ∨ 797 ≤ (567 : Int32).toNatClampNeg)) (ck (¬ ((567 : Int32) < 0 ∨ 797 ≤ (567 : Int32).toNatClampNeg)) (lt (st2 v10 1 (567 : Int32).toNatClampNeg ((v10 1 (567 : Int32).toNatClampNeg) + (1 : Int32))) (fun v13 => ck (¬ ((567 : Int32) < 0 ∨ 797 ≤ (567 : Int32).toNatClampNeg)) (some ((v13 1 (567 : Int32).toNatClampNeg), v13)))))))))))))
set_option maxHeartbeats 4000000 in
set_option maxRecDepth 100000 in
theorem c_X9_load (l : Launch) (G : xGl) (q : Nat → Nat) (v : xSt) (p1 : Int32) {z : (Int32 × xSt)} (hf : m_X9_load v p1 = some z) : mRW l yX9_load (wM yX9_load cX9_load 2 (some .int)) { frames := 2, cells := 0, slots := 0, locals := 45 } G (eMod G) 8 q v [.ref (q 0), .int p1] (qI z.1) z.2 := by
  refine xRW (cc := cX9_load) (maxL := 2) (ret := (some .int)) (by decide) rfl (Nat.le_of_ble_eq_true rfl) ?_
  intro p e s m below meth c ls A hC hr hlk h hl
  have hx := hC.1
  have hb := hC.2.1
  have hl : lv_has ls 2 [(0, .ref (q 0)), (1, .int p1)] := hl
  unfold m_X9_load at hf
  obtain ⟨H, hH⟩ : ∃ H, H = s.heap := ⟨_, rfl⟩
  obtain ⟨locs, hlo⟩ : ∃ x : List Loc, x = [] := ⟨_, rfl⟩
  have h : hg G (eMod G) 8 q v A s H locs := by rw [hH, hlo]; exact h
  rw [← hlo, ← hH]
  clear hH hlo
  refine lv_aload_n hx hb dX9_load_0 rfl (lv_at hl 0 rfl) ?_
  refine lv_iconst (v := (0 : Int32)) hx hb dX9_load_1 (by decide) ?_
  refine xput hC h (C := RX9) (T := TX9) (N := 17) (wM_us uw_X9) tyX9_ok nmX9 0 (Nat.le_of_ble_eq_true rfl) eMod_0 rfl 8 (by decide) (wM_in fl_X9_31) rfl (ty := .int) (tyX9_ok 8 (by decide)) rfl rfl (Nat.le_of_ble_eq_true rfl) (eMod_0.trans rfl) dX9_load_2 (fun H locs h => ?_)
  obtain ⟨v1, ev1, hf⟩ := lt_e hf
  rw [← ev1] at h
  refine lv_iload_n hx hb dX9_load_5 rfl (lv_at hl 1 rfl) ?_
  refine lv_iconst (v := (0 : Int32)) hx hb dX9_load_6 (by decide) ?_
  refine lv_sipush (v := (255 : Int32)) hx hb dX9_load_7 (by decide) ?_
  refine xzG h (va_runS (As := [.int p1, .int (0 : Int32), .int (255 : Int32)]) (rest := []) hC (k_X9_in l G q v1 p1 (0 : Int32) (255 : Int32) H.size) (xcwS hC lk_X9_42 in_X9 co_X9_in st_X9_in rfl rfl dd_X9_in ⟨Nat.le_of_ble_eq_true rfl, Nat.le_of_ble_eq_true rfl⟩) (preSN h.o [.int p1, .int (0 : Int32), .int (255 : Int32)]) rfl rfl hl.1 rfl (lv_room (Nat.le_of_ble_eq_true rfl)) dX9_load_10 ⟨Nat.zero_le _, Nat.zero_le _⟩) (fun H locs hz2 h => ?_)
  refine lv_if_ne (tgt := 22) hx hb dX9_load_13 (by decide) (fun c3 => ?_) (fun c3 => ?_)
  · have hf := it_f c3 hf
    refine lv_aload_n hx hb dX9_load_22 rfl (lv_at hl 0 rfl) ?_
    refine xget hC h.o (C := RX9) (T := TX9) (N := 17) (wM_us uw_X9) 0 (Nat.le_of_ble_eq_true rfl) eMod_0 rfl 0 (by decide) (wM_in fl_X9_7) rfl dX9_load_23 ?_
    refine lv_sipush (v := (567 : Int32)) hx hb dX9_load_26 (by decide) ?_
    obtain ⟨hi4, hf⟩ := ck_e hf
    refine xiald hC h.o 1 (Nat.le_of_ble_eq_true rfl) eMod_1 hi4 dX9_load_29 ?_
    refine lv_bipush (v := (12 : Int32)) hx hb dX9_load_30 (by decide) ?_
    refine lv_icmp_ne (tgt := 41) hx hb dX9_load_32 (by decide) (fun c5 => ?_) (fun c5 => ?_)
    · have hf := it_f c5 hf
      refine lv_aload_n hx hb dX9_load_41 rfl (lv_at hl 0 rfl) ?_
      obtain ⟨r7, hy6, hf⟩ := ob_e hf
      refine xv0 h (va_runV (As := []) (rest := []) hC (c_X9_saves l G q v1 hy6 H.size) (xcwV hC lk_X9_145 in_X9 co_X9_saves im_X9_saves se_X9_saves rfl rfl dd_X9_saves ⟨Nat.le_of_ble_eq_true rfl, Nat.le_of_ble_eq_true rfl⟩) (preV0 h (Nat.le_of_ble_eq_true rfl) eMod_0 rfl []) rfl rfl hl.1 rfl (lv_room (Nat.le_of_ble_eq_true rfl)) dX9_load_42 ⟨Nat.zero_le _, Nat.zero_le _⟩) (fun H locs h => ?_)
      refine lv_aload_n hx hb dX9_load_45 rfl (lv_at hl 0 rfl) ?_
      refine xget hC h.o (C := RX9) (T := TX9) (N := 17) (wM_us uw_X9) 0 (Nat.le_of_ble_eq_true rfl) eMod_0 rfl 0 (by decide) (wM_in fl_X9_7) rfl dX9_load_46 ?_
      refine lv_sipush (v := (568 : Int32)) hx hb dX9_load_49 (by decide) ?_
      refine lv_aload_n hx hb dX9_load_52 rfl (lv_at hl 0 rfl) ?_
      refine xget hC h.o (C := RX9) (T := TX9) (N := 17) (wM_us uw_X9) 0 (Nat.le_of_ble_eq_true rfl) eMod_0 rfl 0 (by decide) (wM_in fl_X9_7) rfl dX9_load_53 ?_
      refine lv_sipush (v := (567 : Int32)) hx hb dX9_load_56 (by decide) ?_
      obtain ⟨hi8, hf⟩ := ck_e hf
      refine xiald hC h.o 1 (Nat.le_of_ble_eq_true rfl) eMod_1 hi8 dX9_load_59 ?_
      refine lv_iadd hx hb dX9_load_60 ?_
      refine lv_iload_n hx hb dX9_load_61 rfl (lv_at hl 1 rfl) ?_
      obtain ⟨hi9, hf⟩ := ck_e hf
      refine xiast hC h 1 (Nat.le_of_ble_eq_true rfl) (fun _ => eMod_1) hi9 dX9_load_62 (fun H locs h => ?_)
      obtain ⟨v10, ev10, hf⟩ := lt_e hf
      rw [← ev10] at h
      refine lv_aload_n hx hb dX9_load_63 rfl (lv_at hl 0 rfl) ?_
      refine xget hC h.o (C := RX9) (T := TX9) (N := 17) (wM_us uw_X9) 0 (Nat.le_of_ble_eq_true rfl) eMod_0 rfl 0 (by decide) (wM_in fl_X9_7) rfl dX9_load_64 ?_
      refine lv_sipush (v := (567 : Int32)) hx hb dX9_load_67 (by decide) ?_
      refine lv_dup2_11 hx hb dX9_load_70 rfl rfl ?_
      obtain ⟨hi11, hf⟩ := ck_e hf
      refine xiald hC h.o 1 (Nat.le_of_ble_eq_true rfl) eMod_1 hi11 dX9_load_71 ?_
      refine lv_iconst (v := (1 : Int32)) hx hb dX9_load_72 (by decide) ?_
      refine lv_iadd hx hb dX9_load_73 ?_
      obtain ⟨hi12, hf⟩ := ck_e hf
      refine xiast hC h 1 (Nat.le_of_ble_eq_true rfl) (fun _ => eMod_1) hi12 dX9_load_74 (fun H locs h => ?_)
      obtain ⟨v13, ev13, hf⟩ := lt_e hf
      rw [← ev13] at h
      refine lv_aload_n hx hb dX9_load_75 rfl (lv_at hl 0 rfl) ?_
      refine xget hC h.o (C := RX9) (T := TX9) (N := 17) (wM_us uw_X9) 0 (Nat.le_of_ble_eq_true rfl) eMod_0 rfl 0 (by decide) (wM_in fl_X9_7) rfl dX9_load_76 ?_
      refine lv_sipush (v := (567 : Int32)) hx hb dX9_load_79 (by decide) ?_
      obtain ⟨hi14, hf⟩ := ck_e hf
      refine xiald hC h.o 1 (Nat.le_of_ble_eq_true rfl) eMod_1 hi14 dX9_load_82 ?_
      have hf := sm_e hf
      exact xiret hC hr hlk h (by rw [← hf]) (by rw [← hf]) dX9_load_83
    · have hf := it_t c5 hf
      refine lv_aload_n hx hb dX9_load_35 rfl (lv_at hl 0 rfl) ?_
      refine lv_iconst (v := (2 : Int32)) hx hb dX9_load_36 (by decide) ?_
      obtain ⟨r16, hy15, hf⟩ := ob_e hf
      refine xi0 h (va_runV (As := [.int (2 : Int32)]) (rest := []) hC (c_X9_fails l G q v1 (2 : Int32) hy15 H.size) (xcwV hC lk_X9_142 in_X9 co_X9_fails im_X9_fails se_X9_fails rfl rfl dd_X9_fails ⟨Nat.le_of_ble_eq_true rfl, Nat.le_of_ble_eq_true rfl⟩) (preV0 h (Nat.le_of_ble_eq_true rfl) eMod_0 rfl [.int (2 : Int32)]) rfl rfl hl.1 rfl (lv_room (Nat.le_of_ble_eq_true rfl)) dX9_load_37 ⟨Nat.zero_le _, Nat.zero_le _⟩) (fun H locs h => ?_)
      obtain ⟨v17, ev17, hf⟩ := lt_e hf
      rw [← ev17] at h
      have hf := sm_e hf
      exact xiret hC hr hlk h (by rw [← hf]) (by rw [← hf]) dX9_load_40
  · have hf := it_t c3 hf
    refine lv_aload_n hx hb dX9_load_16 rfl (lv_at hl 0 rfl) ?_
    refine lv_iconst (v := (1 : Int32)) hx hb dX9_load_17 (by decide) ?_
    obtain ⟨r19, hy18, hf⟩ := ob_e hf
    refine xi0 h (va_runV (As := [.int (1 : Int32)]) (rest := []) hC (c_X9_fails l G q v1 (1 : Int32) hy18 H.size) (xcwV hC lk_X9_142 in_X9 co_X9_fails im_X9_fails se_X9_fails rfl rfl dd_X9_fails ⟨Nat.le_of_ble_eq_true rfl, Nat.le_of_ble_eq_true rfl⟩) (preV0 h (Nat.le_of_ble_eq_true rfl) eMod_0 rfl [.int (1 : Int32)]) rfl rfl hl.1 rfl (lv_room (Nat.le_of_ble_eq_true rfl)) dX9_load_18 ⟨Nat.zero_le _, Nat.zero_le _⟩) (fun H locs h => ?_)
    obtain ⟨v20, ev20, hf⟩ := lt_e hf
    rw [← ev20] at h
    have hf := sm_e hf
    exact xiret hC hr hlk h (by rw [← hf]) (by rw [← hf]) dX9_load_21
def m_X9_unloads (v : xSt) : Option xSt := lp (fun (rec3 : Int32 × xSt → Option xSt) => un2 (fun (a1 : Int32) (v2 : xSt) => (if (12 : Int32) ≤ a1 then ck (¬ ((567 : Int32) < 0 ∨ 797 ≤ (567 : Int32).toNatClampNeg)) (lt (st2 v2 1 (567 : Int32).toNatClampNeg (0 : Int32)) (fun v6 => some v6)) else ck (¬ (((568 : Int32) + a1) < 0 ∨ 797 ≤ ((568 : Int32) + a1).toNatClampNeg)) (lt (st2 v2 1 ((568 : Int32) + a1).toNatClampNeg (0 : Int32)) (fun v8 => rec3 ((a1 + 1), v8)))))) xF ((0 : Int32), v)
set_option maxHeartbeats 4000000 in
set_option maxRecDepth 100000 in
theorem c_X9_unloads (l : Launch) (G : xGl) (q : Nat → Nat) (v : xSt) {z : xSt} (hf : m_X9_unloads v = some z) : mRW l yX9_unloads (wM yX9_unloads cX9_unloads 2 none) { frames := 0, cells := 0, slots := 0, locals := 0 } G (eMod G) 8 q v [.ref (q 0)] qV z := by
  refine xRW (cc := cX9_unloads) (maxL := 2) (ret := none) (by decide) rfl (Nat.le_of_ble_eq_true rfl) ?_
  intro p e s m below meth c ls A hC hr hlk h hl
  have hx := hC.1
  have hb := hC.2.1
  have hl : lv_has ls 2 [(0, .ref (q 0))] := hl
  unfold m_X9_unloads at hf
  obtain ⟨H, hH⟩ : ∃ H, H = s.heap := ⟨_, rfl⟩
  obtain ⟨locs, hlo⟩ : ∃ x : List Loc, x = [] := ⟨_, rfl⟩
  have h : hg G (eMod G) 8 q v A s H locs := by rw [hH, hlo]; exact h
  rw [← hlo, ← hH]
  clear hH hlo
  refine lv_iconst (v := (0 : Int32)) hx hb dX9_unloads_0 (by decide) ?_
  refine lv_istore_n (lv' := [(1, .int (0 : Int32)), (0, .ref (q 0))]) hx hb dX9_unloads_1 rfl hl (by decide) rfl (fun ls hl => ?_)
  refine lp_i (z := z) (P := fun (pp : Int32 × xSt) => ∀ (H : Heap) (locs : List Loc), hg G (eMod G) 8 q pp.2 A s H locs → ∀ (ls : Array Slot), lv_has ls 2 [(0, .ref (q 0)), (1, .int pp.1)] → W p l e { frames := 0, cells := 0, slots := 0, locals := 0 } s m [.ref (q 0)].toArray below meth c H locs 0 0 (MQ below (qV (cB G (eMod G) 8 q z A) A) [.ref (q 0)].toArray s 0 0 A) (F0 m 2 ls [])) ?_ _ _ hf H locs h ls (lv_sub hl [1, 0] rfl)
  intro rec3 hrec3 pp hf H locs h ls hl
  obtain ⟨a1, v2⟩ := pp
  have h : hg G (eMod G) 8 q v2 A s H locs := h
  have hl : lv_has ls 2 [(0, .ref (q 0)), (1, .int a1)] := hl
  have hf := un2_e hf
  refine lv_iload_n hx hb dX9_unloads_2 rfl (lv_at hl 1 rfl) ?_
  refine lv_bipush (v := (12 : Int32)) hx hb dX9_unloads_3 (by decide) ?_
  refine lv_icmp_ge (tgt := 25) hx hb dX9_unloads_5 (by decide) (fun c4 => ?_) (fun c4 => ?_)
  · have hf := it_t c4 hf
    refine lv_aload_n hx hb dX9_unloads_25 rfl (lv_at hl 0 rfl) ?_
    refine xget hC h.o (C := RX9) (T := TX9) (N := 17) (wM_us uw_X9) 0 (Nat.le_of_ble_eq_true rfl) eMod_0 rfl 0 (by decide) (wM_in fl_X9_7) rfl dX9_unloads_26 ?_
    refine lv_sipush (v := (567 : Int32)) hx hb dX9_unloads_29 (by decide) ?_
    refine lv_iconst (v := (0 : Int32)) hx hb dX9_unloads_32 (by decide) ?_
    obtain ⟨hi5, hf⟩ := ck_e hf
    refine xiast hC h 1 (Nat.le_of_ble_eq_true rfl) (fun _ => eMod_1) hi5 dX9_unloads_33 (fun H locs h => ?_)
    obtain ⟨v6, ev6, hf⟩ := lt_e hf
    rw [← ev6] at h
    have hf := sm_e hf
    exact xvret hC hr hlk h hf dX9_unloads_34
  · have hf := it_f c4 hf
    refine lv_aload_n hx hb dX9_unloads_8 rfl (lv_at hl 0 rfl) ?_
    refine xget hC h.o (C := RX9) (T := TX9) (N := 17) (wM_us uw_X9) 0 (Nat.le_of_ble_eq_true rfl) eMod_0 rfl 0 (by decide) (wM_in fl_X9_7) rfl dX9_unloads_9 ?_
    refine lv_sipush (v := (568 : Int32)) hx hb dX9_unloads_12 (by decide) ?_
    refine lv_iload_n hx hb dX9_unloads_15 rfl (lv_at hl 1 rfl) ?_
    refine lv_iadd hx hb dX9_unloads_16 ?_
    refine lv_iconst (v := (0 : Int32)) hx hb dX9_unloads_17 (by decide) ?_
    obtain ⟨hi7, hf⟩ := ck_e hf
    refine xiast hC h 1 (Nat.le_of_ble_eq_true rfl) (fun _ => eMod_1) hi7 dX9_unloads_18 (fun H locs h => ?_)
    obtain ⟨v8, ev8, hf⟩ := lt_e hf
    rw [← ev8] at h
    refine lv_iinc (v := (a1 + 1)) (lv' := [(1, .int (a1 + 1)), (0, .ref (q 0))]) hx hb dX9_unloads_19 hl (k := 1) rfl rfl (by decide) rfl (fun ls hl => ?_)
    refine lv_goto (tgt := 2) hx hb dX9_unloads_22 (by decide) ?_
    exact hrec3 ((a1 + 1), v8) hf H locs h ls (lv_sub hl [1, 0] rfl)
def m_X9_unload (v : xSt) : Option (Int32 × xSt) := lt (st2 v 0 8 (0 : Int32)) (fun v1 => ob (m_X9_saves v1) (fun r3 => ck (¬ ((567 : Int32) < 0 ∨ 797 ≤ (567 : Int32).toNatClampNeg)) (ob (m_X9_unloads r3) (fun r6 => some ((r3 1 (567 : Int32).toNatClampNeg), r6)))))
set_option maxHeartbeats 4000000 in
set_option maxRecDepth 100000 in
theorem c_X9_unload (l : Launch) (G : xGl) (q : Nat → Nat) (v : xSt) {z : (Int32 × xSt)} (hf : m_X9_unload v = some z) : mRW l yX9_unload (wM yX9_unload cX9_unload 2 (some .int)) { frames := 2, cells := 0, slots := 0, locals := 45 } G (eMod G) 8 q v [.ref (q 0)] (qI z.1) z.2 := by
  refine xRW (cc := cX9_unload) (maxL := 2) (ret := (some .int)) (by decide) rfl (Nat.le_of_ble_eq_true rfl) ?_
  intro p e s m below meth c ls A hC hr hlk h hl
  have hx := hC.1
  have hb := hC.2.1
  have hl : lv_has ls 2 [(0, .ref (q 0))] := hl
  unfold m_X9_unload at hf
  obtain ⟨H, hH⟩ : ∃ H, H = s.heap := ⟨_, rfl⟩
  obtain ⟨locs, hlo⟩ : ∃ x : List Loc, x = [] := ⟨_, rfl⟩
  have h : hg G (eMod G) 8 q v A s H locs := by rw [hH, hlo]; exact h
  rw [← hlo, ← hH]
  clear hH hlo
  refine lv_aload_n hx hb dX9_unload_0 rfl (lv_at hl 0 rfl) ?_
  refine lv_iconst (v := (0 : Int32)) hx hb dX9_unload_1 (by decide) ?_
  refine xput hC h (C := RX9) (T := TX9) (N := 17) (wM_us uw_X9) tyX9_ok nmX9 0 (Nat.le_of_ble_eq_true rfl) eMod_0 rfl 8 (by decide) (wM_in fl_X9_31) rfl (ty := .int) (tyX9_ok 8 (by decide)) rfl rfl (Nat.le_of_ble_eq_true rfl) (eMod_0.trans rfl) dX9_unload_2 (fun H locs h => ?_)
  obtain ⟨v1, ev1, hf⟩ := lt_e hf
  rw [← ev1] at h
  refine lv_aload_n hx hb dX9_unload_5 rfl (lv_at hl 0 rfl) ?_
  obtain ⟨r3, hy2, hf⟩ := ob_e hf
  refine xv0 h (va_runV (As := []) (rest := []) hC (c_X9_saves l G q v1 hy2 H.size) (xcwV hC lk_X9_145 in_X9 co_X9_saves im_X9_saves se_X9_saves rfl rfl dd_X9_saves ⟨Nat.le_of_ble_eq_true rfl, Nat.le_of_ble_eq_true rfl⟩) (preV0 h (Nat.le_of_ble_eq_true rfl) eMod_0 rfl []) rfl rfl hl.1 rfl (lv_room (Nat.le_of_ble_eq_true rfl)) dX9_unload_6 ⟨Nat.zero_le _, Nat.zero_le _⟩) (fun H locs h => ?_)
  refine lv_aload_n hx hb dX9_unload_9 rfl (lv_at hl 0 rfl) ?_
  refine xget hC h.o (C := RX9) (T := TX9) (N := 17) (wM_us uw_X9) 0 (Nat.le_of_ble_eq_true rfl) eMod_0 rfl 0 (by decide) (wM_in fl_X9_7) rfl dX9_unload_10 ?_
  refine lv_sipush (v := (567 : Int32)) hx hb dX9_unload_13 (by decide) ?_
  obtain ⟨hi4, hf⟩ := ck_e hf
  refine xiald hC h.o 1 (Nat.le_of_ble_eq_true rfl) eMod_1 hi4 dX9_unload_16 ?_
  refine lv_istore_n (lv' := [(1, .int (r3 1 (567 : Int32).toNatClampNeg)), (0, .ref (q 0))]) hx hb dX9_unload_17 rfl hl (by decide) rfl (fun ls hl => ?_)
  refine lv_aload_n hx hb dX9_unload_18 rfl (lv_at hl 1 rfl) ?_
  obtain ⟨r6, hy5, hf⟩ := ob_e hf
  refine xv0 h (va_runV (As := []) (rest := []) hC (c_X9_unloads l G q r3 hy5 H.size) (xcwV hC lk_X9_148 in_X9 co_X9_unloads im_X9_unloads se_X9_unloads rfl rfl dd_X9_unloads ⟨Nat.le_of_ble_eq_true rfl, Nat.le_of_ble_eq_true rfl⟩) (preV0 h (Nat.le_of_ble_eq_true rfl) eMod_0 rfl []) rfl rfl hl.1 rfl (lv_room (Nat.le_of_ble_eq_true rfl)) dX9_unload_19 ⟨Nat.zero_le _, Nat.zero_le _⟩) (fun H locs h => ?_)
  refine lv_iload_n hx hb dX9_unload_22 rfl (lv_at hl 0 rfl) ?_
  have hf := sm_e hf
  exact xiret hC hr hlk h (by rw [← hf]) (by rw [← hf]) dX9_unload_23
def m_X9_write (v : xSt) (p1 : Int32) : Option (Int32 × xSt) := lt (st2 v 0 8 (0 : Int32)) (fun v1 => (if (xwi p1 0 255) = 0 then ob (m_X9_fails v1 (1 : Int32)) (fun r21 => lt (r21.2) (fun v22 => some (r21.1, v22))) else ob (m_X9_whyNot v1 (1 : Int32) p1) (fun r5 => (if r5 ≤ 0 then ob (m_X9_saves v1) (fun r8 => ck (¬ ((552 : Int32) < 0 ∨ 797 ≤ (552 : Int32).toNatClampNeg)) (lt (st2 r8 1 (552 : Int32).toNatClampNeg (0 : Int32)) (fun v10 => ck (¬ ((567 : Int32) < 0 ∨ 797 ≤ (567 : Int32).toNatClampNeg)) (ob (m_X9_beginsWrite v10 p1 (568 : Int32) (v10 1 (567 : Int32).toNatClampNeg) (-1 : Int32)) (fun r13 => lt (r13.2) (fun v14 => ob (m_X9_unloads v14) (fun r16 => some (r13.1, r16)))))))) else ob (m_X9_fails v1 (2 : Int32)) (fun r18 => lt (r18.2) (fun v19 => some (r18.1, v19)))))))
set_option maxHeartbeats 4000000 in
set_option maxRecDepth 100000 in
theorem c_X9_write (l : Launch) (G : xGl) (q : Nat → Nat) (v : xSt) (p1 : Int32) {z : (Int32 × xSt)} (hf : m_X9_write v p1 = some z) : mRW l yX9_write (wM yX9_write cX9_write 3 (some .int)) { frames := 4, cells := 0, slots := 0, locals := 85 } G (eMod G) 8 q v [.ref (q 0), .int p1] (qI z.1) z.2 := by
  refine xRW (cc := cX9_write) (maxL := 3) (ret := (some .int)) (by decide) rfl (Nat.le_of_ble_eq_true rfl) ?_
  intro p e s m below meth c ls A hC hr hlk h hl
  have hx := hC.1
  have hb := hC.2.1
  have hl : lv_has ls 3 [(0, .ref (q 0)), (1, .int p1)] := hl
  unfold m_X9_write at hf
  obtain ⟨H, hH⟩ : ∃ H, H = s.heap := ⟨_, rfl⟩
  obtain ⟨locs, hlo⟩ : ∃ x : List Loc, x = [] := ⟨_, rfl⟩
  have h : hg G (eMod G) 8 q v A s H locs := by rw [hH, hlo]; exact h
  rw [← hlo, ← hH]
  clear hH hlo
  refine lv_aload_n hx hb dX9_write_0 rfl (lv_at hl 0 rfl) ?_
  refine lv_iconst (v := (0 : Int32)) hx hb dX9_write_1 (by decide) ?_
  refine xput hC h (C := RX9) (T := TX9) (N := 17) (wM_us uw_X9) tyX9_ok nmX9 0 (Nat.le_of_ble_eq_true rfl) eMod_0 rfl 8 (by decide) (wM_in fl_X9_31) rfl (ty := .int) (tyX9_ok 8 (by decide)) rfl rfl (Nat.le_of_ble_eq_true rfl) (eMod_0.trans rfl) dX9_write_2 (fun H locs h => ?_)
  obtain ⟨v1, ev1, hf⟩ := lt_e hf
  rw [← ev1] at h
  refine lv_iload_n hx hb dX9_write_5 rfl (lv_at hl 1 rfl) ?_
  refine xzG h (va_runS (As := [.int p1]) (rest := []) hC (k_X9_isCell l G q v1 p1 H.size) (xcwS hC lk_X9_151 in_X9 co_X9_isCell st_X9_isCell rfl rfl dd_X9_isCell ⟨Nat.le_of_ble_eq_true rfl, Nat.le_of_ble_eq_true rfl⟩) (preSN h.o [.int p1]) rfl rfl hl.1 rfl (lv_room (Nat.le_of_ble_eq_true rfl)) dX9_write_6 ⟨Nat.zero_le _, Nat.zero_le _⟩) (fun H locs hz2 h => ?_)
  refine lv_if_ne (tgt := 18) hx hb dX9_write_9 (by decide) (fun c3 => ?_) (fun c3 => ?_)
  · have hf := it_f c3 hf
    refine lv_aload_n hx hb dX9_write_18 rfl (lv_at hl 0 rfl) ?_
    refine lv_iconst (v := (1 : Int32)) hx hb dX9_write_19 (by decide) ?_
    refine lv_iload_n hx hb dX9_write_20 rfl (lv_at hl 1 rfl) ?_
    obtain ⟨r5, hy4, hf⟩ := ob_e hf
    refine xiG h (va_runV (As := [.int (1 : Int32), .int p1]) (rest := []) hC (c_X9_whyNot l G q v1 (1 : Int32) p1 hy4 H.size) (xcwV hC lk_X9_154 in_X9 co_X9_whyNot im_X9_whyNot se_X9_whyNot rfl rfl dd_X9_whyNot ⟨Nat.le_of_ble_eq_true rfl, Nat.le_of_ble_eq_true rfl⟩) (preVO0 h.o (Nat.le_of_ble_eq_true rfl) eMod_0 rfl [.int (1 : Int32), .int p1]) rfl rfl hl.1 rfl (lv_room (Nat.le_of_ble_eq_true rfl)) dX9_write_21 ⟨Nat.zero_le _, Nat.zero_le _⟩) (fun H locs h => ?_)
    refine lv_if_le (tgt := 33) hx hb dX9_write_24 (by decide) (fun c6 => ?_) (fun c6 => ?_)
    · have hf := it_t c6 hf
      refine lv_aload_n hx hb dX9_write_33 rfl (lv_at hl 0 rfl) ?_
      obtain ⟨r8, hy7, hf⟩ := ob_e hf
      refine xv0 h (va_runV (As := []) (rest := []) hC (c_X9_saves l G q v1 hy7 H.size) (xcwV hC lk_X9_145 in_X9 co_X9_saves im_X9_saves se_X9_saves rfl rfl dd_X9_saves ⟨Nat.le_of_ble_eq_true rfl, Nat.le_of_ble_eq_true rfl⟩) (preV0 h (Nat.le_of_ble_eq_true rfl) eMod_0 rfl []) rfl rfl hl.1 rfl (lv_room (Nat.le_of_ble_eq_true rfl)) dX9_write_34 ⟨Nat.zero_le _, Nat.zero_le _⟩) (fun H locs h => ?_)
      refine lv_aload_n hx hb dX9_write_37 rfl (lv_at hl 0 rfl) ?_
      refine xget hC h.o (C := RX9) (T := TX9) (N := 17) (wM_us uw_X9) 0 (Nat.le_of_ble_eq_true rfl) eMod_0 rfl 0 (by decide) (wM_in fl_X9_7) rfl dX9_write_38 ?_
      refine lv_sipush (v := (552 : Int32)) hx hb dX9_write_41 (by decide) ?_
      refine lv_iconst (v := (0 : Int32)) hx hb dX9_write_44 (by decide) ?_
      obtain ⟨hi9, hf⟩ := ck_e hf
      refine xiast hC h 1 (Nat.le_of_ble_eq_true rfl) (fun _ => eMod_1) hi9 dX9_write_45 (fun H locs h => ?_)
      obtain ⟨v10, ev10, hf⟩ := lt_e hf
      rw [← ev10] at h
      refine lv_aload_n hx hb dX9_write_46 rfl (lv_at hl 0 rfl) ?_
      refine lv_iload_n hx hb dX9_write_47 rfl (lv_at hl 1 rfl) ?_
      refine lv_sipush (v := (568 : Int32)) hx hb dX9_write_48 (by decide) ?_
      refine lv_aload_n hx hb dX9_write_51 rfl (lv_at hl 0 rfl) ?_
      refine xget hC h.o (C := RX9) (T := TX9) (N := 17) (wM_us uw_X9) 0 (Nat.le_of_ble_eq_true rfl) eMod_0 rfl 0 (by decide) (wM_in fl_X9_7) rfl dX9_write_52 ?_
      refine lv_sipush (v := (567 : Int32)) hx hb dX9_write_55 (by decide) ?_
      obtain ⟨hi11, hf⟩ := ck_e hf
      refine xiald hC h.o 1 (Nat.le_of_ble_eq_true rfl) eMod_1 hi11 dX9_write_58 ?_
      refine lv_iconst (v := (-1 : Int32)) hx hb dX9_write_59 (by decide) ?_
      obtain ⟨r13, hy12, hf⟩ := ob_e hf
      refine xi0 h (va_runV (As := [.int p1, .int (568 : Int32), .int (v10 1 (567 : Int32).toNatClampNeg), .int (-1 : Int32)]) (rest := []) hC (c_X9_beginsWrite l G q v10 p1 (568 : Int32) (v10 1 (567 : Int32).toNatClampNeg) (-1 : Int32) hy12 H.size) (xcwV hC lk_X9_68 in_X9 co_X9_beginsWrite im_X9_beginsWrite se_X9_beginsWrite rfl rfl dd_X9_beginsWrite ⟨Nat.le_of_ble_eq_true rfl, Nat.le_of_ble_eq_true rfl⟩) (preV0 h (Nat.le_of_ble_eq_true rfl) eMod_0 rfl [.int p1, .int (568 : Int32), .int (v10 1 (567 : Int32).toNatClampNeg), .int (-1 : Int32)]) rfl rfl hl.1 rfl (lv_room (Nat.le_of_ble_eq_true rfl)) dX9_write_60 ⟨Nat.zero_le _, Nat.zero_le _⟩) (fun H locs h => ?_)
      obtain ⟨v14, ev14, hf⟩ := lt_e hf
      rw [← ev14] at h
      refine lv_istore_n (lv' := [(2, .int r13.1), (0, .ref (q 0)), (1, .int p1)]) hx hb dX9_write_63 rfl hl (by decide) rfl (fun ls hl => ?_)
      refine lv_aload_n hx hb dX9_write_64 rfl (lv_at hl 1 rfl) ?_
      obtain ⟨r16, hy15, hf⟩ := ob_e hf
      refine xv0 h (va_runV (As := []) (rest := []) hC (c_X9_unloads l G q v14 hy15 H.size) (xcwV hC lk_X9_148 in_X9 co_X9_unloads im_X9_unloads se_X9_unloads rfl rfl dd_X9_unloads ⟨Nat.le_of_ble_eq_true rfl, Nat.le_of_ble_eq_true rfl⟩) (preV0 h (Nat.le_of_ble_eq_true rfl) eMod_0 rfl []) rfl rfl hl.1 rfl (lv_room (Nat.le_of_ble_eq_true rfl)) dX9_write_65 ⟨Nat.zero_le _, Nat.zero_le _⟩) (fun H locs h => ?_)
      refine lv_iload_n hx hb dX9_write_68 rfl (lv_at hl 0 rfl) ?_
      have hf := sm_e hf
      exact xiret hC hr hlk h (by rw [← hf]) (by rw [← hf]) dX9_write_69
    · have hf := it_f c6 hf
      refine lv_aload_n hx hb dX9_write_27 rfl (lv_at hl 0 rfl) ?_
      refine lv_iconst (v := (2 : Int32)) hx hb dX9_write_28 (by decide) ?_
      obtain ⟨r18, hy17, hf⟩ := ob_e hf
      refine xi0 h (va_runV (As := [.int (2 : Int32)]) (rest := []) hC (c_X9_fails l G q v1 (2 : Int32) hy17 H.size) (xcwV hC lk_X9_142 in_X9 co_X9_fails im_X9_fails se_X9_fails rfl rfl dd_X9_fails ⟨Nat.le_of_ble_eq_true rfl, Nat.le_of_ble_eq_true rfl⟩) (preV0 h (Nat.le_of_ble_eq_true rfl) eMod_0 rfl [.int (2 : Int32)]) rfl rfl hl.1 rfl (lv_room (Nat.le_of_ble_eq_true rfl)) dX9_write_29 ⟨Nat.zero_le _, Nat.zero_le _⟩) (fun H locs h => ?_)
      obtain ⟨v19, ev19, hf⟩ := lt_e hf
      rw [← ev19] at h
      have hf := sm_e hf
      exact xiret hC hr hlk h (by rw [← hf]) (by rw [← hf]) dX9_write_32
  · have hf := it_t c3 hf
    refine lv_aload_n hx hb dX9_write_12 rfl (lv_at hl 0 rfl) ?_
    refine lv_iconst (v := (1 : Int32)) hx hb dX9_write_13 (by decide) ?_
    obtain ⟨r21, hy20, hf⟩ := ob_e hf
    refine xi0 h (va_runV (As := [.int (1 : Int32)]) (rest := []) hC (c_X9_fails l G q v1 (1 : Int32) hy20 H.size) (xcwV hC lk_X9_142 in_X9 co_X9_fails im_X9_fails se_X9_fails rfl rfl dd_X9_fails ⟨Nat.le_of_ble_eq_true rfl, Nat.le_of_ble_eq_true rfl⟩) (preV0 h (Nat.le_of_ble_eq_true rfl) eMod_0 rfl [.int (1 : Int32)]) rfl rfl hl.1 rfl (lv_room (Nat.le_of_ble_eq_true rfl)) dX9_write_14 ⟨Nat.zero_le _, Nat.zero_le _⟩) (fun H locs h => ?_)
    obtain ⟨v22, ev22, hf⟩ := lt_e hf
    rw [← ev22] at h
    have hf := sm_e hf
    exact xiret hC hr hlk h (by rw [← hf]) (by rw [← hf]) dX9_write_17
def m_X9_erase (v : xSt) (p1 : Int32) : Option (Int32 × xSt) := lt (st2 v 0 8 (0 : Int32)) (fun v1 => (if (xwi p1 0 7) = 0 then ob (m_X9_fails v1 (1 : Int32)) (fun r18 => lt (r18.2) (fun v19 => some (r18.1, v19))) else ob (m_X9_whyNot v1 (2 : Int32) p1) (fun r5 => (if r5 ≤ 0 then ob (m_X9_saves v1) (fun r8 => ck (¬ ((552 : Int32) < 0 ∨ 797 ≤ (552 : Int32).toNatClampNeg)) (lt (st2 r8 1 (552 : Int32).toNatClampNeg (0 : Int32)) (fun v10 => ob (m_X9_beginsErase v10 p1 (-1 : Int32)) (fun r12 => lt (r12.2) (fun v13 => some (r12.1, v13)))))) else ob (m_X9_fails v1 (2 : Int32)) (fun r15 => lt (r15.2) (fun v16 => some (r15.1, v16)))))))
set_option maxHeartbeats 4000000 in
set_option maxRecDepth 100000 in
theorem c_X9_erase (l : Launch) (G : xGl) (q : Nat → Nat) (v : xSt) (p1 : Int32) {z : (Int32 × xSt)} (hf : m_X9_erase v p1 = some z) : mRW l yX9_erase (wM yX9_erase cX9_erase 2 (some .int)) { frames := 4, cells := 0, slots := 0, locals := 85 } G (eMod G) 8 q v [.ref (q 0), .int p1] (qI z.1) z.2 := by
  refine xRW (cc := cX9_erase) (maxL := 2) (ret := (some .int)) (by decide) rfl (Nat.le_of_ble_eq_true rfl) ?_
  intro p e s m below meth c ls A hC hr hlk h hl
  have hx := hC.1
  have hb := hC.2.1
  have hl : lv_has ls 2 [(0, .ref (q 0)), (1, .int p1)] := hl
  unfold m_X9_erase at hf
  obtain ⟨H, hH⟩ : ∃ H, H = s.heap := ⟨_, rfl⟩
  obtain ⟨locs, hlo⟩ : ∃ x : List Loc, x = [] := ⟨_, rfl⟩
  have h : hg G (eMod G) 8 q v A s H locs := by rw [hH, hlo]; exact h
  rw [← hlo, ← hH]
  clear hH hlo
  refine lv_aload_n hx hb dX9_erase_0 rfl (lv_at hl 0 rfl) ?_
  refine lv_iconst (v := (0 : Int32)) hx hb dX9_erase_1 (by decide) ?_
  refine xput hC h (C := RX9) (T := TX9) (N := 17) (wM_us uw_X9) tyX9_ok nmX9 0 (Nat.le_of_ble_eq_true rfl) eMod_0 rfl 8 (by decide) (wM_in fl_X9_31) rfl (ty := .int) (tyX9_ok 8 (by decide)) rfl rfl (Nat.le_of_ble_eq_true rfl) (eMod_0.trans rfl) dX9_erase_2 (fun H locs h => ?_)
  obtain ⟨v1, ev1, hf⟩ := lt_e hf
  rw [← ev1] at h
  refine lv_iload_n hx hb dX9_erase_5 rfl (lv_at hl 1 rfl) ?_
  refine xzG h (va_runS (As := [.int p1]) (rest := []) hC (k_X9_isSector l G q v1 p1 H.size) (xcwS hC lk_X9_157 in_X9 co_X9_isSector st_X9_isSector rfl rfl dd_X9_isSector ⟨Nat.le_of_ble_eq_true rfl, Nat.le_of_ble_eq_true rfl⟩) (preSN h.o [.int p1]) rfl rfl hl.1 rfl (lv_room (Nat.le_of_ble_eq_true rfl)) dX9_erase_6 ⟨Nat.zero_le _, Nat.zero_le _⟩) (fun H locs hz2 h => ?_)
  refine lv_if_ne (tgt := 18) hx hb dX9_erase_9 (by decide) (fun c3 => ?_) (fun c3 => ?_)
  · have hf := it_f c3 hf
    refine lv_aload_n hx hb dX9_erase_18 rfl (lv_at hl 0 rfl) ?_
    refine lv_iconst (v := (2 : Int32)) hx hb dX9_erase_19 (by decide) ?_
    refine lv_iload_n hx hb dX9_erase_20 rfl (lv_at hl 1 rfl) ?_
    obtain ⟨r5, hy4, hf⟩ := ob_e hf
    refine xiG h (va_runV (As := [.int (2 : Int32), .int p1]) (rest := []) hC (c_X9_whyNot l G q v1 (2 : Int32) p1 hy4 H.size) (xcwV hC lk_X9_154 in_X9 co_X9_whyNot im_X9_whyNot se_X9_whyNot rfl rfl dd_X9_whyNot ⟨Nat.le_of_ble_eq_true rfl, Nat.le_of_ble_eq_true rfl⟩) (preVO0 h.o (Nat.le_of_ble_eq_true rfl) eMod_0 rfl [.int (2 : Int32), .int p1]) rfl rfl hl.1 rfl (lv_room (Nat.le_of_ble_eq_true rfl)) dX9_erase_21 ⟨Nat.zero_le _, Nat.zero_le _⟩) (fun H locs h => ?_)
    refine lv_if_le (tgt := 33) hx hb dX9_erase_24 (by decide) (fun c6 => ?_) (fun c6 => ?_)
    · have hf := it_t c6 hf
      refine lv_aload_n hx hb dX9_erase_33 rfl (lv_at hl 0 rfl) ?_
      obtain ⟨r8, hy7, hf⟩ := ob_e hf
      refine xv0 h (va_runV (As := []) (rest := []) hC (c_X9_saves l G q v1 hy7 H.size) (xcwV hC lk_X9_145 in_X9 co_X9_saves im_X9_saves se_X9_saves rfl rfl dd_X9_saves ⟨Nat.le_of_ble_eq_true rfl, Nat.le_of_ble_eq_true rfl⟩) (preV0 h (Nat.le_of_ble_eq_true rfl) eMod_0 rfl []) rfl rfl hl.1 rfl (lv_room (Nat.le_of_ble_eq_true rfl)) dX9_erase_34 ⟨Nat.zero_le _, Nat.zero_le _⟩) (fun H locs h => ?_)
      refine lv_aload_n hx hb dX9_erase_37 rfl (lv_at hl 0 rfl) ?_
      refine xget hC h.o (C := RX9) (T := TX9) (N := 17) (wM_us uw_X9) 0 (Nat.le_of_ble_eq_true rfl) eMod_0 rfl 0 (by decide) (wM_in fl_X9_7) rfl dX9_erase_38 ?_
      refine lv_sipush (v := (552 : Int32)) hx hb dX9_erase_41 (by decide) ?_
      refine lv_iconst (v := (0 : Int32)) hx hb dX9_erase_44 (by decide) ?_
      obtain ⟨hi9, hf⟩ := ck_e hf
      refine xiast hC h 1 (Nat.le_of_ble_eq_true rfl) (fun _ => eMod_1) hi9 dX9_erase_45 (fun H locs h => ?_)
      obtain ⟨v10, ev10, hf⟩ := lt_e hf
      rw [← ev10] at h
      refine lv_aload_n hx hb dX9_erase_46 rfl (lv_at hl 0 rfl) ?_
      refine lv_iload_n hx hb dX9_erase_47 rfl (lv_at hl 1 rfl) ?_
      refine lv_iconst (v := (-1 : Int32)) hx hb dX9_erase_48 (by decide) ?_
      obtain ⟨r12, hy11, hf⟩ := ob_e hf
      refine xi0 h (va_runV (As := [.int p1, .int (-1 : Int32)]) (rest := []) hC (c_X9_beginsErase l G q v10 p1 (-1 : Int32) hy11 H.size) (xcwV hC lk_X9_72 in_X9 co_X9_beginsErase im_X9_beginsErase se_X9_beginsErase rfl rfl dd_X9_beginsErase ⟨Nat.le_of_ble_eq_true rfl, Nat.le_of_ble_eq_true rfl⟩) (preV0 h (Nat.le_of_ble_eq_true rfl) eMod_0 rfl [.int p1, .int (-1 : Int32)]) rfl rfl hl.1 rfl (lv_room (Nat.le_of_ble_eq_true rfl)) dX9_erase_49 ⟨Nat.zero_le _, Nat.zero_le _⟩) (fun H locs h => ?_)
      obtain ⟨v13, ev13, hf⟩ := lt_e hf
      rw [← ev13] at h
      have hf := sm_e hf
      exact xiret hC hr hlk h (by rw [← hf]) (by rw [← hf]) dX9_erase_52
    · have hf := it_f c6 hf
      refine lv_aload_n hx hb dX9_erase_27 rfl (lv_at hl 0 rfl) ?_
      refine lv_iconst (v := (2 : Int32)) hx hb dX9_erase_28 (by decide) ?_
      obtain ⟨r15, hy14, hf⟩ := ob_e hf
      refine xi0 h (va_runV (As := [.int (2 : Int32)]) (rest := []) hC (c_X9_fails l G q v1 (2 : Int32) hy14 H.size) (xcwV hC lk_X9_142 in_X9 co_X9_fails im_X9_fails se_X9_fails rfl rfl dd_X9_fails ⟨Nat.le_of_ble_eq_true rfl, Nat.le_of_ble_eq_true rfl⟩) (preV0 h (Nat.le_of_ble_eq_true rfl) eMod_0 rfl [.int (2 : Int32)]) rfl rfl hl.1 rfl (lv_room (Nat.le_of_ble_eq_true rfl)) dX9_erase_29 ⟨Nat.zero_le _, Nat.zero_le _⟩) (fun H locs h => ?_)
      obtain ⟨v16, ev16, hf⟩ := lt_e hf
      rw [← ev16] at h
      have hf := sm_e hf
      exact xiret hC hr hlk h (by rw [← hf]) (by rw [← hf]) dX9_erase_32
  · have hf := it_t c3 hf
    refine lv_aload_n hx hb dX9_erase_12 rfl (lv_at hl 0 rfl) ?_
    refine lv_iconst (v := (1 : Int32)) hx hb dX9_erase_13 (by decide) ?_
    obtain ⟨r18, hy17, hf⟩ := ob_e hf
    refine xi0 h (va_runV (As := [.int (1 : Int32)]) (rest := []) hC (c_X9_fails l G q v1 (1 : Int32) hy17 H.size) (xcwV hC lk_X9_142 in_X9 co_X9_fails im_X9_fails se_X9_fails rfl rfl dd_X9_fails ⟨Nat.le_of_ble_eq_true rfl, Nat.le_of_ble_eq_true rfl⟩) (preV0 h (Nat.le_of_ble_eq_true rfl) eMod_0 rfl [.int (1 : Int32)]) rfl rfl hl.1 rfl (lv_room (Nat.le_of_ble_eq_true rfl)) dX9_erase_14 ⟨Nat.zero_le _, Nat.zero_le _⟩) (fun H locs h => ?_)
    obtain ⟨v19, ev19, hf⟩ := lt_e hf
    rw [← ev19] at h
    have hf := sm_e hf
    exact xiret hC hr hlk h (by rw [← hf]) (by rw [← hf]) dX9_erase_17
def m_X9_lock (v : xSt) (p1 : Int32) (p2 : Int32) : Option (Int32 × xSt) := lt (st2 v 0 8 (0 : Int32)) (fun v1 => lt (fun (_ : Unit) => ob (m_X9_fails v1 (1 : Int32)) (fun r5 => lt (r5.2) (fun v6 => some (r5.1, v6)))) (fun j3 => (if (xwi p1 (0 : Int32) (4 : Int32)) = 0 then j3 () else (if (xwi p2 (0 : Int32) (1 : Int32)) = 0 then j3 () else ob (m_X9_whyNot v1 (3 : Int32) p1) (fun r11 => (if r11 ≤ 0 then ob (m_X9_saves v1) (fun r14 => ck (¬ ((552 : Int32) < 0 ∨ 797 ≤ (552 : Int32).toNatClampNeg)) (lt (st2 r14 1 (552 : Int32).toNatClampNeg (0 : Int32)) (fun v16 => ob (m_X9_beginsLock v16 p1 p2) (fun r18 => lt (r18.2) (fun v19 => some (r18.1, v19)))))) else ob (m_X9_fails v1 (2 : Int32)) (fun r21 => lt (r21.2) (fun v22 => some (r21.1, v22)))))))))
set_option maxHeartbeats 4000000 in
set_option maxRecDepth 100000 in
theorem c_X9_lock (l : Launch) (G : xGl) (q : Nat → Nat) (v : xSt) (p1 : Int32) (p2 : Int32) {z : (Int32 × xSt)} (hf : m_X9_lock v p1 p2 = some z) : mRW l yX9_lock (wM yX9_lock cX9_lock 3 (some .int)) { frames := 4, cells := 0, slots := 0, locals := 85 } G (eMod G) 8 q v [.ref (q 0), .int p1, .int p2] (qI z.1) z.2 := by
  refine xRW (cc := cX9_lock) (maxL := 3) (ret := (some .int)) (by decide) rfl (Nat.le_of_ble_eq_true rfl) ?_
  intro p e s m below meth c ls A hC hr hlk h hl
  have hx := hC.1
  have hb := hC.2.1
  have hl : lv_has ls 3 [(0, .ref (q 0)), (1, .int p1), (2, .int p2)] := hl
  unfold m_X9_lock at hf
  obtain ⟨H, hH⟩ : ∃ H, H = s.heap := ⟨_, rfl⟩
  obtain ⟨locs, hlo⟩ : ∃ x : List Loc, x = [] := ⟨_, rfl⟩
  have h : hg G (eMod G) 8 q v A s H locs := by rw [hH, hlo]; exact h
  rw [← hlo, ← hH]
  clear hH hlo
  refine lv_aload_n hx hb dX9_lock_0 rfl (lv_at hl 0 rfl) ?_
  refine lv_iconst (v := (0 : Int32)) hx hb dX9_lock_1 (by decide) ?_
  refine xput hC h (C := RX9) (T := TX9) (N := 17) (wM_us uw_X9) tyX9_ok nmX9 0 (Nat.le_of_ble_eq_true rfl) eMod_0 rfl 8 (by decide) (wM_in fl_X9_31) rfl (ty := .int) (tyX9_ok 8 (by decide)) rfl rfl (Nat.le_of_ble_eq_true rfl) (eMod_0.trans rfl) dX9_lock_2 (fun H locs h => ?_)
  obtain ⟨v1, ev1, hf⟩ := lt_e hf
  rw [← ev1] at h
  refine lv_iload_n hx hb dX9_lock_5 rfl (lv_at hl 1 rfl) ?_
  refine lv_iconst (v := (0 : Int32)) hx hb dX9_lock_6 (by decide) ?_
  refine lv_iconst (v := (4 : Int32)) hx hb dX9_lock_7 (by decide) ?_
  refine xzG h (va_runS (As := [.int p1, .int (0 : Int32), .int (4 : Int32)]) (rest := []) hC (k_X9_in l G q v1 p1 (0 : Int32) (4 : Int32) H.size) (xcwS hC lk_X9_42 in_X9 co_X9_in st_X9_in rfl rfl dd_X9_in ⟨Nat.le_of_ble_eq_true rfl, Nat.le_of_ble_eq_true rfl⟩) (preSN h.o [.int p1, .int (0 : Int32), .int (4 : Int32)]) rfl rfl hl.1 rfl (lv_room (Nat.le_of_ble_eq_true rfl)) dX9_lock_8 ⟨Nat.zero_le _, Nat.zero_le _⟩) (fun H locs hz2 h => ?_)
  obtain ⟨j3, ej3, hf⟩ := lt_e hf
  have hj3 : ∀ (uu : Unit) (H : Heap) (locs : List Loc), hg G (eMod G) 8 q v1 A s H locs → ∀ (ls : Array Slot), lv_has ls 3 [(0, .ref (q 0))] → j3 uu = some z → W p l e { frames := 4, cells := 0, slots := 0, locals := 85 } s m [.ref (q 0), .int p1, .int p2].toArray below meth c H locs 0 0 (MQ below ((qI z.1) (cB G (eMod G) 8 q z.2 A) A) [.ref (q 0), .int p1, .int p2].toArray s 0 0 A) (F0 m 23 ls []) := by
    intro uu H locs h ls hl hf
    rw [ej3] at hf
    refine lv_aload_n hx hb dX9_lock_23 rfl (lv_at hl 0 rfl) ?_
    refine lv_iconst (v := (1 : Int32)) hx hb dX9_lock_24 (by decide) ?_
    obtain ⟨r5, hy4, hf⟩ := ob_e hf
    refine xi0 h (va_runV (As := [.int (1 : Int32)]) (rest := []) hC (c_X9_fails l G q v1 (1 : Int32) hy4 H.size) (xcwV hC lk_X9_142 in_X9 co_X9_fails im_X9_fails se_X9_fails rfl rfl dd_X9_fails ⟨Nat.le_of_ble_eq_true rfl, Nat.le_of_ble_eq_true rfl⟩) (preV0 h (Nat.le_of_ble_eq_true rfl) eMod_0 rfl [.int (1 : Int32)]) rfl rfl hl.1 rfl (lv_room (Nat.le_of_ble_eq_true rfl)) dX9_lock_25 ⟨Nat.zero_le _, Nat.zero_le _⟩) (fun H locs h => ?_)
    obtain ⟨v6, ev6, hf⟩ := lt_e hf
    rw [← ev6] at h
    have hf := sm_e hf
    exact xiret hC hr hlk h (by rw [← hf]) (by rw [← hf]) dX9_lock_28
  refine lv_if_eq (tgt := 23) hx hb dX9_lock_11 (by decide) (fun c7 => ?_) (fun c7 => ?_)
  · have hf := it_t c7 hf
    exact hj3 () H locs h ls (lv_sub hl [0] rfl) hf
  · have hf := it_f c7 hf
    refine lv_iload_n hx hb dX9_lock_14 rfl (lv_at hl 2 rfl) ?_
    refine lv_iconst (v := (0 : Int32)) hx hb dX9_lock_15 (by decide) ?_
    refine lv_iconst (v := (1 : Int32)) hx hb dX9_lock_16 (by decide) ?_
    refine xzG h (va_runS (As := [.int p2, .int (0 : Int32), .int (1 : Int32)]) (rest := []) hC (k_X9_in l G q v1 p2 (0 : Int32) (1 : Int32) H.size) (xcwS hC lk_X9_42 in_X9 co_X9_in st_X9_in rfl rfl dd_X9_in ⟨Nat.le_of_ble_eq_true rfl, Nat.le_of_ble_eq_true rfl⟩) (preSN h.o [.int p2, .int (0 : Int32), .int (1 : Int32)]) rfl rfl hl.1 rfl (lv_room (Nat.le_of_ble_eq_true rfl)) dX9_lock_17 ⟨Nat.zero_le _, Nat.zero_le _⟩) (fun H locs hz8 h => ?_)
    refine lv_if_ne (tgt := 29) hx hb dX9_lock_20 (by decide) (fun c9 => ?_) (fun c9 => ?_)
    · have hf := it_f c9 hf
      refine lv_aload_n hx hb dX9_lock_29 rfl (lv_at hl 0 rfl) ?_
      refine lv_iconst (v := (3 : Int32)) hx hb dX9_lock_30 (by decide) ?_
      refine lv_iload_n hx hb dX9_lock_31 rfl (lv_at hl 1 rfl) ?_
      obtain ⟨r11, hy10, hf⟩ := ob_e hf
      refine xiG h (va_runV (As := [.int (3 : Int32), .int p1]) (rest := []) hC (c_X9_whyNot l G q v1 (3 : Int32) p1 hy10 H.size) (xcwV hC lk_X9_154 in_X9 co_X9_whyNot im_X9_whyNot se_X9_whyNot rfl rfl dd_X9_whyNot ⟨Nat.le_of_ble_eq_true rfl, Nat.le_of_ble_eq_true rfl⟩) (preVO0 h.o (Nat.le_of_ble_eq_true rfl) eMod_0 rfl [.int (3 : Int32), .int p1]) rfl rfl hl.1 rfl (lv_room (Nat.le_of_ble_eq_true rfl)) dX9_lock_32 ⟨Nat.zero_le _, Nat.zero_le _⟩) (fun H locs h => ?_)
      refine lv_if_le (tgt := 44) hx hb dX9_lock_35 (by decide) (fun c12 => ?_) (fun c12 => ?_)
      · have hf := it_t c12 hf
        refine lv_aload_n hx hb dX9_lock_44 rfl (lv_at hl 0 rfl) ?_
        obtain ⟨r14, hy13, hf⟩ := ob_e hf
        refine xv0 h (va_runV (As := []) (rest := []) hC (c_X9_saves l G q v1 hy13 H.size) (xcwV hC lk_X9_145 in_X9 co_X9_saves im_X9_saves se_X9_saves rfl rfl dd_X9_saves ⟨Nat.le_of_ble_eq_true rfl, Nat.le_of_ble_eq_true rfl⟩) (preV0 h (Nat.le_of_ble_eq_true rfl) eMod_0 rfl []) rfl rfl hl.1 rfl (lv_room (Nat.le_of_ble_eq_true rfl)) dX9_lock_45 ⟨Nat.zero_le _, Nat.zero_le _⟩) (fun H locs h => ?_)
        refine lv_aload_n hx hb dX9_lock_48 rfl (lv_at hl 0 rfl) ?_
        refine xget hC h.o (C := RX9) (T := TX9) (N := 17) (wM_us uw_X9) 0 (Nat.le_of_ble_eq_true rfl) eMod_0 rfl 0 (by decide) (wM_in fl_X9_7) rfl dX9_lock_49 ?_
        refine lv_sipush (v := (552 : Int32)) hx hb dX9_lock_52 (by decide) ?_
        refine lv_iconst (v := (0 : Int32)) hx hb dX9_lock_55 (by decide) ?_
        obtain ⟨hi15, hf⟩ := ck_e hf
        refine xiast hC h 1 (Nat.le_of_ble_eq_true rfl) (fun _ => eMod_1) hi15 dX9_lock_56 (fun H locs h => ?_)
        obtain ⟨v16, ev16, hf⟩ := lt_e hf
        rw [← ev16] at h
        refine lv_aload_n hx hb dX9_lock_57 rfl (lv_at hl 0 rfl) ?_
        refine lv_iload_n hx hb dX9_lock_58 rfl (lv_at hl 1 rfl) ?_
        refine lv_iload_n hx hb dX9_lock_59 rfl (lv_at hl 2 rfl) ?_
        obtain ⟨r18, hy17, hf⟩ := ob_e hf
        refine xi0 h (va_runV (As := [.int p1, .int p2]) (rest := []) hC (c_X9_beginsLock l G q v16 p1 p2 hy17 H.size) (xcwV hC lk_X9_160 in_X9 co_X9_beginsLock im_X9_beginsLock se_X9_beginsLock rfl rfl dd_X9_beginsLock ⟨Nat.le_of_ble_eq_true rfl, Nat.le_of_ble_eq_true rfl⟩) (preV0 h (Nat.le_of_ble_eq_true rfl) eMod_0 rfl [.int p1, .int p2]) rfl rfl hl.1 rfl (lv_room (Nat.le_of_ble_eq_true rfl)) dX9_lock_60 ⟨Nat.zero_le _, Nat.zero_le _⟩) (fun H locs h => ?_)
        obtain ⟨v19, ev19, hf⟩ := lt_e hf
        rw [← ev19] at h
        have hf := sm_e hf
        exact xiret hC hr hlk h (by rw [← hf]) (by rw [← hf]) dX9_lock_63
      · have hf := it_f c12 hf
        refine lv_aload_n hx hb dX9_lock_38 rfl (lv_at hl 0 rfl) ?_
        refine lv_iconst (v := (2 : Int32)) hx hb dX9_lock_39 (by decide) ?_
        obtain ⟨r21, hy20, hf⟩ := ob_e hf
        refine xi0 h (va_runV (As := [.int (2 : Int32)]) (rest := []) hC (c_X9_fails l G q v1 (2 : Int32) hy20 H.size) (xcwV hC lk_X9_142 in_X9 co_X9_fails im_X9_fails se_X9_fails rfl rfl dd_X9_fails ⟨Nat.le_of_ble_eq_true rfl, Nat.le_of_ble_eq_true rfl⟩) (preV0 h (Nat.le_of_ble_eq_true rfl) eMod_0 rfl [.int (2 : Int32)]) rfl rfl hl.1 rfl (lv_room (Nat.le_of_ble_eq_true rfl)) dX9_lock_40 ⟨Nat.zero_le _, Nat.zero_le _⟩) (fun H locs h => ?_)
        obtain ⟨v22, ev22, hf⟩ := lt_e hf
        rw [← ev22] at h
        have hf := sm_e hf
        exact xiret hC hr hlk h (by rw [← hf]) (by rw [← hf]) dX9_lock_43
    · have hf := it_t c9 hf
      exact hj3 () H locs h ls (lv_sub hl [0] rfl) hf
def m_X9_freeze (v : xSt) : Option (Int32 × xSt) := lt (st2 v 0 8 (0 : Int32)) (fun v1 => ob (m_X9_isBusy v1) (fun r3 => (if r3 = 0 then ob (m_X9_saves v1) (fun r7 => ck (¬ ((553 : Int32) < 0 ∨ 797 ≤ (553 : Int32).toNatClampNeg)) (ck (¬ ((553 : Int32) < 0 ∨ 797 ≤ (553 : Int32).toNatClampNeg)) (lt (st2 r7 1 (553 : Int32).toNatClampNeg (1 : Int32)) (fun v10 => some ((r7 1 (553 : Int32).toNatClampNeg), v10))))) else ob (m_X9_fails v1 (1 : Int32)) (fun r12 => lt (r12.2) (fun v13 => some (r12.1, v13))))))
set_option maxHeartbeats 4000000 in
set_option maxRecDepth 100000 in
theorem c_X9_freeze (l : Launch) (G : xGl) (q : Nat → Nat) (v : xSt) {z : (Int32 × xSt)} (hf : m_X9_freeze v = some z) : mRW l yX9_freeze (wM yX9_freeze cX9_freeze 2 (some .int)) { frames := 2, cells := 0, slots := 0, locals := 45 } G (eMod G) 8 q v [.ref (q 0)] (qI z.1) z.2 := by
  refine xRW (cc := cX9_freeze) (maxL := 2) (ret := (some .int)) (by decide) rfl (Nat.le_of_ble_eq_true rfl) ?_
  intro p e s m below meth c ls A hC hr hlk h hl
  have hx := hC.1
  have hb := hC.2.1
  have hl : lv_has ls 2 [(0, .ref (q 0))] := hl
  unfold m_X9_freeze at hf
  obtain ⟨H, hH⟩ : ∃ H, H = s.heap := ⟨_, rfl⟩
  obtain ⟨locs, hlo⟩ : ∃ x : List Loc, x = [] := ⟨_, rfl⟩
  have h : hg G (eMod G) 8 q v A s H locs := by rw [hH, hlo]; exact h
  rw [← hlo, ← hH]
  clear hH hlo
  refine lv_aload_n hx hb dX9_freeze_0 rfl (lv_at hl 0 rfl) ?_
  refine lv_iconst (v := (0 : Int32)) hx hb dX9_freeze_1 (by decide) ?_
  refine xput hC h (C := RX9) (T := TX9) (N := 17) (wM_us uw_X9) tyX9_ok nmX9 0 (Nat.le_of_ble_eq_true rfl) eMod_0 rfl 8 (by decide) (wM_in fl_X9_31) rfl (ty := .int) (tyX9_ok 8 (by decide)) rfl rfl (Nat.le_of_ble_eq_true rfl) (eMod_0.trans rfl) dX9_freeze_2 (fun H locs h => ?_)
  obtain ⟨v1, ev1, hf⟩ := lt_e hf
  rw [← ev1] at h
  refine lv_aload_n hx hb dX9_freeze_5 rfl (lv_at hl 0 rfl) ?_
  obtain ⟨r3, hy2, hf⟩ := ob_e hf
  refine xzG h (va_runV (As := []) (rest := []) hC (c_X9_isBusy l G q v1 hy2 H.size) (xcwV hC lk_X9_116 in_X9 co_X9_isBusy im_X9_isBusy se_X9_isBusy rfl rfl dd_X9_isBusy ⟨Nat.le_of_ble_eq_true rfl, Nat.le_of_ble_eq_true rfl⟩) (preVO0 h.o (Nat.le_of_ble_eq_true rfl) eMod_0 rfl []) rfl rfl hl.1 rfl (lv_room (Nat.le_of_ble_eq_true rfl)) dX9_freeze_6 ⟨Nat.zero_le _, Nat.zero_le _⟩) (fun H locs hz4 h => ?_)
  refine lv_if_eq (tgt := 18) hx hb dX9_freeze_9 (by decide) (fun c5 => ?_) (fun c5 => ?_)
  · have hf := it_t c5 hf
    refine lv_aload_n hx hb dX9_freeze_18 rfl (lv_at hl 0 rfl) ?_
    obtain ⟨r7, hy6, hf⟩ := ob_e hf
    refine xv0 h (va_runV (As := []) (rest := []) hC (c_X9_saves l G q v1 hy6 H.size) (xcwV hC lk_X9_145 in_X9 co_X9_saves im_X9_saves se_X9_saves rfl rfl dd_X9_saves ⟨Nat.le_of_ble_eq_true rfl, Nat.le_of_ble_eq_true rfl⟩) (preV0 h (Nat.le_of_ble_eq_true rfl) eMod_0 rfl []) rfl rfl hl.1 rfl (lv_room (Nat.le_of_ble_eq_true rfl)) dX9_freeze_19 ⟨Nat.zero_le _, Nat.zero_le _⟩) (fun H locs h => ?_)
    refine lv_aload_n hx hb dX9_freeze_22 rfl (lv_at hl 0 rfl) ?_
    refine xget hC h.o (C := RX9) (T := TX9) (N := 17) (wM_us uw_X9) 0 (Nat.le_of_ble_eq_true rfl) eMod_0 rfl 0 (by decide) (wM_in fl_X9_7) rfl dX9_freeze_23 ?_
    refine lv_sipush (v := (553 : Int32)) hx hb dX9_freeze_26 (by decide) ?_
    obtain ⟨hi8, hf⟩ := ck_e hf
    refine xiald hC h.o 1 (Nat.le_of_ble_eq_true rfl) eMod_1 hi8 dX9_freeze_29 ?_
    refine lv_istore_n (lv' := [(1, .int (r7 1 (553 : Int32).toNatClampNeg)), (0, .ref (q 0))]) hx hb dX9_freeze_30 rfl hl (by decide) rfl (fun ls hl => ?_)
    refine lv_aload_n hx hb dX9_freeze_31 rfl (lv_at hl 1 rfl) ?_
    refine xget hC h.o (C := RX9) (T := TX9) (N := 17) (wM_us uw_X9) 0 (Nat.le_of_ble_eq_true rfl) eMod_0 rfl 0 (by decide) (wM_in fl_X9_7) rfl dX9_freeze_32 ?_
    refine lv_sipush (v := (553 : Int32)) hx hb dX9_freeze_35 (by decide) ?_
    refine lv_iconst (v := (1 : Int32)) hx hb dX9_freeze_38 (by decide) ?_
    obtain ⟨hi9, hf⟩ := ck_e hf
    refine xiast hC h 1 (Nat.le_of_ble_eq_true rfl) (fun _ => eMod_1) hi9 dX9_freeze_39 (fun H locs h => ?_)
    obtain ⟨v10, ev10, hf⟩ := lt_e hf
    rw [← ev10] at h
    refine lv_iload_n hx hb dX9_freeze_40 rfl (lv_at hl 0 rfl) ?_
    have hf := sm_e hf
    exact xiret hC hr hlk h (by rw [← hf]) (by rw [← hf]) dX9_freeze_41
  · have hf := it_f c5 hf
    refine lv_aload_n hx hb dX9_freeze_12 rfl (lv_at hl 0 rfl) ?_
    refine lv_iconst (v := (1 : Int32)) hx hb dX9_freeze_13 (by decide) ?_
    obtain ⟨r12, hy11, hf⟩ := ob_e hf
    refine xi0 h (va_runV (As := [.int (1 : Int32)]) (rest := []) hC (c_X9_fails l G q v1 (1 : Int32) hy11 H.size) (xcwV hC lk_X9_142 in_X9 co_X9_fails im_X9_fails se_X9_fails rfl rfl dd_X9_fails ⟨Nat.le_of_ble_eq_true rfl, Nat.le_of_ble_eq_true rfl⟩) (preV0 h (Nat.le_of_ble_eq_true rfl) eMod_0 rfl [.int (1 : Int32)]) rfl rfl hl.1 rfl (lv_room (Nat.le_of_ble_eq_true rfl)) dX9_freeze_14 ⟨Nat.zero_le _, Nat.zero_le _⟩) (fun H locs h => ?_)
    obtain ⟨v13, ev13, hf⟩ := lt_e hf
    rw [← ev13] at h
    have hf := sm_e hf
    exact xiret hC hr hlk h (by rw [← hf]) (by rw [← hf]) dX9_freeze_17
def m_X9_suspend (v : xSt) : Option (Int32 × xSt) := lt (st2 v 0 8 (0 : Int32)) (fun v1 => ob (m_X9_under v1 (0 : Int32)) (fun r3 => lt (fun (_ : Unit) => ob (m_X9_fails v1 (1 : Int32)) (fun r6 => lt (r6.2) (fun v7 => some (r6.1, v7)))) (fun j4 => lt (fun (_ : Unit) => ob (m_X9_isAside v1) (fun r10 => (if r10 = 0 then ob (m_X9_saves v1) (fun r14 => ob (m_X9_setsAside r14 (0 : Int32)) (fun r16 => ob (m_X9_apart r16 (3 : Int32)) (fun r18 => ob (m_X9_apart r16 (2 : Int32)) (fun r20 => some ((r18 - r20), r16))))) else j4 ()))) (fun j8 => (if r3 = (1 : Int32) then j8 () else ob (m_X9_under v1 (0 : Int32)) (fun r23 => (if r23 = (2 : Int32) then j8 () else j4 ())))))))
set_option maxHeartbeats 4000000 in
set_option maxRecDepth 100000 in
theorem c_X9_suspend (l : Launch) (G : xGl) (q : Nat → Nat) (v : xSt) {z : (Int32 × xSt)} (hf : m_X9_suspend v = some z) : mRW l yX9_suspend (wM yX9_suspend cX9_suspend 1 (some .int)) { frames := 2, cells := 0, slots := 0, locals := 45 } G (eMod G) 8 q v [.ref (q 0)] (qI z.1) z.2 := by
  refine xRW (cc := cX9_suspend) (maxL := 1) (ret := (some .int)) (by decide) rfl (Nat.le_of_ble_eq_true rfl) ?_
  intro p e s m below meth c ls A hC hr hlk h hl
  have hx := hC.1
  have hb := hC.2.1
  have hl : lv_has ls 1 [(0, .ref (q 0))] := hl
  unfold m_X9_suspend at hf
  obtain ⟨H, hH⟩ : ∃ H, H = s.heap := ⟨_, rfl⟩
  obtain ⟨locs, hlo⟩ : ∃ x : List Loc, x = [] := ⟨_, rfl⟩
  have h : hg G (eMod G) 8 q v A s H locs := by rw [hH, hlo]; exact h
  rw [← hlo, ← hH]
  clear hH hlo
  refine lv_aload_n hx hb dX9_suspend_0 rfl (lv_at hl 0 rfl) ?_
  refine lv_iconst (v := (0 : Int32)) hx hb dX9_suspend_1 (by decide) ?_
  refine xput hC h (C := RX9) (T := TX9) (N := 17) (wM_us uw_X9) tyX9_ok nmX9 0 (Nat.le_of_ble_eq_true rfl) eMod_0 rfl 8 (by decide) (wM_in fl_X9_31) rfl (ty := .int) (tyX9_ok 8 (by decide)) rfl rfl (Nat.le_of_ble_eq_true rfl) (eMod_0.trans rfl) dX9_suspend_2 (fun H locs h => ?_)
  obtain ⟨v1, ev1, hf⟩ := lt_e hf
  rw [← ev1] at h
  refine lv_aload_n hx hb dX9_suspend_5 rfl (lv_at hl 0 rfl) ?_
  refine lv_iconst (v := (0 : Int32)) hx hb dX9_suspend_6 (by decide) ?_
  obtain ⟨r3, hy2, hf⟩ := ob_e hf
  refine xiG h (va_runV (As := [.int (0 : Int32)]) (rest := []) hC (c_X9_under l G q v1 (0 : Int32) hy2 H.size) (xcwV hC lk_X9_46 in_X9 co_X9_under im_X9_under se_X9_under rfl rfl dd_X9_under ⟨Nat.le_of_ble_eq_true rfl, Nat.le_of_ble_eq_true rfl⟩) (preVO0 h.o (Nat.le_of_ble_eq_true rfl) eMod_0 rfl [.int (0 : Int32)]) rfl rfl hl.1 rfl (lv_room (Nat.le_of_ble_eq_true rfl)) dX9_suspend_7 ⟨Nat.zero_le _, Nat.zero_le _⟩) (fun H locs h => ?_)
  refine lv_iconst (v := (1 : Int32)) hx hb dX9_suspend_10 (by decide) ?_
  obtain ⟨j4, ej4, hf⟩ := lt_e hf
  have hj4 : ∀ (uu : Unit) (H : Heap) (locs : List Loc), hg G (eMod G) 8 q v1 A s H locs → ∀ (ls : Array Slot), lv_has ls 1 [(0, .ref (q 0))] → j4 uu = some z → W p l e { frames := 2, cells := 0, slots := 0, locals := 45 } s m [.ref (q 0)].toArray below meth c H locs 0 0 (MQ below ((qI z.1) (cB G (eMod G) 8 q z.2 A) A) [.ref (q 0)].toArray s 0 0 A) (F0 m 30 ls []) := by
    intro uu H locs h ls hl hf
    rw [ej4] at hf
    refine lv_aload_n hx hb dX9_suspend_30 rfl (lv_at hl 0 rfl) ?_
    refine lv_iconst (v := (1 : Int32)) hx hb dX9_suspend_31 (by decide) ?_
    obtain ⟨r6, hy5, hf⟩ := ob_e hf
    refine xi0 h (va_runV (As := [.int (1 : Int32)]) (rest := []) hC (c_X9_fails l G q v1 (1 : Int32) hy5 H.size) (xcwV hC lk_X9_142 in_X9 co_X9_fails im_X9_fails se_X9_fails rfl rfl dd_X9_fails ⟨Nat.le_of_ble_eq_true rfl, Nat.le_of_ble_eq_true rfl⟩) (preV0 h (Nat.le_of_ble_eq_true rfl) eMod_0 rfl [.int (1 : Int32)]) rfl rfl hl.1 rfl (lv_room (Nat.le_of_ble_eq_true rfl)) dX9_suspend_32 ⟨Nat.zero_le _, Nat.zero_le _⟩) (fun H locs h => ?_)
    obtain ⟨v7, ev7, hf⟩ := lt_e hf
    rw [← ev7] at h
    have hf := sm_e hf
    exact xiret hC hr hlk h (by rw [← hf]) (by rw [← hf]) dX9_suspend_35
  obtain ⟨j8, ej8, hf⟩ := lt_e hf
  have hj8 : ∀ (uu : Unit) (H : Heap) (locs : List Loc), hg G (eMod G) 8 q v1 A s H locs → ∀ (ls : Array Slot), lv_has ls 1 [(0, .ref (q 0))] → j8 uu = some z → W p l e { frames := 2, cells := 0, slots := 0, locals := 45 } s m [.ref (q 0)].toArray below meth c H locs 0 0 (MQ below ((qI z.1) (cB G (eMod G) 8 q z.2 A) A) [.ref (q 0)].toArray s 0 0 A) (F0 m 23 ls []) := by
    intro uu H locs h ls hl hf
    rw [ej8] at hf
    refine lv_aload_n hx hb dX9_suspend_23 rfl (lv_at hl 0 rfl) ?_
    obtain ⟨r10, hy9, hf⟩ := ob_e hf
    refine xzG h (va_runV (As := []) (rest := []) hC (c_X9_isAside l G q v1 hy9 H.size) (xcwV hC lk_X9_103 in_X9 co_X9_isAside im_X9_isAside se_X9_isAside rfl rfl dd_X9_isAside ⟨Nat.le_of_ble_eq_true rfl, Nat.le_of_ble_eq_true rfl⟩) (preVO0 h.o (Nat.le_of_ble_eq_true rfl) eMod_0 rfl []) rfl rfl hl.1 rfl (lv_room (Nat.le_of_ble_eq_true rfl)) dX9_suspend_24 ⟨Nat.zero_le _, Nat.zero_le _⟩) (fun H locs hz11 h => ?_)
    refine lv_if_eq (tgt := 36) hx hb dX9_suspend_27 (by decide) (fun c12 => ?_) (fun c12 => ?_)
    · have hf := it_t c12 hf
      refine lv_aload_n hx hb dX9_suspend_36 rfl (lv_at hl 0 rfl) ?_
      obtain ⟨r14, hy13, hf⟩ := ob_e hf
      refine xv0 h (va_runV (As := []) (rest := []) hC (c_X9_saves l G q v1 hy13 H.size) (xcwV hC lk_X9_145 in_X9 co_X9_saves im_X9_saves se_X9_saves rfl rfl dd_X9_saves ⟨Nat.le_of_ble_eq_true rfl, Nat.le_of_ble_eq_true rfl⟩) (preV0 h (Nat.le_of_ble_eq_true rfl) eMod_0 rfl []) rfl rfl hl.1 rfl (lv_room (Nat.le_of_ble_eq_true rfl)) dX9_suspend_37 ⟨Nat.zero_le _, Nat.zero_le _⟩) (fun H locs h => ?_)
      refine lv_aload_n hx hb dX9_suspend_40 rfl (lv_at hl 0 rfl) ?_
      refine lv_iconst (v := (0 : Int32)) hx hb dX9_suspend_41 (by decide) ?_
      obtain ⟨r16, hy15, hf⟩ := ob_e hf
      refine xv0 h (va_runV (As := [.int (0 : Int32)]) (rest := []) hC (c_X9_setsAside l G q r14 (0 : Int32) hy15 H.size) (xcwV hC lk_X9_110 in_X9 co_X9_setsAside im_X9_setsAside se_X9_setsAside rfl rfl dd_X9_setsAside ⟨Nat.le_of_ble_eq_true rfl, Nat.le_of_ble_eq_true rfl⟩) (preV0 h (Nat.le_of_ble_eq_true rfl) eMod_0 rfl [.int (0 : Int32)]) rfl rfl hl.1 rfl (lv_room (Nat.le_of_ble_eq_true rfl)) dX9_suspend_42 ⟨Nat.zero_le _, Nat.zero_le _⟩) (fun H locs h => ?_)
      refine lv_aload_n hx hb dX9_suspend_45 rfl (lv_at hl 0 rfl) ?_
      refine lv_iconst (v := (3 : Int32)) hx hb dX9_suspend_46 (by decide) ?_
      obtain ⟨r18, hy17, hf⟩ := ob_e hf
      refine xiG h (va_runV (As := [.int (3 : Int32)]) (rest := []) hC (c_X9_apart l G q r16 (3 : Int32) hy17 H.size) (xcwV hC lk_X9_50 in_X9 co_X9_apart im_X9_apart se_X9_apart rfl rfl dd_X9_apart ⟨Nat.le_of_ble_eq_true rfl, Nat.le_of_ble_eq_true rfl⟩) (preVO0 h.o (Nat.le_of_ble_eq_true rfl) eMod_0 rfl [.int (3 : Int32)]) rfl rfl hl.1 rfl (lv_room (Nat.le_of_ble_eq_true rfl)) dX9_suspend_47 ⟨Nat.zero_le _, Nat.zero_le _⟩) (fun H locs h => ?_)
      refine lv_aload_n hx hb dX9_suspend_50 rfl (lv_at hl 0 rfl) ?_
      refine lv_iconst (v := (2 : Int32)) hx hb dX9_suspend_51 (by decide) ?_
      obtain ⟨r20, hy19, hf⟩ := ob_e hf
      refine xiG h (va_runV (As := [.int (2 : Int32)]) (rest := [.int r18]) hC (c_X9_apart l G q r16 (2 : Int32) hy19 H.size) (xcwV hC lk_X9_50 in_X9 co_X9_apart im_X9_apart se_X9_apart rfl rfl dd_X9_apart ⟨Nat.le_of_ble_eq_true rfl, Nat.le_of_ble_eq_true rfl⟩) (preVO0 h.o (Nat.le_of_ble_eq_true rfl) eMod_0 rfl [.int (2 : Int32)]) rfl rfl hl.1 rfl (lv_room (Nat.le_of_ble_eq_true rfl)) dX9_suspend_52 ⟨Nat.zero_le _, Nat.zero_le _⟩) (fun H locs h => ?_)
      refine lv_isub hx hb dX9_suspend_55 ?_
      have hf := sm_e hf
      exact xiret hC hr hlk h (by rw [← hf]) (by rw [← hf]) dX9_suspend_56
    · have hf := it_f c12 hf
      exact hj4 () H locs h ls (lv_sub hl [0] rfl) hf
  refine lv_icmp_eq (tgt := 23) hx hb dX9_suspend_11 (by decide) (fun c21 => ?_) (fun c21 => ?_)
  · have hf := it_t c21 hf
    exact hj8 () H locs h ls (lv_sub hl [0] rfl) hf
  · have hf := it_f c21 hf
    refine lv_aload_n hx hb dX9_suspend_14 rfl (lv_at hl 0 rfl) ?_
    refine lv_iconst (v := (0 : Int32)) hx hb dX9_suspend_15 (by decide) ?_
    obtain ⟨r23, hy22, hf⟩ := ob_e hf
    refine xiG h (va_runV (As := [.int (0 : Int32)]) (rest := []) hC (c_X9_under l G q v1 (0 : Int32) hy22 H.size) (xcwV hC lk_X9_46 in_X9 co_X9_under im_X9_under se_X9_under rfl rfl dd_X9_under ⟨Nat.le_of_ble_eq_true rfl, Nat.le_of_ble_eq_true rfl⟩) (preVO0 h.o (Nat.le_of_ble_eq_true rfl) eMod_0 rfl [.int (0 : Int32)]) rfl rfl hl.1 rfl (lv_room (Nat.le_of_ble_eq_true rfl)) dX9_suspend_16 ⟨Nat.zero_le _, Nat.zero_le _⟩) (fun H locs h => ?_)
    refine lv_iconst (v := (2 : Int32)) hx hb dX9_suspend_19 (by decide) ?_
    refine lv_icmp_ne (tgt := 30) hx hb dX9_suspend_20 (by decide) (fun c24 => ?_) (fun c24 => ?_)
    · have hf := it_f c24 hf
      exact hj4 () H locs h ls (lv_sub hl [0] rfl) hf
    · have hf := it_t c24 hf
      exact hj8 () H locs h ls (lv_sub hl [0] rfl) hf
def m_X9_resume (v : xSt) : Option (Int32 × xSt) := lt (st2 v 0 8 (0 : Int32)) (fun v1 => ob (m_X9_isAside v1) (fun r3 => lt (fun (_ : Unit) => ob (m_X9_fails v1 (1 : Int32)) (fun r7 => lt (r7.2) (fun v8 => some (r7.1, v8)))) (fun j5 => (if r3 = 0 then j5 () else ob (m_X9_isBusy v1) (fun r11 => (if r11 = 0 then ob (m_X9_saves v1) (fun r15 => ob (m_X9_takesBack r15) (fun r17 => ob (m_X9_under r17 (3 : Int32)) (fun r19 => ob (m_X9_under r17 (2 : Int32)) (fun r21 => some ((r19 - r21), r17))))) else j5 ()))))))
set_option maxHeartbeats 4000000 in
set_option maxRecDepth 100000 in
theorem c_X9_resume (l : Launch) (G : xGl) (q : Nat → Nat) (v : xSt) {z : (Int32 × xSt)} (hf : m_X9_resume v = some z) : mRW l yX9_resume (wM yX9_resume cX9_resume 1 (some .int)) { frames := 2, cells := 0, slots := 0, locals := 45 } G (eMod G) 8 q v [.ref (q 0)] (qI z.1) z.2 := by
  refine xRW (cc := cX9_resume) (maxL := 1) (ret := (some .int)) (by decide) rfl (Nat.le_of_ble_eq_true rfl) ?_
  intro p e s m below meth c ls A hC hr hlk h hl
  have hx := hC.1
  have hb := hC.2.1
  have hl : lv_has ls 1 [(0, .ref (q 0))] := hl
  unfold m_X9_resume at hf
  obtain ⟨H, hH⟩ : ∃ H, H = s.heap := ⟨_, rfl⟩
  obtain ⟨locs, hlo⟩ : ∃ x : List Loc, x = [] := ⟨_, rfl⟩
  have h : hg G (eMod G) 8 q v A s H locs := by rw [hH, hlo]; exact h
  rw [← hlo, ← hH]
  clear hH hlo
  refine lv_aload_n hx hb dX9_resume_0 rfl (lv_at hl 0 rfl) ?_
  refine lv_iconst (v := (0 : Int32)) hx hb dX9_resume_1 (by decide) ?_
  refine xput hC h (C := RX9) (T := TX9) (N := 17) (wM_us uw_X9) tyX9_ok nmX9 0 (Nat.le_of_ble_eq_true rfl) eMod_0 rfl 8 (by decide) (wM_in fl_X9_31) rfl (ty := .int) (tyX9_ok 8 (by decide)) rfl rfl (Nat.le_of_ble_eq_true rfl) (eMod_0.trans rfl) dX9_resume_2 (fun H locs h => ?_)
  obtain ⟨v1, ev1, hf⟩ := lt_e hf
  rw [← ev1] at h
  refine lv_aload_n hx hb dX9_resume_5 rfl (lv_at hl 0 rfl) ?_
  obtain ⟨r3, hy2, hf⟩ := ob_e hf
  refine xzG h (va_runV (As := []) (rest := []) hC (c_X9_isAside l G q v1 hy2 H.size) (xcwV hC lk_X9_103 in_X9 co_X9_isAside im_X9_isAside se_X9_isAside rfl rfl dd_X9_isAside ⟨Nat.le_of_ble_eq_true rfl, Nat.le_of_ble_eq_true rfl⟩) (preVO0 h.o (Nat.le_of_ble_eq_true rfl) eMod_0 rfl []) rfl rfl hl.1 rfl (lv_room (Nat.le_of_ble_eq_true rfl)) dX9_resume_6 ⟨Nat.zero_le _, Nat.zero_le _⟩) (fun H locs hz4 h => ?_)
  obtain ⟨j5, ej5, hf⟩ := lt_e hf
  have hj5 : ∀ (uu : Unit) (H : Heap) (locs : List Loc), hg G (eMod G) 8 q v1 A s H locs → ∀ (ls : Array Slot), lv_has ls 1 [(0, .ref (q 0))] → j5 uu = some z → W p l e { frames := 2, cells := 0, slots := 0, locals := 45 } s m [.ref (q 0)].toArray below meth c H locs 0 0 (MQ below ((qI z.1) (cB G (eMod G) 8 q z.2 A) A) [.ref (q 0)].toArray s 0 0 A) (F0 m 19 ls []) := by
    intro uu H locs h ls hl hf
    rw [ej5] at hf
    refine lv_aload_n hx hb dX9_resume_19 rfl (lv_at hl 0 rfl) ?_
    refine lv_iconst (v := (1 : Int32)) hx hb dX9_resume_20 (by decide) ?_
    obtain ⟨r7, hy6, hf⟩ := ob_e hf
    refine xi0 h (va_runV (As := [.int (1 : Int32)]) (rest := []) hC (c_X9_fails l G q v1 (1 : Int32) hy6 H.size) (xcwV hC lk_X9_142 in_X9 co_X9_fails im_X9_fails se_X9_fails rfl rfl dd_X9_fails ⟨Nat.le_of_ble_eq_true rfl, Nat.le_of_ble_eq_true rfl⟩) (preV0 h (Nat.le_of_ble_eq_true rfl) eMod_0 rfl [.int (1 : Int32)]) rfl rfl hl.1 rfl (lv_room (Nat.le_of_ble_eq_true rfl)) dX9_resume_21 ⟨Nat.zero_le _, Nat.zero_le _⟩) (fun H locs h => ?_)
    obtain ⟨v8, ev8, hf⟩ := lt_e hf
    rw [← ev8] at h
    have hf := sm_e hf
    exact xiret hC hr hlk h (by rw [← hf]) (by rw [← hf]) dX9_resume_24
  refine lv_if_eq (tgt := 19) hx hb dX9_resume_9 (by decide) (fun c9 => ?_) (fun c9 => ?_)
  · have hf := it_t c9 hf
    exact hj5 () H locs h ls (lv_sub hl [0] rfl) hf
  · have hf := it_f c9 hf
    refine lv_aload_n hx hb dX9_resume_12 rfl (lv_at hl 0 rfl) ?_
    obtain ⟨r11, hy10, hf⟩ := ob_e hf
    refine xzG h (va_runV (As := []) (rest := []) hC (c_X9_isBusy l G q v1 hy10 H.size) (xcwV hC lk_X9_116 in_X9 co_X9_isBusy im_X9_isBusy se_X9_isBusy rfl rfl dd_X9_isBusy ⟨Nat.le_of_ble_eq_true rfl, Nat.le_of_ble_eq_true rfl⟩) (preVO0 h.o (Nat.le_of_ble_eq_true rfl) eMod_0 rfl []) rfl rfl hl.1 rfl (lv_room (Nat.le_of_ble_eq_true rfl)) dX9_resume_13 ⟨Nat.zero_le _, Nat.zero_le _⟩) (fun H locs hz12 h => ?_)
    refine lv_if_eq (tgt := 25) hx hb dX9_resume_16 (by decide) (fun c13 => ?_) (fun c13 => ?_)
    · have hf := it_t c13 hf
      refine lv_aload_n hx hb dX9_resume_25 rfl (lv_at hl 0 rfl) ?_
      obtain ⟨r15, hy14, hf⟩ := ob_e hf
      refine xv0 h (va_runV (As := []) (rest := []) hC (c_X9_saves l G q v1 hy14 H.size) (xcwV hC lk_X9_145 in_X9 co_X9_saves im_X9_saves se_X9_saves rfl rfl dd_X9_saves ⟨Nat.le_of_ble_eq_true rfl, Nat.le_of_ble_eq_true rfl⟩) (preV0 h (Nat.le_of_ble_eq_true rfl) eMod_0 rfl []) rfl rfl hl.1 rfl (lv_room (Nat.le_of_ble_eq_true rfl)) dX9_resume_26 ⟨Nat.zero_le _, Nat.zero_le _⟩) (fun H locs h => ?_)
      refine lv_aload_n hx hb dX9_resume_29 rfl (lv_at hl 0 rfl) ?_
      obtain ⟨r17, hy16, hf⟩ := ob_e hf
      refine xv0 h (va_runV (As := []) (rest := []) hC (c_X9_takesBack l G q r15 hy16 H.size) (xcwV hC lk_X9_119 in_X9 co_X9_takesBack im_X9_takesBack se_X9_takesBack rfl rfl dd_X9_takesBack ⟨Nat.le_of_ble_eq_true rfl, Nat.le_of_ble_eq_true rfl⟩) (preV0 h (Nat.le_of_ble_eq_true rfl) eMod_0 rfl []) rfl rfl hl.1 rfl (lv_room (Nat.le_of_ble_eq_true rfl)) dX9_resume_30 ⟨Nat.zero_le _, Nat.zero_le _⟩) (fun H locs h => ?_)
      refine lv_aload_n hx hb dX9_resume_33 rfl (lv_at hl 0 rfl) ?_
      refine lv_iconst (v := (3 : Int32)) hx hb dX9_resume_34 (by decide) ?_
      obtain ⟨r19, hy18, hf⟩ := ob_e hf
      refine xiG h (va_runV (As := [.int (3 : Int32)]) (rest := []) hC (c_X9_under l G q r17 (3 : Int32) hy18 H.size) (xcwV hC lk_X9_46 in_X9 co_X9_under im_X9_under se_X9_under rfl rfl dd_X9_under ⟨Nat.le_of_ble_eq_true rfl, Nat.le_of_ble_eq_true rfl⟩) (preVO0 h.o (Nat.le_of_ble_eq_true rfl) eMod_0 rfl [.int (3 : Int32)]) rfl rfl hl.1 rfl (lv_room (Nat.le_of_ble_eq_true rfl)) dX9_resume_35 ⟨Nat.zero_le _, Nat.zero_le _⟩) (fun H locs h => ?_)
      refine lv_aload_n hx hb dX9_resume_38 rfl (lv_at hl 0 rfl) ?_
      refine lv_iconst (v := (2 : Int32)) hx hb dX9_resume_39 (by decide) ?_
      obtain ⟨r21, hy20, hf⟩ := ob_e hf
      refine xiG h (va_runV (As := [.int (2 : Int32)]) (rest := [.int r19]) hC (c_X9_under l G q r17 (2 : Int32) hy20 H.size) (xcwV hC lk_X9_46 in_X9 co_X9_under im_X9_under se_X9_under rfl rfl dd_X9_under ⟨Nat.le_of_ble_eq_true rfl, Nat.le_of_ble_eq_true rfl⟩) (preVO0 h.o (Nat.le_of_ble_eq_true rfl) eMod_0 rfl [.int (2 : Int32)]) rfl rfl hl.1 rfl (lv_room (Nat.le_of_ble_eq_true rfl)) dX9_resume_40 ⟨Nat.zero_le _, Nat.zero_le _⟩) (fun H locs h => ?_)
      refine lv_isub hx hb dX9_resume_43 ?_
      have hf := sm_e hf
      exact xiret hC hr hlk h (by rw [← hf]) (by rw [← hf]) dX9_resume_44
    · have hf := it_f c13 hf
      exact hj5 () H locs h ls (lv_sub hl [0] rfl) hf
def m_X9_loses (v : xSt) (p1 : Int32) : Option (Int32 × xSt) := ck (¬ ((((581 : Int32) + ((18 : Int32) * p1)) + (0 : Int32)) < 0 ∨ 797 ≤ (((581 : Int32) + ((18 : Int32) * p1)) + (0 : Int32)).toNatClampNeg)) (lt ((v 1 (((581 : Int32) + ((18 : Int32) * p1)) + (0 : Int32)).toNatClampNeg)) (fun x2 => ck (¬ ((((581 : Int32) + ((18 : Int32) * p1)) + (1 : Int32)) < 0 ∨ 797 ≤ (((581 : Int32) + ((18 : Int32) * p1)) + (1 : Int32)).toNatClampNeg)) (lt ((v 1 (((581 : Int32) + ((18 : Int32) * p1)) + (1 : Int32)).toNatClampNeg)) (fun x4 => lt (fun (v5 : xSt) => lp (fun (rec9 : Int32 × xSt → Option (Int32 × xSt)) => un2 (fun (a7 : Int32) (v8 : xSt) => lt (fun (_ : Unit) => ob (m_X9_clears v8 p1) (fun r12 => (if x2 ≤ 0 then some ((0 : Int32), r12) else some ((1 : Int32), r12)))) (fun j10 => (if (4 : Int32) ≤ a7 then j10 () else (if x2 = (2 : Int32) then ck (¬ ((((512 : Int32) + ((4 : Int32) * x4)) + a7) < 0 ∨ 797 ≤ (((512 : Int32) + ((4 : Int32) * x4)) + a7).toNatClampNeg)) (lt (st2 v8 1 (((512 : Int32) + ((4 : Int32) * x4)) + a7).toNatClampNeg (1 : Int32)) (fun v17 => rec9 ((a7 + 1), v17))) else j10 ()))))) xF ((0 : Int32), v5)) (fun j6 => (if x2 = (1 : Int32) then ck (¬ (((512 : Int32) + (x4 / (8 : Int32))) < 0 ∨ 797 ≤ ((512 : Int32) + (x4 / (8 : Int32))).toNatClampNeg)) (lt (st2 v 1 ((512 : Int32) + (x4 / (8 : Int32))).toNatClampNeg (1 : Int32)) (fun v20 => j6 v20)) else j6 v))))))
set_option maxHeartbeats 4000000 in
set_option maxRecDepth 100000 in
theorem c_X9_loses (l : Launch) (G : xGl) (q : Nat → Nat) (v : xSt) (p1 : Int32) {z : (Int32 × xSt)} (hf : m_X9_loses v p1 = some z) : mRW l yX9_loses (wM yX9_loses cX9_loses 5 (some .int)) { frames := 1, cells := 0, slots := 0, locals := 22 } G (eMod G) 8 q v [.ref (q 0), .int p1] (qI z.1) z.2 := by
  refine xRW (cc := cX9_loses) (maxL := 5) (ret := (some .int)) (by decide) rfl (Nat.le_of_ble_eq_true rfl) ?_
  intro p e s m below meth c ls A hC hr hlk h hl
  have hx := hC.1
  have hb := hC.2.1
  have hl : lv_has ls 5 [(0, .ref (q 0)), (1, .int p1)] := hl
  unfold m_X9_loses at hf
  obtain ⟨H, hH⟩ : ∃ H, H = s.heap := ⟨_, rfl⟩
  obtain ⟨locs, hlo⟩ : ∃ x : List Loc, x = [] := ⟨_, rfl⟩
  have h : hg G (eMod G) 8 q v A s H locs := by rw [hH, hlo]; exact h
  rw [← hlo, ← hH]
  clear hH hlo
  refine lv_aload_n hx hb dX9_loses_0 rfl (lv_at hl 0 rfl) ?_
  refine xget hC h.o (C := RX9) (T := TX9) (N := 17) (wM_us uw_X9) 0 (Nat.le_of_ble_eq_true rfl) eMod_0 rfl 0 (by decide) (wM_in fl_X9_7) rfl dX9_loses_1 ?_
  refine lv_sipush (v := (581 : Int32)) hx hb dX9_loses_4 (by decide) ?_
  refine lv_bipush (v := (18 : Int32)) hx hb dX9_loses_7 (by decide) ?_
  refine lv_iload_n hx hb dX9_loses_9 rfl (lv_at hl 1 rfl) ?_
  refine lv_imul hx hb dX9_loses_10 ?_
  refine lv_iadd hx hb dX9_loses_11 ?_
  refine lv_iconst (v := (0 : Int32)) hx hb dX9_loses_12 (by decide) ?_
  refine lv_iadd hx hb dX9_loses_13 ?_
  obtain ⟨hi1, hf⟩ := ck_e hf
  refine xiald hC h.o 1 (Nat.le_of_ble_eq_true rfl) eMod_1 hi1 dX9_loses_14 ?_
  obtain ⟨x2, ex2, hf⟩ := lt_e hf
  refine lv_nm ex2 ?_
  refine lv_istore_n (lv' := [(2, .int x2), (0, .ref (q 0)), (1, .int p1)]) hx hb dX9_loses_15 rfl hl (by decide) rfl (fun ls hl => ?_)
  refine lv_aload_n hx hb dX9_loses_16 rfl (lv_at hl 1 rfl) ?_
  refine xget hC h.o (C := RX9) (T := TX9) (N := 17) (wM_us uw_X9) 0 (Nat.le_of_ble_eq_true rfl) eMod_0 rfl 0 (by decide) (wM_in fl_X9_7) rfl dX9_loses_17 ?_
  refine lv_sipush (v := (581 : Int32)) hx hb dX9_loses_20 (by decide) ?_
  refine lv_bipush (v := (18 : Int32)) hx hb dX9_loses_23 (by decide) ?_
  refine lv_iload_n hx hb dX9_loses_25 rfl (lv_at hl 2 rfl) ?_
  refine lv_imul hx hb dX9_loses_26 ?_
  refine lv_iadd hx hb dX9_loses_27 ?_
  refine lv_iconst (v := (1 : Int32)) hx hb dX9_loses_28 (by decide) ?_
  refine lv_iadd hx hb dX9_loses_29 ?_
  obtain ⟨hi3, hf⟩ := ck_e hf
  refine xiald hC h.o 1 (Nat.le_of_ble_eq_true rfl) eMod_1 hi3 dX9_loses_30 ?_
  obtain ⟨x4, ex4, hf⟩ := lt_e hf
  refine lv_nm ex4 ?_
  refine lv_istore_n (lv' := [(3, .int x4), (2, .int x2), (0, .ref (q 0)), (1, .int p1)]) hx hb dX9_loses_31 rfl hl (by decide) rfl (fun ls hl => ?_)
  refine lv_iload_n hx hb dX9_loses_32 rfl (lv_at hl 1 rfl) ?_
  refine lv_iconst (v := (1 : Int32)) hx hb dX9_loses_33 (by decide) ?_
  obtain ⟨j6, ej6, hf⟩ := lt_e hf
  have hj6 : ∀ (v5 : xSt) (H : Heap) (locs : List Loc), hg G (eMod G) 8 q v5 A s H locs → ∀ (ls : Array Slot), lv_has ls 5 [(0, .ref (q 0)), (1, .int p1), (2, .int x2), (3, .int x4)] → j6 v5 = some z → W p l e { frames := 1, cells := 0, slots := 0, locals := 22 } s m [.ref (q 0), .int p1].toArray below meth c H locs 0 0 (MQ below ((qI z.1) (cB G (eMod G) 8 q z.2 A) A) [.ref (q 0), .int p1].toArray s 0 0 A) (F0 m 51 ls []) := by
    intro v5 H locs h ls hl hf
    rw [ej6] at hf
    refine lv_iconst (v := (0 : Int32)) hx hb dX9_loses_51 (by decide) ?_
    refine lv_istore (lv' := [(4, .int (0 : Int32)), (0, .ref (q 0)), (1, .int p1), (2, .int x2), (3, .int x4)]) hx hb dX9_loses_52 hl (by decide) rfl (fun ls hl => ?_)
    refine lp_i (z := z) (P := fun (pp : Int32 × xSt) => ∀ (H : Heap) (locs : List Loc), hg G (eMod G) 8 q pp.2 A s H locs → ∀ (ls : Array Slot), lv_has ls 5 [(0, .ref (q 0)), (1, .int p1), (2, .int x2), (3, .int x4), (4, .int pp.1)] → W p l e { frames := 1, cells := 0, slots := 0, locals := 22 } s m [.ref (q 0), .int p1].toArray below meth c H locs 0 0 (MQ below ((qI z.1) (cB G (eMod G) 8 q z.2 A) A) [.ref (q 0), .int p1].toArray s 0 0 A) (F0 m 54 ls [])) ?_ _ _ hf H locs h ls (lv_sub hl [1, 2, 3, 4, 0] rfl)
    intro rec9 hrec9 pp hf H locs h ls hl
    obtain ⟨a7, v8⟩ := pp
    have h : hg G (eMod G) 8 q v8 A s H locs := h
    have hl : lv_has ls 5 [(0, .ref (q 0)), (1, .int p1), (2, .int x2), (3, .int x4), (4, .int a7)] := hl
    have hf := un2_e hf
    refine lv_iload hx hb dX9_loses_54 (lv_at hl 4 rfl) ?_
    refine lv_iconst (v := (4 : Int32)) hx hb dX9_loses_56 (by decide) ?_
    obtain ⟨j10, ej10, hf⟩ := lt_e hf
    have hj10 : ∀ (uu : Unit) (H : Heap) (locs : List Loc), hg G (eMod G) 8 q v8 A s H locs → ∀ (ls : Array Slot), lv_has ls 5 [(0, .ref (q 0)), (1, .int p1), (2, .int x2)] → j10 uu = some z → W p l e { frames := 1, cells := 0, slots := 0, locals := 22 } s m [.ref (q 0), .int p1].toArray below meth c H locs 0 0 (MQ below ((qI z.1) (cB G (eMod G) 8 q z.2 A) A) [.ref (q 0), .int p1].toArray s 0 0 A) (F0 m 87 ls []) := by
      intro uu H locs h ls hl hf
      rw [ej10] at hf
      refine lv_aload_n hx hb dX9_loses_87 rfl (lv_at hl 0 rfl) ?_
      refine lv_iload_n hx hb dX9_loses_88 rfl (lv_at hl 1 rfl) ?_
      obtain ⟨r12, hy11, hf⟩ := ob_e hf
      refine xv0 h (va_runV (As := [.int p1]) (rest := []) hC (c_X9_clears l G q v8 p1 hy11 H.size) (xcwV hC lk_X9_57 in_X9 co_X9_clears im_X9_clears se_X9_clears rfl rfl dd_X9_clears ⟨Nat.le_of_ble_eq_true rfl, Nat.le_of_ble_eq_true rfl⟩) (preV0 h (Nat.le_of_ble_eq_true rfl) eMod_0 rfl [.int p1]) rfl rfl hl.1 rfl (lv_room (Nat.le_of_ble_eq_true rfl)) dX9_loses_89 ⟨Nat.zero_le _, Nat.zero_le _⟩) (fun H locs h => ?_)
      refine lv_iload_n hx hb dX9_loses_92 rfl (lv_at hl 2 rfl) ?_
      refine lv_if_le (tgt := 100) hx hb dX9_loses_93 (by decide) (fun c13 => ?_) (fun c13 => ?_)
      · have hf := it_t c13 hf
        refine lv_iconst (v := (0 : Int32)) hx hb dX9_loses_100 (by decide) ?_
        have hf := sm_e hf
        exact xiret hC hr hlk h (by rw [← hf]) (by rw [← hf]) dX9_loses_101
      · have hf := it_f c13 hf
        refine lv_iconst (v := (1 : Int32)) hx hb dX9_loses_96 (by decide) ?_
        refine lv_goto (tgt := 101) hx hb dX9_loses_97 (by decide) ?_
        have hf := sm_e hf
        exact xiret hC hr hlk h (by rw [← hf]) (by rw [← hf]) dX9_loses_101
    refine lv_icmp_ge (tgt := 87) hx hb dX9_loses_57 (by decide) (fun c14 => ?_) (fun c14 => ?_)
    · have hf := it_t c14 hf
      exact hj10 () H locs h ls (lv_sub hl [0, 1, 2] rfl) hf
    · have hf := it_f c14 hf
      refine lv_iload_n hx hb dX9_loses_60 rfl (lv_at hl 2 rfl) ?_
      refine lv_iconst (v := (2 : Int32)) hx hb dX9_loses_61 (by decide) ?_
      refine lv_icmp_ne (tgt := 87) hx hb dX9_loses_62 (by decide) (fun c15 => ?_) (fun c15 => ?_)
      · have hf := it_f c15 hf
        exact hj10 () H locs h ls (lv_sub hl [0, 1, 2] rfl) hf
      · have hf := it_t c15 hf
        refine lv_aload_n hx hb dX9_loses_65 rfl (lv_at hl 0 rfl) ?_
        refine xget hC h.o (C := RX9) (T := TX9) (N := 17) (wM_us uw_X9) 0 (Nat.le_of_ble_eq_true rfl) eMod_0 rfl 0 (by decide) (wM_in fl_X9_7) rfl dX9_loses_66 ?_
        refine lv_sipush (v := (512 : Int32)) hx hb dX9_loses_69 (by decide) ?_
        refine lv_iconst (v := (4 : Int32)) hx hb dX9_loses_72 (by decide) ?_
        refine lv_iload_n hx hb dX9_loses_73 rfl (lv_at hl 3 rfl) ?_
        refine lv_imul hx hb dX9_loses_74 ?_
        refine lv_iadd hx hb dX9_loses_75 ?_
        refine lv_iload hx hb dX9_loses_76 (lv_at hl 4 rfl) ?_
        refine lv_iadd hx hb dX9_loses_78 ?_
        refine lv_iconst (v := (1 : Int32)) hx hb dX9_loses_79 (by decide) ?_
        obtain ⟨hi16, hf⟩ := ck_e hf
        refine xiast hC h 1 (Nat.le_of_ble_eq_true rfl) (fun _ => eMod_1) hi16 dX9_loses_80 (fun H locs h => ?_)
        obtain ⟨v17, ev17, hf⟩ := lt_e hf
        rw [← ev17] at h
        refine lv_iinc (v := (a7 + 1)) (lv' := [(4, .int (a7 + 1)), (0, .ref (q 0)), (1, .int p1), (2, .int x2), (3, .int x4)]) hx hb dX9_loses_81 hl (k := 4) rfl rfl (by decide) rfl (fun ls hl => ?_)
        refine lv_goto (tgt := 54) hx hb dX9_loses_84 (by decide) ?_
        exact hrec9 ((a7 + 1), v17) hf H locs h ls (lv_sub hl [1, 2, 3, 4, 0] rfl)
  refine lv_icmp_ne (tgt := 51) hx hb dX9_loses_34 (by decide) (fun c18 => ?_) (fun c18 => ?_)
  · have hf := it_f c18 hf
    exact hj6 v H locs h ls (lv_sub hl [2, 3, 1, 0] rfl) hf
  · have hf := it_t c18 hf
    refine lv_aload_n hx hb dX9_loses_37 rfl (lv_at hl 2 rfl) ?_
    refine xget hC h.o (C := RX9) (T := TX9) (N := 17) (wM_us uw_X9) 0 (Nat.le_of_ble_eq_true rfl) eMod_0 rfl 0 (by decide) (wM_in fl_X9_7) rfl dX9_loses_38 ?_
    refine lv_sipush (v := (512 : Int32)) hx hb dX9_loses_41 (by decide) ?_
    refine lv_iload_n hx hb dX9_loses_44 rfl (lv_at hl 0 rfl) ?_
    refine lv_bipush (v := (8 : Int32)) hx hb dX9_loses_45 (by decide) ?_
    refine lv_idiv hx hb dX9_loses_47 (by decide) ?_
    refine lv_iadd hx hb dX9_loses_48 ?_
    refine lv_iconst (v := (1 : Int32)) hx hb dX9_loses_49 (by decide) ?_
    obtain ⟨hi19, hf⟩ := ck_e hf
    refine xiast hC h 1 (Nat.le_of_ble_eq_true rfl) (fun _ => eMod_1) hi19 dX9_loses_50 (fun H locs h => ?_)
    obtain ⟨v20, ev20, hf⟩ := lt_e hf
    rw [← ev20] at h
    exact hj6 v20 H locs h ls (lv_sub hl [2, 3, 1, 0] rfl) hf
def m_X9_cut (v : xSt) : Option (Int32 × xSt) := lt (st2 v 0 8 (0 : Int32)) (fun v1 => ob (m_X9_saves v1) (fun r3 => ob (m_X9_loses r3 (0 : Int32)) (fun r5 => lt (r5.2) (fun v6 => ob (m_X9_loses v6 (1 : Int32)) (fun r8 => lt (r8.2) (fun v9 => ck (¬ ((564 : Int32) < 0 ∨ 797 ≤ (564 : Int32).toNatClampNeg)) (ck (¬ ((564 : Int32) < 0 ∨ 797 ≤ (564 : Int32).toNatClampNeg)) (lt (st2 v9 1 (564 : Int32).toNatClampNeg ((v9 1 (564 : Int32).toNatClampNeg) + (r5.1 + r8.1))) (fun v12 => ck (¬ ((552 : Int32) < 0 ∨ 797 ≤ (552 : Int32).toNatClampNeg)) (lt (st2 v12 1 (552 : Int32).toNatClampNeg (0 : Int32)) (fun v14 => ck (¬ ((553 : Int32) < 0 ∨ 797 ≤ (553 : Int32).toNatClampNeg)) (lt (st2 v14 1 (553 : Int32).toNatClampNeg (0 : Int32)) (fun v16 => ob (m_X9_unloads v16) (fun r18 => some ((r5.1 + r8.1), r18)))))))))))))))
set_option maxHeartbeats 4000000 in
set_option maxRecDepth 100000 in
theorem c_X9_cut (l : Launch) (G : xGl) (q : Nat → Nat) (v : xSt) {z : (Int32 × xSt)} (hf : m_X9_cut v = some z) : mRW l yX9_cut (wM yX9_cut cX9_cut 2 (some .int)) { frames := 2, cells := 0, slots := 0, locals := 46 } G (eMod G) 8 q v [.ref (q 0)] (qI z.1) z.2 := by
  refine xRW (cc := cX9_cut) (maxL := 2) (ret := (some .int)) (by decide) rfl (Nat.le_of_ble_eq_true rfl) ?_
  intro p e s m below meth c ls A hC hr hlk h hl
  have hx := hC.1
  have hb := hC.2.1
  have hl : lv_has ls 2 [(0, .ref (q 0))] := hl
  unfold m_X9_cut at hf
  obtain ⟨H, hH⟩ : ∃ H, H = s.heap := ⟨_, rfl⟩
  obtain ⟨locs, hlo⟩ : ∃ x : List Loc, x = [] := ⟨_, rfl⟩
  have h : hg G (eMod G) 8 q v A s H locs := by rw [hH, hlo]; exact h
  rw [← hlo, ← hH]
  clear hH hlo
  refine lv_aload_n hx hb dX9_cut_0 rfl (lv_at hl 0 rfl) ?_
  refine lv_iconst (v := (0 : Int32)) hx hb dX9_cut_1 (by decide) ?_
  refine xput hC h (C := RX9) (T := TX9) (N := 17) (wM_us uw_X9) tyX9_ok nmX9 0 (Nat.le_of_ble_eq_true rfl) eMod_0 rfl 8 (by decide) (wM_in fl_X9_31) rfl (ty := .int) (tyX9_ok 8 (by decide)) rfl rfl (Nat.le_of_ble_eq_true rfl) (eMod_0.trans rfl) dX9_cut_2 (fun H locs h => ?_)
  obtain ⟨v1, ev1, hf⟩ := lt_e hf
  rw [← ev1] at h
  refine lv_aload_n hx hb dX9_cut_5 rfl (lv_at hl 0 rfl) ?_
  obtain ⟨r3, hy2, hf⟩ := ob_e hf
  refine xv0 h (va_runV (As := []) (rest := []) hC (c_X9_saves l G q v1 hy2 H.size) (xcwV hC lk_X9_145 in_X9 co_X9_saves im_X9_saves se_X9_saves rfl rfl dd_X9_saves ⟨Nat.le_of_ble_eq_true rfl, Nat.le_of_ble_eq_true rfl⟩) (preV0 h (Nat.le_of_ble_eq_true rfl) eMod_0 rfl []) rfl rfl hl.1 rfl (lv_room (Nat.le_of_ble_eq_true rfl)) dX9_cut_6 ⟨Nat.zero_le _, Nat.zero_le _⟩) (fun H locs h => ?_)
  refine lv_aload_n hx hb dX9_cut_9 rfl (lv_at hl 0 rfl) ?_
  refine lv_iconst (v := (0 : Int32)) hx hb dX9_cut_10 (by decide) ?_
  obtain ⟨r5, hy4, hf⟩ := ob_e hf
  refine xi0 h (va_runV (As := [.int (0 : Int32)]) (rest := []) hC (c_X9_loses l G q r3 (0 : Int32) hy4 H.size) (xcwV hC lk_X9_163 in_X9 co_X9_loses im_X9_loses se_X9_loses rfl rfl dd_X9_loses ⟨Nat.le_of_ble_eq_true rfl, Nat.le_of_ble_eq_true rfl⟩) (preV0 h (Nat.le_of_ble_eq_true rfl) eMod_0 rfl [.int (0 : Int32)]) rfl rfl hl.1 rfl (lv_room (Nat.le_of_ble_eq_true rfl)) dX9_cut_11 ⟨Nat.zero_le _, Nat.zero_le _⟩) (fun H locs h => ?_)
  obtain ⟨v6, ev6, hf⟩ := lt_e hf
  rw [← ev6] at h
  refine lv_aload_n hx hb dX9_cut_14 rfl (lv_at hl 0 rfl) ?_
  refine lv_iconst (v := (1 : Int32)) hx hb dX9_cut_15 (by decide) ?_
  obtain ⟨r8, hy7, hf⟩ := ob_e hf
  refine xi0 h (va_runV (As := [.int (1 : Int32)]) (rest := [.int r5.1]) hC (c_X9_loses l G q v6 (1 : Int32) hy7 H.size) (xcwV hC lk_X9_163 in_X9 co_X9_loses im_X9_loses se_X9_loses rfl rfl dd_X9_loses ⟨Nat.le_of_ble_eq_true rfl, Nat.le_of_ble_eq_true rfl⟩) (preV0 h (Nat.le_of_ble_eq_true rfl) eMod_0 rfl [.int (1 : Int32)]) rfl rfl hl.1 rfl (lv_room (Nat.le_of_ble_eq_true rfl)) dX9_cut_16 ⟨Nat.zero_le _, Nat.zero_le _⟩) (fun H locs h => ?_)
  obtain ⟨v9, ev9, hf⟩ := lt_e hf
  rw [← ev9] at h
  refine lv_iadd hx hb dX9_cut_19 ?_
  refine lv_istore_n (lv' := [(1, .int (r5.1 + r8.1)), (0, .ref (q 0))]) hx hb dX9_cut_20 rfl hl (by decide) rfl (fun ls hl => ?_)
  refine lv_aload_n hx hb dX9_cut_21 rfl (lv_at hl 1 rfl) ?_
  refine xget hC h.o (C := RX9) (T := TX9) (N := 17) (wM_us uw_X9) 0 (Nat.le_of_ble_eq_true rfl) eMod_0 rfl 0 (by decide) (wM_in fl_X9_7) rfl dX9_cut_22 ?_
  refine lv_sipush (v := (564 : Int32)) hx hb dX9_cut_25 (by decide) ?_
  refine lv_dup2_11 hx hb dX9_cut_28 rfl rfl ?_
  obtain ⟨hi10, hf⟩ := ck_e hf
  refine xiald hC h.o 1 (Nat.le_of_ble_eq_true rfl) eMod_1 hi10 dX9_cut_29 ?_
  refine lv_iload_n hx hb dX9_cut_30 rfl (lv_at hl 0 rfl) ?_
  refine lv_iadd hx hb dX9_cut_31 ?_
  obtain ⟨hi11, hf⟩ := ck_e hf
  refine xiast hC h 1 (Nat.le_of_ble_eq_true rfl) (fun _ => eMod_1) hi11 dX9_cut_32 (fun H locs h => ?_)
  obtain ⟨v12, ev12, hf⟩ := lt_e hf
  rw [← ev12] at h
  refine lv_aload_n hx hb dX9_cut_33 rfl (lv_at hl 1 rfl) ?_
  refine xget hC h.o (C := RX9) (T := TX9) (N := 17) (wM_us uw_X9) 0 (Nat.le_of_ble_eq_true rfl) eMod_0 rfl 0 (by decide) (wM_in fl_X9_7) rfl dX9_cut_34 ?_
  refine lv_sipush (v := (552 : Int32)) hx hb dX9_cut_37 (by decide) ?_
  refine lv_iconst (v := (0 : Int32)) hx hb dX9_cut_40 (by decide) ?_
  obtain ⟨hi13, hf⟩ := ck_e hf
  refine xiast hC h 1 (Nat.le_of_ble_eq_true rfl) (fun _ => eMod_1) hi13 dX9_cut_41 (fun H locs h => ?_)
  obtain ⟨v14, ev14, hf⟩ := lt_e hf
  rw [← ev14] at h
  refine lv_aload_n hx hb dX9_cut_42 rfl (lv_at hl 1 rfl) ?_
  refine xget hC h.o (C := RX9) (T := TX9) (N := 17) (wM_us uw_X9) 0 (Nat.le_of_ble_eq_true rfl) eMod_0 rfl 0 (by decide) (wM_in fl_X9_7) rfl dX9_cut_43 ?_
  refine lv_sipush (v := (553 : Int32)) hx hb dX9_cut_46 (by decide) ?_
  refine lv_iconst (v := (0 : Int32)) hx hb dX9_cut_49 (by decide) ?_
  obtain ⟨hi15, hf⟩ := ck_e hf
  refine xiast hC h 1 (Nat.le_of_ble_eq_true rfl) (fun _ => eMod_1) hi15 dX9_cut_50 (fun H locs h => ?_)
  obtain ⟨v16, ev16, hf⟩ := lt_e hf
  rw [← ev16] at h
  refine lv_aload_n hx hb dX9_cut_51 rfl (lv_at hl 1 rfl) ?_
  obtain ⟨r18, hy17, hf⟩ := ob_e hf
  refine xv0 h (va_runV (As := []) (rest := []) hC (c_X9_unloads l G q v16 hy17 H.size) (xcwV hC lk_X9_148 in_X9 co_X9_unloads im_X9_unloads se_X9_unloads rfl rfl dd_X9_unloads ⟨Nat.le_of_ble_eq_true rfl, Nat.le_of_ble_eq_true rfl⟩) (preV0 h (Nat.le_of_ble_eq_true rfl) eMod_0 rfl []) rfl rfl hl.1 rfl (lv_room (Nat.le_of_ble_eq_true rfl)) dX9_cut_52 ⟨Nat.zero_le _, Nat.zero_le _⟩) (fun H locs h => ?_)
  refine lv_iload_n hx hb dX9_cut_55 rfl (lv_at hl 0 rfl) ?_
  have hf := sm_e hf
  exact xiret hC hr hlk h (by rw [← hf]) (by rw [← hf]) dX9_cut_56
def m_X9_posts (v : xSt) (p1 : Int32) (p2 : Int32) (p3 : Int32) : Option (Int32 × xSt) := ck (¬ ((580 : Int32) < 0 ∨ 797 ≤ (580 : Int32).toNatClampNeg)) (lp (fun (rec4 : Int32 × xSt → Option (Int32 × xSt)) => un2 (fun (a2 : Int32) (v3 : xSt) => lt (fun (_ : Unit) => ck (¬ ((566 : Int32) < 0 ∨ 797 ≤ (566 : Int32).toNatClampNeg)) (ck (¬ ((((617 : Int32) + ((18 : Int32) * a2)) + (0 : Int32)) < 0 ∨ 797 ≤ (((617 : Int32) + ((18 : Int32) * a2)) + (0 : Int32)).toNatClampNeg)) (lt (st2 v3 1 (((617 : Int32) + ((18 : Int32) * a2)) + (0 : Int32)).toNatClampNeg (v3 1 (566 : Int32).toNatClampNeg)) (fun v8 => ck (¬ ((((617 : Int32) + ((18 : Int32) * a2)) + (1 : Int32)) < 0 ∨ 797 ≤ (((617 : Int32) + ((18 : Int32) * a2)) + (1 : Int32)).toNatClampNeg)) (lt (st2 v8 1 (((617 : Int32) + ((18 : Int32) * a2)) + (1 : Int32)).toNatClampNeg p1) (fun v10 => ck (¬ ((((617 : Int32) + ((18 : Int32) * a2)) + (2 : Int32)) < 0 ∨ 797 ≤ (((617 : Int32) + ((18 : Int32) * a2)) + (2 : Int32)).toNatClampNeg)) (lt (st2 v10 1 (((617 : Int32) + ((18 : Int32) * a2)) + (2 : Int32)).toNatClampNeg p2) (fun v12 => ck (¬ ((((617 : Int32) + ((18 : Int32) * a2)) + (3 : Int32)) < 0 ∨ 797 ≤ (((617 : Int32) + ((18 : Int32) * a2)) + (3 : Int32)).toNatClampNeg)) (lt (st2 v12 1 (((617 : Int32) + ((18 : Int32) * a2)) + (3 : Int32)).toNatClampNeg p3) (fun v14 => ck (¬ ((561 : Int32) < 0 ∨ 797 ≤ (561 : Int32).toNatClampNeg)) (ck (¬ ((((617 : Int32) + ((18 : Int32) * a2)) + (4 : Int32)) < 0 ∨ 797 ≤ (((617 : Int32) + ((18 : Int32) * a2)) + (4 : Int32)).toNatClampNeg)) (lt (st2 v14 1 (((617 : Int32) + ((18 : Int32) * a2)) + (4 : Int32)).toNatClampNeg (v14 1 (561 : Int32).toNatClampNeg)) (fun v17 => lp (fun (rec20 : Int32 × xSt → Option (Int32 × xSt)) => un2 (fun (a18 : Int32) (v19 : xSt) => (if (18 : Int32) ≤ a18 then ck (¬ ((580 : Int32) < 0 ∨ 797 ≤ (580 : Int32).toNatClampNeg)) (ck (¬ ((580 : Int32) < 0 ∨ 797 ≤ (580 : Int32).toNatClampNeg)) (lt (st2 v19 1 (580 : Int32).toNatClampNeg ((v19 1 (580 : Int32).toNatClampNeg) + (1 : Int32))) (fun v24 => ck (¬ ((566 : Int32) < 0 ∨ 797 ≤ (566 : Int32).toNatClampNeg)) (ck (¬ ((566 : Int32) < 0 ∨ 797 ≤ (566 : Int32).toNatClampNeg)) (lt (st2 v24 1 (566 : Int32).toNatClampNeg ((v24 1 (566 : Int32).toNatClampNeg) + (1 : Int32))) (fun v27 => some (((617 : Int32) + ((18 : Int32) * a2)), v27))))))) else ck (¬ ((((617 : Int32) + ((18 : Int32) * a2)) + a18) < 0 ∨ 797 ≤ (((617 : Int32) + ((18 : Int32) * a2)) + a18).toNatClampNeg)) (lt (st2 v19 1 (((617 : Int32) + ((18 : Int32) * a2)) + a18).toNatClampNeg (0 : Int32)) (fun v29 => rec20 ((a18 + 1), v29)))))) xF ((5 : Int32), v17)))))))))))))) (fun j5 => (if a2 ≤ 0 then j5 () else ob (m_X9_ofOrder v3 (a2 - (1 : Int32)) (3 : Int32)) (fun r32 => (if p3 ≤ r32 then j5 () else lp (fun (rec36 : Int32 × xSt → Option (Int32 × xSt)) => un2 (fun (a34 : Int32) (v35 : xSt) => (if (18 : Int32) ≤ a34 then rec4 ((a2 + (-1)), v35) else ob (m_X9_ofOrder v35 (a2 - (1 : Int32)) a34) (fun r39 => ck (¬ ((((617 : Int32) + ((18 : Int32) * a2)) + a34) < 0 ∨ 797 ≤ (((617 : Int32) + ((18 : Int32) * a2)) + a34).toNatClampNeg)) (lt (st2 v35 1 (((617 : Int32) + ((18 : Int32) * a2)) + a34).toNatClampNeg r39) (fun v41 => rec36 ((a34 + 1), v41))))))) xF ((0 : Int32), v3))))))) xF ((v 1 (580 : Int32).toNatClampNeg), v))
set_option maxHeartbeats 4000000 in
set_option maxRecDepth 100000 in
theorem c_X9_posts (l : Launch) (G : xGl) (q : Nat → Nat) (v : xSt) (p1 : Int32) (p2 : Int32) (p3 : Int32) {z : (Int32 × xSt)} (hf : m_X9_posts v p1 p2 p3 = some z) : mRW l yX9_posts (wM yX9_posts cX9_posts 7 (some .int)) { frames := 1, cells := 0, slots := 0, locals := 22 } G (eMod G) 8 q v [.ref (q 0), .int p1, .int p2, .int p3] (qI z.1) z.2 := by
  refine xRW (cc := cX9_posts) (maxL := 7) (ret := (some .int)) (by decide) rfl (Nat.le_of_ble_eq_true rfl) ?_
  intro p e s m below meth c ls A hC hr hlk h hl
  have hx := hC.1
  have hb := hC.2.1
  have hl : lv_has ls 7 [(0, .ref (q 0)), (1, .int p1), (2, .int p2), (3, .int p3)] := hl
  unfold m_X9_posts at hf
  obtain ⟨H, hH⟩ : ∃ H, H = s.heap := ⟨_, rfl⟩
  obtain ⟨locs, hlo⟩ : ∃ x : List Loc, x = [] := ⟨_, rfl⟩
  have h : hg G (eMod G) 8 q v A s H locs := by rw [hH, hlo]; exact h
  rw [← hlo, ← hH]
  clear hH hlo
  refine lv_aload_n hx hb dX9_posts_0 rfl (lv_at hl 0 rfl) ?_
  refine xget hC h.o (C := RX9) (T := TX9) (N := 17) (wM_us uw_X9) 0 (Nat.le_of_ble_eq_true rfl) eMod_0 rfl 0 (by decide) (wM_in fl_X9_7) rfl dX9_posts_1 ?_
  refine lv_sipush (v := (580 : Int32)) hx hb dX9_posts_4 (by decide) ?_
  obtain ⟨hi1, hf⟩ := ck_e hf
  refine xiald hC h.o 1 (Nat.le_of_ble_eq_true rfl) eMod_1 hi1 dX9_posts_7 ?_
  refine lv_istore (lv' := [(4, .int (v 1 (580 : Int32).toNatClampNeg)), (0, .ref (q 0)), (1, .int p1), (2, .int p2), (3, .int p3)]) hx hb dX9_posts_8 hl (by decide) rfl (fun ls hl => ?_)
  refine lp_i (z := z) (P := fun (pp : Int32 × xSt) => ∀ (H : Heap) (locs : List Loc), hg G (eMod G) 8 q pp.2 A s H locs → ∀ (ls : Array Slot), lv_has ls 7 [(0, .ref (q 0)), (1, .int p1), (2, .int p2), (3, .int p3), (4, .int pp.1)] → W p l e { frames := 1, cells := 0, slots := 0, locals := 22 } s m [.ref (q 0), .int p1, .int p2, .int p3].toArray below meth c H locs 0 0 (MQ below ((qI z.1) (cB G (eMod G) 8 q z.2 A) A) [.ref (q 0), .int p1, .int p2, .int p3].toArray s 0 0 A) (F0 m 10 ls [])) ?_ _ _ hf H locs h ls (lv_sub hl [1, 2, 3, 4, 0] rfl)
  intro rec4 hrec4 pp hf H locs h ls hl
  obtain ⟨a2, v3⟩ := pp
  have h : hg G (eMod G) 8 q v3 A s H locs := h
  have hl : lv_has ls 7 [(0, .ref (q 0)), (1, .int p1), (2, .int p2), (3, .int p3), (4, .int a2)] := hl
  have hf := un2_e hf
  refine lv_iload hx hb dX9_posts_10 (lv_at hl 4 rfl) ?_
  obtain ⟨j5, ej5, hf⟩ := lt_e hf
  have hj5 : ∀ (uu : Unit) (H : Heap) (locs : List Loc), hg G (eMod G) 8 q v3 A s H locs → ∀ (ls : Array Slot), lv_has ls 7 [(0, .ref (q 0)), (1, .int p1), (2, .int p2), (3, .int p3), (4, .int a2)] → j5 uu = some z → W p l e { frames := 1, cells := 0, slots := 0, locals := 22 } s m [.ref (q 0), .int p1, .int p2, .int p3].toArray below meth c H locs 0 0 (MQ below ((qI z.1) (cB G (eMod G) 8 q z.2 A) A) [.ref (q 0), .int p1, .int p2, .int p3].toArray s 0 0 A) (F0 m 77 ls []) := by
    intro uu H locs h ls hl hf
    rw [ej5] at hf
    refine lv_sipush (v := (617 : Int32)) hx hb dX9_posts_77 (by decide) ?_
    refine lv_bipush (v := (18 : Int32)) hx hb dX9_posts_80 (by decide) ?_
    refine lv_iload hx hb dX9_posts_82 (lv_at hl 4 rfl) ?_
    refine lv_imul hx hb dX9_posts_84 ?_
    refine lv_iadd hx hb dX9_posts_85 ?_
    refine lv_istore (lv' := [(5, .int ((617 : Int32) + ((18 : Int32) * a2))), (0, .ref (q 0)), (1, .int p1), (2, .int p2), (3, .int p3), (4, .int a2)]) hx hb dX9_posts_86 hl (by decide) rfl (fun ls hl => ?_)
    refine lv_aload_n hx hb dX9_posts_88 rfl (lv_at hl 1 rfl) ?_
    refine xget hC h.o (C := RX9) (T := TX9) (N := 17) (wM_us uw_X9) 0 (Nat.le_of_ble_eq_true rfl) eMod_0 rfl 0 (by decide) (wM_in fl_X9_7) rfl dX9_posts_89 ?_
    refine lv_iload hx hb dX9_posts_92 (lv_at hl 0 rfl) ?_
    refine lv_iconst (v := (0 : Int32)) hx hb dX9_posts_94 (by decide) ?_
    refine lv_iadd hx hb dX9_posts_95 ?_
    refine lv_aload_n hx hb dX9_posts_96 rfl (lv_at hl 1 rfl) ?_
    refine xget hC h.o (C := RX9) (T := TX9) (N := 17) (wM_us uw_X9) 0 (Nat.le_of_ble_eq_true rfl) eMod_0 rfl 0 (by decide) (wM_in fl_X9_7) rfl dX9_posts_97 ?_
    refine lv_sipush (v := (566 : Int32)) hx hb dX9_posts_100 (by decide) ?_
    obtain ⟨hi6, hf⟩ := ck_e hf
    refine xiald hC h.o 1 (Nat.le_of_ble_eq_true rfl) eMod_1 hi6 dX9_posts_103 ?_
    obtain ⟨hi7, hf⟩ := ck_e hf
    refine xiast hC h 1 (Nat.le_of_ble_eq_true rfl) (fun _ => eMod_1) hi7 dX9_posts_104 (fun H locs h => ?_)
    obtain ⟨v8, ev8, hf⟩ := lt_e hf
    rw [← ev8] at h
    refine lv_aload_n hx hb dX9_posts_105 rfl (lv_at hl 1 rfl) ?_
    refine xget hC h.o (C := RX9) (T := TX9) (N := 17) (wM_us uw_X9) 0 (Nat.le_of_ble_eq_true rfl) eMod_0 rfl 0 (by decide) (wM_in fl_X9_7) rfl dX9_posts_106 ?_
    refine lv_iload hx hb dX9_posts_109 (lv_at hl 0 rfl) ?_
    refine lv_iconst (v := (1 : Int32)) hx hb dX9_posts_111 (by decide) ?_
    refine lv_iadd hx hb dX9_posts_112 ?_
    refine lv_iload_n hx hb dX9_posts_113 rfl (lv_at hl 2 rfl) ?_
    obtain ⟨hi9, hf⟩ := ck_e hf
    refine xiast hC h 1 (Nat.le_of_ble_eq_true rfl) (fun _ => eMod_1) hi9 dX9_posts_114 (fun H locs h => ?_)
    obtain ⟨v10, ev10, hf⟩ := lt_e hf
    rw [← ev10] at h
    refine lv_aload_n hx hb dX9_posts_115 rfl (lv_at hl 1 rfl) ?_
    refine xget hC h.o (C := RX9) (T := TX9) (N := 17) (wM_us uw_X9) 0 (Nat.le_of_ble_eq_true rfl) eMod_0 rfl 0 (by decide) (wM_in fl_X9_7) rfl dX9_posts_116 ?_
    refine lv_iload hx hb dX9_posts_119 (lv_at hl 0 rfl) ?_
    refine lv_iconst (v := (2 : Int32)) hx hb dX9_posts_121 (by decide) ?_
    refine lv_iadd hx hb dX9_posts_122 ?_
    refine lv_iload_n hx hb dX9_posts_123 rfl (lv_at hl 3 rfl) ?_
    obtain ⟨hi11, hf⟩ := ck_e hf
    refine xiast hC h 1 (Nat.le_of_ble_eq_true rfl) (fun _ => eMod_1) hi11 dX9_posts_124 (fun H locs h => ?_)
    obtain ⟨v12, ev12, hf⟩ := lt_e hf
    rw [← ev12] at h
    refine lv_aload_n hx hb dX9_posts_125 rfl (lv_at hl 1 rfl) ?_
    refine xget hC h.o (C := RX9) (T := TX9) (N := 17) (wM_us uw_X9) 0 (Nat.le_of_ble_eq_true rfl) eMod_0 rfl 0 (by decide) (wM_in fl_X9_7) rfl dX9_posts_126 ?_
    refine lv_iload hx hb dX9_posts_129 (lv_at hl 0 rfl) ?_
    refine lv_iconst (v := (3 : Int32)) hx hb dX9_posts_131 (by decide) ?_
    refine lv_iadd hx hb dX9_posts_132 ?_
    refine lv_iload_n hx hb dX9_posts_133 rfl (lv_at hl 4 rfl) ?_
    obtain ⟨hi13, hf⟩ := ck_e hf
    refine xiast hC h 1 (Nat.le_of_ble_eq_true rfl) (fun _ => eMod_1) hi13 dX9_posts_134 (fun H locs h => ?_)
    obtain ⟨v14, ev14, hf⟩ := lt_e hf
    rw [← ev14] at h
    refine lv_aload_n hx hb dX9_posts_135 rfl (lv_at hl 1 rfl) ?_
    refine xget hC h.o (C := RX9) (T := TX9) (N := 17) (wM_us uw_X9) 0 (Nat.le_of_ble_eq_true rfl) eMod_0 rfl 0 (by decide) (wM_in fl_X9_7) rfl dX9_posts_136 ?_
    refine lv_iload hx hb dX9_posts_139 (lv_at hl 0 rfl) ?_
    refine lv_iconst (v := (4 : Int32)) hx hb dX9_posts_141 (by decide) ?_
    refine lv_iadd hx hb dX9_posts_142 ?_
    refine lv_aload_n hx hb dX9_posts_143 rfl (lv_at hl 1 rfl) ?_
    refine xget hC h.o (C := RX9) (T := TX9) (N := 17) (wM_us uw_X9) 0 (Nat.le_of_ble_eq_true rfl) eMod_0 rfl 0 (by decide) (wM_in fl_X9_7) rfl dX9_posts_144 ?_
    refine lv_sipush (v := (561 : Int32)) hx hb dX9_posts_147 (by decide) ?_
    obtain ⟨hi15, hf⟩ := ck_e hf
    refine xiald hC h.o 1 (Nat.le_of_ble_eq_true rfl) eMod_1 hi15 dX9_posts_150 ?_
    obtain ⟨hi16, hf⟩ := ck_e hf
    refine xiast hC h 1 (Nat.le_of_ble_eq_true rfl) (fun _ => eMod_1) hi16 dX9_posts_151 (fun H locs h => ?_)
    obtain ⟨v17, ev17, hf⟩ := lt_e hf
    rw [← ev17] at h
    refine lv_iconst (v := (5 : Int32)) hx hb dX9_posts_152 (by decide) ?_
    refine lv_istore (lv' := [(6, .int (5 : Int32)), (5, .int ((617 : Int32) + ((18 : Int32) * a2))), (0, .ref (q 0)), (1, .int p1), (2, .int p2), (3, .int p3), (4, .int a2)]) hx hb dX9_posts_153 hl (by decide) rfl (fun ls hl => ?_)
    refine lp_i (z := z) (P := fun (pp : Int32 × xSt) => ∀ (H : Heap) (locs : List Loc), hg G (eMod G) 8 q pp.2 A s H locs → ∀ (ls : Array Slot), lv_has ls 7 [(0, .ref (q 0)), (5, .int ((617 : Int32) + ((18 : Int32) * a2))), (6, .int pp.1)] → W p l e { frames := 1, cells := 0, slots := 0, locals := 22 } s m [.ref (q 0), .int p1, .int p2, .int p3].toArray below meth c H locs 0 0 (MQ below ((qI z.1) (cB G (eMod G) 8 q z.2 A) A) [.ref (q 0), .int p1, .int p2, .int p3].toArray s 0 0 A) (F0 m 155 ls [])) ?_ _ _ hf H locs h ls (lv_sub hl [2, 1, 0] rfl)
    intro rec20 hrec20 pp hf H locs h ls hl
    obtain ⟨a18, v19⟩ := pp
    have h : hg G (eMod G) 8 q v19 A s H locs := h
    have hl : lv_has ls 7 [(0, .ref (q 0)), (5, .int ((617 : Int32) + ((18 : Int32) * a2))), (6, .int a18)] := hl
    have hf := un2_e hf
    refine lv_iload hx hb dX9_posts_155 (lv_at hl 2 rfl) ?_
    refine lv_bipush (v := (18 : Int32)) hx hb dX9_posts_157 (by decide) ?_
    refine lv_icmp_ge (tgt := 179) hx hb dX9_posts_159 (by decide) (fun c21 => ?_) (fun c21 => ?_)
    · have hf := it_t c21 hf
      refine lv_aload_n hx hb dX9_posts_179 rfl (lv_at hl 0 rfl) ?_
      refine xget hC h.o (C := RX9) (T := TX9) (N := 17) (wM_us uw_X9) 0 (Nat.le_of_ble_eq_true rfl) eMod_0 rfl 0 (by decide) (wM_in fl_X9_7) rfl dX9_posts_180 ?_
      refine lv_sipush (v := (580 : Int32)) hx hb dX9_posts_183 (by decide) ?_
      refine lv_dup2_11 hx hb dX9_posts_186 rfl rfl ?_
      obtain ⟨hi22, hf⟩ := ck_e hf
      refine xiald hC h.o 1 (Nat.le_of_ble_eq_true rfl) eMod_1 hi22 dX9_posts_187 ?_
      refine lv_iconst (v := (1 : Int32)) hx hb dX9_posts_188 (by decide) ?_
      refine lv_iadd hx hb dX9_posts_189 ?_
      obtain ⟨hi23, hf⟩ := ck_e hf
      refine xiast hC h 1 (Nat.le_of_ble_eq_true rfl) (fun _ => eMod_1) hi23 dX9_posts_190 (fun H locs h => ?_)
      obtain ⟨v24, ev24, hf⟩ := lt_e hf
      rw [← ev24] at h
      refine lv_aload_n hx hb dX9_posts_191 rfl (lv_at hl 0 rfl) ?_
      refine xget hC h.o (C := RX9) (T := TX9) (N := 17) (wM_us uw_X9) 0 (Nat.le_of_ble_eq_true rfl) eMod_0 rfl 0 (by decide) (wM_in fl_X9_7) rfl dX9_posts_192 ?_
      refine lv_sipush (v := (566 : Int32)) hx hb dX9_posts_195 (by decide) ?_
      refine lv_dup2_11 hx hb dX9_posts_198 rfl rfl ?_
      obtain ⟨hi25, hf⟩ := ck_e hf
      refine xiald hC h.o 1 (Nat.le_of_ble_eq_true rfl) eMod_1 hi25 dX9_posts_199 ?_
      refine lv_iconst (v := (1 : Int32)) hx hb dX9_posts_200 (by decide) ?_
      refine lv_iadd hx hb dX9_posts_201 ?_
      obtain ⟨hi26, hf⟩ := ck_e hf
      refine xiast hC h 1 (Nat.le_of_ble_eq_true rfl) (fun _ => eMod_1) hi26 dX9_posts_202 (fun H locs h => ?_)
      obtain ⟨v27, ev27, hf⟩ := lt_e hf
      rw [← ev27] at h
      refine lv_iload hx hb dX9_posts_203 (lv_at hl 1 rfl) ?_
      have hf := sm_e hf
      exact xiret hC hr hlk h (by rw [← hf]) (by rw [← hf]) dX9_posts_205
    · have hf := it_f c21 hf
      refine lv_aload_n hx hb dX9_posts_162 rfl (lv_at hl 0 rfl) ?_
      refine xget hC h.o (C := RX9) (T := TX9) (N := 17) (wM_us uw_X9) 0 (Nat.le_of_ble_eq_true rfl) eMod_0 rfl 0 (by decide) (wM_in fl_X9_7) rfl dX9_posts_163 ?_
      refine lv_iload hx hb dX9_posts_166 (lv_at hl 1 rfl) ?_
      refine lv_iload hx hb dX9_posts_168 (lv_at hl 2 rfl) ?_
      refine lv_iadd hx hb dX9_posts_170 ?_
      refine lv_iconst (v := (0 : Int32)) hx hb dX9_posts_171 (by decide) ?_
      obtain ⟨hi28, hf⟩ := ck_e hf
      refine xiast hC h 1 (Nat.le_of_ble_eq_true rfl) (fun _ => eMod_1) hi28 dX9_posts_172 (fun H locs h => ?_)
      obtain ⟨v29, ev29, hf⟩ := lt_e hf
      rw [← ev29] at h
      refine lv_iinc (v := (a18 + 1)) (lv' := [(6, .int (a18 + 1)), (0, .ref (q 0)), (5, .int ((617 : Int32) + ((18 : Int32) * a2)))]) hx hb dX9_posts_173 hl (k := 2) rfl rfl (by decide) rfl (fun ls hl => ?_)
      refine lv_goto (tgt := 155) hx hb dX9_posts_176 (by decide) ?_
      exact hrec20 ((a18 + 1), v29) hf H locs h ls (lv_sub hl [1, 2, 0] rfl)
  refine lv_if_le (tgt := 77) hx hb dX9_posts_12 (by decide) (fun c30 => ?_) (fun c30 => ?_)
  · have hf := it_t c30 hf
    exact hj5 () H locs h ls (lv_sub hl [0, 1, 2, 3, 4] rfl) hf
  · have hf := it_f c30 hf
    refine lv_aload_n hx hb dX9_posts_15 rfl (lv_at hl 0 rfl) ?_
    refine lv_iload hx hb dX9_posts_16 (lv_at hl 4 rfl) ?_
    refine lv_iconst (v := (1 : Int32)) hx hb dX9_posts_18 (by decide) ?_
    refine lv_isub hx hb dX9_posts_19 ?_
    refine lv_iconst (v := (3 : Int32)) hx hb dX9_posts_20 (by decide) ?_
    obtain ⟨r32, hy31, hf⟩ := ob_e hf
    refine xiG h (va_runV (As := [.int (a2 - (1 : Int32)), .int (3 : Int32)]) (rest := []) hC (c_X9_ofOrder l G q v3 (a2 - (1 : Int32)) (3 : Int32) hy31 H.size) (xcwV hC lk_X9_53 in_X9 co_X9_ofOrder im_X9_ofOrder se_X9_ofOrder rfl rfl dd_X9_ofOrder ⟨Nat.le_of_ble_eq_true rfl, Nat.le_of_ble_eq_true rfl⟩) (preVO0 h.o (Nat.le_of_ble_eq_true rfl) eMod_0 rfl [.int (a2 - (1 : Int32)), .int (3 : Int32)]) rfl rfl hl.1 rfl (lv_room (Nat.le_of_ble_eq_true rfl)) dX9_posts_21 ⟨Nat.zero_le _, Nat.zero_le _⟩) (fun H locs h => ?_)
    refine lv_iload_n hx hb dX9_posts_24 rfl (lv_at hl 3 rfl) ?_
    refine lv_icmp_ge (tgt := 77) hx hb dX9_posts_25 (by decide) (fun c33 => ?_) (fun c33 => ?_)
    · have hf := it_t c33 hf
      exact hj5 () H locs h ls (lv_sub hl [0, 1, 2, 3, 4] rfl) hf
    · have hf := it_f c33 hf
      refine lv_iconst (v := (0 : Int32)) hx hb dX9_posts_28 (by decide) ?_
      refine lv_istore (lv' := [(5, .int (0 : Int32)), (0, .ref (q 0)), (1, .int p1), (2, .int p2), (3, .int p3), (4, .int a2)]) hx hb dX9_posts_29 hl (by decide) rfl (fun ls hl => ?_)
      refine lp_i (z := z) (P := fun (pp : Int32 × xSt) => ∀ (H : Heap) (locs : List Loc), hg G (eMod G) 8 q pp.2 A s H locs → ∀ (ls : Array Slot), lv_has ls 7 [(0, .ref (q 0)), (1, .int p1), (2, .int p2), (3, .int p3), (4, .int a2), (5, .int pp.1)] → W p l e { frames := 1, cells := 0, slots := 0, locals := 22 } s m [.ref (q 0), .int p1, .int p2, .int p3].toArray below meth c H locs 0 0 (MQ below ((qI z.1) (cB G (eMod G) 8 q z.2 A) A) [.ref (q 0), .int p1, .int p2, .int p3].toArray s 0 0 A) (F0 m 31 ls [])) ?_ _ _ hf H locs h ls (lv_sub hl [1, 2, 3, 4, 5, 0] rfl)
      intro rec36 hrec36 pp hf H locs h ls hl
      obtain ⟨a34, v35⟩ := pp
      have h : hg G (eMod G) 8 q v35 A s H locs := h
      have hl : lv_has ls 7 [(0, .ref (q 0)), (1, .int p1), (2, .int p2), (3, .int p3), (4, .int a2), (5, .int a34)] := hl
      have hf := un2_e hf
      refine lv_iload hx hb dX9_posts_31 (lv_at hl 5 rfl) ?_
      refine lv_bipush (v := (18 : Int32)) hx hb dX9_posts_33 (by decide) ?_
      refine lv_icmp_ge (tgt := 71) hx hb dX9_posts_35 (by decide) (fun c37 => ?_) (fun c37 => ?_)
      · have hf := it_t c37 hf
        refine lv_iinc (v := (a2 + (-1))) (lv' := [(4, .int (a2 + (-1))), (0, .ref (q 0)), (1, .int p1), (2, .int p2), (3, .int p3), (5, .int a34)]) hx hb dX9_posts_71 hl (k := 4) rfl rfl (by decide) rfl (fun ls hl => ?_)
        refine lv_goto (tgt := 10) hx hb dX9_posts_74 (by decide) ?_
        exact hrec4 ((a2 + (-1)), v35) hf H locs h ls (lv_sub hl [1, 2, 3, 4, 0] rfl)
      · have hf := it_f c37 hf
        refine lv_aload_n hx hb dX9_posts_38 rfl (lv_at hl 0 rfl) ?_
        refine xget hC h.o (C := RX9) (T := TX9) (N := 17) (wM_us uw_X9) 0 (Nat.le_of_ble_eq_true rfl) eMod_0 rfl 0 (by decide) (wM_in fl_X9_7) rfl dX9_posts_39 ?_
        refine lv_sipush (v := (617 : Int32)) hx hb dX9_posts_42 (by decide) ?_
        refine lv_bipush (v := (18 : Int32)) hx hb dX9_posts_45 (by decide) ?_
        refine lv_iload hx hb dX9_posts_47 (lv_at hl 4 rfl) ?_
        refine lv_imul hx hb dX9_posts_49 ?_
        refine lv_iadd hx hb dX9_posts_50 ?_
        refine lv_iload hx hb dX9_posts_51 (lv_at hl 5 rfl) ?_
        refine lv_iadd hx hb dX9_posts_53 ?_
        refine lv_aload_n hx hb dX9_posts_54 rfl (lv_at hl 0 rfl) ?_
        refine lv_iload hx hb dX9_posts_55 (lv_at hl 4 rfl) ?_
        refine lv_iconst (v := (1 : Int32)) hx hb dX9_posts_57 (by decide) ?_
        refine lv_isub hx hb dX9_posts_58 ?_
        refine lv_iload hx hb dX9_posts_59 (lv_at hl 5 rfl) ?_
        obtain ⟨r39, hy38, hf⟩ := ob_e hf
        refine xiG h (va_runV (As := [.int (a2 - (1 : Int32)), .int a34]) (rest := [.int (((617 : Int32) + ((18 : Int32) * a2)) + a34), .ref (q 1)]) hC (c_X9_ofOrder l G q v35 (a2 - (1 : Int32)) a34 hy38 H.size) (xcwV hC lk_X9_53 in_X9 co_X9_ofOrder im_X9_ofOrder se_X9_ofOrder rfl rfl dd_X9_ofOrder ⟨Nat.le_of_ble_eq_true rfl, Nat.le_of_ble_eq_true rfl⟩) (preVO0 h.o (Nat.le_of_ble_eq_true rfl) eMod_0 rfl [.int (a2 - (1 : Int32)), .int a34]) rfl rfl hl.1 rfl (lv_room (Nat.le_of_ble_eq_true rfl)) dX9_posts_61 ⟨Nat.zero_le _, Nat.zero_le _⟩) (fun H locs h => ?_)
        obtain ⟨hi40, hf⟩ := ck_e hf
        refine xiast hC h 1 (Nat.le_of_ble_eq_true rfl) (fun _ => eMod_1) hi40 dX9_posts_64 (fun H locs h => ?_)
        obtain ⟨v41, ev41, hf⟩ := lt_e hf
        rw [← ev41] at h
        refine lv_iinc (v := (a34 + 1)) (lv' := [(5, .int (a34 + 1)), (0, .ref (q 0)), (1, .int p1), (2, .int p2), (3, .int p3), (4, .int a2)]) hx hb dX9_posts_65 hl (k := 5) rfl rfl (by decide) rfl (fun ls hl => ?_)
        refine lv_goto (tgt := 31) hx hb dX9_posts_68 (by decide) ?_
        exact hrec36 ((a34 + 1), v41) hf H locs h ls (lv_sub hl [1, 2, 3, 4, 5, 0] rfl)
def m_X9_post (v : xSt) (p1 : Int32) (p2 : Int32) (p3 : Int32) : Option (Int32 × xSt) := lt (st2 v 0 8 (0 : Int32)) (fun v1 => lt (fun (_ : Unit) => ob (m_X9_fails v1 (1 : Int32)) (fun r5 => lt (r5.2) (fun v6 => some (r5.1, v6)))) (fun j3 => (if (xwi p1 (0 : Int32) (1 : Int32)) = 0 then j3 () else (if (xwi p3 (0 : Int32) (9 : Int32)) = 0 then j3 () else lt (fun (_ : Unit) => ck (¬ ((580 : Int32) < 0 ∨ 797 ≤ (580 : Int32).toNatClampNeg)) (lt (fun (_ : Unit) => ob (m_X9_fails v1 (3 : Int32)) (fun r14 => lt (r14.2) (fun v15 => some (r14.1, v15)))) (fun j12 => (if (v1 1 (580 : Int32).toNatClampNeg) = (10 : Int32) then j12 () else lt (fun (_ : Unit) => ob (m_X9_saves v1) (fun r19 => ob (m_X9_posts r19 p1 p2 p3) (fun r21 => lt (r21.2) (fun v22 => lt (fun (v23 : xSt) => ck (¬ ((566 : Int32) < 0 ∨ 797 ≤ (566 : Int32).toNatClampNeg)) (some (((v23 1 (566 : Int32).toNatClampNeg) - (1 : Int32)), v23))) (fun j24 => (if p1 = 0 then ck (¬ ((567 : Int32) < 0 ∨ 797 ≤ (567 : Int32).toNatClampNeg)) (ck (¬ ((r21.1 + (5 : Int32)) < 0 ∨ 797 ≤ (r21.1 + (5 : Int32)).toNatClampNeg)) (lt (st2 v22 1 (r21.1 + (5 : Int32)).toNatClampNeg (v22 1 (567 : Int32).toNatClampNeg)) (fun v29 => lp (fun (rec32 : Int32 × xSt → Option (Int32 × xSt)) => un2 (fun (a30 : Int32) (v31 : xSt) => (if (12 : Int32) ≤ a30 then ob (m_X9_unloads v31) (fun r35 => j24 r35) else ck (¬ (((568 : Int32) + a30) < 0 ∨ 797 ≤ ((568 : Int32) + a30).toNatClampNeg)) (ck (¬ (((r21.1 + (6 : Int32)) + a30) < 0 ∨ 797 ≤ ((r21.1 + (6 : Int32)) + a30).toNatClampNeg)) (lt (st2 v31 1 ((r21.1 + (6 : Int32)) + a30).toNatClampNeg (v31 1 ((568 : Int32) + a30).toNatClampNeg)) (fun v38 => rec32 ((a30 + 1), v38))))))) xF ((0 : Int32), v29)))) else j24 v22)))))) (fun j17 => (if p1 = 0 then ck (¬ ((567 : Int32) < 0 ∨ 797 ≤ (567 : Int32).toNatClampNeg)) ((if (v1 1 (567 : Int32).toNatClampNeg) = 0 then j12 () else j17 ())) else j17 ())))))) (fun j10 => lt (fun (_ : Unit) => ob (m_X9_fails v1 (2 : Int32)) (fun r44 => lt (r44.2) (fun v45 => some (r44.1, v45)))) (fun j42 => (if p1 = 0 then (if (xwi p2 0 255) = 0 then j42 () else j10 ()) else (if (xwi p2 0 7) = 0 then j42 () else j10 ()))))))))
set_option maxHeartbeats 4000000 in
set_option maxRecDepth 100000 in
theorem c_X9_post (l : Launch) (G : xGl) (q : Nat → Nat) (v : xSt) (p1 : Int32) (p2 : Int32) (p3 : Int32) {z : (Int32 × xSt)} (hf : m_X9_post v p1 p2 p3 = some z) : mRW l yX9_post (wM yX9_post cX9_post 6 (some .int)) { frames := 2, cells := 0, slots := 0, locals := 48 } G (eMod G) 8 q v [.ref (q 0), .int p1, .int p2, .int p3] (qI z.1) z.2 := by
  refine xRW (cc := cX9_post) (maxL := 6) (ret := (some .int)) (by decide) rfl (Nat.le_of_ble_eq_true rfl) ?_
  intro p e s m below meth c ls A hC hr hlk h hl
  have hx := hC.1
  have hb := hC.2.1
  have hl : lv_has ls 6 [(0, .ref (q 0)), (1, .int p1), (2, .int p2), (3, .int p3)] := hl
  unfold m_X9_post at hf
  obtain ⟨H, hH⟩ : ∃ H, H = s.heap := ⟨_, rfl⟩
  obtain ⟨locs, hlo⟩ : ∃ x : List Loc, x = [] := ⟨_, rfl⟩
  have h : hg G (eMod G) 8 q v A s H locs := by rw [hH, hlo]; exact h
  rw [← hlo, ← hH]
  clear hH hlo
  refine lv_aload_n hx hb dX9_post_0 rfl (lv_at hl 0 rfl) ?_
  refine lv_iconst (v := (0 : Int32)) hx hb dX9_post_1 (by decide) ?_
  refine xput hC h (C := RX9) (T := TX9) (N := 17) (wM_us uw_X9) tyX9_ok nmX9 0 (Nat.le_of_ble_eq_true rfl) eMod_0 rfl 8 (by decide) (wM_in fl_X9_31) rfl (ty := .int) (tyX9_ok 8 (by decide)) rfl rfl (Nat.le_of_ble_eq_true rfl) (eMod_0.trans rfl) dX9_post_2 (fun H locs h => ?_)
  obtain ⟨v1, ev1, hf⟩ := lt_e hf
  rw [← ev1] at h
  refine lv_iload_n hx hb dX9_post_5 rfl (lv_at hl 1 rfl) ?_
  refine lv_iconst (v := (0 : Int32)) hx hb dX9_post_6 (by decide) ?_
  refine lv_iconst (v := (1 : Int32)) hx hb dX9_post_7 (by decide) ?_
  refine xzG h (va_runS (As := [.int p1, .int (0 : Int32), .int (1 : Int32)]) (rest := []) hC (k_X9_in l G q v1 p1 (0 : Int32) (1 : Int32) H.size) (xcwS hC lk_X9_42 in_X9 co_X9_in st_X9_in rfl rfl dd_X9_in ⟨Nat.le_of_ble_eq_true rfl, Nat.le_of_ble_eq_true rfl⟩) (preSN h.o [.int p1, .int (0 : Int32), .int (1 : Int32)]) rfl rfl hl.1 rfl (lv_room (Nat.le_of_ble_eq_true rfl)) dX9_post_8 ⟨Nat.zero_le _, Nat.zero_le _⟩) (fun H locs hz2 h => ?_)
  obtain ⟨j3, ej3, hf⟩ := lt_e hf
  have hj3 : ∀ (uu : Unit) (H : Heap) (locs : List Loc), hg G (eMod G) 8 q v1 A s H locs → ∀ (ls : Array Slot), lv_has ls 6 [(0, .ref (q 0))] → j3 uu = some z → W p l e { frames := 2, cells := 0, slots := 0, locals := 48 } s m [.ref (q 0), .int p1, .int p2, .int p3].toArray below meth c H locs 0 0 (MQ below ((qI z.1) (cB G (eMod G) 8 q z.2 A) A) [.ref (q 0), .int p1, .int p2, .int p3].toArray s 0 0 A) (F0 m 24 ls []) := by
    intro uu H locs h ls hl hf
    rw [ej3] at hf
    refine lv_aload_n hx hb dX9_post_24 rfl (lv_at hl 0 rfl) ?_
    refine lv_iconst (v := (1 : Int32)) hx hb dX9_post_25 (by decide) ?_
    obtain ⟨r5, hy4, hf⟩ := ob_e hf
    refine xi0 h (va_runV (As := [.int (1 : Int32)]) (rest := []) hC (c_X9_fails l G q v1 (1 : Int32) hy4 H.size) (xcwV hC lk_X9_142 in_X9 co_X9_fails im_X9_fails se_X9_fails rfl rfl dd_X9_fails ⟨Nat.le_of_ble_eq_true rfl, Nat.le_of_ble_eq_true rfl⟩) (preV0 h (Nat.le_of_ble_eq_true rfl) eMod_0 rfl [.int (1 : Int32)]) rfl rfl hl.1 rfl (lv_room (Nat.le_of_ble_eq_true rfl)) dX9_post_26 ⟨Nat.zero_le _, Nat.zero_le _⟩) (fun H locs h => ?_)
    obtain ⟨v6, ev6, hf⟩ := lt_e hf
    rw [← ev6] at h
    have hf := sm_e hf
    exact xiret hC hr hlk h (by rw [← hf]) (by rw [← hf]) dX9_post_29
  refine lv_if_eq (tgt := 24) hx hb dX9_post_11 (by decide) (fun c7 => ?_) (fun c7 => ?_)
  · have hf := it_t c7 hf
    exact hj3 () H locs h ls (lv_sub hl [0] rfl) hf
  · have hf := it_f c7 hf
    refine lv_iload_n hx hb dX9_post_14 rfl (lv_at hl 3 rfl) ?_
    refine lv_iconst (v := (0 : Int32)) hx hb dX9_post_15 (by decide) ?_
    refine lv_bipush (v := (9 : Int32)) hx hb dX9_post_16 (by decide) ?_
    refine xzG h (va_runS (As := [.int p3, .int (0 : Int32), .int (9 : Int32)]) (rest := []) hC (k_X9_in l G q v1 p3 (0 : Int32) (9 : Int32) H.size) (xcwS hC lk_X9_42 in_X9 co_X9_in st_X9_in rfl rfl dd_X9_in ⟨Nat.le_of_ble_eq_true rfl, Nat.le_of_ble_eq_true rfl⟩) (preSN h.o [.int p3, .int (0 : Int32), .int (9 : Int32)]) rfl rfl hl.1 rfl (lv_room (Nat.le_of_ble_eq_true rfl)) dX9_post_18 ⟨Nat.zero_le _, Nat.zero_le _⟩) (fun H locs hz8 h => ?_)
    refine lv_if_ne (tgt := 30) hx hb dX9_post_21 (by decide) (fun c9 => ?_) (fun c9 => ?_)
    · have hf := it_f c9 hf
      refine lv_iload_n hx hb dX9_post_30 rfl (lv_at hl 1 rfl) ?_
      obtain ⟨j10, ej10, hf⟩ := lt_e hf
      have hj10 : ∀ (uu : Unit) (H : Heap) (locs : List Loc), hg G (eMod G) 8 q v1 A s H locs → ∀ (ls : Array Slot), lv_has ls 6 [(0, .ref (q 0)), (1, .int p1), (2, .int p2), (3, .int p3)] → j10 uu = some z → W p l e { frames := 2, cells := 0, slots := 0, locals := 48 } s m [.ref (q 0), .int p1, .int p2, .int p3].toArray below meth c H locs 0 0 (MQ below ((qI z.1) (cB G (eMod G) 8 q z.2 A) A) [.ref (q 0), .int p1, .int p2, .int p3].toArray s 0 0 A) (F0 m 57 ls []) := by
        intro uu H locs h ls hl hf
        rw [ej10] at hf
        refine lv_aload_n hx hb dX9_post_57 rfl (lv_at hl 0 rfl) ?_
        refine xget hC h.o (C := RX9) (T := TX9) (N := 17) (wM_us uw_X9) 0 (Nat.le_of_ble_eq_true rfl) eMod_0 rfl 0 (by decide) (wM_in fl_X9_7) rfl dX9_post_58 ?_
        refine lv_sipush (v := (580 : Int32)) hx hb dX9_post_61 (by decide) ?_
        obtain ⟨hi11, hf⟩ := ck_e hf
        refine xiald hC h.o 1 (Nat.le_of_ble_eq_true rfl) eMod_1 hi11 dX9_post_64 ?_
        refine lv_bipush (v := (10 : Int32)) hx hb dX9_post_65 (by decide) ?_
        obtain ⟨j12, ej12, hf⟩ := lt_e hf
        have hj12 : ∀ (uu : Unit) (H : Heap) (locs : List Loc), hg G (eMod G) 8 q v1 A s H locs → ∀ (ls : Array Slot), lv_has ls 6 [(0, .ref (q 0))] → j12 uu = some z → W p l e { frames := 2, cells := 0, slots := 0, locals := 48 } s m [.ref (q 0), .int p1, .int p2, .int p3].toArray below meth c H locs 0 0 (MQ below ((qI z.1) (cB G (eMod G) 8 q z.2 A) A) [.ref (q 0), .int p1, .int p2, .int p3].toArray s 0 0 A) (F0 m 85 ls []) := by
          intro uu H locs h ls hl hf
          rw [ej12] at hf
          refine lv_aload_n hx hb dX9_post_85 rfl (lv_at hl 0 rfl) ?_
          refine lv_iconst (v := (3 : Int32)) hx hb dX9_post_86 (by decide) ?_
          obtain ⟨r14, hy13, hf⟩ := ob_e hf
          refine xi0 h (va_runV (As := [.int (3 : Int32)]) (rest := []) hC (c_X9_fails l G q v1 (3 : Int32) hy13 H.size) (xcwV hC lk_X9_142 in_X9 co_X9_fails im_X9_fails se_X9_fails rfl rfl dd_X9_fails ⟨Nat.le_of_ble_eq_true rfl, Nat.le_of_ble_eq_true rfl⟩) (preV0 h (Nat.le_of_ble_eq_true rfl) eMod_0 rfl [.int (3 : Int32)]) rfl rfl hl.1 rfl (lv_room (Nat.le_of_ble_eq_true rfl)) dX9_post_87 ⟨Nat.zero_le _, Nat.zero_le _⟩) (fun H locs h => ?_)
          obtain ⟨v15, ev15, hf⟩ := lt_e hf
          rw [← ev15] at h
          have hf := sm_e hf
          exact xiret hC hr hlk h (by rw [← hf]) (by rw [← hf]) dX9_post_90
        refine lv_icmp_eq (tgt := 85) hx hb dX9_post_67 (by decide) (fun c16 => ?_) (fun c16 => ?_)
        · have hf := it_t c16 hf
          exact hj12 () H locs h ls (lv_sub hl [0] rfl) hf
        · have hf := it_f c16 hf
          refine lv_iload_n hx hb dX9_post_70 rfl (lv_at hl 1 rfl) ?_
          obtain ⟨j17, ej17, hf⟩ := lt_e hf
          have hj17 : ∀ (uu : Unit) (H : Heap) (locs : List Loc), hg G (eMod G) 8 q v1 A s H locs → ∀ (ls : Array Slot), lv_has ls 6 [(0, .ref (q 0)), (1, .int p1), (2, .int p2), (3, .int p3)] → j17 uu = some z → W p l e { frames := 2, cells := 0, slots := 0, locals := 48 } s m [.ref (q 0), .int p1, .int p2, .int p3].toArray below meth c H locs 0 0 (MQ below ((qI z.1) (cB G (eMod G) 8 q z.2 A) A) [.ref (q 0), .int p1, .int p2, .int p3].toArray s 0 0 A) (F0 m 91 ls []) := by
            intro uu H locs h ls hl hf
            rw [ej17] at hf
            refine lv_aload_n hx hb dX9_post_91 rfl (lv_at hl 0 rfl) ?_
            obtain ⟨r19, hy18, hf⟩ := ob_e hf
            refine xv0 h (va_runV (As := []) (rest := []) hC (c_X9_saves l G q v1 hy18 H.size) (xcwV hC lk_X9_145 in_X9 co_X9_saves im_X9_saves se_X9_saves rfl rfl dd_X9_saves ⟨Nat.le_of_ble_eq_true rfl, Nat.le_of_ble_eq_true rfl⟩) (preV0 h (Nat.le_of_ble_eq_true rfl) eMod_0 rfl []) rfl rfl hl.1 rfl (lv_room (Nat.le_of_ble_eq_true rfl)) dX9_post_92 ⟨Nat.zero_le _, Nat.zero_le _⟩) (fun H locs h => ?_)
            refine lv_aload_n hx hb dX9_post_95 rfl (lv_at hl 0 rfl) ?_
            refine lv_iload_n hx hb dX9_post_96 rfl (lv_at hl 1 rfl) ?_
            refine lv_iload_n hx hb dX9_post_97 rfl (lv_at hl 2 rfl) ?_
            refine lv_iload_n hx hb dX9_post_98 rfl (lv_at hl 3 rfl) ?_
            obtain ⟨r21, hy20, hf⟩ := ob_e hf
            refine xi0 h (va_runV (As := [.int p1, .int p2, .int p3]) (rest := []) hC (c_X9_posts l G q r19 p1 p2 p3 hy20 H.size) (xcwV hC lk_X9_166 in_X9 co_X9_posts im_X9_posts se_X9_posts rfl rfl dd_X9_posts ⟨Nat.le_of_ble_eq_true rfl, Nat.le_of_ble_eq_true rfl⟩) (preV0 h (Nat.le_of_ble_eq_true rfl) eMod_0 rfl [.int p1, .int p2, .int p3]) rfl rfl hl.1 rfl (lv_room (Nat.le_of_ble_eq_true rfl)) dX9_post_99 ⟨Nat.zero_le _, Nat.zero_le _⟩) (fun H locs h => ?_)
            obtain ⟨v22, ev22, hf⟩ := lt_e hf
            rw [← ev22] at h
            refine lv_istore (lv' := [(4, .int r21.1), (0, .ref (q 0)), (1, .int p1), (2, .int p2), (3, .int p3)]) hx hb dX9_post_102 hl (by decide) rfl (fun ls hl => ?_)
            refine lv_iload_n hx hb dX9_post_104 rfl (lv_at hl 2 rfl) ?_
            obtain ⟨j24, ej24, hf⟩ := lt_e hf
            have hj24 : ∀ (v23 : xSt) (H : Heap) (locs : List Loc), hg G (eMod G) 8 q v23 A s H locs → ∀ (ls : Array Slot), lv_has ls 6 [(0, .ref (q 0))] → j24 v23 = some z → W p l e { frames := 2, cells := 0, slots := 0, locals := 48 } s m [.ref (q 0), .int p1, .int p2, .int p3].toArray below meth c H locs 0 0 (MQ below ((qI z.1) (cB G (eMod G) 8 q z.2 A) A) [.ref (q 0), .int p1, .int p2, .int p3].toArray s 0 0 A) (F0 m 169 ls []) := by
              intro v23 H locs h ls hl hf
              rw [ej24] at hf
              refine lv_aload_n hx hb dX9_post_169 rfl (lv_at hl 0 rfl) ?_
              refine xget hC h.o (C := RX9) (T := TX9) (N := 17) (wM_us uw_X9) 0 (Nat.le_of_ble_eq_true rfl) eMod_0 rfl 0 (by decide) (wM_in fl_X9_7) rfl dX9_post_170 ?_
              refine lv_sipush (v := (566 : Int32)) hx hb dX9_post_173 (by decide) ?_
              obtain ⟨hi25, hf⟩ := ck_e hf
              refine xiald hC h.o 1 (Nat.le_of_ble_eq_true rfl) eMod_1 hi25 dX9_post_176 ?_
              refine lv_iconst (v := (1 : Int32)) hx hb dX9_post_177 (by decide) ?_
              refine lv_isub hx hb dX9_post_178 ?_
              have hf := sm_e hf
              exact xiret hC hr hlk h (by rw [← hf]) (by rw [← hf]) dX9_post_179
            refine lv_if_ne (tgt := 169) hx hb dX9_post_105 (by decide) (fun c26 => ?_) (fun c26 => ?_)
            · have hf := it_f c26 hf
              exact hj24 v22 H locs h ls (lv_sub hl [1] rfl) hf
            · have hf := it_t c26 hf
              refine lv_aload_n hx hb dX9_post_108 rfl (lv_at hl 1 rfl) ?_
              refine xget hC h.o (C := RX9) (T := TX9) (N := 17) (wM_us uw_X9) 0 (Nat.le_of_ble_eq_true rfl) eMod_0 rfl 0 (by decide) (wM_in fl_X9_7) rfl dX9_post_109 ?_
              refine lv_iload hx hb dX9_post_112 (lv_at hl 0 rfl) ?_
              refine lv_iconst (v := (5 : Int32)) hx hb dX9_post_114 (by decide) ?_
              refine lv_iadd hx hb dX9_post_115 ?_
              refine lv_aload_n hx hb dX9_post_116 rfl (lv_at hl 1 rfl) ?_
              refine xget hC h.o (C := RX9) (T := TX9) (N := 17) (wM_us uw_X9) 0 (Nat.le_of_ble_eq_true rfl) eMod_0 rfl 0 (by decide) (wM_in fl_X9_7) rfl dX9_post_117 ?_
              refine lv_sipush (v := (567 : Int32)) hx hb dX9_post_120 (by decide) ?_
              obtain ⟨hi27, hf⟩ := ck_e hf
              refine xiald hC h.o 1 (Nat.le_of_ble_eq_true rfl) eMod_1 hi27 dX9_post_123 ?_
              obtain ⟨hi28, hf⟩ := ck_e hf
              refine xiast hC h 1 (Nat.le_of_ble_eq_true rfl) (fun _ => eMod_1) hi28 dX9_post_124 (fun H locs h => ?_)
              obtain ⟨v29, ev29, hf⟩ := lt_e hf
              rw [← ev29] at h
              refine lv_iconst (v := (0 : Int32)) hx hb dX9_post_125 (by decide) ?_
              refine lv_istore (lv' := [(5, .int (0 : Int32)), (4, .int r21.1), (0, .ref (q 0)), (1, .int p1), (2, .int p2), (3, .int p3)]) hx hb dX9_post_126 hl (by decide) rfl (fun ls hl => ?_)
              refine lp_i (z := z) (P := fun (pp : Int32 × xSt) => ∀ (H : Heap) (locs : List Loc), hg G (eMod G) 8 q pp.2 A s H locs → ∀ (ls : Array Slot), lv_has ls 6 [(0, .ref (q 0)), (4, .int r21.1), (5, .int pp.1)] → W p l e { frames := 2, cells := 0, slots := 0, locals := 48 } s m [.ref (q 0), .int p1, .int p2, .int p3].toArray below meth c H locs 0 0 (MQ below ((qI z.1) (cB G (eMod G) 8 q z.2 A) A) [.ref (q 0), .int p1, .int p2, .int p3].toArray s 0 0 A) (F0 m 128 ls [])) ?_ _ _ hf H locs h ls (lv_sub hl [2, 1, 0] rfl)
              intro rec32 hrec32 pp hf H locs h ls hl
              obtain ⟨a30, v31⟩ := pp
              have h : hg G (eMod G) 8 q v31 A s H locs := h
              have hl : lv_has ls 6 [(0, .ref (q 0)), (4, .int r21.1), (5, .int a30)] := hl
              have hf := un2_e hf
              refine lv_iload hx hb dX9_post_128 (lv_at hl 2 rfl) ?_
              refine lv_bipush (v := (12 : Int32)) hx hb dX9_post_130 (by decide) ?_
              refine lv_icmp_ge (tgt := 165) hx hb dX9_post_132 (by decide) (fun c33 => ?_) (fun c33 => ?_)
              · have hf := it_t c33 hf
                refine lv_aload_n hx hb dX9_post_165 rfl (lv_at hl 0 rfl) ?_
                obtain ⟨r35, hy34, hf⟩ := ob_e hf
                refine xv0 h (va_runV (As := []) (rest := []) hC (c_X9_unloads l G q v31 hy34 H.size) (xcwV hC lk_X9_148 in_X9 co_X9_unloads im_X9_unloads se_X9_unloads rfl rfl dd_X9_unloads ⟨Nat.le_of_ble_eq_true rfl, Nat.le_of_ble_eq_true rfl⟩) (preV0 h (Nat.le_of_ble_eq_true rfl) eMod_0 rfl []) rfl rfl hl.1 rfl (lv_room (Nat.le_of_ble_eq_true rfl)) dX9_post_166 ⟨Nat.zero_le _, Nat.zero_le _⟩) (fun H locs h => ?_)
                exact hj24 r35 H locs h ls (lv_sub hl [0] rfl) hf
              · have hf := it_f c33 hf
                refine lv_aload_n hx hb dX9_post_135 rfl (lv_at hl 0 rfl) ?_
                refine xget hC h.o (C := RX9) (T := TX9) (N := 17) (wM_us uw_X9) 0 (Nat.le_of_ble_eq_true rfl) eMod_0 rfl 0 (by decide) (wM_in fl_X9_7) rfl dX9_post_136 ?_
                refine lv_iload hx hb dX9_post_139 (lv_at hl 1 rfl) ?_
                refine lv_bipush (v := (6 : Int32)) hx hb dX9_post_141 (by decide) ?_
                refine lv_iadd hx hb dX9_post_143 ?_
                refine lv_iload hx hb dX9_post_144 (lv_at hl 2 rfl) ?_
                refine lv_iadd hx hb dX9_post_146 ?_
                refine lv_aload_n hx hb dX9_post_147 rfl (lv_at hl 0 rfl) ?_
                refine xget hC h.o (C := RX9) (T := TX9) (N := 17) (wM_us uw_X9) 0 (Nat.le_of_ble_eq_true rfl) eMod_0 rfl 0 (by decide) (wM_in fl_X9_7) rfl dX9_post_148 ?_
                refine lv_sipush (v := (568 : Int32)) hx hb dX9_post_151 (by decide) ?_
                refine lv_iload hx hb dX9_post_154 (lv_at hl 2 rfl) ?_
                refine lv_iadd hx hb dX9_post_156 ?_
                obtain ⟨hi36, hf⟩ := ck_e hf
                refine xiald hC h.o 1 (Nat.le_of_ble_eq_true rfl) eMod_1 hi36 dX9_post_157 ?_
                obtain ⟨hi37, hf⟩ := ck_e hf
                refine xiast hC h 1 (Nat.le_of_ble_eq_true rfl) (fun _ => eMod_1) hi37 dX9_post_158 (fun H locs h => ?_)
                obtain ⟨v38, ev38, hf⟩ := lt_e hf
                rw [← ev38] at h
                refine lv_iinc (v := (a30 + 1)) (lv' := [(5, .int (a30 + 1)), (0, .ref (q 0)), (4, .int r21.1)]) hx hb dX9_post_159 hl (k := 2) rfl rfl (by decide) rfl (fun ls hl => ?_)
                refine lv_goto (tgt := 128) hx hb dX9_post_162 (by decide) ?_
                exact hrec32 ((a30 + 1), v38) hf H locs h ls (lv_sub hl [1, 2, 0] rfl)
          refine lv_if_ne (tgt := 91) hx hb dX9_post_71 (by decide) (fun c39 => ?_) (fun c39 => ?_)
          · have hf := it_f c39 hf
            exact hj17 () H locs h ls (lv_sub hl [0, 1, 2, 3] rfl) hf
          · have hf := it_t c39 hf
            refine lv_aload_n hx hb dX9_post_74 rfl (lv_at hl 0 rfl) ?_
            refine xget hC h.o (C := RX9) (T := TX9) (N := 17) (wM_us uw_X9) 0 (Nat.le_of_ble_eq_true rfl) eMod_0 rfl 0 (by decide) (wM_in fl_X9_7) rfl dX9_post_75 ?_
            refine lv_sipush (v := (567 : Int32)) hx hb dX9_post_78 (by decide) ?_
            obtain ⟨hi40, hf⟩ := ck_e hf
            refine xiald hC h.o 1 (Nat.le_of_ble_eq_true rfl) eMod_1 hi40 dX9_post_81 ?_
            refine lv_if_ne (tgt := 91) hx hb dX9_post_82 (by decide) (fun c41 => ?_) (fun c41 => ?_)
            · have hf := it_f c41 hf
              exact hj17 () H locs h ls (lv_sub hl [0, 1, 2, 3] rfl) hf
            · have hf := it_t c41 hf
              exact hj12 () H locs h ls (lv_sub hl [0] rfl) hf
      obtain ⟨j42, ej42, hf⟩ := lt_e hf
      have hj42 : ∀ (uu : Unit) (H : Heap) (locs : List Loc), hg G (eMod G) 8 q v1 A s H locs → ∀ (ls : Array Slot), lv_has ls 6 [(0, .ref (q 0))] → j42 uu = some z → W p l e { frames := 2, cells := 0, slots := 0, locals := 48 } s m [.ref (q 0), .int p1, .int p2, .int p3].toArray below meth c H locs 0 0 (MQ below ((qI z.1) (cB G (eMod G) 8 q z.2 A) A) [.ref (q 0), .int p1, .int p2, .int p3].toArray s 0 0 A) (F0 m 51 ls []) := by
        intro uu H locs h ls hl hf
        rw [ej42] at hf
        refine lv_aload_n hx hb dX9_post_51 rfl (lv_at hl 0 rfl) ?_
        refine lv_iconst (v := (2 : Int32)) hx hb dX9_post_52 (by decide) ?_
        obtain ⟨r44, hy43, hf⟩ := ob_e hf
        refine xi0 h (va_runV (As := [.int (2 : Int32)]) (rest := []) hC (c_X9_fails l G q v1 (2 : Int32) hy43 H.size) (xcwV hC lk_X9_142 in_X9 co_X9_fails im_X9_fails se_X9_fails rfl rfl dd_X9_fails ⟨Nat.le_of_ble_eq_true rfl, Nat.le_of_ble_eq_true rfl⟩) (preV0 h (Nat.le_of_ble_eq_true rfl) eMod_0 rfl [.int (2 : Int32)]) rfl rfl hl.1 rfl (lv_room (Nat.le_of_ble_eq_true rfl)) dX9_post_53 ⟨Nat.zero_le _, Nat.zero_le _⟩) (fun H locs h => ?_)
        obtain ⟨v45, ev45, hf⟩ := lt_e hf
        rw [← ev45] at h
        have hf := sm_e hf
        exact xiret hC hr hlk h (by rw [← hf]) (by rw [← hf]) dX9_post_56
      refine lv_if_ne (tgt := 44) hx hb dX9_post_31 (by decide) (fun c46 => ?_) (fun c46 => ?_)
      · have hf := it_f c46 hf
        refine lv_iload_n hx hb dX9_post_44 rfl (lv_at hl 2 rfl) ?_
        refine xzG h (va_runS (As := [.int p2]) (rest := []) hC (k_X9_isSector l G q v1 p2 H.size) (xcwS hC lk_X9_157 in_X9 co_X9_isSector st_X9_isSector rfl rfl dd_X9_isSector ⟨Nat.le_of_ble_eq_true rfl, Nat.le_of_ble_eq_true rfl⟩) (preSN h.o [.int p2]) rfl rfl hl.1 rfl (lv_room (Nat.le_of_ble_eq_true rfl)) dX9_post_45 ⟨Nat.zero_le _, Nat.zero_le _⟩) (fun H locs hz47 h => ?_)
        refine lv_if_ne (tgt := 57) hx hb dX9_post_48 (by decide) (fun c48 => ?_) (fun c48 => ?_)
        · have hf := it_f c48 hf
          exact hj10 () H locs h ls (lv_sub hl [0, 1, 2, 3] rfl) hf
        · have hf := it_t c48 hf
          exact hj42 () H locs h ls (lv_sub hl [0] rfl) hf
      · have hf := it_t c46 hf
        refine lv_iload_n hx hb dX9_post_34 rfl (lv_at hl 2 rfl) ?_
        refine xzG h (va_runS (As := [.int p2]) (rest := []) hC (k_X9_isCell l G q v1 p2 H.size) (xcwS hC lk_X9_151 in_X9 co_X9_isCell st_X9_isCell rfl rfl dd_X9_isCell ⟨Nat.le_of_ble_eq_true rfl, Nat.le_of_ble_eq_true rfl⟩) (preSN h.o [.int p2]) rfl rfl hl.1 rfl (lv_room (Nat.le_of_ble_eq_true rfl)) dX9_post_35 ⟨Nat.zero_le _, Nat.zero_le _⟩) (fun H locs hz49 h => ?_)
        refine lv_if_ne (tgt := 57) hx hb dX9_post_38 (by decide) (fun c50 => ?_) (fun c50 => ?_)
        · have hf := it_f c50 hf
          exact hj10 () H locs h ls (lv_sub hl [0, 1, 2, 3] rfl) hf
        · have hf := it_t c50 hf
          refine lv_goto (tgt := 51) hx hb dX9_post_41 (by decide) ?_
          exact hj42 () H locs h ls (lv_sub hl [0] rfl) hf
    · have hf := it_t c9 hf
      exact hj3 () H locs h ls (lv_sub hl [0] rfl) hf
def m_X9_rankOf (v : xSt) (p1 : Int32) : Option (Int32) := lp (fun (rec3 : Int32 × Int32 → Option (Int32)) => un2 (fun (a1 : Int32) (a2 : Int32) => ck (¬ ((580 : Int32) < 0 ∨ 797 ≤ (580 : Int32).toNatClampNeg)) ((if (v 1 (580 : Int32).toNatClampNeg) ≤ a2 then some a1 else ob (m_X9_ofOrder v a2 (0 : Int32)) (fun r7 => lt (fun (t8 : Int32) => rec3 (t8, (a2 + 1))) (fun j9 => (if r7 = p1 then j9 a2 else j9 a1))))))) xF ((-1 : Int32), (0 : Int32))
set_option maxHeartbeats 4000000 in
set_option maxRecDepth 100000 in
theorem c_X9_rankOf (l : Launch) (G : xGl) (q : Nat → Nat) (v : xSt) (p1 : Int32) {z : (Int32)} (hf : m_X9_rankOf v p1 = some z) : mRO l yX9_rankOf (wM yX9_rankOf cX9_rankOf 4 (some .int)) { frames := 1, cells := 0, slots := 0, locals := 22 } G (eMod G) 8 q v [.ref (q 0), .int p1] (qI z) := by
  refine xRO (cc := cX9_rankOf) (maxL := 4) (ret := (some .int)) (by decide) rfl (Nat.le_of_ble_eq_true rfl) ?_
  intro p e s m below meth c ls A hC hr hlk h hl
  have hx := hC.1
  have hb := hC.2.1
  have hl : lv_has ls 4 [(0, .ref (q 0)), (1, .int p1)] := hl
  unfold m_X9_rankOf at hf
  obtain ⟨H, hH⟩ : ∃ H, H = s.heap := ⟨_, rfl⟩
  obtain ⟨locs, hlo⟩ : ∃ x : List Loc, x = [] := ⟨_, rfl⟩
  have h : ho G (eMod G) 8 q v A s H locs := by rw [hH, hlo]; exact h
  rw [← hlo, ← hH]
  clear hH hlo
  refine lv_iconst (v := (-1 : Int32)) hx hb dX9_rankOf_0 (by decide) ?_
  refine lv_istore_n (lv' := [(2, .int (-1 : Int32)), (0, .ref (q 0)), (1, .int p1)]) hx hb dX9_rankOf_1 rfl hl (by decide) rfl (fun ls hl => ?_)
  refine lv_iconst (v := (0 : Int32)) hx hb dX9_rankOf_2 (by decide) ?_
  refine lv_istore_n (lv' := [(3, .int (0 : Int32)), (2, .int (-1 : Int32)), (0, .ref (q 0)), (1, .int p1)]) hx hb dX9_rankOf_3 rfl hl (by decide) rfl (fun ls hl => ?_)
  refine lp_i (z := z) (P := fun (pp : Int32 × Int32) => ∀ (H : Heap) (locs : List Loc), ho G (eMod G) 8 q v A s H locs → ∀ (ls : Array Slot), lv_has ls 4 [(0, .ref (q 0)), (1, .int p1), (2, .int pp.1), (3, .int pp.2)] → W p l e { frames := 1, cells := 0, slots := 0, locals := 22 } s m [.ref (q 0), .int p1].toArray below meth c H locs 0 0 (MQ below ((qI z) (fun _ => True) A) [.ref (q 0), .int p1].toArray s 0 0 A) (F0 m 4 ls [])) ?_ _ _ hf H locs h ls (lv_sub hl [2, 3, 1, 0] rfl)
  intro rec3 hrec3 pp hf H locs h ls hl
  obtain ⟨a1, a2⟩ := pp
  have h : ho G (eMod G) 8 q v A s H locs := h
  have hl : lv_has ls 4 [(0, .ref (q 0)), (1, .int p1), (2, .int a1), (3, .int a2)] := hl
  have hf := un2_e hf
  refine lv_iload_n hx hb dX9_rankOf_4 rfl (lv_at hl 3 rfl) ?_
  refine lv_aload_n hx hb dX9_rankOf_5 rfl (lv_at hl 0 rfl) ?_
  refine xget hC h.o (C := RX9) (T := TX9) (N := 17) (wM_us uw_X9) 0 (Nat.le_of_ble_eq_true rfl) eMod_0 rfl 0 (by decide) (wM_in fl_X9_7) rfl dX9_rankOf_6 ?_
  refine lv_sipush (v := (580 : Int32)) hx hb dX9_rankOf_9 (by decide) ?_
  obtain ⟨hi4, hf⟩ := ck_e hf
  refine xiald hC h.o 1 (Nat.le_of_ble_eq_true rfl) eMod_1 hi4 dX9_rankOf_12 ?_
  refine lv_icmp_ge (tgt := 38) hx hb dX9_rankOf_13 (by decide) (fun c5 => ?_) (fun c5 => ?_)
  · have hf := it_t c5 hf
    refine lv_iload_n hx hb dX9_rankOf_38 rfl (lv_at hl 2 rfl) ?_
    have hf := sm_e hf
    exact oiret hC hr hlk h (by rw [← hf]) dX9_rankOf_39
  · have hf := it_f c5 hf
    refine lv_aload_n hx hb dX9_rankOf_16 rfl (lv_at hl 0 rfl) ?_
    refine lv_iload_n hx hb dX9_rankOf_17 rfl (lv_at hl 3 rfl) ?_
    refine lv_iconst (v := (0 : Int32)) hx hb dX9_rankOf_18 (by decide) ?_
    obtain ⟨r7, hy6, hf⟩ := ob_e hf
    refine xiO h (va_runV (As := [.int a2, .int (0 : Int32)]) (rest := []) hC (c_X9_ofOrder l G q v a2 (0 : Int32) hy6 H.size) (xcwV hC lk_X9_53 in_X9 co_X9_ofOrder im_X9_ofOrder se_X9_ofOrder rfl rfl dd_X9_ofOrder ⟨Nat.le_of_ble_eq_true rfl, Nat.le_of_ble_eq_true rfl⟩) (preVO0 h.o (Nat.le_of_ble_eq_true rfl) eMod_0 rfl [.int a2, .int (0 : Int32)]) rfl rfl hl.1 rfl (lv_room (Nat.le_of_ble_eq_true rfl)) dX9_rankOf_19 ⟨Nat.zero_le _, Nat.zero_le _⟩) (fun H locs h => ?_)
    refine lv_iload_n hx hb dX9_rankOf_22 rfl (lv_at hl 1 rfl) ?_
    obtain ⟨j9, ej9, hf⟩ := lt_e hf
    have hj9 : ∀ (t8 : Int32) (H : Heap) (locs : List Loc), ho G (eMod G) 8 q v A s H locs → ∀ (ls : Array Slot), lv_has ls 4 [(0, .ref (q 0)), (1, .int p1), (3, .int a2)] → j9 t8 = some z → W p l e { frames := 1, cells := 0, slots := 0, locals := 22 } s m [.ref (q 0), .int p1].toArray below meth c H locs 0 0 (MQ below ((qI z) (fun _ => True) A) [.ref (q 0), .int p1].toArray s 0 0 A) (F0 m 31 ls [.int t8]) := by
      intro t8 H locs h ls hl hf
      rw [ej9] at hf
      refine lv_istore_n (lv' := [(2, .int t8), (0, .ref (q 0)), (1, .int p1), (3, .int a2)]) hx hb dX9_rankOf_31 rfl hl (by decide) rfl (fun ls hl => ?_)
      refine lv_iinc (v := (a2 + 1)) (lv' := [(3, .int (a2 + 1)), (2, .int t8), (0, .ref (q 0)), (1, .int p1)]) hx hb dX9_rankOf_32 hl (k := 3) rfl rfl (by decide) rfl (fun ls hl => ?_)
      refine lv_goto (tgt := 4) hx hb dX9_rankOf_35 (by decide) ?_
      exact hrec3 (t8, (a2 + 1)) hf H locs h ls (lv_sub hl [2, 3, 1, 0] rfl)
    refine lv_icmp_ne (tgt := 30) hx hb dX9_rankOf_23 (by decide) (fun c10 => ?_) (fun c10 => ?_)
    · have hf := it_f c10 hf
      refine lv_iload_n hx hb dX9_rankOf_30 rfl (lv_at hl 2 rfl) ?_
      exact hj9 a1 H locs h ls (lv_sub hl [0, 1, 3] rfl) hf
    · have hf := it_t c10 hf
      refine lv_iload_n hx hb dX9_rankOf_26 rfl (lv_at hl 3 rfl) ?_
      refine lv_goto (tgt := 31) hx hb dX9_rankOf_27 (by decide) ?_
      exact hj9 a2 H locs h ls (lv_sub hl [0, 1, 3] rfl) hf
