theorem co_L_holds : Cond.code yL_holds cL_holds 9 (some .boolean) ∈ wG := wG_t 644 (by decide +kernel) rfl
theorem dd_L_holds : yL_holds.cls ≠ "java/lang/invoke/MethodHandle" ∧ yL_holds.cls ≠ "java/lang/invoke/VarHandle" ∧ (parseMethodDescriptor yL_holds.desc).map (fun d => d.parameters.length) = some 1 := by decide +kernel
theorem st_L_holds : Cond.static yL_holds ∈ wG := wG_t 643 (by decide +kernel) rfl
theorem lk_L_190 : Cond.methodLink RL 190 yL_holds ∈ wG := wG_t 642 (by decide +kernel) rfl
theorem co_L_falls : Cond.code yL_falls cL_falls 10 (some .boolean) ∈ wG := wG_t 686 (by decide +kernel) rfl
theorem dd_L_falls : yL_falls.cls ≠ "java/lang/invoke/MethodHandle" ∧ yL_falls.cls ≠ "java/lang/invoke/VarHandle" ∧ (parseMethodDescriptor yL_falls.desc).map (fun d => d.parameters.length) = some 2 := by decide +kernel
theorem st_L_falls : Cond.static yL_falls ∈ wG := wG_t 685 (by decide +kernel) rfl
theorem lk_L_194 : Cond.methodLink RL 194 yL_falls ∈ wG := wG_t 684 (by decide +kernel) rfl
theorem co_L_undo : Cond.codeWith yL_undo cL_undo 2 (some .int) [(0, 4, 5, 15)] ∈ wG := wG_t 526 (by decide +kernel) rfl
theorem dd_L_undo : yL_undo.cls ≠ "java/lang/invoke/MethodHandle" ∧ yL_undo.cls ≠ "java/lang/invoke/VarHandle" ∧ (parseMethodDescriptor yL_undo.desc).map (fun d => d.parameters.length) = some 1 := by decide +kernel
theorem st_L_undo : Cond.static yL_undo ∈ wG := wG_t 525 (by decide +kernel) rfl
theorem lk_L_197 : Cond.methodLink RL 197 yL_undo ∈ wG := wG_t 524 (by decide +kernel) rfl
theorem co_L_goBack : Cond.codeWith yL_goBack cL_goBack 2 (some .int) [(0, 4, 5, 15)] ∈ wG := wG_t 494 (by decide +kernel) rfl
theorem dd_L_goBack : yL_goBack.cls ≠ "java/lang/invoke/MethodHandle" ∧ yL_goBack.cls ≠ "java/lang/invoke/VarHandle" ∧ (parseMethodDescriptor yL_goBack.desc).map (fun d => d.parameters.length) = some 1 := by decide +kernel
theorem st_L_goBack : Cond.static yL_goBack ∈ wG := wG_t 493 (by decide +kernel) rfl
theorem lk_L_199 : Cond.methodLink RL 199 yL_goBack ∈ wG := wG_t 492 (by decide +kernel) rfl
theorem co_X8_keep : Cond.code yX8_keep cX8_keep 1 (some .int) ∈ wG := wG_t 342 (by decide +kernel) rfl
theorem dd_X8_keep : yX8_keep.cls ≠ "java/lang/invoke/MethodHandle" ∧ yX8_keep.cls ≠ "java/lang/invoke/VarHandle" ∧ (parseMethodDescriptor yX8_keep.desc).map (fun d => d.parameters.length) = some 0 := by decide +kernel
theorem lk_L_201 : Cond.methodLink RL 201 yX8_keep ∈ wG := wG_t 339 (by decide +kernel) rfl
theorem im_X8_keep : Cond.instanceMethod yX8_keep ∈ wG := wG_t 340 (by decide +kernel) rfl
theorem se_X8_keep : Cond.selects RX8 yX8_keep yX8_keep ∈ wG := wG_t 341 (by decide +kernel) rfl
theorem dd_L_lot : yL_lot.cls ≠ "java/lang/invoke/MethodHandle" ∧ yL_lot.cls ≠ "java/lang/invoke/VarHandle" ∧ (parseMethodDescriptor yL_lot.desc).map (fun d => d.parameters.length) = some 2 := by decide +kernel
theorem st_L_lot : Cond.static yL_lot ∈ wG := wG_t 485 (by decide +kernel) rfl
theorem lk_L_204 : Cond.methodLink RL 204 yL_lot ∈ wG := wG_t 484 (by decide +kernel) rfl
theorem co_L_acts : Cond.code yL_acts cL_acts 8 (some .boolean) ∈ wG := wG_t 808 (by decide +kernel) rfl
theorem dd_L_acts : yL_acts.cls ≠ "java/lang/invoke/MethodHandle" ∧ yL_acts.cls ≠ "java/lang/invoke/VarHandle" ∧ (parseMethodDescriptor yL_acts.desc).map (fun d => d.parameters.length) = some 3 := by decide +kernel
theorem st_L_acts : Cond.static yL_acts ∈ wG := wG_t 807 (by decide +kernel) rfl
theorem lk_L_208 : Cond.methodLink RL 208 yL_acts ∈ wG := wG_t 806 (by decide +kernel) rfl
def m_law_a (v : xSt) : Option (Int32 × Int64 × xSt) := ob (m_L_holds v) (fun r1 => lt (r1.2) (fun v4 => lt (fun (t5 : Int32) (v6 : xSt) => ob (m_L_look v6) (fun r8 => lt (r8.2) (fun v10 => some (t5, r8.1, v10)))) (fun j7 => lt (fun (v11 : xSt) => j7 (0 : Int32) v11) (fun j12 => (if r1.1 = 0 then j12 v4 else ob (m_L_falls v4 (0 : Int32)) (fun r14 => lt (r14.2) (fun v17 => (if r14.1 = 0 then j12 v17 else ob (m_L_undo v17) (fun r19 => lt (r19.2) (fun v21 => (if r19.1 = (-103 : Int32) then ob (m_L_goBack v21) (fun r23 => lt (r23.2) (fun v25 => (if r23.1 = (-103 : Int32) then ob (m_X8_keep v25) (fun r28 => lt (r28.2) (fun v29 => (if r28.1 = 0 then j7 (1 : Int32) v29 else j12 v29))) else j12 v25))) else j12 v21)))))))))))
set_option maxHeartbeats 4000000 in
set_option maxRecDepth 100000 in
theorem k_law_a {p : Program} {l : Launch} {e : Env} {s : State} {m : MethodId} {args : Array Value} {below : List Frame} {meth : Method} {c : Code} {H : Heap} {locs : List Loc} {cells slots : Nat} {Q : State → Prop} {G : xGl} {sa q : Nat → Nat} {v : xSt} {A : Nat → Prop} {ls : Array Slot} {b L : Nat} {xs : Nat → Int32} {kp : Int64} {i : Int32} (hst : l.stackTraces = false) (hC : CallFix p m c cL_law 13 s args lw_tbl RL) (hin : ∀ w ∈ wG, w ∈ lw_tbl) (hT : xT G sa A s s.heap) (hX : va_X b L xs s s.heap) (hbl : b < s.heap.size) (hbA : ¬ A b) (hL : L < 2147483648) (hcs : cells + 4 ≤ room_1.cells ∧ slots + 24 ≤ room_1.slots) (h : hg G (eBC G) 430 q v A s H locs) (hl : lv_has ls 13 [(0, .ref b), (1, .ref (q 0))]) {z : (Int32 × Int64 × xSt)} (hf : m_law_a v = some z) (kk : ∀ (H : Heap) (locs : List Loc) (ls : Array Slot), hg G (eBC G) 430 q z.2.2 A s H locs → lv_has ls 13 [(0, .ref b), (1, .ref (q 0)), (2, .int z.1), (3, .long z.2.1), (5, .int (0 : Int32))] → W p l e room_1 s m args below meth c H locs (cells + 4) (slots + 24) Q (F0 m 62 ls [])) : W p l e room_1 s m args below meth c H locs cells slots Q (F0 m 8 ls []) := by
  have hx := hC.1
  have hb := hC.2.1
  unfold m_law_a at hf
  refine lv_aload_n hx hb dL_law_8 rfl (lv_at hl 1 rfl) ?_
  obtain ⟨r1, hy2, hf⟩ := ob_e hf
  refine xz0c h (va_runS (As := [.ref (q 0)]) (rest := []) hC (c_L_holds l hst G sa q v hy2 H.size) (xcgS hC hin lk_L_190 in_L co_L_holds st_L_holds rfl rfl dd_L_holds ⟨Nat.le_of_ble_eq_true rfl, Nat.le_of_ble_eq_true rfl⟩) (preS0T h hT [.ref (q 0)]) rfl rfl hl.1 rfl (lv_room (Nat.le_of_ble_eq_true rfl)) dL_law_9 ⟨by have := hcs.1; omega, by have := hcs.2; omega⟩) (fun H locs hz3 h => ?_)
  refine W.widen (k := cells) (n := slots) (by omega) (by omega) ?_
  obtain ⟨v4, ev4, hf⟩ := lt_e hf
  rw [← ev4] at h
  obtain ⟨j7, ej7, hf⟩ := lt_e hf
  have hj7 : ∀ (t5 : Int32) (v6 : xSt) (H : Heap) (locs : List Loc), hg G (eBC G) 430 q v6 A s H locs → ∀ (ls : Array Slot), lv_has ls 13 [(0, .ref b), (1, .ref (q 0))] → j7 t5 v6 = some z → W p l e room_1 s m args below meth c H locs (cells + 4) (slots + 24) Q (F0 m 53 ls [.int t5]) := by
    intro t5 v6 H locs h ls hl hf
    rw [ej7] at hf
    refine lv_istore_n (lv' := [(2, .int t5), (0, .ref b), (1, .ref (q 0))]) hx hb dL_law_53 rfl hl (by decide) rfl (fun ls hl => ?_)
    refine lv_aload_n hx hb dL_law_54 rfl (lv_at hl 2 rfl) ?_
    obtain ⟨r8, hy9, hf⟩ := ob_e hf
    refine xl0c h (va_runS (As := [.ref (q 0)]) (rest := []) hC (c_L_look l hst G sa q v6 hy9 H.size) (xcgS hC hin lk_L_133 in_L co_L_look st_L_look rfl rfl dd_L_look ⟨Nat.le_of_ble_eq_true rfl, Nat.le_of_ble_eq_true rfl⟩) (preS0T h hT [.ref (q 0)]) rfl rfl hl.1 rfl (lv_room (Nat.le_of_ble_eq_true rfl)) dL_law_55 ⟨by have := hcs.1; omega, by have := hcs.2; omega⟩) (fun H locs h => ?_)
    refine W.widen (k := (cells + 4)) (n := (slots + 24)) (by omega) (by omega) ?_
    obtain ⟨v10, ev10, hf⟩ := lt_e hf
    rw [← ev10] at h
    refine lv_lstore_n (lv' := [(3, .long r8.1), (2, .int t5), (0, .ref b), (1, .ref (q 0))]) hx hb dL_law_58 rfl hl (by decide) rfl (fun ls hl => ?_)
    refine lv_iconst (v := (0 : Int32)) hx hb dL_law_59 (by decide) ?_
    refine lv_istore (lv' := [(5, .int (0 : Int32)), (3, .long r8.1), (2, .int t5), (0, .ref b), (1, .ref (q 0))]) hx hb dL_law_60 hl (by decide) rfl (fun ls hl => ?_)
    have hf := sm_e hf
    subst hf
    exact kk H locs ls h (lv_sub hl [3, 4, 2, 1, 0] rfl)
  obtain ⟨j12, ej12, hf⟩ := lt_e hf
  have hj12 : ∀ (v11 : xSt) (H : Heap) (locs : List Loc), hg G (eBC G) 430 q v11 A s H locs → ∀ (ls : Array Slot), lv_has ls 13 [(0, .ref b), (1, .ref (q 0))] → j12 v11 = some z → W p l e room_1 s m args below meth c H locs (cells + 4) (slots + 24) Q (F0 m 52 ls []) := by
    intro v11 H locs h ls hl hf
    rw [ej12] at hf
    refine lv_iconst (v := (0 : Int32)) hx hb dL_law_52 (by decide) ?_
    exact hj7 (0 : Int32) v11 H locs h ls (lv_sub hl [0, 1] rfl) hf
  refine lv_if_eq (tgt := 52) hx hb dL_law_12 (by decide) (fun c13 => ?_) (fun c13 => ?_)
  · have hf := it_t c13 hf
    refine W.widen (k := (cells + 4)) (n := (slots + 24)) (by omega) (by omega) ?_
    exact hj12 v4 H locs h ls (lv_sub hl [0, 1] rfl) hf
  · have hf := it_f c13 hf
    refine lv_aload_n hx hb dL_law_15 rfl (lv_at hl 1 rfl) ?_
    refine lv_iconst (v := (0 : Int32)) hx hb dL_law_16 (by decide) ?_
    obtain ⟨r14, hy15, hf⟩ := ob_e hf
    refine xz0c h (va_runS (As := [.ref (q 0), .int (0 : Int32)]) (rest := []) hC (c_L_falls l hst G sa q v4 (0 : Int32) hy15 H.size) (xcgS hC hin lk_L_194 in_L co_L_falls st_L_falls rfl rfl dd_L_falls ⟨Nat.le_of_ble_eq_true rfl, Nat.le_of_ble_eq_true rfl⟩) (preS0T h hT [.ref (q 0), .int (0 : Int32)]) rfl rfl hl.1 rfl (lv_room (Nat.le_of_ble_eq_true rfl)) dL_law_17 ⟨by have := hcs.1; omega, by have := hcs.2; omega⟩) (fun H locs hz16 h => ?_)
    refine W.widen (k := (cells + 2)) (n := (slots + 12)) (by omega) (by omega) ?_
    obtain ⟨v17, ev17, hf⟩ := lt_e hf
    rw [← ev17] at h
    refine lv_if_eq (tgt := 52) hx hb dL_law_20 (by decide) (fun c18 => ?_) (fun c18 => ?_)
    · have hf := it_t c18 hf
      refine W.widen (k := (cells + 4)) (n := (slots + 24)) (by omega) (by omega) ?_
      exact hj12 v17 H locs h ls (lv_sub hl [0, 1] rfl) hf
    · have hf := it_f c18 hf
      refine lv_aload_n hx hb dL_law_23 rfl (lv_at hl 1 rfl) ?_
      obtain ⟨r19, hy20, hf⟩ := ob_e hf
      refine xi0c h (vx_runSW (As := [.ref (q 0)]) (rest := []) hC (c_L_undo l hst G sa q v17 hy20 H.size) (xcgSW hC hin lk_L_197 in_L co_L_undo st_L_undo rfl rfl dd_L_undo ⟨Nat.le_of_ble_eq_true rfl, Nat.le_of_ble_eq_true rfl⟩) (preS0T h hT [.ref (q 0)]) rfl rfl hl.1 rfl (lv_room (Nat.le_of_ble_eq_true rfl)) dL_law_24 ⟨by have := hcs.1; omega, by have := hcs.2; omega⟩) (fun H locs h => ?_)
      refine W.widen (k := (cells + 3)) (n := (slots + 18)) (by omega) (by omega) ?_
      obtain ⟨v21, ev21, hf⟩ := lt_e hf
      rw [← ev21] at h
      refine lv_bipush (v := (-103 : Int32)) hx hb dL_law_27 (by decide) ?_
      refine lv_icmp_ne (tgt := 52) hx hb dL_law_29 (by decide) (fun c22 => ?_) (fun c22 => ?_)
      · have hf := it_f c22 hf
        refine W.widen (k := (cells + 4)) (n := (slots + 24)) (by omega) (by omega) ?_
        exact hj12 v21 H locs h ls (lv_sub hl [0, 1] rfl) hf
      · have hf := it_t c22 hf
        refine lv_aload_n hx hb dL_law_32 rfl (lv_at hl 1 rfl) ?_
        obtain ⟨r23, hy24, hf⟩ := ob_e hf
        refine xi0c h (vx_runSW (As := [.ref (q 0)]) (rest := []) hC (c_L_goBack l hst G sa q v21 hy24 H.size) (xcgSW hC hin lk_L_199 in_L co_L_goBack st_L_goBack rfl rfl dd_L_goBack ⟨Nat.le_of_ble_eq_true rfl, Nat.le_of_ble_eq_true rfl⟩) (preS0T h hT [.ref (q 0)]) rfl rfl hl.1 rfl (lv_room (Nat.le_of_ble_eq_true rfl)) dL_law_33 ⟨by have := hcs.1; omega, by have := hcs.2; omega⟩) (fun H locs h => ?_)
        refine W.widen (k := (cells + 4)) (n := (slots + 24)) (by omega) (by omega) ?_
        obtain ⟨v25, ev25, hf⟩ := lt_e hf
        rw [← ev25] at h
        refine lv_bipush (v := (-103 : Int32)) hx hb dL_law_36 (by decide) ?_
        refine lv_icmp_ne (tgt := 52) hx hb dL_law_38 (by decide) (fun c26 => ?_) (fun c26 => ?_)
        · have hf := it_f c26 hf
          exact hj12 v25 H locs h ls (lv_sub hl [0, 1] rfl) hf
        · have hf := it_t c26 hf
          refine lv_aload_n hx hb dL_law_41 rfl (lv_at hl 1 rfl) ?_
          obtain ⟨r28, hy27, hf⟩ := ob_e hf
          refine xi0 h (va_runV (As := []) (rest := []) hC (c_X8_keep l G q v25 hy27 H.size) (xcgV hC hin lk_L_201 in_X8 co_X8_keep im_X8_keep se_X8_keep rfl rfl dd_X8_keep ⟨Nat.le_of_ble_eq_true rfl, Nat.le_of_ble_eq_true rfl⟩) (preV0 h (Nat.le_of_ble_eq_true rfl) eBC_0 rfl []) rfl rfl hl.1 rfl (lv_room (Nat.le_of_ble_eq_true rfl)) dL_law_42 ⟨by have := hcs.1; omega, by have := hcs.2; omega⟩) (fun H locs h => ?_)
          obtain ⟨v29, ev29, hf⟩ := lt_e hf
          rw [← ev29] at h
          refine lv_if_ne (tgt := 52) hx hb dL_law_45 (by decide) (fun c30 => ?_) (fun c30 => ?_)
          · have hf := it_f c30 hf
            exact hj12 v29 H locs h ls (lv_sub hl [0, 1] rfl) hf
          · have hf := it_t c30 hf
            refine lv_iconst (v := (1 : Int32)) hx hb dL_law_48 (by decide) ?_
            refine lv_goto (tgt := 53) hx hb dL_law_49 (by decide) ?_
            exact hj7 (1 : Int32) v29 H locs h ls (lv_sub hl [0, 1] rfl) hf
def m_law_b (v : xSt) (xs : Nat → Int32) (L : Nat) (kp : Int64) (i : Int32) : Option (Int32 × Int64 × xSt) := lt (fun (t1 : Int32) => ck (¬ (((2 : Int32) * i) + (1 : Int32)) < 0) (lt ((lotv L xs (((2 : Int32) * i) + (1 : Int32)))) (fun x4 => ob (m_L_look v) (fun r5 => lt (r5.2) (fun v7 => ob (m_X8_count_n v7 (15 : Int32)) (fun r9 => ob (m_L_acts v7 t1 x4) (fun r10 => lt (r10.2) (fun v13 => lt (fun (t14 : Int32) (v15 : xSt) => ob (m_X8_count_n v15 (15 : Int32)) (fun r18 => lt (fun (t19 : Int32) (v20 : xSt) => lt (fun (a22 : Int32) (v23 : xSt) => lt (fun (a25 : Int32) (a26 : Int64) (v27 : xSt) => (if a25 = 0 then some (a25, a26, v27) else (if (i - i / (11 : Int32) * (11 : Int32)) = (10 : Int32) then ob (m_X8_count_n v27 (15 : Int32)) (fun r32 => ob (m_L_undo v27) (fun r33 => lt (r33.2) (fun v35 => lt (fun (t36 : Int32) (t37 : Int32) => lt (fun (t39 : Int32) => some (t39, a26, v35)) (fun j40 => (if t36 = t37 then j40 (1 : Int32) else j40 (0 : Int32)))) (fun j38 => (if r32 = 0 then j38 r33.1 (-103 : Int32) else j38 r33.1 (r32 - (1 : Int32))))))) else some (a25, a26, v27)))) (fun j28 => (if a22 = 0 then j28 a22 kp v23 else (if (i - i / (17 : Int32) * (17 : Int32)) = (16 : Int32) then ob (m_L_goBack v23) (fun r45 => lt (r45.2) (fun v47 => lt (fun (t48 : Int32) (v49 : xSt) => ob (m_L_look v49) (fun r51 => lt (r51.2) (fun v53 => j28 t48 r51.1 v53))) (fun j50 => lt (fun (v54 : xSt) => j50 (0 : Int32) v54) (fun j55 => (if r45.1 < 0 then j55 v47 else ob (m_L_look v47) (fun r57 => lt (r57.2) (fun v59 => (if (lg_cmp r57.1 kp) = 0 then ob (m_L_undo v59) (fun r61 => lt (r61.2) (fun v63 => (if r61.1 < 0 then j55 v63 else ob (m_X8_keep v63) (fun r66 => lt (r66.2) (fun v67 => ob (m_X8_count_n v67 (0 : Int32)) (fun r69 => (if r66.1 = r69 then j50 (1 : Int32) v67 else j55 v67))))))) else j55 v59)))))))) else j28 a22 kp v23)))) (fun j24 => (if t19 = 0 then j24 t19 v20 else (if r18 = (r9 + (1 : Int32)) then ob (m_L_low (x4 >>> ((8 : Int32) &&& 31)) (3 : Int32)) (fun r73 => (if r73 = 0 then ob (m_L_undo v20) (fun r76 => lt (r76.2) (fun v78 => lt (fun (t79 : Int32) (v80 : xSt) => j24 t79 v80) (fun j81 => lt (fun (v82 : xSt) => j81 (0 : Int32) v82) (fun j83 => (if r76.1 = r9 then ob (m_L_look v78) (fun r85 => lt (r85.2) (fun v87 => (if (lg_cmp r85.1 r5.1) = 0 then j81 (1 : Int32) v87 else j83 v87))) else j83 v78))))) else j24 t19 v20)) else j24 t19 v20)))) (fun j21 => lt (fun (v89 : xSt) => j21 (0 : Int32) v89) (fun j90 => (if t14 = 0 then j90 v15 else lt (fun (v92 : xSt) => j21 (1 : Int32) v92) (fun j93 => lt (fun (v94 : xSt) => (if r18 = (r9 + (1 : Int32)) then j93 v94 else j90 v94)) (fun j95 => (if r18 = r9 then (if r9 = (6 : Int32) then j93 v15 else ob (m_L_look v15) (fun r99 => lt (r99.2) (fun v101 => (if (lg_cmp r99.1 r5.1) = 0 then j93 v101 else j95 v101)))) else j95 v15)))))))) (fun j16 => lt (fun (v103 : xSt) => j16 (0 : Int32) v103) (fun j104 => (if r10.1 = 0 then j104 v13 else lt (fun (v106 : xSt) => lt (fun (v108 : xSt) => j16 (1 : Int32) v108) (fun j109 => (if (i - i / (4 : Int32) * (4 : Int32)) = (2 : Int32) then ob (m_L_falls v106 x4) (fun r111 => lt (r111.2) (fun v114 => (if r111.1 = 0 then j104 v114 else j109 v114))) else j109 v106))) (fun j107 => (if 0 < (i - i / (3 : Int32) * (3 : Int32)) then j107 v13 else ob (m_L_holds v13) (fun r117 => lt (r117.2) (fun v120 => (if r117.1 = 0 then j104 v120 else j107 v120)))))))))))))))) (fun j2 => (if (2 : Int32) ≤ i then ck (¬ ((2 : Int32) * i) < 0) (j2 (lotv L xs ((2 : Int32) * i))) else j2 (17 : Int32)))
set_option maxHeartbeats 4000000 in
set_option maxRecDepth 100000 in
theorem k_law_b {p : Program} {l : Launch} {e : Env} {s : State} {m : MethodId} {args : Array Value} {below : List Frame} {meth : Method} {c : Code} {H : Heap} {locs : List Loc} {cells slots : Nat} {Q : State → Prop} {G : xGl} {sa q : Nat → Nat} {v : xSt} {A : Nat → Prop} {ls : Array Slot} {b L : Nat} {xs : Nat → Int32} {kp : Int64} {i : Int32} (hst : l.stackTraces = false) (hC : CallFix p m c cL_law 13 s args lw_tbl RL) (hin : ∀ w ∈ wG, w ∈ lw_tbl) (hT : xT G sa A s s.heap) (hX : va_X b L xs s s.heap) (hbl : b < s.heap.size) (hbA : ¬ A b) (hL : L < 2147483648) (hcs : cells + 7 ≤ room_1.cells ∧ slots + 42 ≤ room_1.slots) (h : hg G (eBC G) 430 q v A s H locs) (hl : lv_has ls 13 [(0, .ref b), (1, .ref (q 0)), (3, .long kp), (5, .int i)]) {z : (Int32 × Int64 × xSt)} (hf : m_law_b v xs L kp i = some z) (kk : ∀ (H : Heap) (locs : List Loc) (ls : Array Slot), hg G (eBC G) 430 q z.2.2 A s H locs → lv_has ls 13 [(0, .ref b), (1, .ref (q 0)), (2, .int z.1), (3, .long z.2.1), (5, .int i)] → W p l e room_1 s m args below meth c H locs (cells + 7) (slots + 42) Q (F0 m 378 ls [])) : W p l e room_1 s m args below meth c H locs cells slots Q (F0 m 73 ls []) := by
  have hx := hC.1
  have hb := hC.2.1
  unfold m_law_b at hf
  refine lv_iload hx hb dL_law_73 (lv_at hl 3 rfl) ?_
  refine lv_iconst (v := (2 : Int32)) hx hb dL_law_75 (by decide) ?_
  obtain ⟨j2, ej2, hf⟩ := lt_e hf
  have hj2 : ∀ (t1 : Int32) (H : Heap) (locs : List Loc), hg G (eBC G) 430 q v A s H locs → ∀ (ls : Array Slot), lv_has ls 13 [(0, .ref b), (1, .ref (q 0)), (3, .long kp), (5, .int i)] → j2 t1 = some z → W p l e room_1 s m args below meth c H locs cells slots Q (F0 m 92 ls [.int t1]) := by
    intro t1 H locs h ls hl hf
    rw [ej2] at hf
    refine lv_istore (lv' := [(6, .int t1), (0, .ref b), (1, .ref (q 0)), (3, .long kp), (5, .int i)]) hx hb dL_law_92 hl (by decide) rfl (fun ls hl => ?_)
    refine lv_aload_n hx hb dL_law_94 rfl (lv_at hl 1 rfl) ?_
    refine lv_iconst (v := (2 : Int32)) hx hb dL_law_95 (by decide) ?_
    refine lv_iload hx hb dL_law_96 (lv_at hl 4 rfl) ?_
    refine lv_imul hx hb dL_law_98 ?_
    refine lv_iconst (v := (1 : Int32)) hx hb dL_law_99 (by decide) ?_
    refine lv_iadd hx hb dL_law_100 ?_
    obtain ⟨hk3, hf⟩ := ck_e hf
    refine xiG h (va_runS (As := [.ref b, .int (((2 : Int32) * i) + (1 : Int32))]) (rest := []) hC (c_L_lot l G b L xs (((2 : Int32) * i) + (1 : Int32)) hk3 hL H.size) (xcgS hC hin lk_L_204 in_L co_L_lot st_L_lot rfl rfl dd_L_lot ⟨Nat.le_of_ble_eq_true rfl, Nat.le_of_ble_eq_true rfl⟩) (preSX h hX hbl hbA [.ref b, .int (((2 : Int32) * i) + (1 : Int32))]) rfl rfl hl.1 rfl (lv_room (Nat.le_of_ble_eq_true rfl)) dL_law_101 ⟨by have := hcs.1; omega, by have := hcs.2; omega⟩) (fun H locs h => ?_)
    obtain ⟨x4, ex4, hf⟩ := lt_e hf
    refine lv_nm ex4 ?_
    refine lv_istore (lv' := [(7, .int x4), (6, .int t1), (0, .ref b), (1, .ref (q 0)), (3, .long kp), (5, .int i)]) hx hb dL_law_104 hl (by decide) rfl (fun ls hl => ?_)
    refine lv_aload_n hx hb dL_law_106 rfl (lv_at hl 3 rfl) ?_
    obtain ⟨r5, hy6, hf⟩ := ob_e hf
    refine xl0c h (va_runS (As := [.ref (q 0)]) (rest := []) hC (c_L_look l hst G sa q v hy6 H.size) (xcgS hC hin lk_L_133 in_L co_L_look st_L_look rfl rfl dd_L_look ⟨Nat.le_of_ble_eq_true rfl, Nat.le_of_ble_eq_true rfl⟩) (preS0T h hT [.ref (q 0)]) rfl rfl hl.1 rfl (lv_room (Nat.le_of_ble_eq_true rfl)) dL_law_107 ⟨by have := hcs.1; omega, by have := hcs.2; omega⟩) (fun H locs h => ?_)
    refine W.widen (k := cells) (n := slots) (by omega) (by omega) ?_
    obtain ⟨v7, ev7, hf⟩ := lt_e hf
    rw [← ev7] at h
    refine lv_lstore (lv' := [(8, .long r5.1), (7, .int x4), (6, .int t1), (0, .ref b), (1, .ref (q 0)), (3, .long kp), (5, .int i)]) hx hb dL_law_110 hl (by decide) rfl (fun ls hl => ?_)
    refine lv_aload_n hx hb dL_law_112 rfl (lv_at hl 4 rfl) ?_
    refine lv_bipush (v := (15 : Int32)) hx hb dL_law_113 (by decide) ?_
    obtain ⟨r9, hy8, hf⟩ := ob_e hf
    refine xiG h (va_runV (As := [.int (15 : Int32)]) (rest := []) hC (c_X8_count_n l G q v7 (15 : Int32) hy8 H.size) (xcgV hC hin lk_L_76 in_X8 co_X8_count im_X8_count se_X8_count rfl rfl dd_X8_count ⟨Nat.le_of_ble_eq_true rfl, Nat.le_of_ble_eq_true rfl⟩) (preVO0 h.o (Nat.le_of_ble_eq_true rfl) eBC_0 rfl [.int (15 : Int32)]) rfl rfl hl.1 rfl (lv_room (Nat.le_of_ble_eq_true rfl)) dL_law_115 ⟨by have := hcs.1; omega, by have := hcs.2; omega⟩) (fun H locs h => ?_)
    refine lv_istore (lv' := [(10, .int r9), (8, .long r5.1), (7, .int x4), (6, .int t1), (0, .ref b), (1, .ref (q 0)), (3, .long kp), (5, .int i)]) hx hb dL_law_118 hl (by decide) rfl (fun ls hl => ?_)
    refine lv_aload_n hx hb dL_law_120 rfl (lv_at hl 5 rfl) ?_
    refine lv_iload hx hb dL_law_121 (lv_at hl 3 rfl) ?_
    refine lv_iload hx hb dL_law_123 (lv_at hl 2 rfl) ?_
    obtain ⟨r10, hy11, hf⟩ := ob_e hf
    refine xz0c h (va_runS (As := [.ref (q 0), .int t1, .int x4]) (rest := []) hC (c_L_acts l hst G sa q v7 t1 x4 hy11 H.size) (xcgS hC hin lk_L_208 in_L co_L_acts st_L_acts rfl rfl dd_L_acts ⟨Nat.le_of_ble_eq_true rfl, Nat.le_of_ble_eq_true rfl⟩) (preS0T h hT [.ref (q 0), .int t1, .int x4]) rfl rfl hl.1 rfl (lv_room (Nat.le_of_ble_eq_true rfl)) dL_law_125 ⟨by have := hcs.1; omega, by have := hcs.2; omega⟩) (fun H locs hz12 h => ?_)
    refine W.widen (k := (cells + 1)) (n := (slots + 6)) (by omega) (by omega) ?_
    obtain ⟨v13, ev13, hf⟩ := lt_e hf
    rw [← ev13] at h
    obtain ⟨j16, ej16, hf⟩ := lt_e hf
    have hj16 : ∀ (t14 : Int32) (v15 : xSt) (H : Heap) (locs : List Loc), hg G (eBC G) 430 q v15 A s H locs → ∀ (ls : Array Slot), lv_has ls 13 [(0, .ref b), (1, .ref (q 0)), (3, .long kp), (5, .int i), (7, .int x4), (8, .long r5.1), (10, .int r9)] → j16 t14 v15 = some z → W p l e room_1 s m args below meth c H locs (cells + 3) (slots + 18) Q (F0 m 167 ls [.int t14]) := by
      intro t14 v15 H locs h ls hl hf
      rw [ej16] at hf
      refine lv_istore_n (lv' := [(2, .int t14), (0, .ref b), (1, .ref (q 0)), (3, .long kp), (5, .int i), (7, .int x4), (8, .long r5.1), (10, .int r9)]) hx hb dL_law_167 rfl hl (by decide) rfl (fun ls hl => ?_)
      refine lv_aload_n hx hb dL_law_168 rfl (lv_at hl 2 rfl) ?_
      refine lv_bipush (v := (15 : Int32)) hx hb dL_law_169 (by decide) ?_
      obtain ⟨r18, hy17, hf⟩ := ob_e hf
      refine xiG h (va_runV (As := [.int (15 : Int32)]) (rest := []) hC (c_X8_count_n l G q v15 (15 : Int32) hy17 H.size) (xcgV hC hin lk_L_76 in_X8 co_X8_count im_X8_count se_X8_count rfl rfl dd_X8_count ⟨Nat.le_of_ble_eq_true rfl, Nat.le_of_ble_eq_true rfl⟩) (preVO0 h.o (Nat.le_of_ble_eq_true rfl) eBC_0 rfl [.int (15 : Int32)]) rfl rfl hl.1 rfl (lv_room (Nat.le_of_ble_eq_true rfl)) dL_law_171 ⟨by have := hcs.1; omega, by have := hcs.2; omega⟩) (fun H locs h => ?_)
      refine lv_istore (lv' := [(11, .int r18), (2, .int t14), (0, .ref b), (1, .ref (q 0)), (3, .long kp), (5, .int i), (7, .int x4), (8, .long r5.1), (10, .int r9)]) hx hb dL_law_174 hl (by decide) rfl (fun ls hl => ?_)
      refine lv_iload_n hx hb dL_law_176 rfl (lv_at hl 1 rfl) ?_
      obtain ⟨j21, ej21, hf⟩ := lt_e hf
      have hj21 : ∀ (t19 : Int32) (v20 : xSt) (H : Heap) (locs : List Loc), hg G (eBC G) 430 q v20 A s H locs → ∀ (ls : Array Slot), lv_has ls 13 [(0, .ref b), (1, .ref (q 0)), (3, .long kp), (5, .int i), (7, .int x4), (8, .long r5.1), (10, .int r9), (11, .int r18)] → j21 t19 v20 = some z → W p l e room_1 s m args below meth c H locs (cells + 3) (slots + 18) Q (F0 m 218 ls [.int t19]) := by
        intro t19 v20 H locs h ls hl hf
        rw [ej21] at hf
        refine lv_istore_n (lv' := [(2, .int t19), (0, .ref b), (1, .ref (q 0)), (3, .long kp), (5, .int i), (7, .int x4), (8, .long r5.1), (10, .int r9), (11, .int r18)]) hx hb dL_law_218 rfl hl (by decide) rfl (fun ls hl => ?_)
        refine lv_iload_n hx hb dL_law_219 rfl (lv_at hl 0 rfl) ?_
        obtain ⟨j24, ej24, hf⟩ := lt_e hf
        have hj24 : ∀ (a22 : Int32) (v23 : xSt) (H : Heap) (locs : List Loc), hg G (eBC G) 430 q v23 A s H locs → ∀ (ls : Array Slot), lv_has ls 13 [(0, .ref b), (1, .ref (q 0)), (2, .int a22), (3, .long kp), (5, .int i)] → j24 a22 v23 = some z → W p l e room_1 s m args below meth c H locs (cells + 4) (slots + 24) Q (F0 m 269 ls []) := by
          intro a22 v23 H locs h ls hl hf
          rw [ej24] at hf
          refine lv_iload_n hx hb dL_law_269 rfl (lv_at hl 2 rfl) ?_
          obtain ⟨j28, ej28, hf⟩ := lt_e hf
          have hj28 : ∀ (a25 : Int32) (a26 : Int64) (v27 : xSt) (H : Heap) (locs : List Loc), hg G (eBC G) 430 q v27 A s H locs → ∀ (ls : Array Slot), lv_has ls 13 [(0, .ref b), (1, .ref (q 0)), (2, .int a25), (3, .long a26), (5, .int i)] → j28 a25 a26 v27 = some z → W p l e room_1 s m args below meth c H locs (cells + 6) (slots + 36) Q (F0 m 329 ls []) := by
            intro a25 a26 v27 H locs h ls hl hf
            rw [ej28] at hf
            refine lv_iload_n hx hb dL_law_329 rfl (lv_at hl 2 rfl) ?_
            refine lv_if_eq (tgt := 378) hx hb dL_law_330 (by decide) (fun c29 => ?_) (fun c29 => ?_)
            · have hf := it_t c29 hf
              have hf := sm_e hf
              subst hf
              refine W.widen (k := (cells + 7)) (n := (slots + 42)) (by omega) (by omega) ?_
              exact kk H locs ls h (lv_sub hl [0, 1, 2, 3, 4] rfl)
            · have hf := it_f c29 hf
              refine lv_iload hx hb dL_law_333 (lv_at hl 4 rfl) ?_
              refine lv_bipush (v := (11 : Int32)) hx hb dL_law_335 (by decide) ?_
              refine lv_irem hx hb dL_law_337 (by decide) ?_
              refine lv_bipush (v := (10 : Int32)) hx hb dL_law_338 (by decide) ?_
              refine lv_icmp_ne (tgt := 378) hx hb dL_law_340 (by decide) (fun c30 => ?_) (fun c30 => ?_)
              · have hf := it_f c30 hf
                have hf := sm_e hf
                subst hf
                refine W.widen (k := (cells + 7)) (n := (slots + 42)) (by omega) (by omega) ?_
                exact kk H locs ls h (lv_sub hl [0, 1, 2, 3, 4] rfl)
              · have hf := it_t c30 hf
                refine lv_aload_n hx hb dL_law_343 rfl (lv_at hl 1 rfl) ?_
                refine lv_bipush (v := (15 : Int32)) hx hb dL_law_344 (by decide) ?_
                obtain ⟨r32, hy31, hf⟩ := ob_e hf
                refine xiG h (va_runV (As := [.int (15 : Int32)]) (rest := []) hC (c_X8_count_n l G q v27 (15 : Int32) hy31 H.size) (xcgV hC hin lk_L_76 in_X8 co_X8_count im_X8_count se_X8_count rfl rfl dd_X8_count ⟨Nat.le_of_ble_eq_true rfl, Nat.le_of_ble_eq_true rfl⟩) (preVO0 h.o (Nat.le_of_ble_eq_true rfl) eBC_0 rfl [.int (15 : Int32)]) rfl rfl hl.1 rfl (lv_room (Nat.le_of_ble_eq_true rfl)) dL_law_346 ⟨by have := hcs.1; omega, by have := hcs.2; omega⟩) (fun H locs h => ?_)
                refine lv_istore (lv' := [(12, .int r32), (0, .ref b), (1, .ref (q 0)), (2, .int a25), (3, .long a26), (5, .int i)]) hx hb dL_law_349 hl (by decide) rfl (fun ls hl => ?_)
                refine lv_aload_n hx hb dL_law_351 rfl (lv_at hl 2 rfl) ?_
                obtain ⟨r33, hy34, hf⟩ := ob_e hf
                refine xi0c h (vx_runSW (As := [.ref (q 0)]) (rest := []) hC (c_L_undo l hst G sa q v27 hy34 H.size) (xcgSW hC hin lk_L_197 in_L co_L_undo st_L_undo rfl rfl dd_L_undo ⟨Nat.le_of_ble_eq_true rfl, Nat.le_of_ble_eq_true rfl⟩) (preS0T h hT [.ref (q 0)]) rfl rfl hl.1 rfl (lv_room (Nat.le_of_ble_eq_true rfl)) dL_law_352 ⟨by have := hcs.1; omega, by have := hcs.2; omega⟩) (fun H locs h => ?_)
                refine W.widen (k := (cells + 7)) (n := (slots + 42)) (by omega) (by omega) ?_
                obtain ⟨v35, ev35, hf⟩ := lt_e hf
                rw [← ev35] at h
                refine lv_iload hx hb dL_law_355 (lv_at hl 0 rfl) ?_
                obtain ⟨j38, ej38, hf⟩ := lt_e hf
                have hj38 : ∀ (t36 : Int32) (t37 : Int32) (H : Heap) (locs : List Loc), hg G (eBC G) 430 q v35 A s H locs → ∀ (ls : Array Slot), lv_has ls 13 [(0, .ref b), (1, .ref (q 0)), (3, .long a26), (5, .int i)] → j38 t36 t37 = some z → W p l e room_1 s m args below meth c H locs (cells + 7) (slots + 42) Q (F0 m 369 ls [.int t37, .int t36]) := by
                  intro t36 t37 H locs h ls hl hf
                  rw [ej38] at hf
                  obtain ⟨j40, ej40, hf⟩ := lt_e hf
                  have hj40 : ∀ (t39 : Int32) (H : Heap) (locs : List Loc), hg G (eBC G) 430 q v35 A s H locs → ∀ (ls : Array Slot), lv_has ls 13 [(0, .ref b), (1, .ref (q 0)), (3, .long a26), (5, .int i)] → j40 t39 = some z → W p l e room_1 s m args below meth c H locs (cells + 7) (slots + 42) Q (F0 m 377 ls [.int t39]) := by
                    intro t39 H locs h ls hl hf
                    rw [ej40] at hf
                    refine lv_istore_n (lv' := [(2, .int t39), (0, .ref b), (1, .ref (q 0)), (3, .long a26), (5, .int i)]) hx hb dL_law_377 rfl hl (by decide) rfl (fun ls hl => ?_)
                    have hf := sm_e hf
                    subst hf
                    exact kk H locs ls h (lv_sub hl [1, 2, 0, 3, 4] rfl)
                  refine lv_icmp_ne (tgt := 376) hx hb dL_law_369 (by decide) (fun c41 => ?_) (fun c41 => ?_)
                  · have hf := it_f c41 hf
                    refine lv_iconst (v := (0 : Int32)) hx hb dL_law_376 (by decide) ?_
                    exact hj40 (0 : Int32) H locs h ls (lv_sub hl [0, 1, 2, 3] rfl) hf
                  · have hf := it_t c41 hf
                    refine lv_iconst (v := (1 : Int32)) hx hb dL_law_372 (by decide) ?_
                    refine lv_goto (tgt := 377) hx hb dL_law_373 (by decide) ?_
                    exact hj40 (1 : Int32) H locs h ls (lv_sub hl [0, 1, 2, 3] rfl) hf
                refine lv_if_ne (tgt := 365) hx hb dL_law_357 (by decide) (fun c42 => ?_) (fun c42 => ?_)
                · have hf := it_f c42 hf
                  refine lv_iload hx hb dL_law_365 (lv_at hl 0 rfl) ?_
                  refine lv_iconst (v := (1 : Int32)) hx hb dL_law_367 (by decide) ?_
                  refine lv_isub hx hb dL_law_368 ?_
                  exact hj38 r33.1 (r32 - (1 : Int32)) H locs h ls (lv_sub hl [1, 2, 4, 5] rfl) hf
                · have hf := it_t c42 hf
                  refine lv_bipush (v := (-103 : Int32)) hx hb dL_law_360 (by decide) ?_
                  refine lv_goto (tgt := 369) hx hb dL_law_362 (by decide) ?_
                  exact hj38 r33.1 (-103 : Int32) H locs h ls (lv_sub hl [1, 2, 4, 5] rfl) hf
          refine lv_if_eq (tgt := 329) hx hb dL_law_270 (by decide) (fun c43 => ?_) (fun c43 => ?_)
          · have hf := it_t c43 hf
            refine W.widen (k := (cells + 6)) (n := (slots + 36)) (by omega) (by omega) ?_
            exact hj28 a22 kp v23 H locs h ls (lv_sub hl [0, 1, 2, 3, 4] rfl) hf
          · have hf := it_f c43 hf
            refine lv_iload hx hb dL_law_273 (lv_at hl 4 rfl) ?_
            refine lv_bipush (v := (17 : Int32)) hx hb dL_law_275 (by decide) ?_
            refine lv_irem hx hb dL_law_277 (by decide) ?_
            refine lv_bipush (v := (16 : Int32)) hx hb dL_law_278 (by decide) ?_
            refine lv_icmp_ne (tgt := 329) hx hb dL_law_280 (by decide) (fun c44 => ?_) (fun c44 => ?_)
            · have hf := it_f c44 hf
              refine W.widen (k := (cells + 6)) (n := (slots + 36)) (by omega) (by omega) ?_
              exact hj28 a22 kp v23 H locs h ls (lv_sub hl [0, 1, 2, 3, 4] rfl) hf
            · have hf := it_t c44 hf
              refine lv_aload_n hx hb dL_law_283 rfl (lv_at hl 1 rfl) ?_
              obtain ⟨r45, hy46, hf⟩ := ob_e hf
              refine xi0c h (vx_runSW (As := [.ref (q 0)]) (rest := []) hC (c_L_goBack l hst G sa q v23 hy46 H.size) (xcgSW hC hin lk_L_199 in_L co_L_goBack st_L_goBack rfl rfl dd_L_goBack ⟨Nat.le_of_ble_eq_true rfl, Nat.le_of_ble_eq_true rfl⟩) (preS0T h hT [.ref (q 0)]) rfl rfl hl.1 rfl (lv_room (Nat.le_of_ble_eq_true rfl)) dL_law_284 ⟨by have := hcs.1; omega, by have := hcs.2; omega⟩) (fun H locs h => ?_)
              refine W.widen (k := (cells + 5)) (n := (slots + 30)) (by omega) (by omega) ?_
              obtain ⟨v47, ev47, hf⟩ := lt_e hf
              rw [← ev47] at h
              obtain ⟨j50, ej50, hf⟩ := lt_e hf
              have hj50 : ∀ (t48 : Int32) (v49 : xSt) (H : Heap) (locs : List Loc), hg G (eBC G) 430 q v49 A s H locs → ∀ (ls : Array Slot), lv_has ls 13 [(0, .ref b), (1, .ref (q 0)), (5, .int i)] → j50 t48 v49 = some z → W p l e room_1 s m args below meth c H locs (cells + 6) (slots + 36) Q (F0 m 323 ls [.int t48]) := by
                intro t48 v49 H locs h ls hl hf
                rw [ej50] at hf
                refine lv_istore_n (lv' := [(2, .int t48), (0, .ref b), (1, .ref (q 0)), (5, .int i)]) hx hb dL_law_323 rfl hl (by decide) rfl (fun ls hl => ?_)
                refine lv_aload_n hx hb dL_law_324 rfl (lv_at hl 2 rfl) ?_
                obtain ⟨r51, hy52, hf⟩ := ob_e hf
                refine xl0c h (va_runS (As := [.ref (q 0)]) (rest := []) hC (c_L_look l hst G sa q v49 hy52 H.size) (xcgS hC hin lk_L_133 in_L co_L_look st_L_look rfl rfl dd_L_look ⟨Nat.le_of_ble_eq_true rfl, Nat.le_of_ble_eq_true rfl⟩) (preS0T h hT [.ref (q 0)]) rfl rfl hl.1 rfl (lv_room (Nat.le_of_ble_eq_true rfl)) dL_law_325 ⟨by have := hcs.1; omega, by have := hcs.2; omega⟩) (fun H locs h => ?_)
                refine W.widen (k := (cells + 6)) (n := (slots + 36)) (by omega) (by omega) ?_
                obtain ⟨v53, ev53, hf⟩ := lt_e hf
                rw [← ev53] at h
                refine lv_lstore_n (lv' := [(3, .long r51.1), (2, .int t48), (0, .ref b), (1, .ref (q 0)), (5, .int i)]) hx hb dL_law_328 rfl hl (by decide) rfl (fun ls hl => ?_)
                exact hj28 t48 r51.1 v53 H locs h ls (lv_sub hl [2, 3, 1, 0, 4] rfl) hf
              obtain ⟨j55, ej55, hf⟩ := lt_e hf
              have hj55 : ∀ (v54 : xSt) (H : Heap) (locs : List Loc), hg G (eBC G) 430 q v54 A s H locs → ∀ (ls : Array Slot), lv_has ls 13 [(0, .ref b), (1, .ref (q 0)), (5, .int i)] → j55 v54 = some z → W p l e room_1 s m args below meth c H locs (cells + 6) (slots + 36) Q (F0 m 322 ls []) := by
                intro v54 H locs h ls hl hf
                rw [ej55] at hf
                refine lv_iconst (v := (0 : Int32)) hx hb dL_law_322 (by decide) ?_
                exact hj50 (0 : Int32) v54 H locs h ls (lv_sub hl [0, 1, 2] rfl) hf
              refine lv_if_lt (tgt := 322) hx hb dL_law_287 (by decide) (fun c56 => ?_) (fun c56 => ?_)
              · have hf := it_t c56 hf
                refine W.widen (k := (cells + 6)) (n := (slots + 36)) (by omega) (by omega) ?_
                exact hj55 v47 H locs h ls (lv_sub hl [0, 1, 4] rfl) hf
              · have hf := it_f c56 hf
                refine lv_aload_n hx hb dL_law_290 rfl (lv_at hl 1 rfl) ?_
                obtain ⟨r57, hy58, hf⟩ := ob_e hf
                refine xl0c h (va_runS (As := [.ref (q 0)]) (rest := []) hC (c_L_look l hst G sa q v47 hy58 H.size) (xcgS hC hin lk_L_133 in_L co_L_look st_L_look rfl rfl dd_L_look ⟨Nat.le_of_ble_eq_true rfl, Nat.le_of_ble_eq_true rfl⟩) (preS0T h hT [.ref (q 0)]) rfl rfl hl.1 rfl (lv_room (Nat.le_of_ble_eq_true rfl)) dL_law_291 ⟨by have := hcs.1; omega, by have := hcs.2; omega⟩) (fun H locs h => ?_)
                refine W.widen (k := (cells + 5)) (n := (slots + 30)) (by omega) (by omega) ?_
                obtain ⟨v59, ev59, hf⟩ := lt_e hf
                rw [← ev59] at h
                refine lv_lload_n hx hb dL_law_294 rfl (lv_at hl 3 rfl) ?_
                refine W.lcmp hx hb dL_law_295 ?_
                refine lv_if_ne (tgt := 322) hx hb dL_law_296 (by decide) (fun c60 => ?_) (fun c60 => ?_)
                · have hf := it_f c60 hf
                  refine W.widen (k := (cells + 6)) (n := (slots + 36)) (by omega) (by omega) ?_
                  exact hj55 v59 H locs h ls (lv_sub hl [0, 1, 4] rfl) hf
                · have hf := it_t c60 hf
                  refine lv_aload_n hx hb dL_law_299 rfl (lv_at hl 1 rfl) ?_
                  obtain ⟨r61, hy62, hf⟩ := ob_e hf
                  refine xi0c h (vx_runSW (As := [.ref (q 0)]) (rest := []) hC (c_L_undo l hst G sa q v59 hy62 H.size) (xcgSW hC hin lk_L_197 in_L co_L_undo st_L_undo rfl rfl dd_L_undo ⟨Nat.le_of_ble_eq_true rfl, Nat.le_of_ble_eq_true rfl⟩) (preS0T h hT [.ref (q 0)]) rfl rfl hl.1 rfl (lv_room (Nat.le_of_ble_eq_true rfl)) dL_law_300 ⟨by have := hcs.1; omega, by have := hcs.2; omega⟩) (fun H locs h => ?_)
                  refine W.widen (k := (cells + 6)) (n := (slots + 36)) (by omega) (by omega) ?_
                  obtain ⟨v63, ev63, hf⟩ := lt_e hf
                  rw [← ev63] at h
                  refine lv_if_lt (tgt := 322) hx hb dL_law_303 (by decide) (fun c64 => ?_) (fun c64 => ?_)
                  · have hf := it_t c64 hf
                    exact hj55 v63 H locs h ls (lv_sub hl [0, 1, 4] rfl) hf
                  · have hf := it_f c64 hf
                    refine lv_aload_n hx hb dL_law_306 rfl (lv_at hl 1 rfl) ?_
                    obtain ⟨r66, hy65, hf⟩ := ob_e hf
                    refine xi0 h (va_runV (As := []) (rest := []) hC (c_X8_keep l G q v63 hy65 H.size) (xcgV hC hin lk_L_201 in_X8 co_X8_keep im_X8_keep se_X8_keep rfl rfl dd_X8_keep ⟨Nat.le_of_ble_eq_true rfl, Nat.le_of_ble_eq_true rfl⟩) (preV0 h (Nat.le_of_ble_eq_true rfl) eBC_0 rfl []) rfl rfl hl.1 rfl (lv_room (Nat.le_of_ble_eq_true rfl)) dL_law_307 ⟨by have := hcs.1; omega, by have := hcs.2; omega⟩) (fun H locs h => ?_)
                    obtain ⟨v67, ev67, hf⟩ := lt_e hf
                    rw [← ev67] at h
                    refine lv_aload_n hx hb dL_law_310 rfl (lv_at hl 1 rfl) ?_
                    refine lv_iconst (v := (0 : Int32)) hx hb dL_law_311 (by decide) ?_
                    obtain ⟨r69, hy68, hf⟩ := ob_e hf
                    refine xiG h (va_runV (As := [.int (0 : Int32)]) (rest := [.int r66.1]) hC (c_X8_count_n l G q v67 (0 : Int32) hy68 H.size) (xcgV hC hin lk_L_76 in_X8 co_X8_count im_X8_count se_X8_count rfl rfl dd_X8_count ⟨Nat.le_of_ble_eq_true rfl, Nat.le_of_ble_eq_true rfl⟩) (preVO0 h.o (Nat.le_of_ble_eq_true rfl) eBC_0 rfl [.int (0 : Int32)]) rfl rfl hl.1 rfl (lv_room (Nat.le_of_ble_eq_true rfl)) dL_law_312 ⟨by have := hcs.1; omega, by have := hcs.2; omega⟩) (fun H locs h => ?_)
                    refine lv_icmp_ne (tgt := 322) hx hb dL_law_315 (by decide) (fun c70 => ?_) (fun c70 => ?_)
                    · have hf := it_f c70 hf
                      exact hj55 v67 H locs h ls (lv_sub hl [0, 1, 4] rfl) hf
                    · have hf := it_t c70 hf
                      refine lv_iconst (v := (1 : Int32)) hx hb dL_law_318 (by decide) ?_
                      refine lv_goto (tgt := 323) hx hb dL_law_319 (by decide) ?_
                      exact hj50 (1 : Int32) v67 H locs h ls (lv_sub hl [0, 1, 4] rfl) hf
        refine lv_if_eq (tgt := 269) hx hb dL_law_220 (by decide) (fun c71 => ?_) (fun c71 => ?_)
        · have hf := it_t c71 hf
          refine W.widen (k := (cells + 4)) (n := (slots + 24)) (by omega) (by omega) ?_
          exact hj24 t19 v20 H locs h ls (lv_sub hl [1, 2, 0, 3, 4] rfl) hf
        · have hf := it_f c71 hf
          refine lv_iload hx hb dL_law_223 (lv_at hl 8 rfl) ?_
          refine lv_iload hx hb dL_law_225 (lv_at hl 7 rfl) ?_
          refine lv_iconst (v := (1 : Int32)) hx hb dL_law_227 (by decide) ?_
          refine lv_iadd hx hb dL_law_228 ?_
          refine lv_icmp_ne (tgt := 269) hx hb dL_law_229 (by decide) (fun c72 => ?_) (fun c72 => ?_)
          · have hf := it_f c72 hf
            refine W.widen (k := (cells + 4)) (n := (slots + 24)) (by omega) (by omega) ?_
            exact hj24 t19 v20 H locs h ls (lv_sub hl [1, 2, 0, 3, 4] rfl) hf
          · have hf := it_t c72 hf
            refine lv_iload hx hb dL_law_232 (lv_at hl 5 rfl) ?_
            refine lv_bipush (v := (8 : Int32)) hx hb dL_law_234 (by decide) ?_
            refine lv_ishr hx hb dL_law_236 ?_
            refine lv_iconst (v := (3 : Int32)) hx hb dL_law_237 (by decide) ?_
            obtain ⟨r73, hy74, hf⟩ := ob_e hf
            refine xiG h (va_runS (As := [.int (x4 >>> ((8 : Int32) &&& 31)), .int (3 : Int32)]) (rest := []) hC (c_L_low l G q v20 (x4 >>> ((8 : Int32) &&& 31)) (3 : Int32) hy74 H.size) (xcgS hC hin lk_L_113 in_L co_L_low st_L_low rfl rfl dd_L_low ⟨Nat.le_of_ble_eq_true rfl, Nat.le_of_ble_eq_true rfl⟩) (preSN h.o [.int (x4 >>> ((8 : Int32) &&& 31)), .int (3 : Int32)]) rfl rfl hl.1 rfl (lv_room (Nat.le_of_ble_eq_true rfl)) dL_law_238 ⟨by have := hcs.1; omega, by have := hcs.2; omega⟩) (fun H locs h => ?_)
            refine lv_if_ne (tgt := 269) hx hb dL_law_241 (by decide) (fun c75 => ?_) (fun c75 => ?_)
            · have hf := it_f c75 hf
              refine W.widen (k := (cells + 4)) (n := (slots + 24)) (by omega) (by omega) ?_
              exact hj24 t19 v20 H locs h ls (lv_sub hl [1, 2, 0, 3, 4] rfl) hf
            · have hf := it_t c75 hf
              refine lv_aload_n hx hb dL_law_244 rfl (lv_at hl 2 rfl) ?_
              obtain ⟨r76, hy77, hf⟩ := ob_e hf
              refine xi0c h (vx_runSW (As := [.ref (q 0)]) (rest := []) hC (c_L_undo l hst G sa q v20 hy77 H.size) (xcgSW hC hin lk_L_197 in_L co_L_undo st_L_undo rfl rfl dd_L_undo ⟨Nat.le_of_ble_eq_true rfl, Nat.le_of_ble_eq_true rfl⟩) (preS0T h hT [.ref (q 0)]) rfl rfl hl.1 rfl (lv_room (Nat.le_of_ble_eq_true rfl)) dL_law_245 ⟨by have := hcs.1; omega, by have := hcs.2; omega⟩) (fun H locs h => ?_)
              refine W.widen (k := (cells + 4)) (n := (slots + 24)) (by omega) (by omega) ?_
              obtain ⟨v78, ev78, hf⟩ := lt_e hf
              rw [← ev78] at h
              refine lv_iload hx hb dL_law_248 (lv_at hl 7 rfl) ?_
              obtain ⟨j81, ej81, hf⟩ := lt_e hf
              have hj81 : ∀ (t79 : Int32) (v80 : xSt) (H : Heap) (locs : List Loc), hg G (eBC G) 430 q v80 A s H locs → ∀ (ls : Array Slot), lv_has ls 13 [(0, .ref b), (1, .ref (q 0)), (3, .long kp), (5, .int i)] → j81 t79 v80 = some z → W p l e room_1 s m args below meth c H locs (cells + 4) (slots + 24) Q (F0 m 268 ls [.int t79]) := by
                intro t79 v80 H locs h ls hl hf
                rw [ej81] at hf
                refine lv_istore_n (lv' := [(2, .int t79), (0, .ref b), (1, .ref (q 0)), (3, .long kp), (5, .int i)]) hx hb dL_law_268 rfl hl (by decide) rfl (fun ls hl => ?_)
                exact hj24 t79 v80 H locs h ls (lv_sub hl [1, 2, 0, 3, 4] rfl) hf
              obtain ⟨j83, ej83, hf⟩ := lt_e hf
              have hj83 : ∀ (v82 : xSt) (H : Heap) (locs : List Loc), hg G (eBC G) 430 q v82 A s H locs → ∀ (ls : Array Slot), lv_has ls 13 [(0, .ref b), (1, .ref (q 0)), (3, .long kp), (5, .int i)] → j83 v82 = some z → W p l e room_1 s m args below meth c H locs (cells + 4) (slots + 24) Q (F0 m 267 ls []) := by
                intro v82 H locs h ls hl hf
                rw [ej83] at hf
                refine lv_iconst (v := (0 : Int32)) hx hb dL_law_267 (by decide) ?_
                exact hj81 (0 : Int32) v82 H locs h ls (lv_sub hl [0, 1, 2, 3] rfl) hf
              refine lv_icmp_ne (tgt := 267) hx hb dL_law_250 (by decide) (fun c84 => ?_) (fun c84 => ?_)
              · have hf := it_f c84 hf
                exact hj83 v78 H locs h ls (lv_sub hl [1, 2, 3, 4] rfl) hf
              · have hf := it_t c84 hf
                refine lv_aload_n hx hb dL_law_253 rfl (lv_at hl 2 rfl) ?_
                obtain ⟨r85, hy86, hf⟩ := ob_e hf
                refine xl0c h (va_runS (As := [.ref (q 0)]) (rest := []) hC (c_L_look l hst G sa q v78 hy86 H.size) (xcgS hC hin lk_L_133 in_L co_L_look st_L_look rfl rfl dd_L_look ⟨Nat.le_of_ble_eq_true rfl, Nat.le_of_ble_eq_true rfl⟩) (preS0T h hT [.ref (q 0)]) rfl rfl hl.1 rfl (lv_room (Nat.le_of_ble_eq_true rfl)) dL_law_254 ⟨by have := hcs.1; omega, by have := hcs.2; omega⟩) (fun H locs h => ?_)
                refine W.widen (k := (cells + 4)) (n := (slots + 24)) (by omega) (by omega) ?_
                obtain ⟨v87, ev87, hf⟩ := lt_e hf
                rw [← ev87] at h
                refine lv_lload hx hb dL_law_257 (lv_at hl 6 rfl) ?_
                refine W.lcmp hx hb dL_law_259 ?_
                refine lv_if_ne (tgt := 267) hx hb dL_law_260 (by decide) (fun c88 => ?_) (fun c88 => ?_)
                · have hf := it_f c88 hf
                  exact hj83 v87 H locs h ls (lv_sub hl [1, 2, 3, 4] rfl) hf
                · have hf := it_t c88 hf
                  refine lv_iconst (v := (1 : Int32)) hx hb dL_law_263 (by decide) ?_
                  refine lv_goto (tgt := 268) hx hb dL_law_264 (by decide) ?_
                  exact hj81 (1 : Int32) v87 H locs h ls (lv_sub hl [1, 2, 3, 4] rfl) hf
      obtain ⟨j90, ej90, hf⟩ := lt_e hf
      have hj90 : ∀ (v89 : xSt) (H : Heap) (locs : List Loc), hg G (eBC G) 430 q v89 A s H locs → ∀ (ls : Array Slot), lv_has ls 13 [(0, .ref b), (1, .ref (q 0)), (3, .long kp), (5, .int i), (7, .int x4), (8, .long r5.1), (10, .int r9), (11, .int r18)] → j90 v89 = some z → W p l e room_1 s m args below meth c H locs (cells + 3) (slots + 18) Q (F0 m 217 ls []) := by
        intro v89 H locs h ls hl hf
        rw [ej90] at hf
        refine lv_iconst (v := (0 : Int32)) hx hb dL_law_217 (by decide) ?_
        exact hj21 (0 : Int32) v89 H locs h ls (lv_sub hl [0, 1, 2, 3, 4, 5, 6, 7] rfl) hf
      refine lv_if_eq (tgt := 217) hx hb dL_law_177 (by decide) (fun c91 => ?_) (fun c91 => ?_)
      · have hf := it_t c91 hf
        exact hj90 v15 H locs h ls (lv_sub hl [2, 3, 4, 5, 6, 7, 8, 0] rfl) hf
      · have hf := it_f c91 hf
        refine lv_iload hx hb dL_law_180 (lv_at hl 0 rfl) ?_
        refine lv_iload hx hb dL_law_182 (lv_at hl 8 rfl) ?_
        obtain ⟨j93, ej93, hf⟩ := lt_e hf
        have hj93 : ∀ (v92 : xSt) (H : Heap) (locs : List Loc), hg G (eBC G) 430 q v92 A s H locs → ∀ (ls : Array Slot), lv_has ls 13 [(0, .ref b), (1, .ref (q 0)), (3, .long kp), (5, .int i), (7, .int x4), (8, .long r5.1), (10, .int r9), (11, .int r18)] → j93 v92 = some z → W p l e room_1 s m args below meth c H locs (cells + 3) (slots + 18) Q (F0 m 213 ls []) := by
          intro v92 H locs h ls hl hf
          rw [ej93] at hf
          refine lv_iconst (v := (1 : Int32)) hx hb dL_law_213 (by decide) ?_
          refine lv_goto (tgt := 218) hx hb dL_law_214 (by decide) ?_
          exact hj21 (1 : Int32) v92 H locs h ls (lv_sub hl [0, 1, 2, 3, 4, 5, 6, 7] rfl) hf
        obtain ⟨j95, ej95, hf⟩ := lt_e hf
        have hj95 : ∀ (v94 : xSt) (H : Heap) (locs : List Loc), hg G (eBC G) 430 q v94 A s H locs → ∀ (ls : Array Slot), lv_has ls 13 [(0, .ref b), (1, .ref (q 0)), (3, .long kp), (5, .int i), (7, .int x4), (8, .long r5.1), (10, .int r9), (11, .int r18)] → j95 v94 = some z → W p l e room_1 s m args below meth c H locs (cells + 3) (slots + 18) Q (F0 m 204 ls []) := by
          intro v94 H locs h ls hl hf
          rw [ej95] at hf
          refine lv_iload hx hb dL_law_204 (lv_at hl 7 rfl) ?_
          refine lv_iload hx hb dL_law_206 (lv_at hl 6 rfl) ?_
          refine lv_iconst (v := (1 : Int32)) hx hb dL_law_208 (by decide) ?_
          refine lv_iadd hx hb dL_law_209 ?_
          refine lv_icmp_ne (tgt := 217) hx hb dL_law_210 (by decide) (fun c96 => ?_) (fun c96 => ?_)
          · have hf := it_f c96 hf
            exact hj90 v94 H locs h ls (lv_sub hl [0, 1, 2, 3, 4, 5, 6, 7] rfl) hf
          · have hf := it_t c96 hf
            exact hj93 v94 H locs h ls (lv_sub hl [0, 1, 2, 3, 4, 5, 6, 7] rfl) hf
        refine lv_icmp_ne (tgt := 204) hx hb dL_law_184 (by decide) (fun c97 => ?_) (fun c97 => ?_)
        · have hf := it_f c97 hf
          exact hj95 v15 H locs h ls (lv_sub hl [2, 3, 4, 5, 6, 7, 8, 0] rfl) hf
        · have hf := it_t c97 hf
          refine lv_iload hx hb dL_law_187 (lv_at hl 8 rfl) ?_
          refine lv_bipush (v := (6 : Int32)) hx hb dL_law_189 (by decide) ?_
          refine lv_icmp_eq (tgt := 213) hx hb dL_law_191 (by decide) (fun c98 => ?_) (fun c98 => ?_)
          · have hf := it_t c98 hf
            exact hj93 v15 H locs h ls (lv_sub hl [2, 3, 4, 5, 6, 7, 8, 0] rfl) hf
          · have hf := it_f c98 hf
            refine lv_aload_n hx hb dL_law_194 rfl (lv_at hl 3 rfl) ?_
            obtain ⟨r99, hy100, hf⟩ := ob_e hf
            refine xl0c h (va_runS (As := [.ref (q 0)]) (rest := []) hC (c_L_look l hst G sa q v15 hy100 H.size) (xcgS hC hin lk_L_133 in_L co_L_look st_L_look rfl rfl dd_L_look ⟨Nat.le_of_ble_eq_true rfl, Nat.le_of_ble_eq_true rfl⟩) (preS0T h hT [.ref (q 0)]) rfl rfl hl.1 rfl (lv_room (Nat.le_of_ble_eq_true rfl)) dL_law_195 ⟨by have := hcs.1; omega, by have := hcs.2; omega⟩) (fun H locs h => ?_)
            refine W.widen (k := (cells + 3)) (n := (slots + 18)) (by omega) (by omega) ?_
            obtain ⟨v101, ev101, hf⟩ := lt_e hf
            rw [← ev101] at h
            refine lv_lload hx hb dL_law_198 (lv_at hl 7 rfl) ?_
            refine W.lcmp hx hb dL_law_200 ?_
            refine lv_if_eq (tgt := 213) hx hb dL_law_201 (by decide) (fun c102 => ?_) (fun c102 => ?_)
            · have hf := it_t c102 hf
              exact hj93 v101 H locs h ls (lv_sub hl [2, 3, 4, 5, 6, 7, 8, 0] rfl) hf
            · have hf := it_f c102 hf
              exact hj95 v101 H locs h ls (lv_sub hl [2, 3, 4, 5, 6, 7, 8, 0] rfl) hf
    obtain ⟨j104, ej104, hf⟩ := lt_e hf
    have hj104 : ∀ (v103 : xSt) (H : Heap) (locs : List Loc), hg G (eBC G) 430 q v103 A s H locs → ∀ (ls : Array Slot), lv_has ls 13 [(0, .ref b), (1, .ref (q 0)), (3, .long kp), (5, .int i), (7, .int x4), (8, .long r5.1), (10, .int r9)] → j104 v103 = some z → W p l e room_1 s m args below meth c H locs (cells + 3) (slots + 18) Q (F0 m 166 ls []) := by
      intro v103 H locs h ls hl hf
      rw [ej104] at hf
      refine lv_iconst (v := (0 : Int32)) hx hb dL_law_166 (by decide) ?_
      exact hj16 (0 : Int32) v103 H locs h ls (lv_sub hl [0, 1, 2, 3, 4, 5, 6] rfl) hf
    refine lv_if_eq (tgt := 166) hx hb dL_law_128 (by decide) (fun c105 => ?_) (fun c105 => ?_)
    · have hf := it_t c105 hf
      refine W.widen (k := (cells + 3)) (n := (slots + 18)) (by omega) (by omega) ?_
      exact hj104 v13 H locs h ls (lv_sub hl [4, 5, 6, 7, 2, 1, 0] rfl) hf
    · have hf := it_f c105 hf
      refine lv_iload hx hb dL_law_131 (lv_at hl 7 rfl) ?_
      refine lv_iconst (v := (3 : Int32)) hx hb dL_law_133 (by decide) ?_
      refine lv_irem hx hb dL_law_134 (by decide) ?_
      obtain ⟨j107, ej107, hf⟩ := lt_e hf
      have hj107 : ∀ (v106 : xSt) (H : Heap) (locs : List Loc), hg G (eBC G) 430 q v106 A s H locs → ∀ (ls : Array Slot), lv_has ls 13 [(0, .ref b), (1, .ref (q 0)), (3, .long kp), (5, .int i), (7, .int x4), (8, .long r5.1), (10, .int r9)] → j107 v106 = some z → W p l e room_1 s m args below meth c H locs (cells + 1) (slots + 6) Q (F0 m 145 ls []) := by
        intro v106 H locs h ls hl hf
        rw [ej107] at hf
        refine lv_iload hx hb dL_law_145 (lv_at hl 3 rfl) ?_
        refine lv_iconst (v := (4 : Int32)) hx hb dL_law_147 (by decide) ?_
        refine lv_irem hx hb dL_law_148 (by decide) ?_
        refine lv_iconst (v := (2 : Int32)) hx hb dL_law_149 (by decide) ?_
        obtain ⟨j109, ej109, hf⟩ := lt_e hf
        have hj109 : ∀ (v108 : xSt) (H : Heap) (locs : List Loc), hg G (eBC G) 430 q v108 A s H locs → ∀ (ls : Array Slot), lv_has ls 13 [(0, .ref b), (1, .ref (q 0)), (3, .long kp), (5, .int i), (7, .int x4), (8, .long r5.1), (10, .int r9)] → j109 v108 = some z → W p l e room_1 s m args below meth c H locs (cells + 3) (slots + 18) Q (F0 m 162 ls []) := by
          intro v108 H locs h ls hl hf
          rw [ej109] at hf
          refine lv_iconst (v := (1 : Int32)) hx hb dL_law_162 (by decide) ?_
          refine lv_goto (tgt := 167) hx hb dL_law_163 (by decide) ?_
          exact hj16 (1 : Int32) v108 H locs h ls (lv_sub hl [0, 1, 2, 3, 4, 5, 6] rfl) hf
        refine lv_icmp_ne (tgt := 162) hx hb dL_law_150 (by decide) (fun c110 => ?_) (fun c110 => ?_)
        · have hf := it_f c110 hf
          refine W.widen (k := (cells + 3)) (n := (slots + 18)) (by omega) (by omega) ?_
          exact hj109 v106 H locs h ls (lv_sub hl [0, 1, 2, 3, 4, 5, 6] rfl) hf
        · have hf := it_t c110 hf
          refine lv_aload_n hx hb dL_law_153 rfl (lv_at hl 1 rfl) ?_
          refine lv_iload hx hb dL_law_154 (lv_at hl 4 rfl) ?_
          obtain ⟨r111, hy112, hf⟩ := ob_e hf
          refine xz0c h (va_runS (As := [.ref (q 0), .int x4]) (rest := []) hC (c_L_falls l hst G sa q v106 x4 hy112 H.size) (xcgS hC hin lk_L_194 in_L co_L_falls st_L_falls rfl rfl dd_L_falls ⟨Nat.le_of_ble_eq_true rfl, Nat.le_of_ble_eq_true rfl⟩) (preS0T h hT [.ref (q 0), .int x4]) rfl rfl hl.1 rfl (lv_room (Nat.le_of_ble_eq_true rfl)) dL_law_156 ⟨by have := hcs.1; omega, by have := hcs.2; omega⟩) (fun H locs hz113 h => ?_)
          refine W.widen (k := (cells + 3)) (n := (slots + 18)) (by omega) (by omega) ?_
          obtain ⟨v114, ev114, hf⟩ := lt_e hf
          rw [← ev114] at h
          refine lv_if_eq (tgt := 166) hx hb dL_law_159 (by decide) (fun c115 => ?_) (fun c115 => ?_)
          · have hf := it_t c115 hf
            exact hj104 v114 H locs h ls (lv_sub hl [0, 1, 2, 3, 4, 5, 6] rfl) hf
          · have hf := it_f c115 hf
            exact hj109 v114 H locs h ls (lv_sub hl [0, 1, 2, 3, 4, 5, 6] rfl) hf
      refine lv_if_gt (tgt := 145) hx hb dL_law_135 (by decide) (fun c116 => ?_) (fun c116 => ?_)
      · have hf := it_t c116 hf
        exact hj107 v13 H locs h ls (lv_sub hl [4, 5, 6, 7, 2, 1, 0] rfl) hf
      · have hf := it_f c116 hf
        refine lv_aload_n hx hb dL_law_138 rfl (lv_at hl 5 rfl) ?_
        obtain ⟨r117, hy118, hf⟩ := ob_e hf
        refine xz0c h (va_runS (As := [.ref (q 0)]) (rest := []) hC (c_L_holds l hst G sa q v13 hy118 H.size) (xcgS hC hin lk_L_190 in_L co_L_holds st_L_holds rfl rfl dd_L_holds ⟨Nat.le_of_ble_eq_true rfl, Nat.le_of_ble_eq_true rfl⟩) (preS0T h hT [.ref (q 0)]) rfl rfl hl.1 rfl (lv_room (Nat.le_of_ble_eq_true rfl)) dL_law_139 ⟨by have := hcs.1; omega, by have := hcs.2; omega⟩) (fun H locs hz119 h => ?_)
        refine W.widen (k := (cells + 1)) (n := (slots + 6)) (by omega) (by omega) ?_
        obtain ⟨v120, ev120, hf⟩ := lt_e hf
        rw [← ev120] at h
        refine lv_if_eq (tgt := 166) hx hb dL_law_142 (by decide) (fun c121 => ?_) (fun c121 => ?_)
        · have hf := it_t c121 hf
          refine W.widen (k := (cells + 3)) (n := (slots + 18)) (by omega) (by omega) ?_
          exact hj104 v120 H locs h ls (lv_sub hl [4, 5, 6, 7, 2, 1, 0] rfl) hf
        · have hf := it_f c121 hf
          exact hj107 v120 H locs h ls (lv_sub hl [4, 5, 6, 7, 2, 1, 0] rfl) hf
  refine lv_icmp_ge (tgt := 84) hx hb dL_law_76 (by decide) (fun c122 => ?_) (fun c122 => ?_)
  · have hf := it_t c122 hf
    refine lv_aload_n hx hb dL_law_84 rfl (lv_at hl 0 rfl) ?_
    refine lv_iconst (v := (2 : Int32)) hx hb dL_law_85 (by decide) ?_
    refine lv_iload hx hb dL_law_86 (lv_at hl 3 rfl) ?_
    refine lv_imul hx hb dL_law_88 ?_
    obtain ⟨hk123, hf⟩ := ck_e hf
    refine xiG h (va_runS (As := [.ref b, .int ((2 : Int32) * i)]) (rest := []) hC (c_L_lot l G b L xs ((2 : Int32) * i) hk123 hL H.size) (xcgS hC hin lk_L_204 in_L co_L_lot st_L_lot rfl rfl dd_L_lot ⟨Nat.le_of_ble_eq_true rfl, Nat.le_of_ble_eq_true rfl⟩) (preSX h hX hbl hbA [.ref b, .int ((2 : Int32) * i)]) rfl rfl hl.1 rfl (lv_room (Nat.le_of_ble_eq_true rfl)) dL_law_89 ⟨by have := hcs.1; omega, by have := hcs.2; omega⟩) (fun H locs h => ?_)
    exact hj2 (lotv L xs ((2 : Int32) * i)) H locs h ls (lv_sub hl [0, 1, 2, 3] rfl) hf
  · have hf := it_f c122 hf
    refine lv_bipush (v := (17 : Int32)) hx hb dL_law_79 (by decide) ?_
    refine lv_goto (tgt := 92) hx hb dL_law_81 (by decide) ?_
    exact hj2 (17 : Int32) H locs h ls (lv_sub hl [0, 1, 2, 3] rfl) hf
/-! THE LAW: the loop -/
theorem nI_n52 {k : Nat} (hk : k < 52) : ¬ ((52 : Int32) ≤ nI k) := nI_ge hk (by decide)
theorem xn5 (k : Nat) : nI k + 1 = nI (k + 1) := nI_add k 1
set_option maxHeartbeats 8000000 in
set_option maxRecDepth 100000 in
theorem law_loop {p : Program} {l : Launch} {e : Env} {s : State} {m : MethodId} {args : Array Value} {below : List Frame} {meth : Method} {c : Code} {Q : State → Prop} {G : xGl} {sa q : Nat → Nat} {A : Nat → Prop} {b L : Nat} {xs : Nat → Int32} (hst : l.stackTraces = false) (hC : CallFix p m c cL_law 13 s args lw_tbl RL) (hT : xT G sa A s s.heap) (hX : va_X b L xs s s.heap) (hbl : b < s.heap.size) (hbA : ¬ A b) (hL : L < 2147483648) (RR : Nat → Int64 → xSt → Prop)
    (hstep : ∀ k kp v, k < 52 → RR k kp v → ∃ kp' v', m_law_b v xs L kp (nI k) = some (1, kp', v') ∧ RR (k + 1) kp' v')
    (kend : ∀ (H : Heap) (locs : List Loc) (ls : Array Slot) (kp : Int64) (v : xSt), RR 52 kp v → hg G (eBC G) 430 q v A s H locs → lv_has ls 13 [(0, .ref b), (1, .ref (q 0)), (2, .int (1 : Int32)), (3, .long kp), (5, .int (nI 52))] → W p l e room_1 s m args below meth c H locs (434 + 7 * 52) (7738 + 42 * 52) Q (F0 m 384 ls [])) :
    ∀ n k kp v H locs ls cells slots, k + n = 52 → RR k kp v → hg G (eBC G) 430 q v A s H locs → lv_has ls 13 [(0, .ref b), (1, .ref (q 0)), (2, .int (1 : Int32)), (3, .long kp), (5, .int (nI k))] → cells ≤ 434 + 7 * k → slots ≤ 7738 + 42 * k → W p l e room_1 s m args below meth c H locs cells slots Q (F0 m 62 ls []) := by
  intro n
  induction n with
  | zero =>
    intro k kp v H locs ls cells slots hkn hR h hl hc1 hc2
    have hx := hC.1
    have hb := hC.2.1
    obtain rfl : k = 52 := by omega
    refine lv_iload hx hb dL_law_62 (lv_at hl 4 rfl) ?_
    refine lv_bipush (v := (52 : Int32)) hx hb dL_law_64 (by decide) ?_
    refine lv_icmp_ge (tgt := 384) hx hb dL_law_66 (by decide) (fun cc => ?_) (fun cc => absurd (by decide) cc)
    exact W.widen (k := 434 + 7 * 52) (n := 7738 + 42 * 52) (by omega) (by omega) (kend H locs ls kp v hR h hl)
  | succ n ih =>
    intro k kp v H locs ls cells slots hkn hR h hl hc1 hc2
    have hx := hC.1
    have hb := hC.2.1
    have hk : k < 52 := by omega
    have hcs : cells + 7 ≤ room_1.cells ∧ slots + 42 ≤ room_1.slots := ⟨Nat.le_trans (show cells + 7 ≤ 5000 by omega) (Nat.le_of_ble_eq_true rfl), Nat.le_trans (show slots + 42 ≤ 40000 by omega) (Nat.le_of_ble_eq_true rfl)⟩
    obtain ⟨kp', v', hf, hR1⟩ := hstep k kp v hk hR
    refine lv_iload hx hb dL_law_62 (lv_at hl 4 rfl) ?_
    refine lv_bipush (v := (52 : Int32)) hx hb dL_law_64 (by decide) ?_
    refine lv_icmp_ge (tgt := 384) hx hb dL_law_66 (by decide) (fun cc => absurd cc (nI_n52 hk)) (fun cc => ?_)
    refine lv_iload_n hx hb dL_law_69 rfl (lv_at hl 2 rfl) ?_
    refine lv_if_eq (tgt := 384) hx hb dL_law_70 (by decide) (fun cc => absurd cc (by decide)) (fun cc => ?_)
    refine k_law_b (kp := kp) (i := nI k) (sa := sa) hst hC wG_law hT hX hbl hbA hL hcs h (lv_sub hl [0, 1, 3, 4] rfl) hf (fun H locs ls h hl => ?_)
    refine lv_iinc (v := nI (k + 1)) (lv' := [(5, .int (nI (k + 1))), (0, .ref b), (1, .ref (q 0)), (2, .int (1 : Int32)), (3, .long kp')]) hx hb dL_law_378 hl (k := 4) rfl (xn5 k) (by decide) rfl (fun ls hl => ?_)
    refine lv_goto (tgt := 62) hx hb dL_law_381 (by decide) ?_
    exact ih (k + 1) kp' v' H locs ls (cells + 7) (slots + 42) (by omega) hR1 h (lv_sub hl [1, 2, 3, 4, 0] rfl) (by omega) (by omega)
