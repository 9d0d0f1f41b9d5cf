theorem cn_J6_265 : Cond.constant RJ6 265 (1431655765 : Int32) ∈ wG := wG_t 472 (by decide +kernel) rfl
theorem cn_J6_266 : Cond.constant RJ6 266 (858993459 : Int32) ∈ wG := wG_t 473 (by decide +kernel) rfl
theorem cn_J6_267 : Cond.constant RJ6 267 (252645135 : Int32) ∈ wG := wG_t 474 (by decide +kernel) rfl
def m_X8_isWithin (p0 : Int32) (p1 : Int32) (p2 : Int32) : Option (Int32) := lt (fun (_ : Unit) => some (0 : Int32)) (fun j1 => (if p0 < p1 then j1 () else (if p2 < p0 then j1 () else some (1 : Int32))))
set_option maxHeartbeats 4000000 in
set_option maxRecDepth 100000 in
theorem c_X8_isWithin (l : Launch) (G : xGl) (q : Nat → Nat) (v : xSt) (p0 : Int32) (p1 : Int32) (p2 : Int32) {z : (Int32)} (hf : m_X8_isWithin p0 p1 p2 = some z) : mRO l yX8_isWithin (wM yX8_isWithin cX8_isWithin 3 (some .boolean)) { frames := 0, cells := 0, slots := 0, locals := 0 } G (e0) 0 q v [.int p0, .int p1, .int p2] (qZ z) := by
  refine xRO (cc := cX8_isWithin) (maxL := 3) (ret := (some .boolean)) (by decide) rfl (Nat.le_of_ble_eq_true rfl) ?_
  intro p e s m below meth c ls A hC hr hlk h hl
  have hx := hC.1
  have hb := hC.2.1
  have hl : lv_has ls 3 [(0, .int p0), (1, .int p1), (2, .int p2)] := hl
  unfold m_X8_isWithin at hf
  obtain ⟨H, hH⟩ : ∃ H, H = s.heap := ⟨_, rfl⟩
  obtain ⟨locs, hlo⟩ : ∃ x : List Loc, x = [] := ⟨_, rfl⟩
  have h : ho G (e0) 0 q v A s H locs := by rw [hH, hlo]; exact h
  rw [← hlo, ← hH]
  clear hH hlo
  refine lv_iload_n hx hb dX8_isWithin_0 rfl (lv_at hl 0 rfl) ?_
  refine lv_iload_n hx hb dX8_isWithin_1 rfl (lv_at hl 1 rfl) ?_
  obtain ⟨j1, ej1, hf⟩ := lt_e hf
  have hj1 : ∀ (uu : Unit) (H : Heap) (locs : List Loc), ho G (e0) 0 q v A s H locs → ∀ (ls : Array Slot), lv_has ls 3 [] → j1 uu = some z → W p l e { frames := 0, cells := 0, slots := 0, locals := 0 } s m [.int p0, .int p1, .int p2].toArray below meth c H locs 0 0 (MQ below ((qZ z) (fun _ => True) A) [.int p0, .int p1, .int p2].toArray s 0 0 A) (F0 m 14 ls []) := by
    intro uu H locs h ls hl hf
    rw [ej1] at hf
    refine lv_iconst (v := (0 : Int32)) hx hb dX8_isWithin_14 (by decide) ?_
    have hf := sm_e hf
    exact ozret hC hr hlk h (by rw [← hf]) (by decide) dX8_isWithin_15
  refine lv_icmp_lt (tgt := 14) hx hb dX8_isWithin_2 (by decide) (fun c2 => ?_) (fun c2 => ?_)
  · have hf := it_t c2 hf
    exact hj1 () H locs h ls (lv_sub hl [] rfl) hf
  · have hf := it_f c2 hf
    refine lv_iload_n hx hb dX8_isWithin_5 rfl (lv_at hl 0 rfl) ?_
    refine lv_iload_n hx hb dX8_isWithin_6 rfl (lv_at hl 2 rfl) ?_
    refine lv_icmp_gt (tgt := 14) hx hb dX8_isWithin_7 (by decide) (fun c3 => ?_) (fun c3 => ?_)
    · have hf := it_t c3 hf
      exact hj1 () H locs h ls (lv_sub hl [] rfl) hf
    · have hf := it_f c3 hf
      refine lv_iconst (v := (1 : Int32)) hx hb dX8_isWithin_10 (by decide) ?_
      refine lv_goto (tgt := 15) hx hb dX8_isWithin_11 (by decide) ?_
      have hf := sm_e hf
      exact ozret hC hr hlk h (by rw [← hf]) (by decide) dX8_isWithin_15
def m_X8_at (N : Nat) (v : xSt) (p1 : Int32) : Option (Int32) := lt (fun (_ : Unit) => some (0 : Int32)) (fun j1 => (if p1 < 0 then j1 () else (if (Int32.ofNat N) ≤ p1 then j1 () else ck (¬ (p1 < 0 ∨ N ≤ p1.toNatClampNeg)) (some (v 0 p1.toNatClampNeg)))))
set_option maxHeartbeats 4000000 in
set_option maxRecDepth 100000 in
theorem c_X8_at (l : Launch) (G : xGl) (q : Nat → Nat) (N : Nat) (v : xSt) (p1 : Int32) {z : (Int32)} (hf : m_X8_at N v p1 = some z) : mRO l yX8_at (wM yX8_at cX8_at 2 (some .int)) { frames := 0, cells := 0, slots := 0, locals := 0 } G (eInt G N) 1 q v [.ref (q 0), .int p1] (qI z) := by
  refine xRO (cc := cX8_at) (maxL := 2) (ret := (some .int)) (by decide) rfl (Nat.le_of_ble_eq_true rfl) ?_
  intro p e s m below meth c ls A hC hr hlk h hl
  have hx := hC.1
  have hb := hC.2.1
  have hl : lv_has ls 2 [(0, .ref (q 0)), (1, .int p1)] := hl
  unfold m_X8_at at hf
  obtain ⟨H, hH⟩ : ∃ H, H = s.heap := ⟨_, rfl⟩
  obtain ⟨locs, hlo⟩ : ∃ x : List Loc, x = [] := ⟨_, rfl⟩
  have h : ho G (eInt G N) 1 q v A s H locs := by rw [hH, hlo]; exact h
  rw [← hlo, ← hH]
  clear hH hlo
  refine lv_iload_n hx hb dX8_at_0 rfl (lv_at hl 1 rfl) ?_
  obtain ⟨j1, ej1, hf⟩ := lt_e hf
  have hj1 : ∀ (uu : Unit) (H : Heap) (locs : List Loc), ho G (eInt G N) 1 q v A s H locs → ∀ (ls : Array Slot), lv_has ls 2 [] → j1 uu = some z → W p l e { frames := 0, cells := 0, slots := 0, locals := 0 } s m [.ref (q 0), .int p1].toArray below meth c H locs 0 0 (MQ below ((qI z) (fun _ => True) A) [.ref (q 0), .int p1].toArray s 0 0 A) (F0 m 16 ls []) := by
    intro uu H locs h ls hl hf
    rw [ej1] at hf
    refine lv_iconst (v := (0 : Int32)) hx hb dX8_at_16 (by decide) ?_
    have hf := sm_e hf
    exact oiret hC hr hlk h (by rw [← hf]) dX8_at_17
  refine lv_if_lt (tgt := 16) hx hb dX8_at_1 (by decide) (fun c2 => ?_) (fun c2 => ?_)
  · have hf := it_t c2 hf
    exact hj1 () H locs h ls (lv_sub hl [] rfl) hf
  · have hf := it_f c2 hf
    refine lv_iload_n hx hb dX8_at_4 rfl (lv_at hl 1 rfl) ?_
    refine lv_aload_n hx hb dX8_at_5 rfl (lv_at hl 0 rfl) ?_
    refine xalen hC h.o 0 rfl 0 (Nat.le_of_ble_eq_true rfl) (show eInt G N q 0 _ = .inl (G.2 0, N, .inl _) from rfl) (z := (Int32.ofNat N)) rfl dX8_at_6 ?_
    refine lv_icmp_ge (tgt := 16) hx hb dX8_at_7 (by decide) (fun c3 => ?_) (fun c3 => ?_)
    · have hf := it_t c3 hf
      exact hj1 () H locs h ls (lv_sub hl [] rfl) hf
    · have hf := it_f c3 hf
      refine lv_aload_n hx hb dX8_at_10 rfl (lv_at hl 0 rfl) ?_
      refine lv_iload_n hx hb dX8_at_11 rfl (lv_at hl 1 rfl) ?_
      obtain ⟨hi4, hf⟩ := ck_e hf
      refine xiald hC h.o 0 (Nat.le_of_ble_eq_true rfl) (show eInt G N q 0 _ = .inl (G.2 0, N, .inl _) from rfl) hi4 dX8_at_12 ?_
      refine lv_goto (tgt := 17) hx hb dX8_at_13 (by decide) ?_
      have hf := sm_e hf
      exact oiret hC hr hlk h (by rw [← hf]) dX8_at_17
def m_X8_put (N : Nat) (v : xSt) (p1 : Int32) (p2 : Int32) : Option xSt := (if p1 < 0 then some v else (if (Int32.ofNat N) ≤ p1 then some v else ck (¬ (p1 < 0 ∨ N ≤ p1.toNatClampNeg)) (lt (st2 v 0 p1.toNatClampNeg p2) (fun v4 => some v4))))
set_option maxHeartbeats 4000000 in
set_option maxRecDepth 100000 in
theorem c_X8_put (l : Launch) (G : xGl) (q : Nat → Nat) (N : Nat) (v : xSt) (p1 : Int32) (p2 : Int32) {z : xSt} (hf : m_X8_put N v p1 p2 = some z) : mRW l yX8_put (wM yX8_put cX8_put 3 none) { frames := 0, cells := 0, slots := 0, locals := 0 } G (eInt G N) 1 q v [.ref (q 0), .int p1, .int p2] qV z := by
  refine xRW (cc := cX8_put) (maxL := 3) (ret := none) (by decide) rfl (Nat.le_of_ble_eq_true rfl) ?_
  intro p e s m below meth c ls A hC hr hlk h hl
  have hx := hC.1
  have hb := hC.2.1
  have hl : lv_has ls 3 [(0, .ref (q 0)), (1, .int p1), (2, .int p2)] := hl
  unfold m_X8_put at hf
  obtain ⟨H, hH⟩ : ∃ H, H = s.heap := ⟨_, rfl⟩
  obtain ⟨locs, hlo⟩ : ∃ x : List Loc, x = [] := ⟨_, rfl⟩
  have h : hg G (eInt G N) 1 q v A s H locs := by rw [hH, hlo]; exact h
  rw [← hlo, ← hH]
  clear hH hlo
  refine lv_iload_n hx hb dX8_put_0 rfl (lv_at hl 1 rfl) ?_
  refine lv_if_lt (tgt := 14) hx hb dX8_put_1 (by decide) (fun c1 => ?_) (fun c1 => ?_)
  · have hf := it_t c1 hf
    have hf := sm_e hf
    exact xvret hC hr hlk h hf dX8_put_14
  · have hf := it_f c1 hf
    refine lv_iload_n hx hb dX8_put_4 rfl (lv_at hl 1 rfl) ?_
    refine lv_aload_n hx hb dX8_put_5 rfl (lv_at hl 0 rfl) ?_
    refine xalen hC h.o 0 rfl 0 (Nat.le_of_ble_eq_true rfl) (show eInt G N q 0 _ = .inl (G.2 0, N, .inl _) from rfl) (z := (Int32.ofNat N)) rfl dX8_put_6 ?_
    refine lv_icmp_ge (tgt := 14) hx hb dX8_put_7 (by decide) (fun c2 => ?_) (fun c2 => ?_)
    · have hf := it_t c2 hf
      have hf := sm_e hf
      exact xvret hC hr hlk h hf dX8_put_14
    · have hf := it_f c2 hf
      refine lv_aload_n hx hb dX8_put_10 rfl (lv_at hl 0 rfl) ?_
      refine lv_iload_n hx hb dX8_put_11 rfl (lv_at hl 1 rfl) ?_
      refine lv_iload_n hx hb dX8_put_12 rfl (lv_at hl 2 rfl) ?_
      obtain ⟨hi3, hf⟩ := ck_e hf
      refine xiast hC h 0 (Nat.le_of_ble_eq_true rfl) (fun _ => (show eInt G N q 0 _ = .inl (G.2 0, N, .inl _) from rfl)) hi3 dX8_put_13 (fun H locs h => ?_)
      obtain ⟨v4, ev4, hf⟩ := lt_e hf
      rw [← ev4] at h
      have hf := sm_e hf
      exact xvret hC hr hlk h hf dX8_put_14
def m_X8_sectorOf (p0 : Int32) (p1 : Int32) : Option (Int32) := (if p0 = (1 : Int32) then some (p1 / (32 : Int32)) else some p1)
set_option maxHeartbeats 4000000 in
set_option maxRecDepth 100000 in
theorem c_X8_sectorOf (l : Launch) (G : xGl) (q : Nat → Nat) (v : xSt) (p0 : Int32) (p1 : Int32) {z : (Int32)} (hf : m_X8_sectorOf p0 p1 = some z) : mRO l yX8_sectorOf (wM yX8_sectorOf cX8_sectorOf 2 (some .int)) { frames := 0, cells := 0, slots := 0, locals := 0 } G (e0) 0 q v [.int p0, .int p1] (qI z) := by
  refine xRO (cc := cX8_sectorOf) (maxL := 2) (ret := (some .int)) (by decide) rfl (Nat.le_of_ble_eq_true rfl) ?_
  intro p e s m below meth c ls A hC hr hlk h hl
  have hx := hC.1
  have hb := hC.2.1
  have hl : lv_has ls 2 [(0, .int p0), (1, .int p1)] := hl
  unfold m_X8_sectorOf at hf
  obtain ⟨H, hH⟩ : ∃ H, H = s.heap := ⟨_, rfl⟩
  obtain ⟨locs, hlo⟩ : ∃ x : List Loc, x = [] := ⟨_, rfl⟩
  have h : ho G (e0) 0 q v A s H locs := by rw [hH, hlo]; exact h
  rw [← hlo, ← hH]
  clear hH hlo
  refine lv_iload_n hx hb dX8_sectorOf_0 rfl (lv_at hl 0 rfl) ?_
  refine lv_iconst (v := (1 : Int32)) hx hb dX8_sectorOf_1 (by decide) ?_
  refine lv_icmp_ne (tgt := 12) hx hb dX8_sectorOf_2 (by decide) (fun c1 => ?_) (fun c1 => ?_)
  · have hf := it_f c1 hf
    refine lv_iload_n hx hb dX8_sectorOf_12 rfl (lv_at hl 1 rfl) ?_
    have hf := sm_e hf
    exact oiret hC hr hlk h (by rw [← hf]) dX8_sectorOf_13
  · have hf := it_t c1 hf
    refine lv_iload_n hx hb dX8_sectorOf_5 rfl (lv_at hl 1 rfl) ?_
    refine lv_bipush (v := (32 : Int32)) hx hb dX8_sectorOf_6 (by decide) ?_
    refine lv_idiv hx hb dX8_sectorOf_8 (by decide) ?_
    refine lv_goto (tgt := 13) hx hb dX8_sectorOf_9 (by decide) ?_
    have hf := sm_e hf
    exact oiret hC hr hlk h (by rw [← hf]) dX8_sectorOf_13
def m_X8_roundPage (p0 : Int32) (p1 : Int32) : Option (Int32) := some (((p0 / (8 : Int32)) * (8 : Int32)) + ((p0 + p1) - (p0 + p1) / (8 : Int32) * (8 : Int32)))
set_option maxHeartbeats 4000000 in
set_option maxRecDepth 100000 in
theorem c_X8_roundPage (l : Launch) (G : xGl) (q : Nat → Nat) (v : xSt) (p0 : Int32) (p1 : Int32) {z : (Int32)} (hf : m_X8_roundPage p0 p1 = some z) : mRO l yX8_roundPage (wM yX8_roundPage cX8_roundPage 2 (some .int)) { frames := 0, cells := 0, slots := 0, locals := 0 } G (e0) 0 q v [.int p0, .int p1] (qI z) := by
  refine xRO (cc := cX8_roundPage) (maxL := 2) (ret := (some .int)) (by decide) rfl (Nat.le_of_ble_eq_true rfl) ?_
  intro p e s m below meth c ls A hC hr hlk h hl
  have hx := hC.1
  have hb := hC.2.1
  have hl : lv_has ls 2 [(0, .int p0), (1, .int p1)] := hl
  unfold m_X8_roundPage at hf
  obtain ⟨H, hH⟩ : ∃ H, H = s.heap := ⟨_, rfl⟩
  obtain ⟨locs, hlo⟩ : ∃ x : List Loc, x = [] := ⟨_, rfl⟩
  have h : ho G (e0) 0 q v A s H locs := by rw [hH, hlo]; exact h
  rw [← hlo, ← hH]
  clear hH hlo
  refine lv_iload_n hx hb dX8_roundPage_0 rfl (lv_at hl 0 rfl) ?_
  refine lv_bipush (v := (8 : Int32)) hx hb dX8_roundPage_1 (by decide) ?_
  refine lv_idiv hx hb dX8_roundPage_3 (by decide) ?_
  refine lv_bipush (v := (8 : Int32)) hx hb dX8_roundPage_4 (by decide) ?_
  refine lv_imul hx hb dX8_roundPage_6 ?_
  refine lv_iload_n hx hb dX8_roundPage_7 rfl (lv_at hl 0 rfl) ?_
  refine lv_iload_n hx hb dX8_roundPage_8 rfl (lv_at hl 1 rfl) ?_
  refine lv_iadd hx hb dX8_roundPage_9 ?_
  refine lv_bipush (v := (8 : Int32)) hx hb dX8_roundPage_10 (by decide) ?_
  refine lv_irem hx hb dX8_roundPage_12 (by decide) ?_
  refine lv_iadd hx hb dX8_roundPage_13 ?_
  have hf := sm_e hf
  exact oiret hC hr hlk h (by rw [← hf]) dX8_roundPage_14
def m_X0_pagesOf (p0 : Int32) : Option (Int32) := some ((15 : Int32) <<< ((p0 * (4 : Int32)) &&& 31))
set_option maxHeartbeats 4000000 in
set_option maxRecDepth 100000 in
theorem c_X0_pagesOf (l : Launch) (G : xGl) (q : Nat → Nat) (v : xSt) (p0 : Int32) {z : (Int32)} (hf : m_X0_pagesOf p0 = some z) : mRO l yX0_pagesOf (wM yX0_pagesOf cX0_pagesOf 1 (some .int)) { frames := 0, cells := 0, slots := 0, locals := 0 } G (e0) 0 q v [.int p0] (qI z) := by
  refine xRO (cc := cX0_pagesOf) (maxL := 1) (ret := (some .int)) (by decide) rfl (Nat.le_of_ble_eq_true rfl) ?_
  intro p e s m below meth c ls A hC hr hlk h hl
  have hx := hC.1
  have hb := hC.2.1
  have hl : lv_has ls 1 [(0, .int p0)] := hl
  unfold m_X0_pagesOf at hf
  obtain ⟨H, hH⟩ : ∃ H, H = s.heap := ⟨_, rfl⟩
  obtain ⟨locs, hlo⟩ : ∃ x : List Loc, x = [] := ⟨_, rfl⟩
  have h : ho G (e0) 0 q v A s H locs := by rw [hH, hlo]; exact h
  rw [← hlo, ← hH]
  clear hH hlo
  refine lv_bipush (v := (15 : Int32)) hx hb dX0_pagesOf_0 (by decide) ?_
  refine lv_iload_n hx hb dX0_pagesOf_2 rfl (lv_at hl 0 rfl) ?_
  refine lv_iconst (v := (4 : Int32)) hx hb dX0_pagesOf_3 (by decide) ?_
  refine lv_imul hx hb dX0_pagesOf_4 ?_
  refine lv_ishl hx hb dX0_pagesOf_5 ?_
  have hf := sm_e hf
  exact oiret hC hr hlk h (by rw [← hf]) dX0_pagesOf_6
def m_J6_bitCount_0f7a4 (p0 : Int32) : Option (Int32) := lt ((p0 - (((p0).toUInt32 >>> (((1 : Int32)).toUInt32 &&& Int32.toUInt32 31)).toInt32 &&& (1431655765 : Int32)))) (fun x1 => lt (((x1 &&& (858993459 : Int32)) + (((x1).toUInt32 >>> (((2 : Int32)).toUInt32 &&& Int32.toUInt32 31)).toInt32 &&& (858993459 : Int32)))) (fun x2 => lt (((x2 + ((x2).toUInt32 >>> (((4 : Int32)).toUInt32 &&& Int32.toUInt32 31)).toInt32) &&& (252645135 : Int32))) (fun x3 => lt ((x3 + ((x3).toUInt32 >>> (((8 : Int32)).toUInt32 &&& Int32.toUInt32 31)).toInt32)) (fun x4 => lt ((x4 + ((x4).toUInt32 >>> (((16 : Int32)).toUInt32 &&& Int32.toUInt32 31)).toInt32)) (fun x5 => some (x5 &&& (63 : Int32)))))))
set_option maxHeartbeats 4000000 in
set_option maxRecDepth 100000 in
theorem c_J6_bitCount_0f7a4 (l : Launch) (G : xGl) (q : Nat → Nat) (v : xSt) (p0 : Int32) {z : (Int32)} (hf : m_J6_bitCount_0f7a4 p0 = some z) : mRO l yJ6_bitCount_0f7a4 (wM yJ6_bitCount_0f7a4 cJ6_bitCount_0f7a4 1 (some .int)) { frames := 0, cells := 0, slots := 0, locals := 0 } G (e0) 0 q v [.int p0] (qI z) := by
  refine xRO (cc := cJ6_bitCount_0f7a4) (maxL := 1) (ret := (some .int)) (by decide) rfl (Nat.le_of_ble_eq_true rfl) ?_
  intro p e s m below meth c ls A hC hr hlk h hl
  have hx := hC.1
  have hb := hC.2.1
  have hl : lv_has ls 1 [(0, .int p0)] := hl
  unfold m_J6_bitCount_0f7a4 at hf
  obtain ⟨H, hH⟩ : ∃ H, H = s.heap := ⟨_, rfl⟩
  obtain ⟨locs, hlo⟩ : ∃ x : List Loc, x = [] := ⟨_, rfl⟩
  have h : ho G (e0) 0 q v A s H locs := by rw [hH, hlo]; exact h
  rw [← hlo, ← hH]
  clear hH hlo
  refine lv_iload_n hx hb dJ6_bitCount_0f7a4_0 rfl (lv_at hl 0 rfl) ?_
  refine lv_iload_n hx hb dJ6_bitCount_0f7a4_1 rfl (lv_at hl 0 rfl) ?_
  refine lv_iconst (v := (1 : Int32)) hx hb dJ6_bitCount_0f7a4_2 (by decide) ?_
  refine lv_iushr hx hb dJ6_bitCount_0f7a4_3 rfl ?_
  refine lv_ldcw hx hb hC.2.2.2.1 (hC.2.2.2.2 _ (wM_in cn_J6_265)) dJ6_bitCount_0f7a4_4 ?_
  refine lv_iand hx hb dJ6_bitCount_0f7a4_7 ?_
  refine lv_isub hx hb dJ6_bitCount_0f7a4_8 ?_
  obtain ⟨x1, ex1, hf⟩ := lt_e hf
  refine lv_nm ex1 ?_
  refine lv_istore_n (lv' := [(0, .int x1)]) hx hb dJ6_bitCount_0f7a4_9 rfl hl (by decide) rfl (fun ls hl => ?_)
  refine lv_iload_n hx hb dJ6_bitCount_0f7a4_10 rfl (lv_at hl 0 rfl) ?_
  refine lv_ldcw hx hb hC.2.2.2.1 (hC.2.2.2.2 _ (wM_in cn_J6_266)) dJ6_bitCount_0f7a4_11 ?_
  refine lv_iand hx hb dJ6_bitCount_0f7a4_14 ?_
  refine lv_iload_n hx hb dJ6_bitCount_0f7a4_15 rfl (lv_at hl 0 rfl) ?_
  refine lv_iconst (v := (2 : Int32)) hx hb dJ6_bitCount_0f7a4_16 (by decide) ?_
  refine lv_iushr hx hb dJ6_bitCount_0f7a4_17 rfl ?_
  refine lv_ldcw hx hb hC.2.2.2.1 (hC.2.2.2.2 _ (wM_in cn_J6_266)) dJ6_bitCount_0f7a4_18 ?_
  refine lv_iand hx hb dJ6_bitCount_0f7a4_21 ?_
  refine lv_iadd hx hb dJ6_bitCount_0f7a4_22 ?_
  obtain ⟨x2, ex2, hf⟩ := lt_e hf
  refine lv_nm ex2 ?_
  refine lv_istore_n (lv' := [(0, .int x2)]) hx hb dJ6_bitCount_0f7a4_23 rfl hl (by decide) rfl (fun ls hl => ?_)
  refine lv_iload_n hx hb dJ6_bitCount_0f7a4_24 rfl (lv_at hl 0 rfl) ?_
  refine lv_iload_n hx hb dJ6_bitCount_0f7a4_25 rfl (lv_at hl 0 rfl) ?_
  refine lv_iconst (v := (4 : Int32)) hx hb dJ6_bitCount_0f7a4_26 (by decide) ?_
  refine lv_iushr hx hb dJ6_bitCount_0f7a4_27 rfl ?_
  refine lv_iadd hx hb dJ6_bitCount_0f7a4_28 ?_
  refine lv_ldcw hx hb hC.2.2.2.1 (hC.2.2.2.2 _ (wM_in cn_J6_267)) dJ6_bitCount_0f7a4_29 ?_
  refine lv_iand hx hb dJ6_bitCount_0f7a4_32 ?_
  obtain ⟨x3, ex3, hf⟩ := lt_e hf
  refine lv_nm ex3 ?_
  refine lv_istore_n (lv' := [(0, .int x3)]) hx hb dJ6_bitCount_0f7a4_33 rfl hl (by decide) rfl (fun ls hl => ?_)
  refine lv_iload_n hx hb dJ6_bitCount_0f7a4_34 rfl (lv_at hl 0 rfl) ?_
  refine lv_iload_n hx hb dJ6_bitCount_0f7a4_35 rfl (lv_at hl 0 rfl) ?_
  refine lv_bipush (v := (8 : Int32)) hx hb dJ6_bitCount_0f7a4_36 (by decide) ?_
  refine lv_iushr hx hb dJ6_bitCount_0f7a4_38 rfl ?_
  refine lv_iadd hx hb dJ6_bitCount_0f7a4_39 ?_
  obtain ⟨x4, ex4, hf⟩ := lt_e hf
  refine lv_nm ex4 ?_
  refine lv_istore_n (lv' := [(0, .int x4)]) hx hb dJ6_bitCount_0f7a4_40 rfl hl (by decide) rfl (fun ls hl => ?_)
  refine lv_iload_n hx hb dJ6_bitCount_0f7a4_41 rfl (lv_at hl 0 rfl) ?_
  refine lv_iload_n hx hb dJ6_bitCount_0f7a4_42 rfl (lv_at hl 0 rfl) ?_
  refine lv_bipush (v := (16 : Int32)) hx hb dJ6_bitCount_0f7a4_43 (by decide) ?_
  refine lv_iushr hx hb dJ6_bitCount_0f7a4_45 rfl ?_
  refine lv_iadd hx hb dJ6_bitCount_0f7a4_46 ?_
  obtain ⟨x5, ex5, hf⟩ := lt_e hf
  refine lv_nm ex5 ?_
  refine lv_istore_n (lv' := [(0, .int x5)]) hx hb dJ6_bitCount_0f7a4_47 rfl hl (by decide) rfl (fun ls hl => ?_)
  refine lv_iload_n hx hb dJ6_bitCount_0f7a4_48 rfl (lv_at hl 0 rfl) ?_
  refine lv_bipush (v := (63 : Int32)) hx hb dJ6_bitCount_0f7a4_49 (by decide) ?_
  refine lv_iand hx hb dJ6_bitCount_0f7a4_51 ?_
  have hf := sm_e hf
  exact oiret hC hr hlk h (by rw [← hf]) dJ6_bitCount_0f7a4_52
def m_J7_fill_53178 (N : Nat) (v : xSt) (p1 : Int32) : Option xSt := lp (fun (rec3 : Int32 × xSt → Option xSt) => un2 (fun (a1 : Int32) (v2 : xSt) => (if (Int32.ofNat N) ≤ a1 then some v2 else ck (¬ (a1 < 0 ∨ N ≤ a1.toNatClampNeg)) (lt (st2 v2 0 a1.toNatClampNeg p1) (fun v6 => rec3 ((a1 + 1), v6)))))) xF ((0 : Int32), v)
set_option maxHeartbeats 4000000 in
set_option maxRecDepth 100000 in
theorem c_J7_fill_53178 (l : Launch) (G : xGl) (q : Nat → Nat) (N : Nat) (v : xSt) (p1 : Int32) {z : xSt} (hf : m_J7_fill_53178 N v p1 = some z) : mRW l yJ7_fill_53178 (wM yJ7_fill_53178 cJ7_fill_53178 4 none) { frames := 0, cells := 0, slots := 0, locals := 0 } G (eInt G N) 1 q v [.ref (q 0), .int p1] qV z := by
  refine xRW (cc := cJ7_fill_53178) (maxL := 4) (ret := none) (by decide) rfl (Nat.le_of_ble_eq_true rfl) ?_
  intro p e s m below meth c ls A hC hr hlk h hl
  have hx := hC.1
  have hb := hC.2.1
  have hl : lv_has ls 4 [(0, .ref (q 0)), (1, .int p1)] := hl
  unfold m_J7_fill_53178 at hf
  obtain ⟨H, hH⟩ : ∃ H, H = s.heap := ⟨_, rfl⟩
  obtain ⟨locs, hlo⟩ : ∃ x : List Loc, x = [] := ⟨_, rfl⟩
  have h : hg G (eInt G N) 1 q v A s H locs := by rw [hH, hlo]; exact h
  rw [← hlo, ← hH]
  clear hH hlo
  refine lv_iconst (v := (0 : Int32)) hx hb dJ7_fill_53178_0 (by decide) ?_
  refine lv_istore_n (lv' := [(2, .int (0 : Int32)), (0, .ref (q 0)), (1, .int p1)]) hx hb dJ7_fill_53178_1 rfl hl (by decide) rfl (fun ls hl => ?_)
  refine lv_aload_n hx hb dJ7_fill_53178_2 rfl (lv_at hl 1 rfl) ?_
  refine xalen hC h.o 0 rfl 0 (Nat.le_of_ble_eq_true rfl) (show eInt G N q 0 _ = .inl (G.2 0, N, .inl _) from rfl) (z := (Int32.ofNat N)) rfl dJ7_fill_53178_3 ?_
  refine lv_istore_n (lv' := [(3, .int (Int32.ofNat N)), (2, .int (0 : Int32)), (0, .ref (q 0)), (1, .int p1)]) hx hb dJ7_fill_53178_4 rfl hl (by decide) rfl (fun ls hl => ?_)
  refine lp_i (z := z) (P := fun (pp : Int32 × xSt) => ∀ (H : Heap) (locs : List Loc), hg G (eInt G N) 1 q pp.2 A s H locs → ∀ (ls : Array Slot), lv_has ls 4 [(0, .ref (q 0)), (1, .int p1), (2, .int pp.1), (3, .int (Int32.ofNat N))] → W p l e { frames := 0, cells := 0, slots := 0, locals := 0 } s m [.ref (q 0), .int p1].toArray below meth c H locs 0 0 (MQ below (qV (cB G (eInt G N) 1 q z A) A) [.ref (q 0), .int p1].toArray s 0 0 A) (F0 m 5 ls [])) ?_ _ _ hf H locs h ls (lv_sub hl [2, 3, 1, 0] rfl)
  intro rec3 hrec3 pp hf H locs h ls hl
  obtain ⟨a1, v2⟩ := pp
  have h : hg G (eInt G N) 1 q v2 A s H locs := h
  have hl : lv_has ls 4 [(0, .ref (q 0)), (1, .int p1), (2, .int a1), (3, .int (Int32.ofNat N))] := hl
  have hf := un2_e hf
  refine lv_iload_n hx hb dJ7_fill_53178_5 rfl (lv_at hl 2 rfl) ?_
  refine lv_iload_n hx hb dJ7_fill_53178_6 rfl (lv_at hl 3 rfl) ?_
  refine lv_icmp_ge (tgt := 20) hx hb dJ7_fill_53178_7 (by decide) (fun c4 => ?_) (fun c4 => ?_)
  · have hf := it_t c4 hf
    have hf := sm_e hf
    exact xvret hC hr hlk h hf dJ7_fill_53178_20
  · have hf := it_f c4 hf
    refine lv_aload_n hx hb dJ7_fill_53178_10 rfl (lv_at hl 0 rfl) ?_
    refine lv_iload_n hx hb dJ7_fill_53178_11 rfl (lv_at hl 2 rfl) ?_
    refine lv_iload_n hx hb dJ7_fill_53178_12 rfl (lv_at hl 1 rfl) ?_
    obtain ⟨hi5, hf⟩ := ck_e hf
    refine xiast hC h 0 (Nat.le_of_ble_eq_true rfl) (fun _ => (show eInt G N q 0 _ = .inl (G.2 0, N, .inl _) from rfl)) hi5 dJ7_fill_53178_13 (fun H locs h => ?_)
    obtain ⟨v6, ev6, hf⟩ := lt_e hf
    rw [← ev6] at h
    refine lv_iinc (v := (a1 + 1)) (lv' := [(2, .int (a1 + 1)), (0, .ref (q 0)), (1, .int p1), (3, .int (Int32.ofNat N))]) hx hb dJ7_fill_53178_14 hl (k := 2) rfl rfl (by decide) rfl (fun ls hl => ?_)
    refine lv_goto (tgt := 5) hx hb dJ7_fill_53178_17 (by decide) ?_
    exact hrec3 ((a1 + 1), v6) hf H locs h ls (lv_sub hl [1, 2, 0, 3] rfl)
