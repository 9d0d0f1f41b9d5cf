def m_X5_start (v : xSt) : Option xSt := lt (st2 v 0 0 (0 : Int32)) (fun v1 => some v1)
set_option maxHeartbeats 4000000 in
set_option maxRecDepth 100000 in
theorem c_X5_start (l : Launch) (G : xGl) (q : Nat → Nat) (v : xSt) {z : xSt} (hf : m_X5_start v = some z) : mRW l yX5_start (wM yX5_start cX5_start 1 none) { frames := 0, cells := 0, slots := 0, locals := 0 } G (eScribe G) 3 q v [.ref (q 0)] qV z := by
  refine xRW (cc := cX5_start) (maxL := 1) (ret := none) (by decide) rfl (Nat.le_of_ble_eq_true rfl) ?_
  intro p e s m below meth c ls A hC hr hlk h hl
  have hx := hC.1
  have hb := hC.2.1
  have hl : lv_has ls 1 [(0, .ref (q 0))] := hl
  unfold m_X5_start at hf
  obtain ⟨H, hH⟩ : ∃ H, H = s.heap := ⟨_, rfl⟩
  obtain ⟨locs, hlo⟩ : ∃ x : List Loc, x = [] := ⟨_, rfl⟩
  have h : hg G (eScribe G) 3 q v A s H locs := by rw [hH, hlo]; exact h
  rw [← hlo, ← hH]
  clear hH hlo
  refine lv_aload_n hx hb dX5_start_0 rfl (lv_at hl 0 rfl) ?_
  refine lv_iconst (v := (0 : Int32)) hx hb dX5_start_1 (by decide) ?_
  refine xput hC h (C := RX5) (T := TX5) (N := 6) (wM_us uw_X5) tyX5_ok nmX5 0 (Nat.le_of_ble_eq_true rfl) eScribe_0 rfl 0 (by decide) (wM_in fl_X5_11) rfl (ty := .int) (tyX5_ok 0 (by decide)) rfl rfl (Nat.le_of_ble_eq_true rfl) (eScribe_0.trans rfl) dX5_start_2 (fun H locs h => ?_)
  obtain ⟨v1, ev1, hf⟩ := lt_e hf
  rw [← ev1] at h
  have hf := sm_e hf
  exact xvret hC hr hlk h hf dX5_start_5
def m_X5_isComplete (v : xSt) : Option (Int32) := lt (fun (_ : Unit) => some (1 : Int32)) (fun j1 => (if (v 0 0) = (5 : Int32) then j1 () else (if (v 0 0) = (7 : Int32) then j1 () else lt (fun (_ : Unit) => some (0 : Int32)) (fun j4 => (if (v 0 0) = (2 : Int32) then (if (v 0 1) = (119 : Int32) then j4 () else j1 ()) else j4 ())))))
set_option maxHeartbeats 4000000 in
set_option maxRecDepth 100000 in
theorem c_X5_isComplete (l : Launch) (G : xGl) (q : Nat → Nat) (v : xSt) {z : (Int32)} (hf : m_X5_isComplete v = some z) : mRO l yX5_isComplete (wM yX5_isComplete cX5_isComplete 1 (some .boolean)) { frames := 0, cells := 0, slots := 0, locals := 0 } G (eScribe G) 3 q v [.ref (q 0)] (qZ z) := by
  refine xRO (cc := cX5_isComplete) (maxL := 1) (ret := (some .boolean)) (by decide) rfl (Nat.le_of_ble_eq_true rfl) ?_
  intro p e s m below meth c ls A hC hr hlk h hl
  have hx := hC.1
  have hb := hC.2.1
  have hl : lv_has ls 1 [(0, .ref (q 0))] := hl
  unfold m_X5_isComplete at hf
  obtain ⟨H, hH⟩ : ∃ H, H = s.heap := ⟨_, rfl⟩
  obtain ⟨locs, hlo⟩ : ∃ x : List Loc, x = [] := ⟨_, rfl⟩
  have h : ho G (eScribe G) 3 q v A s H locs := by rw [hH, hlo]; exact h
  rw [← hlo, ← hH]
  clear hH hlo
  refine lv_aload_n hx hb dX5_isComplete_0 rfl (lv_at hl 0 rfl) ?_
  refine xget hC h.o (C := RX5) (T := TX5) (N := 6) (wM_us uw_X5) 0 (Nat.le_of_ble_eq_true rfl) eScribe_0 rfl 0 (by decide) (wM_in fl_X5_11) rfl dX5_isComplete_1 ?_
  refine lv_iconst (v := (5 : Int32)) hx hb dX5_isComplete_4 (by decide) ?_
  obtain ⟨j1, ej1, hf⟩ := lt_e hf
  have hj1 : ∀ (uu : Unit) (H : Heap) (locs : List Loc), ho G (eScribe G) 3 q v A s H locs → ∀ (ls : Array Slot), lv_has ls 1 [] → j1 uu = some z → W p l e { frames := 0, cells := 0, slots := 0, locals := 0 } s m [.ref (q 0)].toArray below meth c H locs 0 0 (MQ below ((qZ z) (fun _ => True) A) [.ref (q 0)].toArray s 0 0 A) (F0 m 34 ls []) := by
    intro uu H locs h ls hl hf
    rw [ej1] at hf
    refine lv_iconst (v := (1 : Int32)) hx hb dX5_isComplete_34 (by decide) ?_
    refine lv_goto (tgt := 39) hx hb dX5_isComplete_35 (by decide) ?_
    have hf := sm_e hf
    exact ozret hC hr hlk h (by rw [← hf]) (by decide) dX5_isComplete_39
  refine lv_icmp_eq (tgt := 34) hx hb dX5_isComplete_5 (by decide) (fun c2 => ?_) (fun c2 => ?_)
  · have hf := it_t c2 hf
    exact hj1 () H locs h ls (lv_sub hl [] rfl) hf
  · have hf := it_f c2 hf
    refine lv_aload_n hx hb dX5_isComplete_8 rfl (lv_at hl 0 rfl) ?_
    refine xget hC h.o (C := RX5) (T := TX5) (N := 6) (wM_us uw_X5) 0 (Nat.le_of_ble_eq_true rfl) eScribe_0 rfl 0 (by decide) (wM_in fl_X5_11) rfl dX5_isComplete_9 ?_
    refine lv_bipush (v := (7 : Int32)) hx hb dX5_isComplete_12 (by decide) ?_
    refine lv_icmp_eq (tgt := 34) hx hb dX5_isComplete_14 (by decide) (fun c3 => ?_) (fun c3 => ?_)
    · have hf := it_t c3 hf
      exact hj1 () H locs h ls (lv_sub hl [] rfl) hf
    · have hf := it_f c3 hf
      refine lv_aload_n hx hb dX5_isComplete_17 rfl (lv_at hl 0 rfl) ?_
      refine xget hC h.o (C := RX5) (T := TX5) (N := 6) (wM_us uw_X5) 0 (Nat.le_of_ble_eq_true rfl) eScribe_0 rfl 0 (by decide) (wM_in fl_X5_11) rfl dX5_isComplete_18 ?_
      refine lv_iconst (v := (2 : Int32)) hx hb dX5_isComplete_21 (by decide) ?_
      obtain ⟨j4, ej4, hf⟩ := lt_e hf
      have hj4 : ∀ (uu : Unit) (H : Heap) (locs : List Loc), ho G (eScribe G) 3 q v A s H locs → ∀ (ls : Array Slot), lv_has ls 1 [] → j4 uu = some z → W p l e { frames := 0, cells := 0, slots := 0, locals := 0 } s m [.ref (q 0)].toArray below meth c H locs 0 0 (MQ below ((qZ z) (fun _ => True) A) [.ref (q 0)].toArray s 0 0 A) (F0 m 38 ls []) := by
        intro uu H locs h ls hl hf
        rw [ej4] at hf
        refine lv_iconst (v := (0 : Int32)) hx hb dX5_isComplete_38 (by decide) ?_
        have hf := sm_e hf
        exact ozret hC hr hlk h (by rw [← hf]) (by decide) dX5_isComplete_39
      refine lv_icmp_ne (tgt := 38) hx hb dX5_isComplete_22 (by decide) (fun c5 => ?_) (fun c5 => ?_)
      · have hf := it_f c5 hf
        exact hj4 () H locs h ls (lv_sub hl [] rfl) hf
      · have hf := it_t c5 hf
        refine lv_aload_n hx hb dX5_isComplete_25 rfl (lv_at hl 0 rfl) ?_
        refine xget hC h.o (C := RX5) (T := TX5) (N := 6) (wM_us uw_X5) 0 (Nat.le_of_ble_eq_true rfl) eScribe_0 rfl 1 (by decide) (wM_in fl_X5_15) rfl dX5_isComplete_26 ?_
        refine lv_bipush (v := (119 : Int32)) hx hb dX5_isComplete_29 (by decide) ?_
        refine lv_icmp_eq (tgt := 38) hx hb dX5_isComplete_31 (by decide) (fun c6 => ?_) (fun c6 => ?_)
        · have hf := it_t c6 hf
          exact hj4 () H locs h ls (lv_sub hl [] rfl) hf
        · have hf := it_f c6 hf
          exact hj1 () H locs h ls (lv_sub hl [] rfl) hf
def m_X5_endsPart (v : xSt) (p1 : Int32) (p2 : Int32) : Option (Int32 × xSt) := lt (fun (_ : Unit) => lt (st2 v 0 0 (0 : Int32)) (fun v2 => (if p1 = (59 : Int32) then some ((1 : Int32), v2) else some ((0 : Int32), v2)))) (fun j1 => (if p1 = (33 : Int32) then (if p2 = 0 then j1 () else lt (st2 v 0 0 (6 : Int32)) (fun v6 => some ((1 : Int32), v6))) else j1 ()))
set_option maxHeartbeats 4000000 in
set_option maxRecDepth 100000 in
theorem c_X5_endsPart (l : Launch) (G : xGl) (q : Nat → Nat) (v : xSt) (p1 : Int32) (p2 : Int32) {z : (Int32 × xSt)} (hf : m_X5_endsPart v p1 p2 = some z) : mRW l yX5_endsPart (wM yX5_endsPart cX5_endsPart 3 (some .boolean)) { frames := 0, cells := 0, slots := 0, locals := 0 } G (eScribe G) 3 q v [.ref (q 0), .int p1, .int p2] (qZ z.1) z.2 := by
  refine xRW (cc := cX5_endsPart) (maxL := 3) (ret := (some .boolean)) (by decide) rfl (Nat.le_of_ble_eq_true rfl) ?_
  intro p e s m below meth c ls A hC hr hlk h hl
  have hx := hC.1
  have hb := hC.2.1
  have hl : lv_has ls 3 [(0, .ref (q 0)), (1, .int p1), (2, .int p2)] := hl
  unfold m_X5_endsPart at hf
  obtain ⟨H, hH⟩ : ∃ H, H = s.heap := ⟨_, rfl⟩
  obtain ⟨locs, hlo⟩ : ∃ x : List Loc, x = [] := ⟨_, rfl⟩
  have h : hg G (eScribe G) 3 q v A s H locs := by rw [hH, hlo]; exact h
  rw [← hlo, ← hH]
  clear hH hlo
  refine lv_iload_n hx hb dX5_endsPart_0 rfl (lv_at hl 1 rfl) ?_
  refine lv_bipush (v := (33 : Int32)) hx hb dX5_endsPart_1 (by decide) ?_
  obtain ⟨j1, ej1, hf⟩ := lt_e hf
  have hj1 : ∀ (uu : Unit) (H : Heap) (locs : List Loc), hg G (eScribe G) 3 q v A s H locs → ∀ (ls : Array Slot), lv_has ls 3 [(0, .ref (q 0)), (1, .int p1)] → j1 uu = some z → W p l e { frames := 0, cells := 0, slots := 0, locals := 0 } s m [.ref (q 0), .int p1, .int p2].toArray below meth c H locs 0 0 (MQ below ((qZ z.1) (cB G (eScribe G) 3 q z.2 A) A) [.ref (q 0), .int p1, .int p2].toArray s 0 0 A) (F0 m 18 ls []) := by
    intro uu H locs h ls hl hf
    rw [ej1] at hf
    refine lv_aload_n hx hb dX5_endsPart_18 rfl (lv_at hl 0 rfl) ?_
    refine lv_iconst (v := (0 : Int32)) hx hb dX5_endsPart_19 (by decide) ?_
    refine xput hC h (C := RX5) (T := TX5) (N := 6) (wM_us uw_X5) tyX5_ok nmX5 0 (Nat.le_of_ble_eq_true rfl) eScribe_0 rfl 0 (by decide) (wM_in fl_X5_11) rfl (ty := .int) (tyX5_ok 0 (by decide)) rfl rfl (Nat.le_of_ble_eq_true rfl) (eScribe_0.trans rfl) dX5_endsPart_20 (fun H locs h => ?_)
    obtain ⟨v2, ev2, hf⟩ := lt_e hf
    rw [← ev2] at h
    refine lv_iload_n hx hb dX5_endsPart_23 rfl (lv_at hl 1 rfl) ?_
    refine lv_bipush (v := (59 : Int32)) hx hb dX5_endsPart_24 (by decide) ?_
    refine lv_icmp_ne (tgt := 33) hx hb dX5_endsPart_26 (by decide) (fun c3 => ?_) (fun c3 => ?_)
    · have hf := it_f c3 hf
      refine lv_iconst (v := (0 : Int32)) hx hb dX5_endsPart_33 (by decide) ?_
      have hf := sm_e hf
      exact xzret hC hr hlk h (by rw [← hf]) (by decide) (by rw [← hf]) dX5_endsPart_34
    · have hf := it_t c3 hf
      refine lv_iconst (v := (1 : Int32)) hx hb dX5_endsPart_29 (by decide) ?_
      refine lv_goto (tgt := 34) hx hb dX5_endsPart_30 (by decide) ?_
      have hf := sm_e hf
      exact xzret hC hr hlk h (by rw [← hf]) (by decide) (by rw [← hf]) dX5_endsPart_34
  refine lv_icmp_ne (tgt := 18) hx hb dX5_endsPart_3 (by decide) (fun c4 => ?_) (fun c4 => ?_)
  · have hf := it_f c4 hf
    exact hj1 () H locs h ls (lv_sub hl [0, 1] rfl) hf
  · have hf := it_t c4 hf
    refine lv_iload_n hx hb dX5_endsPart_6 rfl (lv_at hl 2 rfl) ?_
    refine lv_if_eq (tgt := 18) hx hb dX5_endsPart_7 (by decide) (fun c5 => ?_) (fun c5 => ?_)
    · have hf := it_t c5 hf
      exact hj1 () H locs h ls (lv_sub hl [0, 1] rfl) hf
    · have hf := it_f c5 hf
      refine lv_aload_n hx hb dX5_endsPart_10 rfl (lv_at hl 0 rfl) ?_
      refine lv_bipush (v := (6 : Int32)) hx hb dX5_endsPart_11 (by decide) ?_
      refine xput hC h (C := RX5) (T := TX5) (N := 6) (wM_us uw_X5) tyX5_ok nmX5 0 (Nat.le_of_ble_eq_true rfl) eScribe_0 rfl 0 (by decide) (wM_in fl_X5_11) rfl (ty := .int) (tyX5_ok 0 (by decide)) rfl rfl (Nat.le_of_ble_eq_true rfl) (eScribe_0.trans rfl) dX5_endsPart_13 (fun H locs h => ?_)
      obtain ⟨v6, ev6, hf⟩ := lt_e hf
      rw [← ev6] at h
      refine lv_iconst (v := (1 : Int32)) hx hb dX5_endsPart_16 (by decide) ?_
      have hf := sm_e hf
      exact xzret hC hr hlk h (by rw [← hf]) (by decide) (by rw [← hf]) dX5_endsPart_17
def m_X5_figure (p0 : Int32) (p1 : Int32) : Option (Int32) := lt (fun (_ : Unit) => lt (fun (_ : Unit) => some (-1 : Int32)) (fun j2 => (if p1 = (16 : Int32) then (if p0 < (97 : Int32) then j2 () else (if (102 : Int32) < p0 then j2 () else some ((p0 - (97 : Int32)) + (10 : Int32)))) else j2 ()))) (fun j1 => (if p0 < (48 : Int32) then j1 () else (if (57 : Int32) < p0 then j1 () else some (p0 - (48 : Int32)))))
set_option maxHeartbeats 4000000 in
set_option maxRecDepth 100000 in
theorem c_X5_figure (l : Launch) (G : xGl) (q : Nat → Nat) (v : xSt) (p0 : Int32) (p1 : Int32) {z : (Int32)} (hf : m_X5_figure p0 p1 = some z) : mRO l yX5_figure (wM yX5_figure cX5_figure 2 (some .int)) { frames := 0, cells := 0, slots := 0, locals := 0 } G (e0) 0 q v [.int p0, .int p1] (qI z) := by
  refine xRO (cc := cX5_figure) (maxL := 2) (ret := (some .int)) (by decide) rfl (Nat.le_of_ble_eq_true rfl) ?_
  intro p e s m below meth c ls A hC hr hlk h hl
  have hx := hC.1
  have hb := hC.2.1
  have hl : lv_has ls 2 [(0, .int p0), (1, .int p1)] := hl
  unfold m_X5_figure at hf
  obtain ⟨H, hH⟩ : ∃ H, H = s.heap := ⟨_, rfl⟩
  obtain ⟨locs, hlo⟩ : ∃ x : List Loc, x = [] := ⟨_, rfl⟩
  have h : ho G (e0) 0 q v A s H locs := by rw [hH, hlo]; exact h
  rw [← hlo, ← hH]
  clear hH hlo
  refine lv_iload_n hx hb dX5_figure_0 rfl (lv_at hl 0 rfl) ?_
  refine lv_bipush (v := (48 : Int32)) hx hb dX5_figure_1 (by decide) ?_
  obtain ⟨j1, ej1, hf⟩ := lt_e hf
  have hj1 : ∀ (uu : Unit) (H : Heap) (locs : List Loc), ho G (e0) 0 q v A s H locs → ∀ (ls : Array Slot), lv_has ls 2 [(0, .int p0), (1, .int p1)] → j1 uu = some z → W p l e { frames := 0, cells := 0, slots := 0, locals := 0 } s m [.int p0, .int p1].toArray below meth c H locs 0 0 (MQ below ((qI z) (fun _ => True) A) [.int p0, .int p1].toArray s 0 0 A) (F0 m 17 ls []) := by
    intro uu H locs h ls hl hf
    rw [ej1] at hf
    refine lv_iload_n hx hb dX5_figure_17 rfl (lv_at hl 1 rfl) ?_
    refine lv_bipush (v := (16 : Int32)) hx hb dX5_figure_18 (by decide) ?_
    obtain ⟨j2, ej2, hf⟩ := lt_e hf
    have hj2 : ∀ (uu : Unit) (H : Heap) (locs : List Loc), ho G (e0) 0 q v A s H locs → ∀ (ls : Array Slot), lv_has ls 2 [] → j2 uu = some z → W p l e { frames := 0, cells := 0, slots := 0, locals := 0 } s m [.int p0, .int p1].toArray below meth c H locs 0 0 (MQ below ((qI z) (fun _ => True) A) [.int p0, .int p1].toArray s 0 0 A) (F0 m 45 ls []) := by
      intro uu H locs h ls hl hf
      rw [ej2] at hf
      refine lv_iconst (v := (-1 : Int32)) hx hb dX5_figure_45 (by decide) ?_
      have hf := sm_e hf
      exact oiret hC hr hlk h (by rw [← hf]) dX5_figure_46
    refine lv_icmp_ne (tgt := 45) hx hb dX5_figure_20 (by decide) (fun c3 => ?_) (fun c3 => ?_)
    · have hf := it_f c3 hf
      exact hj2 () H locs h ls (lv_sub hl [] rfl) hf
    · have hf := it_t c3 hf
      refine lv_iload_n hx hb dX5_figure_23 rfl (lv_at hl 0 rfl) ?_
      refine lv_bipush (v := (97 : Int32)) hx hb dX5_figure_24 (by decide) ?_
      refine lv_icmp_lt (tgt := 45) hx hb dX5_figure_26 (by decide) (fun c4 => ?_) (fun c4 => ?_)
      · have hf := it_t c4 hf
        exact hj2 () H locs h ls (lv_sub hl [] rfl) hf
      · have hf := it_f c4 hf
        refine lv_iload_n hx hb dX5_figure_29 rfl (lv_at hl 0 rfl) ?_
        refine lv_bipush (v := (102 : Int32)) hx hb dX5_figure_30 (by decide) ?_
        refine lv_icmp_gt (tgt := 45) hx hb dX5_figure_32 (by decide) (fun c5 => ?_) (fun c5 => ?_)
        · have hf := it_t c5 hf
          exact hj2 () H locs h ls (lv_sub hl [] rfl) hf
        · have hf := it_f c5 hf
          refine lv_iload_n hx hb dX5_figure_35 rfl (lv_at hl 0 rfl) ?_
          refine lv_bipush (v := (97 : Int32)) hx hb dX5_figure_36 (by decide) ?_
          refine lv_isub hx hb dX5_figure_38 ?_
          refine lv_bipush (v := (10 : Int32)) hx hb dX5_figure_39 (by decide) ?_
          refine lv_iadd hx hb dX5_figure_41 ?_
          refine lv_goto (tgt := 46) hx hb dX5_figure_42 (by decide) ?_
          have hf := sm_e hf
          exact oiret hC hr hlk h (by rw [← hf]) dX5_figure_46
  refine lv_icmp_lt (tgt := 17) hx hb dX5_figure_3 (by decide) (fun c6 => ?_) (fun c6 => ?_)
  · have hf := it_t c6 hf
    exact hj1 () H locs h ls (lv_sub hl [0, 1] rfl) hf
  · have hf := it_f c6 hf
    refine lv_iload_n hx hb dX5_figure_6 rfl (lv_at hl 0 rfl) ?_
    refine lv_bipush (v := (57 : Int32)) hx hb dX5_figure_7 (by decide) ?_
    refine lv_icmp_gt (tgt := 17) hx hb dX5_figure_9 (by decide) (fun c7 => ?_) (fun c7 => ?_)
    · have hf := it_t c7 hf
      exact hj1 () H locs h ls (lv_sub hl [0, 1] rfl) hf
    · have hf := it_f c7 hf
      refine lv_iload_n hx hb dX5_figure_12 rfl (lv_at hl 0 rfl) ?_
      refine lv_bipush (v := (48 : Int32)) hx hb dX5_figure_13 (by decide) ?_
      refine lv_isub hx hb dX5_figure_15 ?_
      have hf := sm_e hf
      exact oiret hC hr hlk h (by rw [← hf]) dX5_figure_16
def m_X5_endsValue (v : xSt) (p1 : Int32) : Option (Int32 × xSt) := ob (m_X5_figure p1 (16 : Int32)) (fun r2 => (if r2 = (-1 : Int32) then some ((0 : Int32), v) else ob (m_X4_add (sh 1 v) (((v 0 5) * (16 : Int32)) + r2)) (fun r5 => lt (pu 1 2 v r5) (fun v6 => lt (st2 v6 0 0 (5 : Int32)) (fun v7 => some ((1 : Int32), v7))))))
set_option maxHeartbeats 4000000 in
set_option maxRecDepth 100000 in
theorem c_X5_endsValue (l : Launch) (G : xGl) (q : Nat → Nat) (v : xSt) (p1 : Int32) {z : (Int32 × xSt)} (hf : m_X5_endsValue v p1 = some z) : mRW l yX5_endsValue (wM yX5_endsValue cX5_endsValue 3 (some .boolean)) { frames := 1, cells := 0, slots := 0, locals := 21 } G (eScribe G) 3 q v [.ref (q 0), .int p1] (qZ z.1) z.2 := by
  refine xRW (cc := cX5_endsValue) (maxL := 3) (ret := (some .boolean)) (by decide) rfl (Nat.le_of_ble_eq_true rfl) ?_
  intro p e s m below meth c ls A hC hr hlk h hl
  have hx := hC.1
  have hb := hC.2.1
  have hl : lv_has ls 3 [(0, .ref (q 0)), (1, .int p1)] := hl
  unfold m_X5_endsValue at hf
  obtain ⟨H, hH⟩ : ∃ H, H = s.heap := ⟨_, rfl⟩
  obtain ⟨locs, hlo⟩ : ∃ x : List Loc, x = [] := ⟨_, rfl⟩
  have h : hg G (eScribe G) 3 q v A s H locs := by rw [hH, hlo]; exact h
  rw [← hlo, ← hH]
  clear hH hlo
  refine lv_iload_n hx hb dX5_endsValue_0 rfl (lv_at hl 1 rfl) ?_
  refine lv_bipush (v := (16 : Int32)) hx hb dX5_endsValue_1 (by decide) ?_
  obtain ⟨r2, hy1, hf⟩ := ob_e hf
  refine xiG h (va_runS (As := [.int p1, .int (16 : Int32)]) (rest := []) hC (c_X5_figure l G q v p1 (16 : Int32) hy1 H.size) (xcwS hC lk_X5_64 in_X5 co_X5_figure st_X5_figure rfl rfl dd_X5_figure ⟨Nat.le_of_ble_eq_true rfl, Nat.le_of_ble_eq_true rfl⟩) (preSN h.o [.int p1, .int (16 : Int32)]) rfl rfl hl.1 rfl (lv_room (Nat.le_of_ble_eq_true rfl)) dX5_endsValue_3 ⟨Nat.zero_le _, Nat.zero_le _⟩) (fun H locs h => ?_)
  refine lv_istore_n (lv' := [(2, .int r2), (0, .ref (q 0)), (1, .int p1)]) hx hb dX5_endsValue_6 rfl hl (by decide) rfl (fun ls hl => ?_)
  refine lv_iload_n hx hb dX5_endsValue_7 rfl (lv_at hl 0 rfl) ?_
  refine lv_iconst (v := (-1 : Int32)) hx hb dX5_endsValue_8 (by decide) ?_
  refine lv_icmp_ne (tgt := 14) hx hb dX5_endsValue_9 (by decide) (fun c3 => ?_) (fun c3 => ?_)
  · have hf := it_f c3 hf
    refine lv_aload_n hx hb dX5_endsValue_14 rfl (lv_at hl 1 rfl) ?_
    refine xget hC h.o (C := RX5) (T := TX5) (N := 6) (wM_us uw_X5) 0 (Nat.le_of_ble_eq_true rfl) eScribe_0 rfl 4 (by decide) (wM_in fl_X5_28) rfl dX5_endsValue_15 ?_
    refine lv_aload_n hx hb dX5_endsValue_18 rfl (lv_at hl 1 rfl) ?_
    refine xget hC h.o (C := RX5) (T := TX5) (N := 6) (wM_us uw_X5) 0 (Nat.le_of_ble_eq_true rfl) eScribe_0 rfl 5 (by decide) (wM_in fl_X5_32) rfl dX5_endsValue_19 ?_
    refine lv_bipush (v := (16 : Int32)) hx hb dX5_endsValue_22 (by decide) ?_
    refine lv_imul hx hb dX5_endsValue_24 ?_
    refine lv_iload_n hx hb dX5_endsValue_25 rfl (lv_at hl 0 rfl) ?_
    refine lv_iadd hx hb dX5_endsValue_26 ?_
    obtain ⟨r5, hy4, hf⟩ := ob_e hf
    refine xv1 h 1 2 sScribe_1 (Nat.le_of_ble_eq_true rfl) (va_runV (As := [.int (((v 0 5) * (16 : Int32)) + r2)]) (rest := []) hC (c_X4_add l G (sh 1 q) (sh 1 v) (((v 0 5) * (16 : Int32)) + r2) hy4 H.size) (xcwV hC lk_X5_76 in_X4 co_X4_add im_X4_add se_X4_add rfl rfl dd_X4_add ⟨Nat.le_of_ble_eq_true rfl, Nat.le_of_ble_eq_true rfl⟩) (preV1 h 1 2 sScribe_1 (Nat.le_of_ble_eq_true rfl) (Nat.le_of_ble_eq_true rfl) eScribe_1 rfl [.int (((v 0 5) * (16 : Int32)) + r2)]) rfl rfl hl.1 rfl (lv_room (Nat.le_of_ble_eq_true rfl)) dX5_endsValue_27 ⟨Nat.zero_le _, Nat.zero_le _⟩) (fun H locs h => ?_)
    obtain ⟨v6, ev6, hf⟩ := lt_e hf
    rw [← ev6] at h
    refine lv_aload_n hx hb dX5_endsValue_30 rfl (lv_at hl 1 rfl) ?_
    refine lv_iconst (v := (5 : Int32)) hx hb dX5_endsValue_31 (by decide) ?_
    refine xput hC h (C := RX5) (T := TX5) (N := 6) (wM_us uw_X5) tyX5_ok nmX5 0 (Nat.le_of_ble_eq_true rfl) eScribe_0 rfl 0 (by decide) (wM_in fl_X5_11) rfl (ty := .int) (tyX5_ok 0 (by decide)) rfl rfl (Nat.le_of_ble_eq_true rfl) (eScribe_0.trans rfl) dX5_endsValue_32 (fun H locs h => ?_)
    obtain ⟨v7, ev7, hf⟩ := lt_e hf
    rw [← ev7] at h
    refine lv_iconst (v := (1 : Int32)) hx hb dX5_endsValue_35 (by decide) ?_
    have hf := sm_e hf
    exact xzret hC hr hlk h (by rw [← hf]) (by decide) (by rw [← hf]) dX5_endsValue_36
  · have hf := it_t c3 hf
    refine lv_iconst (v := (0 : Int32)) hx hb dX5_endsValue_12 (by decide) ?_
    have hf := sm_e hf
    exact xzret hC hr hlk h (by rw [← hf]) (by decide) (by rw [← hf]) dX5_endsValue_13
def m_X5_mostNumber (v : xSt) : Option (Int32) := (if (v 0 1) = (119 : Int32) then some (255 : Int32) else (if (v 0 1) = (101 : Int32) then some (7 : Int32) else some (99 : Int32)))
set_option maxHeartbeats 4000000 in
set_option maxRecDepth 100000 in
theorem c_X5_mostNumber (l : Launch) (G : xGl) (q : Nat → Nat) (v : xSt) {z : (Int32)} (hf : m_X5_mostNumber v = some z) : mRO l yX5_mostNumber (wM yX5_mostNumber cX5_mostNumber 1 (some .int)) { frames := 0, cells := 0, slots := 0, locals := 0 } G (eScribe G) 3 q v [.ref (q 0)] (qI z) := by
  refine xRO (cc := cX5_mostNumber) (maxL := 1) (ret := (some .int)) (by decide) rfl (Nat.le_of_ble_eq_true rfl) ?_
  intro p e s m below meth c ls A hC hr hlk h hl
  have hx := hC.1
  have hb := hC.2.1
  have hl : lv_has ls 1 [(0, .ref (q 0))] := hl
  unfold m_X5_mostNumber at hf
  obtain ⟨H, hH⟩ : ∃ H, H = s.heap := ⟨_, rfl⟩
  obtain ⟨locs, hlo⟩ : ∃ x : List Loc, x = [] := ⟨_, rfl⟩
  have h : ho G (eScribe G) 3 q v A s H locs := by rw [hH, hlo]; exact h
  rw [← hlo, ← hH]
  clear hH hlo
  refine lv_aload_n hx hb dX5_mostNumber_0 rfl (lv_at hl 0 rfl) ?_
  refine xget hC h.o (C := RX5) (T := TX5) (N := 6) (wM_us uw_X5) 0 (Nat.le_of_ble_eq_true rfl) eScribe_0 rfl 1 (by decide) (wM_in fl_X5_15) rfl dX5_mostNumber_1 ?_
  refine lv_bipush (v := (119 : Int32)) hx hb dX5_mostNumber_4 (by decide) ?_
  refine lv_icmp_ne (tgt := 13) hx hb dX5_mostNumber_6 (by decide) (fun c1 => ?_) (fun c1 => ?_)
  · have hf := it_f c1 hf
    refine lv_aload_n hx hb dX5_mostNumber_13 rfl (lv_at hl 0 rfl) ?_
    refine xget hC h.o (C := RX5) (T := TX5) (N := 6) (wM_us uw_X5) 0 (Nat.le_of_ble_eq_true rfl) eScribe_0 rfl 1 (by decide) (wM_in fl_X5_15) rfl dX5_mostNumber_14 ?_
    refine lv_bipush (v := (101 : Int32)) hx hb dX5_mostNumber_17 (by decide) ?_
    refine lv_icmp_ne (tgt := 27) hx hb dX5_mostNumber_19 (by decide) (fun c2 => ?_) (fun c2 => ?_)
    · have hf := it_f c2 hf
      refine lv_bipush (v := (99 : Int32)) hx hb dX5_mostNumber_27 (by decide) ?_
      have hf := sm_e hf
      exact oiret hC hr hlk h (by rw [← hf]) dX5_mostNumber_29
    · have hf := it_t c2 hf
      refine lv_bipush (v := (7 : Int32)) hx hb dX5_mostNumber_22 (by decide) ?_
      refine lv_goto (tgt := 29) hx hb dX5_mostNumber_24 (by decide) ?_
      have hf := sm_e hf
      exact oiret hC hr hlk h (by rw [← hf]) dX5_mostNumber_29
  · have hf := it_t c1 hf
    refine lv_sipush (v := (255 : Int32)) hx hb dX5_mostNumber_9 (by decide) ?_
    have hf := sm_e hf
    exact oiret hC hr hlk h (by rw [← hf]) dX5_mostNumber_12
def m_X5_lengthensNumber (v : xSt) (p1 : Int32) : Option (Int32 × xSt) := (if (v 0 2) = 0 then some ((0 : Int32), v) else ob (m_X5_mostNumber v) (fun r3 => (if (((v 0 2) * (10 : Int32)) + p1) ≤ r3 then lt (st2 v 0 2 (((v 0 2) * (10 : Int32)) + p1)) (fun v5 => some ((1 : Int32), v5)) else some ((0 : Int32), v))))
set_option maxHeartbeats 4000000 in
set_option maxRecDepth 100000 in
theorem c_X5_lengthensNumber (l : Launch) (G : xGl) (q : Nat → Nat) (v : xSt) (p1 : Int32) {z : (Int32 × xSt)} (hf : m_X5_lengthensNumber v p1 = some z) : mRW l yX5_lengthensNumber (wM yX5_lengthensNumber cX5_lengthensNumber 3 (some .boolean)) { frames := 1, cells := 0, slots := 0, locals := 20 } G (eScribe G) 3 q v [.ref (q 0), .int p1] (qZ z.1) z.2 := by
  refine xRW (cc := cX5_lengthensNumber) (maxL := 3) (ret := (some .boolean)) (by decide) rfl (Nat.le_of_ble_eq_true rfl) ?_
  intro p e s m below meth c ls A hC hr hlk h hl
  have hx := hC.1
  have hb := hC.2.1
  have hl : lv_has ls 3 [(0, .ref (q 0)), (1, .int p1)] := hl
  unfold m_X5_lengthensNumber at hf
  obtain ⟨H, hH⟩ : ∃ H, H = s.heap := ⟨_, rfl⟩
  obtain ⟨locs, hlo⟩ : ∃ x : List Loc, x = [] := ⟨_, rfl⟩
  have h : hg G (eScribe G) 3 q v A s H locs := by rw [hH, hlo]; exact h
  rw [← hlo, ← hH]
  clear hH hlo
  refine lv_aload_n hx hb dX5_lengthensNumber_0 rfl (lv_at hl 0 rfl) ?_
  refine xget hC h.o (C := RX5) (T := TX5) (N := 6) (wM_us uw_X5) 0 (Nat.le_of_ble_eq_true rfl) eScribe_0 rfl 2 (by decide) (wM_in fl_X5_19) rfl dX5_lengthensNumber_1 ?_
  refine lv_bipush (v := (10 : Int32)) hx hb dX5_lengthensNumber_4 (by decide) ?_
  refine lv_imul hx hb dX5_lengthensNumber_6 ?_
  refine lv_iload_n hx hb dX5_lengthensNumber_7 rfl (lv_at hl 1 rfl) ?_
  refine lv_iadd hx hb dX5_lengthensNumber_8 ?_
  refine lv_istore_n (lv' := [(2, .int (((v 0 2) * (10 : Int32)) + p1)), (0, .ref (q 0)), (1, .int p1)]) hx hb dX5_lengthensNumber_9 rfl hl (by decide) rfl (fun ls hl => ?_)
  refine lv_aload_n hx hb dX5_lengthensNumber_10 rfl (lv_at hl 1 rfl) ?_
  refine xget hC h.o (C := RX5) (T := TX5) (N := 6) (wM_us uw_X5) 0 (Nat.le_of_ble_eq_true rfl) eScribe_0 rfl 2 (by decide) (wM_in fl_X5_19) rfl dX5_lengthensNumber_11 ?_
  refine lv_if_eq (tgt := 25) hx hb dX5_lengthensNumber_14 (by decide) (fun c1 => ?_) (fun c1 => ?_)
  · have hf := it_t c1 hf
    refine lv_iconst (v := (0 : Int32)) hx hb dX5_lengthensNumber_25 (by decide) ?_
    have hf := sm_e hf
    exact xzret hC hr hlk h (by rw [← hf]) (by decide) (by rw [← hf]) dX5_lengthensNumber_26
  · have hf := it_f c1 hf
    refine lv_iload_n hx hb dX5_lengthensNumber_17 rfl (lv_at hl 0 rfl) ?_
    refine lv_aload_n hx hb dX5_lengthensNumber_18 rfl (lv_at hl 1 rfl) ?_
    obtain ⟨r3, hy2, hf⟩ := ob_e hf
    refine xiG h (va_runV (As := []) (rest := [.int (((v 0 2) * (10 : Int32)) + p1)]) hC (c_X5_mostNumber l G q v hy2 H.size) (xcwV hC lk_X5_68 in_X5 co_X5_mostNumber im_X5_mostNumber se_X5_mostNumber rfl rfl dd_X5_mostNumber ⟨Nat.le_of_ble_eq_true rfl, Nat.le_of_ble_eq_true rfl⟩) (preVO0 h.o (Nat.le_of_ble_eq_true rfl) eScribe_0 rfl []) rfl rfl hl.1 rfl (lv_room (Nat.le_of_ble_eq_true rfl)) dX5_lengthensNumber_19 ⟨Nat.zero_le _, Nat.zero_le _⟩) (fun H locs h => ?_)
    refine lv_icmp_le (tgt := 27) hx hb dX5_lengthensNumber_22 (by decide) (fun c4 => ?_) (fun c4 => ?_)
    · have hf := it_t c4 hf
      refine lv_aload_n hx hb dX5_lengthensNumber_27 rfl (lv_at hl 1 rfl) ?_
      refine lv_iload_n hx hb dX5_lengthensNumber_28 rfl (lv_at hl 0 rfl) ?_
      refine xput hC h (C := RX5) (T := TX5) (N := 6) (wM_us uw_X5) tyX5_ok nmX5 0 (Nat.le_of_ble_eq_true rfl) eScribe_0 rfl 2 (by decide) (wM_in fl_X5_19) rfl (ty := .int) (tyX5_ok 2 (by decide)) rfl rfl (Nat.le_of_ble_eq_true rfl) (eScribe_0.trans rfl) dX5_lengthensNumber_29 (fun H locs h => ?_)
      obtain ⟨v5, ev5, hf⟩ := lt_e hf
      rw [← ev5] at h
      refine lv_iconst (v := (1 : Int32)) hx hb dX5_lengthensNumber_32 (by decide) ?_
      have hf := sm_e hf
      exact xzret hC hr hlk h (by rw [← hf]) (by decide) (by rw [← hf]) dX5_lengthensNumber_33
    · have hf := it_f c4 hf
      refine lv_iconst (v := (0 : Int32)) hx hb dX5_lengthensNumber_25 (by decide) ?_
      have hf := sm_e hf
      exact xzret hC hr hlk h (by rw [← hf]) (by decide) (by rw [← hf]) dX5_lengthensNumber_26
def m_X5_goesOnBehindDigit (v : xSt) (p1 : Int32) : Option (Int32 × xSt) := ob (m_X5_figure p1 (10 : Int32)) (fun r2 => (if r2 = (-1 : Int32) then (if (v 0 1) = (119 : Int32) then lt (st2 v 0 0 (3 : Int32)) (fun v5 => (if p1 = (58 : Int32) then some ((1 : Int32), v5) else some ((0 : Int32), v5))) else (if (v 0 1) = (101 : Int32) then ob (m_X5_endsPart v p1 (1 : Int32)) (fun r13 => lt (r13.2) (fun v15 => some (r13.1, v15))) else ob (m_X5_endsPart v p1 (0 : Int32)) (fun r9 => lt (r9.2) (fun v11 => some (r9.1, v11))))) else ob (m_X5_lengthensNumber v r2) (fun r17 => lt (r17.2) (fun v19 => some (r17.1, v19)))))
set_option maxHeartbeats 4000000 in
set_option maxRecDepth 100000 in
theorem c_X5_goesOnBehindDigit (l : Launch) (G : xGl) (q : Nat → Nat) (v : xSt) (p1 : Int32) {z : (Int32 × xSt)} (hf : m_X5_goesOnBehindDigit v p1 = some z) : mRW l yX5_goesOnBehindDigit (wM yX5_goesOnBehindDigit cX5_goesOnBehindDigit 3 (some .boolean)) { frames := 2, cells := 0, slots := 0, locals := 42 } G (eScribe G) 3 q v [.ref (q 0), .int p1] (qZ z.1) z.2 := by
  refine xRW (cc := cX5_goesOnBehindDigit) (maxL := 3) (ret := (some .boolean)) (by decide) rfl (Nat.le_of_ble_eq_true rfl) ?_
  intro p e s m below meth c ls A hC hr hlk h hl
  have hx := hC.1
  have hb := hC.2.1
  have hl : lv_has ls 3 [(0, .ref (q 0)), (1, .int p1)] := hl
  unfold m_X5_goesOnBehindDigit at hf
  obtain ⟨H, hH⟩ : ∃ H, H = s.heap := ⟨_, rfl⟩
  obtain ⟨locs, hlo⟩ : ∃ x : List Loc, x = [] := ⟨_, rfl⟩
  have h : hg G (eScribe G) 3 q v A s H locs := by rw [hH, hlo]; exact h
  rw [← hlo, ← hH]
  clear hH hlo
  refine lv_iload_n hx hb dX5_goesOnBehindDigit_0 rfl (lv_at hl 1 rfl) ?_
  refine lv_bipush (v := (10 : Int32)) hx hb dX5_goesOnBehindDigit_1 (by decide) ?_
  obtain ⟨r2, hy1, hf⟩ := ob_e hf
  refine xiG h (va_runS (As := [.int p1, .int (10 : Int32)]) (rest := []) hC (c_X5_figure l G q v p1 (10 : Int32) hy1 H.size) (xcwS hC lk_X5_64 in_X5 co_X5_figure st_X5_figure rfl rfl dd_X5_figure ⟨Nat.le_of_ble_eq_true rfl, Nat.le_of_ble_eq_true rfl⟩) (preSN h.o [.int p1, .int (10 : Int32)]) rfl rfl hl.1 rfl (lv_room (Nat.le_of_ble_eq_true rfl)) dX5_goesOnBehindDigit_3 ⟨Nat.zero_le _, Nat.zero_le _⟩) (fun H locs h => ?_)
  refine lv_istore_n (lv' := [(2, .int r2), (0, .ref (q 0)), (1, .int p1)]) hx hb dX5_goesOnBehindDigit_6 rfl hl (by decide) rfl (fun ls hl => ?_)
  refine lv_iload_n hx hb dX5_goesOnBehindDigit_7 rfl (lv_at hl 0 rfl) ?_
  refine lv_iconst (v := (-1 : Int32)) hx hb dX5_goesOnBehindDigit_8 (by decide) ?_
  refine lv_icmp_eq (tgt := 18) hx hb dX5_goesOnBehindDigit_9 (by decide) (fun c3 => ?_) (fun c3 => ?_)
  · have hf := it_t c3 hf
    refine lv_aload_n hx hb dX5_goesOnBehindDigit_18 rfl (lv_at hl 1 rfl) ?_
    refine xget hC h.o (C := RX5) (T := TX5) (N := 6) (wM_us uw_X5) 0 (Nat.le_of_ble_eq_true rfl) eScribe_0 rfl 1 (by decide) (wM_in fl_X5_15) rfl dX5_goesOnBehindDigit_19 ?_
    refine lv_bipush (v := (119 : Int32)) hx hb dX5_goesOnBehindDigit_22 (by decide) ?_
    refine lv_icmp_eq (tgt := 47) hx hb dX5_goesOnBehindDigit_24 (by decide) (fun c4 => ?_) (fun c4 => ?_)
    · have hf := it_t c4 hf
      refine lv_aload_n hx hb dX5_goesOnBehindDigit_47 rfl (lv_at hl 1 rfl) ?_
      refine lv_iconst (v := (3 : Int32)) hx hb dX5_goesOnBehindDigit_48 (by decide) ?_
      refine xput hC h (C := RX5) (T := TX5) (N := 6) (wM_us uw_X5) tyX5_ok nmX5 0 (Nat.le_of_ble_eq_true rfl) eScribe_0 rfl 0 (by decide) (wM_in fl_X5_11) rfl (ty := .int) (tyX5_ok 0 (by decide)) rfl rfl (Nat.le_of_ble_eq_true rfl) (eScribe_0.trans rfl) dX5_goesOnBehindDigit_49 (fun H locs h => ?_)
      obtain ⟨v5, ev5, hf⟩ := lt_e hf
      rw [← ev5] at h
      refine lv_iload_n hx hb dX5_goesOnBehindDigit_52 rfl (lv_at hl 2 rfl) ?_
      refine lv_bipush (v := (58 : Int32)) hx hb dX5_goesOnBehindDigit_53 (by decide) ?_
      refine lv_icmp_ne (tgt := 62) hx hb dX5_goesOnBehindDigit_55 (by decide) (fun c6 => ?_) (fun c6 => ?_)
      · have hf := it_f c6 hf
        refine lv_iconst (v := (0 : Int32)) hx hb dX5_goesOnBehindDigit_62 (by decide) ?_
        have hf := sm_e hf
        exact xzret hC hr hlk h (by rw [← hf]) (by decide) (by rw [← hf]) dX5_goesOnBehindDigit_63
      · have hf := it_t c6 hf
        refine lv_iconst (v := (1 : Int32)) hx hb dX5_goesOnBehindDigit_58 (by decide) ?_
        refine lv_goto (tgt := 63) hx hb dX5_goesOnBehindDigit_59 (by decide) ?_
        have hf := sm_e hf
        exact xzret hC hr hlk h (by rw [← hf]) (by decide) (by rw [← hf]) dX5_goesOnBehindDigit_63
    · have hf := it_f c4 hf
      refine lv_aload_n hx hb dX5_goesOnBehindDigit_27 rfl (lv_at hl 1 rfl) ?_
      refine lv_iload_n hx hb dX5_goesOnBehindDigit_28 rfl (lv_at hl 2 rfl) ?_
      refine lv_aload_n hx hb dX5_goesOnBehindDigit_29 rfl (lv_at hl 1 rfl) ?_
      refine xget hC h.o (C := RX5) (T := TX5) (N := 6) (wM_us uw_X5) 0 (Nat.le_of_ble_eq_true rfl) eScribe_0 rfl 1 (by decide) (wM_in fl_X5_15) rfl dX5_goesOnBehindDigit_30 ?_
      refine lv_bipush (v := (101 : Int32)) hx hb dX5_goesOnBehindDigit_33 (by decide) ?_
      refine lv_icmp_ne (tgt := 42) hx hb dX5_goesOnBehindDigit_35 (by decide) (fun c7 => ?_) (fun c7 => ?_)
      · have hf := it_f c7 hf
        refine lv_iconst (v := (0 : Int32)) hx hb dX5_goesOnBehindDigit_42 (by decide) ?_
        obtain ⟨r9, hy8, hf⟩ := ob_e hf
        refine xz0 h (va_runV (As := [.int p1, .int (0 : Int32)]) (rest := []) hC (c_X5_endsPart l G q v p1 (0 : Int32) hy8 H.size) (xcwV hC lk_X5_57 in_X5 co_X5_endsPart im_X5_endsPart se_X5_endsPart rfl rfl dd_X5_endsPart ⟨Nat.le_of_ble_eq_true rfl, Nat.le_of_ble_eq_true rfl⟩) (preV0 h (Nat.le_of_ble_eq_true rfl) eScribe_0 rfl [.int p1, .int (0 : Int32)]) rfl rfl hl.1 rfl (lv_room (Nat.le_of_ble_eq_true rfl)) dX5_goesOnBehindDigit_43 ⟨Nat.zero_le _, Nat.zero_le _⟩) (fun H locs hz10 h => ?_)
        obtain ⟨v11, ev11, hf⟩ := lt_e hf
        rw [← ev11] at h
        have hf := sm_e hf
        exact xzret hC hr hlk h (by rw [← hf]) hz10 (by rw [← hf]) dX5_goesOnBehindDigit_46
      · have hf := it_t c7 hf
        refine lv_iconst (v := (1 : Int32)) hx hb dX5_goesOnBehindDigit_38 (by decide) ?_
        refine lv_goto (tgt := 43) hx hb dX5_goesOnBehindDigit_39 (by decide) ?_
        obtain ⟨r13, hy12, hf⟩ := ob_e hf
        refine xz0 h (va_runV (As := [.int p1, .int (1 : Int32)]) (rest := []) hC (c_X5_endsPart l G q v p1 (1 : Int32) hy12 H.size) (xcwV hC lk_X5_57 in_X5 co_X5_endsPart im_X5_endsPart se_X5_endsPart rfl rfl dd_X5_endsPart ⟨Nat.le_of_ble_eq_true rfl, Nat.le_of_ble_eq_true rfl⟩) (preV0 h (Nat.le_of_ble_eq_true rfl) eScribe_0 rfl [.int p1, .int (1 : Int32)]) rfl rfl hl.1 rfl (lv_room (Nat.le_of_ble_eq_true rfl)) dX5_goesOnBehindDigit_43 ⟨Nat.zero_le _, Nat.zero_le _⟩) (fun H locs hz14 h => ?_)
        obtain ⟨v15, ev15, hf⟩ := lt_e hf
        rw [← ev15] at h
        have hf := sm_e hf
        exact xzret hC hr hlk h (by rw [← hf]) hz14 (by rw [← hf]) dX5_goesOnBehindDigit_46
  · have hf := it_f c3 hf
    refine lv_aload_n hx hb dX5_goesOnBehindDigit_12 rfl (lv_at hl 1 rfl) ?_
    refine lv_iload_n hx hb dX5_goesOnBehindDigit_13 rfl (lv_at hl 0 rfl) ?_
    obtain ⟨r17, hy16, hf⟩ := ob_e hf
    refine xz0 h (va_runV (As := [.int r2]) (rest := []) hC (c_X5_lengthensNumber l G q v r2 hy16 H.size) (xcwV hC lk_X5_72 in_X5 co_X5_lengthensNumber im_X5_lengthensNumber se_X5_lengthensNumber rfl rfl dd_X5_lengthensNumber ⟨Nat.le_of_ble_eq_true rfl, Nat.le_of_ble_eq_true rfl⟩) (preV0 h (Nat.le_of_ble_eq_true rfl) eScribe_0 rfl [.int r2]) rfl rfl hl.1 rfl (lv_room (Nat.le_of_ble_eq_true rfl)) dX5_goesOnBehindDigit_14 ⟨Nat.zero_le _, Nat.zero_le _⟩) (fun H locs hz18 h => ?_)
    obtain ⟨v19, ev19, hf⟩ := lt_e hf
    rw [← ev19] at h
    have hf := sm_e hf
    exact xzret hC hr hlk h (by rw [← hf]) hz18 (by rw [← hf]) dX5_goesOnBehindDigit_17
def m_X5_opensValue (v : xSt) (p1 : Int32) : Option (Int32 × xSt) := ob (m_X5_figure p1 (16 : Int32)) (fun r2 => lt (st2 v 0 5 r2) (fun v3 => lt (st2 v3 0 0 (4 : Int32)) (fun v4 => (if (v4 0 5) = (-1 : Int32) then some ((0 : Int32), v4) else some ((1 : Int32), v4)))))
set_option maxHeartbeats 4000000 in
set_option maxRecDepth 100000 in
theorem c_X5_opensValue (l : Launch) (G : xGl) (q : Nat → Nat) (v : xSt) (p1 : Int32) {z : (Int32 × xSt)} (hf : m_X5_opensValue v p1 = some z) : mRW l yX5_opensValue (wM yX5_opensValue cX5_opensValue 2 (some .boolean)) { frames := 1, cells := 0, slots := 0, locals := 21 } G (eScribe G) 3 q v [.ref (q 0), .int p1] (qZ z.1) z.2 := by
  refine xRW (cc := cX5_opensValue) (maxL := 2) (ret := (some .boolean)) (by decide) rfl (Nat.le_of_ble_eq_true rfl) ?_
  intro p e s m below meth c ls A hC hr hlk h hl
  have hx := hC.1
  have hb := hC.2.1
  have hl : lv_has ls 2 [(0, .ref (q 0)), (1, .int p1)] := hl
  unfold m_X5_opensValue at hf
  obtain ⟨H, hH⟩ : ∃ H, H = s.heap := ⟨_, rfl⟩
  obtain ⟨locs, hlo⟩ : ∃ x : List Loc, x = [] := ⟨_, rfl⟩
  have h : hg G (eScribe G) 3 q v A s H locs := by rw [hH, hlo]; exact h
  rw [← hlo, ← hH]
  clear hH hlo
  refine lv_aload_n hx hb dX5_opensValue_0 rfl (lv_at hl 0 rfl) ?_
  refine lv_iload_n hx hb dX5_opensValue_1 rfl (lv_at hl 1 rfl) ?_
  refine lv_bipush (v := (16 : Int32)) hx hb dX5_opensValue_2 (by decide) ?_
  obtain ⟨r2, hy1, hf⟩ := ob_e hf
  refine xiG h (va_runS (As := [.int p1, .int (16 : Int32)]) (rest := [.ref (q 0)]) hC (c_X5_figure l G q v p1 (16 : Int32) hy1 H.size) (xcwS hC lk_X5_64 in_X5 co_X5_figure st_X5_figure rfl rfl dd_X5_figure ⟨Nat.le_of_ble_eq_true rfl, Nat.le_of_ble_eq_true rfl⟩) (preSN h.o [.int p1, .int (16 : Int32)]) rfl rfl hl.1 rfl (lv_room (Nat.le_of_ble_eq_true rfl)) dX5_opensValue_4 ⟨Nat.zero_le _, Nat.zero_le _⟩) (fun H locs h => ?_)
  refine xput hC h (C := RX5) (T := TX5) (N := 6) (wM_us uw_X5) tyX5_ok nmX5 0 (Nat.le_of_ble_eq_true rfl) eScribe_0 rfl 5 (by decide) (wM_in fl_X5_32) rfl (ty := .int) (tyX5_ok 5 (by decide)) rfl rfl (Nat.le_of_ble_eq_true rfl) (eScribe_0.trans rfl) dX5_opensValue_7 (fun H locs h => ?_)
  obtain ⟨v3, ev3, hf⟩ := lt_e hf
  rw [← ev3] at h
  refine lv_aload_n hx hb dX5_opensValue_10 rfl (lv_at hl 0 rfl) ?_
  refine lv_iconst (v := (4 : Int32)) hx hb dX5_opensValue_11 (by decide) ?_
  refine xput hC h (C := RX5) (T := TX5) (N := 6) (wM_us uw_X5) tyX5_ok nmX5 0 (Nat.le_of_ble_eq_true rfl) eScribe_0 rfl 0 (by decide) (wM_in fl_X5_11) rfl (ty := .int) (tyX5_ok 0 (by decide)) rfl rfl (Nat.le_of_ble_eq_true rfl) (eScribe_0.trans rfl) dX5_opensValue_12 (fun H locs h => ?_)
  obtain ⟨v4, ev4, hf⟩ := lt_e hf
  rw [← ev4] at h
  refine lv_aload_n hx hb dX5_opensValue_15 rfl (lv_at hl 0 rfl) ?_
  refine xget hC h.o (C := RX5) (T := TX5) (N := 6) (wM_us uw_X5) 0 (Nat.le_of_ble_eq_true rfl) eScribe_0 rfl 5 (by decide) (wM_in fl_X5_32) rfl dX5_opensValue_16 ?_
  refine lv_iconst (v := (-1 : Int32)) hx hb dX5_opensValue_19 (by decide) ?_
  refine lv_icmp_eq (tgt := 27) hx hb dX5_opensValue_20 (by decide) (fun c5 => ?_) (fun c5 => ?_)
  · have hf := it_t c5 hf
    refine lv_iconst (v := (0 : Int32)) hx hb dX5_opensValue_27 (by decide) ?_
    have hf := sm_e hf
    exact xzret hC hr hlk h (by rw [← hf]) (by decide) (by rw [← hf]) dX5_opensValue_28
  · have hf := it_f c5 hf
    refine lv_iconst (v := (1 : Int32)) hx hb dX5_opensValue_23 (by decide) ?_
    refine lv_goto (tgt := 28) hx hb dX5_opensValue_24 (by decide) ?_
    have hf := sm_e hf
    exact xzret hC hr hlk h (by rw [← hf]) (by decide) (by rw [← hf]) dX5_opensValue_28
def m_X5_goesOnBehindValue (v : xSt) (p1 : Int32) : Option (Int32 × xSt) := lt (fun (_ : Unit) => ob (m_X5_endsPart v p1 (1 : Int32)) (fun r3 => lt (r3.2) (fun v5 => some (r3.1, v5)))) (fun j1 => (if (8 : Int32) ≤ (v 1 1) then j1 () else ob (m_X5_figure p1 (16 : Int32)) (fun r8 => (if r8 = (-1 : Int32) then j1 () else ob (m_X5_opensValue v p1) (fun r11 => lt (r11.2) (fun v13 => some (r11.1, v13)))))))
set_option maxHeartbeats 4000000 in
set_option maxRecDepth 100000 in
theorem c_X5_goesOnBehindValue (l : Launch) (G : xGl) (q : Nat → Nat) (v : xSt) (p1 : Int32) {z : (Int32 × xSt)} (hf : m_X5_goesOnBehindValue v p1 = some z) : mRW l yX5_goesOnBehindValue (wM yX5_goesOnBehindValue cX5_goesOnBehindValue 2 (some .boolean)) { frames := 2, cells := 0, slots := 0, locals := 42 } G (eScribe G) 3 q v [.ref (q 0), .int p1] (qZ z.1) z.2 := by
  refine xRW (cc := cX5_goesOnBehindValue) (maxL := 2) (ret := (some .boolean)) (by decide) rfl (Nat.le_of_ble_eq_true rfl) ?_
  intro p e s m below meth c ls A hC hr hlk h hl
  have hx := hC.1
  have hb := hC.2.1
  have hl : lv_has ls 2 [(0, .ref (q 0)), (1, .int p1)] := hl
  unfold m_X5_goesOnBehindValue at hf
  obtain ⟨H, hH⟩ : ∃ H, H = s.heap := ⟨_, rfl⟩
  obtain ⟨locs, hlo⟩ : ∃ x : List Loc, x = [] := ⟨_, rfl⟩
  have h : hg G (eScribe G) 3 q v A s H locs := by rw [hH, hlo]; exact h
  rw [← hlo, ← hH]
  clear hH hlo
  refine lv_aload_n hx hb dX5_goesOnBehindValue_0 rfl (lv_at hl 0 rfl) ?_
  refine xget hC h.o (C := RX5) (T := TX5) (N := 6) (wM_us uw_X5) 0 (Nat.le_of_ble_eq_true rfl) eScribe_0 rfl 4 (by decide) (wM_in fl_X5_28) rfl dX5_goesOnBehindValue_1 ?_
  refine xget hC h.o (C := RX4) (T := TX4) (N := 2) (wM_us uw_X4) 1 (Nat.le_of_ble_eq_true rfl) eScribe_1 rfl 1 (by decide) (wM_in fl_X5_61) rfl dX5_goesOnBehindValue_4 ?_
  refine lv_bipush (v := (8 : Int32)) hx hb dX5_goesOnBehindValue_7 (by decide) ?_
  obtain ⟨j1, ej1, hf⟩ := lt_e hf
  have hj1 : ∀ (uu : Unit) (H : Heap) (locs : List Loc), hg G (eScribe G) 3 q v A s H locs → ∀ (ls : Array Slot), lv_has ls 2 [(0, .ref (q 0)), (1, .int p1)] → j1 uu = some z → W p l e { frames := 2, cells := 0, slots := 0, locals := 42 } s m [.ref (q 0), .int p1].toArray below meth c H locs 0 0 (MQ below ((qZ z.1) (cB G (eScribe G) 3 q z.2 A) A) [.ref (q 0), .int p1].toArray s 0 0 A) (F0 m 30 ls []) := by
    intro uu H locs h ls hl hf
    rw [ej1] at hf
    refine lv_aload_n hx hb dX5_goesOnBehindValue_30 rfl (lv_at hl 0 rfl) ?_
    refine lv_iload_n hx hb dX5_goesOnBehindValue_31 rfl (lv_at hl 1 rfl) ?_
    refine lv_iconst (v := (1 : Int32)) hx hb dX5_goesOnBehindValue_32 (by decide) ?_
    obtain ⟨r3, hy2, hf⟩ := ob_e hf
    refine xz0 h (va_runV (As := [.int p1, .int (1 : Int32)]) (rest := []) hC (c_X5_endsPart l G q v p1 (1 : Int32) hy2 H.size) (xcwV hC lk_X5_57 in_X5 co_X5_endsPart im_X5_endsPart se_X5_endsPart rfl rfl dd_X5_endsPart ⟨Nat.le_of_ble_eq_true rfl, Nat.le_of_ble_eq_true rfl⟩) (preV0 h (Nat.le_of_ble_eq_true rfl) eScribe_0 rfl [.int p1, .int (1 : Int32)]) rfl rfl hl.1 rfl (lv_room (Nat.le_of_ble_eq_true rfl)) dX5_goesOnBehindValue_33 ⟨Nat.zero_le _, Nat.zero_le _⟩) (fun H locs hz4 h => ?_)
    obtain ⟨v5, ev5, hf⟩ := lt_e hf
    rw [← ev5] at h
    have hf := sm_e hf
    exact xzret hC hr hlk h (by rw [← hf]) hz4 (by rw [← hf]) dX5_goesOnBehindValue_36
  refine lv_icmp_ge (tgt := 30) hx hb dX5_goesOnBehindValue_9 (by decide) (fun c6 => ?_) (fun c6 => ?_)
  · have hf := it_t c6 hf
    exact hj1 () H locs h ls (lv_sub hl [0, 1] rfl) hf
  · have hf := it_f c6 hf
    refine lv_iload_n hx hb dX5_goesOnBehindValue_12 rfl (lv_at hl 1 rfl) ?_
    refine lv_bipush (v := (16 : Int32)) hx hb dX5_goesOnBehindValue_13 (by decide) ?_
    obtain ⟨r8, hy7, hf⟩ := ob_e hf
    refine xiG h (va_runS (As := [.int p1, .int (16 : Int32)]) (rest := []) hC (c_X5_figure l G q v p1 (16 : Int32) hy7 H.size) (xcwS hC lk_X5_64 in_X5 co_X5_figure st_X5_figure rfl rfl dd_X5_figure ⟨Nat.le_of_ble_eq_true rfl, Nat.le_of_ble_eq_true rfl⟩) (preSN h.o [.int p1, .int (16 : Int32)]) rfl rfl hl.1 rfl (lv_room (Nat.le_of_ble_eq_true rfl)) dX5_goesOnBehindValue_15 ⟨Nat.zero_le _, Nat.zero_le _⟩) (fun H locs h => ?_)
    refine lv_iconst (v := (-1 : Int32)) hx hb dX5_goesOnBehindValue_18 (by decide) ?_
    refine lv_icmp_eq (tgt := 30) hx hb dX5_goesOnBehindValue_19 (by decide) (fun c9 => ?_) (fun c9 => ?_)
    · have hf := it_t c9 hf
      exact hj1 () H locs h ls (lv_sub hl [0, 1] rfl) hf
    · have hf := it_f c9 hf
      refine lv_aload_n hx hb dX5_goesOnBehindValue_22 rfl (lv_at hl 0 rfl) ?_
      refine lv_iload_n hx hb dX5_goesOnBehindValue_23 rfl (lv_at hl 1 rfl) ?_
      obtain ⟨r11, hy10, hf⟩ := ob_e hf
      refine xz0 h (va_runV (As := [.int p1]) (rest := []) hC (c_X5_opensValue l G q v p1 hy10 H.size) (xcwV hC lk_X5_45 in_X5 co_X5_opensValue im_X5_opensValue se_X5_opensValue rfl rfl dd_X5_opensValue ⟨Nat.le_of_ble_eq_true rfl, Nat.le_of_ble_eq_true rfl⟩) (preV0 h (Nat.le_of_ble_eq_true rfl) eScribe_0 rfl [.int p1]) rfl rfl hl.1 rfl (lv_room (Nat.le_of_ble_eq_true rfl)) dX5_goesOnBehindValue_24 ⟨Nat.zero_le _, Nat.zero_le _⟩) (fun H locs hz12 h => ?_)
      obtain ⟨v13, ev13, hf⟩ := lt_e hf
      rw [← ev13] at h
      refine lv_goto (tgt := 36) hx hb dX5_goesOnBehindValue_27 (by decide) ?_
      have hf := sm_e hf
      exact xzret hC hr hlk h (by rw [← hf]) hz12 (by rw [← hf]) dX5_goesOnBehindValue_36
def m_X5_opensNumber (v : xSt) (p1 : Int32) : Option (Int32 × xSt) := ob (m_X5_figure p1 (10 : Int32)) (fun r2 => lt (fun (t3 : Int32) => (if r2 < t3 then some ((0 : Int32), v) else ob (m_X5_mostNumber v) (fun r7 => (if r2 ≤ r7 then lt (st2 v 0 2 r2) (fun v9 => lt (st2 v9 0 0 (2 : Int32)) (fun v10 => some ((1 : Int32), v10))) else some ((0 : Int32), v))))) (fun j4 => (if (v 0 1) = (116 : Int32) then j4 (1 : Int32) else j4 (0 : Int32))))
set_option maxHeartbeats 4000000 in
set_option maxRecDepth 100000 in
theorem c_X5_opensNumber (l : Launch) (G : xGl) (q : Nat → Nat) (v : xSt) (p1 : Int32) {z : (Int32 × xSt)} (hf : m_X5_opensNumber v p1 = some z) : mRW l yX5_opensNumber (wM yX5_opensNumber cX5_opensNumber 4 (some .boolean)) { frames := 1, cells := 0, slots := 0, locals := 21 } G (eScribe G) 3 q v [.ref (q 0), .int p1] (qZ z.1) z.2 := by
  refine xRW (cc := cX5_opensNumber) (maxL := 4) (ret := (some .boolean)) (by decide) rfl (Nat.le_of_ble_eq_true rfl) ?_
  intro p e s m below meth c ls A hC hr hlk h hl
  have hx := hC.1
  have hb := hC.2.1
  have hl : lv_has ls 4 [(0, .ref (q 0)), (1, .int p1)] := hl
  unfold m_X5_opensNumber at hf
  obtain ⟨H, hH⟩ : ∃ H, H = s.heap := ⟨_, rfl⟩
  obtain ⟨locs, hlo⟩ : ∃ x : List Loc, x = [] := ⟨_, rfl⟩
  have h : hg G (eScribe G) 3 q v A s H locs := by rw [hH, hlo]; exact h
  rw [← hlo, ← hH]
  clear hH hlo
  refine lv_iload_n hx hb dX5_opensNumber_0 rfl (lv_at hl 1 rfl) ?_
  refine lv_bipush (v := (10 : Int32)) hx hb dX5_opensNumber_1 (by decide) ?_
  obtain ⟨r2, hy1, hf⟩ := ob_e hf
  refine xiG h (va_runS (As := [.int p1, .int (10 : Int32)]) (rest := []) hC (c_X5_figure l G q v p1 (10 : Int32) hy1 H.size) (xcwS hC lk_X5_64 in_X5 co_X5_figure st_X5_figure rfl rfl dd_X5_figure ⟨Nat.le_of_ble_eq_true rfl, Nat.le_of_ble_eq_true rfl⟩) (preSN h.o [.int p1, .int (10 : Int32)]) rfl rfl hl.1 rfl (lv_room (Nat.le_of_ble_eq_true rfl)) dX5_opensNumber_3 ⟨Nat.zero_le _, Nat.zero_le _⟩) (fun H locs h => ?_)
  refine lv_istore_n (lv' := [(2, .int r2), (0, .ref (q 0)), (1, .int p1)]) hx hb dX5_opensNumber_6 rfl hl (by decide) rfl (fun ls hl => ?_)
  refine lv_aload_n hx hb dX5_opensNumber_7 rfl (lv_at hl 1 rfl) ?_
  refine xget hC h.o (C := RX5) (T := TX5) (N := 6) (wM_us uw_X5) 0 (Nat.le_of_ble_eq_true rfl) eScribe_0 rfl 1 (by decide) (wM_in fl_X5_15) rfl dX5_opensNumber_8 ?_
  refine lv_bipush (v := (116 : Int32)) hx hb dX5_opensNumber_11 (by decide) ?_
  obtain ⟨j4, ej4, hf⟩ := lt_e hf
  have hj4 : ∀ (t3 : Int32) (H : Heap) (locs : List Loc), hg G (eScribe G) 3 q v A s H locs → ∀ (ls : Array Slot), lv_has ls 4 [(0, .ref (q 0)), (2, .int r2)] → j4 t3 = some z → W p l e { frames := 1, cells := 0, slots := 0, locals := 21 } s m [.ref (q 0), .int p1].toArray below meth c H locs 0 0 (MQ below ((qZ z.1) (cB G (eScribe G) 3 q z.2 A) A) [.ref (q 0), .int p1].toArray s 0 0 A) (F0 m 21 ls [.int t3]) := by
    intro t3 H locs h ls hl hf
    rw [ej4] at hf
    refine lv_istore_n (lv' := [(3, .int t3), (0, .ref (q 0)), (2, .int r2)]) hx hb dX5_opensNumber_21 rfl hl (by decide) rfl (fun ls hl => ?_)
    refine lv_iload_n hx hb dX5_opensNumber_22 rfl (lv_at hl 2 rfl) ?_
    refine lv_iload_n hx hb dX5_opensNumber_23 rfl (lv_at hl 0 rfl) ?_
    refine lv_icmp_lt (tgt := 35) hx hb dX5_opensNumber_24 (by decide) (fun c5 => ?_) (fun c5 => ?_)
    · have hf := it_t c5 hf
      refine lv_iconst (v := (0 : Int32)) hx hb dX5_opensNumber_35 (by decide) ?_
      have hf := sm_e hf
      exact xzret hC hr hlk h (by rw [← hf]) (by decide) (by rw [← hf]) dX5_opensNumber_36
    · have hf := it_f c5 hf
      refine lv_iload_n hx hb dX5_opensNumber_27 rfl (lv_at hl 2 rfl) ?_
      refine lv_aload_n hx hb dX5_opensNumber_28 rfl (lv_at hl 1 rfl) ?_
      obtain ⟨r7, hy6, hf⟩ := ob_e hf
      refine xiG h (va_runV (As := []) (rest := [.int r2]) hC (c_X5_mostNumber l G q v hy6 H.size) (xcwV hC lk_X5_68 in_X5 co_X5_mostNumber im_X5_mostNumber se_X5_mostNumber rfl rfl dd_X5_mostNumber ⟨Nat.le_of_ble_eq_true rfl, Nat.le_of_ble_eq_true rfl⟩) (preVO0 h.o (Nat.le_of_ble_eq_true rfl) eScribe_0 rfl []) rfl rfl hl.1 rfl (lv_room (Nat.le_of_ble_eq_true rfl)) dX5_opensNumber_29 ⟨Nat.zero_le _, Nat.zero_le _⟩) (fun H locs h => ?_)
      refine lv_icmp_le (tgt := 37) hx hb dX5_opensNumber_32 (by decide) (fun c8 => ?_) (fun c8 => ?_)
      · have hf := it_t c8 hf
        refine lv_aload_n hx hb dX5_opensNumber_37 rfl (lv_at hl 1 rfl) ?_
        refine lv_iload_n hx hb dX5_opensNumber_38 rfl (lv_at hl 2 rfl) ?_
        refine xput hC h (C := RX5) (T := TX5) (N := 6) (wM_us uw_X5) tyX5_ok nmX5 0 (Nat.le_of_ble_eq_true rfl) eScribe_0 rfl 2 (by decide) (wM_in fl_X5_19) rfl (ty := .int) (tyX5_ok 2 (by decide)) rfl rfl (Nat.le_of_ble_eq_true rfl) (eScribe_0.trans rfl) dX5_opensNumber_39 (fun H locs h => ?_)
        obtain ⟨v9, ev9, hf⟩ := lt_e hf
        rw [← ev9] at h
        refine lv_aload_n hx hb dX5_opensNumber_42 rfl (lv_at hl 1 rfl) ?_
        refine lv_iconst (v := (2 : Int32)) hx hb dX5_opensNumber_43 (by decide) ?_
        refine xput hC h (C := RX5) (T := TX5) (N := 6) (wM_us uw_X5) tyX5_ok nmX5 0 (Nat.le_of_ble_eq_true rfl) eScribe_0 rfl 0 (by decide) (wM_in fl_X5_11) rfl (ty := .int) (tyX5_ok 0 (by decide)) rfl rfl (Nat.le_of_ble_eq_true rfl) (eScribe_0.trans rfl) dX5_opensNumber_44 (fun H locs h => ?_)
        obtain ⟨v10, ev10, hf⟩ := lt_e hf
        rw [← ev10] at h
        refine lv_iconst (v := (1 : Int32)) hx hb dX5_opensNumber_47 (by decide) ?_
        have hf := sm_e hf
        exact xzret hC hr hlk h (by rw [← hf]) (by decide) (by rw [← hf]) dX5_opensNumber_48
      · have hf := it_f c8 hf
        refine lv_iconst (v := (0 : Int32)) hx hb dX5_opensNumber_35 (by decide) ?_
        have hf := sm_e hf
        exact xzret hC hr hlk h (by rw [← hf]) (by decide) (by rw [← hf]) dX5_opensNumber_36
  refine lv_icmp_ne (tgt := 20) hx hb dX5_opensNumber_13 (by decide) (fun c11 => ?_) (fun c11 => ?_)
  · have hf := it_f c11 hf
    refine lv_iconst (v := (0 : Int32)) hx hb dX5_opensNumber_20 (by decide) ?_
    exact hj4 (0 : Int32) H locs h ls (lv_sub hl [1, 0] rfl) hf
  · have hf := it_t c11 hf
    refine lv_iconst (v := (1 : Int32)) hx hb dX5_opensNumber_16 (by decide) ?_
    refine lv_goto (tgt := 21) hx hb dX5_opensNumber_17 (by decide) ?_
    exact hj4 (1 : Int32) H locs h ls (lv_sub hl [1, 0] rfl) hf
def m_X5_opensPart (v : xSt) (p1 : Int32) : Option (Int32 × xSt) := lt (fun (_ : Unit) => ck (0 ≤ p1 ∧ p1 < 65536) (lt (st2 v 0 1 p1) (fun v3 => lt (st2 v3 0 2 (0 : Int32)) (fun v4 => lt (st2 v4 0 3 (5 : Int32)) (fun v5 => lt (st2 v5 1 1 (0 : Int32)) (fun v6 => lt (st2 v6 0 0 (1 : Int32)) (fun v7 => some ((1 : Int32), v7)))))))) (fun j1 => (if p1 = (119 : Int32) then j1 () else (if p1 = (101 : Int32) then j1 () else (if p1 = (116 : Int32) then j1 () else some ((0 : Int32), v)))))
set_option maxHeartbeats 4000000 in
set_option maxRecDepth 100000 in
theorem c_X5_opensPart (l : Launch) (G : xGl) (q : Nat → Nat) (v : xSt) (p1 : Int32) {z : (Int32 × xSt)} (hf : m_X5_opensPart v p1 = some z) : mRW l yX5_opensPart (wM yX5_opensPart cX5_opensPart 2 (some .boolean)) { frames := 0, cells := 0, slots := 0, locals := 0 } G (eScribe G) 3 q v [.ref (q 0), .int p1] (qZ z.1) z.2 := by
  refine xRW (cc := cX5_opensPart) (maxL := 2) (ret := (some .boolean)) (by decide) rfl (Nat.le_of_ble_eq_true rfl) ?_
  intro p e s m below meth c ls A hC hr hlk h hl
  have hx := hC.1
  have hb := hC.2.1
  have hl : lv_has ls 2 [(0, .ref (q 0)), (1, .int p1)] := hl
  unfold m_X5_opensPart at hf
  obtain ⟨H, hH⟩ : ∃ H, H = s.heap := ⟨_, rfl⟩
  obtain ⟨locs, hlo⟩ : ∃ x : List Loc, x = [] := ⟨_, rfl⟩
  have h : hg G (eScribe G) 3 q v A s H locs := by rw [hH, hlo]; exact h
  rw [← hlo, ← hH]
  clear hH hlo
  refine lv_iload_n hx hb dX5_opensPart_0 rfl (lv_at hl 1 rfl) ?_
  refine lv_bipush (v := (119 : Int32)) hx hb dX5_opensPart_1 (by decide) ?_
  obtain ⟨j1, ej1, hf⟩ := lt_e hf
  have hj1 : ∀ (uu : Unit) (H : Heap) (locs : List Loc), hg G (eScribe G) 3 q v A s H locs → ∀ (ls : Array Slot), lv_has ls 2 [(0, .ref (q 0)), (1, .int p1)] → j1 uu = some z → W p l e { frames := 0, cells := 0, slots := 0, locals := 0 } s m [.ref (q 0), .int p1].toArray below meth c H locs 0 0 (MQ below ((qZ z.1) (cB G (eScribe G) 3 q z.2 A) A) [.ref (q 0), .int p1].toArray s 0 0 A) (F0 m 20 ls []) := by
    intro uu H locs h ls hl hf
    rw [ej1] at hf
    refine lv_aload_n hx hb dX5_opensPart_20 rfl (lv_at hl 0 rfl) ?_
    refine lv_iload_n hx hb dX5_opensPart_21 rfl (lv_at hl 1 rfl) ?_
    obtain ⟨hz2, hf⟩ := ck_e hf
    refine xput hC h (C := RX5) (T := TX5) (N := 6) (wM_us uw_X5) tyX5_ok nmX5 0 (Nat.le_of_ble_eq_true rfl) eScribe_0 rfl 1 (by decide) (wM_in fl_X5_15) rfl (ty := .char) (tyX5_ok 1 (by decide)) (xchr hz2).1 (xchr hz2).2.1 (Nat.le_of_ble_eq_true rfl) (eScribe_0.trans rfl) dX5_opensPart_22 (fun H locs h => ?_)
    obtain ⟨v3, ev3, hf⟩ := lt_e hf
    rw [← ev3] at h
    refine lv_aload_n hx hb dX5_opensPart_25 rfl (lv_at hl 0 rfl) ?_
    refine lv_iconst (v := (0 : Int32)) hx hb dX5_opensPart_26 (by decide) ?_
    refine xput hC h (C := RX5) (T := TX5) (N := 6) (wM_us uw_X5) tyX5_ok nmX5 0 (Nat.le_of_ble_eq_true rfl) eScribe_0 rfl 2 (by decide) (wM_in fl_X5_19) rfl (ty := .int) (tyX5_ok 2 (by decide)) rfl rfl (Nat.le_of_ble_eq_true rfl) (eScribe_0.trans rfl) dX5_opensPart_27 (fun H locs h => ?_)
    obtain ⟨v4, ev4, hf⟩ := lt_e hf
    rw [← ev4] at h
    refine lv_aload_n hx hb dX5_opensPart_30 rfl (lv_at hl 0 rfl) ?_
    refine lv_iconst (v := (5 : Int32)) hx hb dX5_opensPart_31 (by decide) ?_
    refine xput hC h (C := RX5) (T := TX5) (N := 6) (wM_us uw_X5) tyX5_ok nmX5 0 (Nat.le_of_ble_eq_true rfl) eScribe_0 rfl 3 (by decide) (wM_in fl_X5_22) rfl (ty := .int) (tyX5_ok 3 (by decide)) rfl rfl (Nat.le_of_ble_eq_true rfl) (eScribe_0.trans rfl) dX5_opensPart_32 (fun H locs h => ?_)
    obtain ⟨v5, ev5, hf⟩ := lt_e hf
    rw [← ev5] at h
    refine lv_aload_n hx hb dX5_opensPart_35 rfl (lv_at hl 0 rfl) ?_
    refine xget hC h.o (C := RX5) (T := TX5) (N := 6) (wM_us uw_X5) 0 (Nat.le_of_ble_eq_true rfl) eScribe_0 rfl 4 (by decide) (wM_in fl_X5_28) rfl dX5_opensPart_36 ?_
    refine lv_iconst (v := (0 : Int32)) hx hb dX5_opensPart_39 (by decide) ?_
    refine xput hC h (C := RX4) (T := TX4) (N := 2) (wM_us uw_X4) tyX4_ok nmX4 1 (Nat.le_of_ble_eq_true rfl) eScribe_1 rfl 1 (by decide) (wM_in fl_X5_61) rfl (ty := .int) (tyX4_ok 1 (by decide)) rfl rfl (Nat.le_of_ble_eq_true rfl) (eScribe_1.trans rfl) dX5_opensPart_40 (fun H locs h => ?_)
    obtain ⟨v6, ev6, hf⟩ := lt_e hf
    rw [← ev6] at h
    refine lv_aload_n hx hb dX5_opensPart_43 rfl (lv_at hl 0 rfl) ?_
    refine lv_iconst (v := (1 : Int32)) hx hb dX5_opensPart_44 (by decide) ?_
    refine xput hC h (C := RX5) (T := TX5) (N := 6) (wM_us uw_X5) tyX5_ok nmX5 0 (Nat.le_of_ble_eq_true rfl) eScribe_0 rfl 0 (by decide) (wM_in fl_X5_11) rfl (ty := .int) (tyX5_ok 0 (by decide)) rfl rfl (Nat.le_of_ble_eq_true rfl) (eScribe_0.trans rfl) dX5_opensPart_45 (fun H locs h => ?_)
    obtain ⟨v7, ev7, hf⟩ := lt_e hf
    rw [← ev7] at h
    refine lv_iconst (v := (1 : Int32)) hx hb dX5_opensPart_48 (by decide) ?_
    have hf := sm_e hf
    exact xzret hC hr hlk h (by rw [← hf]) (by decide) (by rw [← hf]) dX5_opensPart_49
  refine lv_icmp_eq (tgt := 20) hx hb dX5_opensPart_3 (by decide) (fun c8 => ?_) (fun c8 => ?_)
  · have hf := it_t c8 hf
    exact hj1 () H locs h ls (lv_sub hl [0, 1] rfl) hf
  · have hf := it_f c8 hf
    refine lv_iload_n hx hb dX5_opensPart_6 rfl (lv_at hl 1 rfl) ?_
    refine lv_bipush (v := (101 : Int32)) hx hb dX5_opensPart_7 (by decide) ?_
    refine lv_icmp_eq (tgt := 20) hx hb dX5_opensPart_9 (by decide) (fun c9 => ?_) (fun c9 => ?_)
    · have hf := it_t c9 hf
      exact hj1 () H locs h ls (lv_sub hl [0, 1] rfl) hf
    · have hf := it_f c9 hf
      refine lv_iload_n hx hb dX5_opensPart_12 rfl (lv_at hl 1 rfl) ?_
      refine lv_bipush (v := (116 : Int32)) hx hb dX5_opensPart_13 (by decide) ?_
      refine lv_icmp_eq (tgt := 20) hx hb dX5_opensPart_15 (by decide) (fun c10 => ?_) (fun c10 => ?_)
      · have hf := it_t c10 hf
        exact hj1 () H locs h ls (lv_sub hl [0, 1] rfl) hf
      · have hf := it_f c10 hf
        refine lv_iconst (v := (0 : Int32)) hx hb dX5_opensPart_18 (by decide) ?_
        have hf := sm_e hf
        exact xzret hC hr hlk h (by rw [← hf]) (by decide) (by rw [← hf]) dX5_opensPart_19
def m_X5_tellsUrgency (v : xSt) (p1 : Int32) : Option (Int32 × xSt) := ob (m_X5_figure p1 (10 : Int32)) (fun r2 => lt (st2 v 0 3 r2) (fun v3 => lt (st2 v3 0 0 (7 : Int32)) (fun v4 => (if (v4 0 3) = (-1 : Int32) then some ((0 : Int32), v4) else some ((1 : Int32), v4)))))
set_option maxHeartbeats 4000000 in
set_option maxRecDepth 100000 in
theorem c_X5_tellsUrgency (l : Launch) (G : xGl) (q : Nat → Nat) (v : xSt) (p1 : Int32) {z : (Int32 × xSt)} (hf : m_X5_tellsUrgency v p1 = some z) : mRW l yX5_tellsUrgency (wM yX5_tellsUrgency cX5_tellsUrgency 2 (some .boolean)) { frames := 1, cells := 0, slots := 0, locals := 21 } G (eScribe G) 3 q v [.ref (q 0), .int p1] (qZ z.1) z.2 := by
  refine xRW (cc := cX5_tellsUrgency) (maxL := 2) (ret := (some .boolean)) (by decide) rfl (Nat.le_of_ble_eq_true rfl) ?_
  intro p e s m below meth c ls A hC hr hlk h hl
  have hx := hC.1
  have hb := hC.2.1
  have hl : lv_has ls 2 [(0, .ref (q 0)), (1, .int p1)] := hl
  unfold m_X5_tellsUrgency at hf
  obtain ⟨H, hH⟩ : ∃ H, H = s.heap := ⟨_, rfl⟩
  obtain ⟨locs, hlo⟩ : ∃ x : List Loc, x = [] := ⟨_, rfl⟩
  have h : hg G (eScribe G) 3 q v A s H locs := by rw [hH, hlo]; exact h
  rw [← hlo, ← hH]
  clear hH hlo
  refine lv_aload_n hx hb dX5_tellsUrgency_0 rfl (lv_at hl 0 rfl) ?_
  refine lv_iload_n hx hb dX5_tellsUrgency_1 rfl (lv_at hl 1 rfl) ?_
  refine lv_bipush (v := (10 : Int32)) hx hb dX5_tellsUrgency_2 (by decide) ?_
  obtain ⟨r2, hy1, hf⟩ := ob_e hf
  refine xiG h (va_runS (As := [.int p1, .int (10 : Int32)]) (rest := [.ref (q 0)]) hC (c_X5_figure l G q v p1 (10 : Int32) hy1 H.size) (xcwS hC lk_X5_64 in_X5 co_X5_figure st_X5_figure rfl rfl dd_X5_figure ⟨Nat.le_of_ble_eq_true rfl, Nat.le_of_ble_eq_true rfl⟩) (preSN h.o [.int p1, .int (10 : Int32)]) rfl rfl hl.1 rfl (lv_room (Nat.le_of_ble_eq_true rfl)) dX5_tellsUrgency_4 ⟨Nat.zero_le _, Nat.zero_le _⟩) (fun H locs h => ?_)
  refine xput hC h (C := RX5) (T := TX5) (N := 6) (wM_us uw_X5) tyX5_ok nmX5 0 (Nat.le_of_ble_eq_true rfl) eScribe_0 rfl 3 (by decide) (wM_in fl_X5_22) rfl (ty := .int) (tyX5_ok 3 (by decide)) rfl rfl (Nat.le_of_ble_eq_true rfl) (eScribe_0.trans rfl) dX5_tellsUrgency_7 (fun H locs h => ?_)
  obtain ⟨v3, ev3, hf⟩ := lt_e hf
  rw [← ev3] at h
  refine lv_aload_n hx hb dX5_tellsUrgency_10 rfl (lv_at hl 0 rfl) ?_
  refine lv_bipush (v := (7 : Int32)) hx hb dX5_tellsUrgency_11 (by decide) ?_
  refine xput hC h (C := RX5) (T := TX5) (N := 6) (wM_us uw_X5) tyX5_ok nmX5 0 (Nat.le_of_ble_eq_true rfl) eScribe_0 rfl 0 (by decide) (wM_in fl_X5_11) rfl (ty := .int) (tyX5_ok 0 (by decide)) rfl rfl (Nat.le_of_ble_eq_true rfl) (eScribe_0.trans rfl) dX5_tellsUrgency_13 (fun H locs h => ?_)
  obtain ⟨v4, ev4, hf⟩ := lt_e hf
  rw [← ev4] at h
  refine lv_aload_n hx hb dX5_tellsUrgency_16 rfl (lv_at hl 0 rfl) ?_
  refine xget hC h.o (C := RX5) (T := TX5) (N := 6) (wM_us uw_X5) 0 (Nat.le_of_ble_eq_true rfl) eScribe_0 rfl 3 (by decide) (wM_in fl_X5_22) rfl dX5_tellsUrgency_17 ?_
  refine lv_iconst (v := (-1 : Int32)) hx hb dX5_tellsUrgency_20 (by decide) ?_
  refine lv_icmp_eq (tgt := 28) hx hb dX5_tellsUrgency_21 (by decide) (fun c5 => ?_) (fun c5 => ?_)
  · have hf := it_t c5 hf
    refine lv_iconst (v := (0 : Int32)) hx hb dX5_tellsUrgency_28 (by decide) ?_
    have hf := sm_e hf
    exact xzret hC hr hlk h (by rw [← hf]) (by decide) (by rw [← hf]) dX5_tellsUrgency_29
  · have hf := it_f c5 hf
    refine lv_iconst (v := (1 : Int32)) hx hb dX5_tellsUrgency_24 (by decide) ?_
    refine lv_goto (tgt := 29) hx hb dX5_tellsUrgency_25 (by decide) ?_
    have hf := sm_e hf
    exact xzret hC hr hlk h (by rw [← hf]) (by decide) (by rw [← hf]) dX5_tellsUrgency_29
def m_X5_goesOnWith (v : xSt) (p1 : Int32) : Option (Int32 × xSt) := (if (v 0 0) = 0 then ob (m_X5_opensPart v p1) (fun r3 => lt (r3.2) (fun v5 => some (r3.1, v5))) else (if (v 0 0) = 1 then ob (m_X5_opensNumber v p1) (fun r8 => lt (r8.2) (fun v10 => some (r8.1, v10))) else (if (v 0 0) = 2 then ob (m_X5_goesOnBehindDigit v p1) (fun r13 => lt (r13.2) (fun v15 => some (r13.1, v15))) else (if (v 0 0) = 3 then ob (m_X5_opensValue v p1) (fun r18 => lt (r18.2) (fun v20 => some (r18.1, v20))) else (if (v 0 0) = 4 then ob (m_X5_endsValue v p1) (fun r23 => lt (r23.2) (fun v25 => some (r23.1, v25))) else (if (v 0 0) = 5 then ob (m_X5_goesOnBehindValue v p1) (fun r28 => lt (r28.2) (fun v30 => some (r28.1, v30))) else (if (v 0 0) = 6 then ob (m_X5_tellsUrgency v p1) (fun r33 => lt (r33.2) (fun v35 => some (r33.1, v35))) else ob (m_X5_endsPart v p1 (0 : Int32)) (fun r37 => lt (r37.2) (fun v39 => some (r37.1, v39))))))))))
set_option maxHeartbeats 4000000 in
set_option maxRecDepth 100000 in
theorem c_X5_goesOnWith (l : Launch) (G : xGl) (q : Nat → Nat) (v : xSt) (p1 : Int32) {z : (Int32 × xSt)} (hf : m_X5_goesOnWith v p1 = some z) : mRW l yX5_goesOnWith (wM yX5_goesOnWith cX5_goesOnWith 2 (some .boolean)) { frames := 3, cells := 0, slots := 0, locals := 64 } G (eScribe G) 3 q v [.ref (q 0), .int p1] (qZ z.1) z.2 := by
  refine xRW (cc := cX5_goesOnWith) (maxL := 2) (ret := (some .boolean)) (by decide) rfl (Nat.le_of_ble_eq_true rfl) ?_
  intro p e s m below meth c ls A hC hr hlk h hl
  have hx := hC.1
  have hb := hC.2.1
  have hl : lv_has ls 2 [(0, .ref (q 0)), (1, .int p1)] := hl
  unfold m_X5_goesOnWith at hf
  obtain ⟨H, hH⟩ : ∃ H, H = s.heap := ⟨_, rfl⟩
  obtain ⟨locs, hlo⟩ : ∃ x : List Loc, x = [] := ⟨_, rfl⟩
  have h : hg G (eScribe G) 3 q v A s H locs := by rw [hH, hlo]; exact h
  rw [← hlo, ← hH]
  clear hH hlo
  refine lv_aload_n hx hb dX5_goesOnWith_0 rfl (lv_at hl 0 rfl) ?_
  refine xget hC h.o (C := RX5) (T := TX5) (N := 6) (wM_us uw_X5) 0 (Nat.le_of_ble_eq_true rfl) eScribe_0 rfl 0 (by decide) (wM_in fl_X5_11) rfl dX5_goesOnWith_1 ?_
  by_cases c1 : (v 0 0) = 0
  · have hf := it_t c1 hf
    refine lv_tableIn (off := 44) (tgt := 48) hx hb dX5_goesOnWith_4 (by rw [c1]; decide) (by rw [c1]; decide) (by rw [c1]; decide) (by decide) ?_
    refine lv_aload_n hx hb dX5_goesOnWith_48 rfl (lv_at hl 0 rfl) ?_
    refine lv_iload_n hx hb dX5_goesOnWith_49 rfl (lv_at hl 1 rfl) ?_
    obtain ⟨r3, hy2, hf⟩ := ob_e hf
    refine xz0 h (va_runV (As := [.int p1]) (rest := []) hC (c_X5_opensPart l G q v p1 hy2 H.size) (xcwV hC lk_X5_35 in_X5 co_X5_opensPart im_X5_opensPart se_X5_opensPart rfl rfl dd_X5_opensPart ⟨Nat.le_of_ble_eq_true rfl, Nat.le_of_ble_eq_true rfl⟩) (preV0 h (Nat.le_of_ble_eq_true rfl) eScribe_0 rfl [.int p1]) rfl rfl hl.1 rfl (lv_room (Nat.le_of_ble_eq_true rfl)) dX5_goesOnWith_50 ⟨Nat.zero_le _, Nat.zero_le _⟩) (fun H locs hz4 h => ?_)
    obtain ⟨v5, ev5, hf⟩ := lt_e hf
    rw [← ev5] at h
    have hf := sm_e hf
    exact xzret hC hr hlk h (by rw [← hf]) hz4 (by rw [← hf]) dX5_goesOnWith_53
  have hf := it_f c1 hf
  by_cases c6 : (v 0 0) = 1
  · have hf := it_t c6 hf
    refine lv_tableIn (off := 50) (tgt := 54) hx hb dX5_goesOnWith_4 (by rw [c6]; decide) (by rw [c6]; decide) (by rw [c6]; decide) (by decide) ?_
    refine lv_aload_n hx hb dX5_goesOnWith_54 rfl (lv_at hl 0 rfl) ?_
    refine lv_iload_n hx hb dX5_goesOnWith_55 rfl (lv_at hl 1 rfl) ?_
    obtain ⟨r8, hy7, hf⟩ := ob_e hf
    refine xz0 h (va_runV (As := [.int p1]) (rest := []) hC (c_X5_opensNumber l G q v p1 hy7 H.size) (xcwV hC lk_X5_39 in_X5 co_X5_opensNumber im_X5_opensNumber se_X5_opensNumber rfl rfl dd_X5_opensNumber ⟨Nat.le_of_ble_eq_true rfl, Nat.le_of_ble_eq_true rfl⟩) (preV0 h (Nat.le_of_ble_eq_true rfl) eScribe_0 rfl [.int p1]) rfl rfl hl.1 rfl (lv_room (Nat.le_of_ble_eq_true rfl)) dX5_goesOnWith_56 ⟨Nat.zero_le _, Nat.zero_le _⟩) (fun H locs hz9 h => ?_)
    obtain ⟨v10, ev10, hf⟩ := lt_e hf
    rw [← ev10] at h
    have hf := sm_e hf
    exact xzret hC hr hlk h (by rw [← hf]) hz9 (by rw [← hf]) dX5_goesOnWith_59
  have hf := it_f c6 hf
  by_cases c11 : (v 0 0) = 2
  · have hf := it_t c11 hf
    refine lv_tableIn (off := 56) (tgt := 60) hx hb dX5_goesOnWith_4 (by rw [c11]; decide) (by rw [c11]; decide) (by rw [c11]; decide) (by decide) ?_
    refine lv_aload_n hx hb dX5_goesOnWith_60 rfl (lv_at hl 0 rfl) ?_
    refine lv_iload_n hx hb dX5_goesOnWith_61 rfl (lv_at hl 1 rfl) ?_
    obtain ⟨r13, hy12, hf⟩ := ob_e hf
    refine xz0 h (va_runV (As := [.int p1]) (rest := []) hC (c_X5_goesOnBehindDigit l G q v p1 hy12 H.size) (xcwV hC lk_X5_42 in_X5 co_X5_goesOnBehindDigit im_X5_goesOnBehindDigit se_X5_goesOnBehindDigit rfl rfl dd_X5_goesOnBehindDigit ⟨Nat.le_of_ble_eq_true rfl, Nat.le_of_ble_eq_true rfl⟩) (preV0 h (Nat.le_of_ble_eq_true rfl) eScribe_0 rfl [.int p1]) rfl rfl hl.1 rfl (lv_room (Nat.le_of_ble_eq_true rfl)) dX5_goesOnWith_62 ⟨Nat.zero_le _, Nat.zero_le _⟩) (fun H locs hz14 h => ?_)
    obtain ⟨v15, ev15, hf⟩ := lt_e hf
    rw [← ev15] at h
    have hf := sm_e hf
    exact xzret hC hr hlk h (by rw [← hf]) hz14 (by rw [← hf]) dX5_goesOnWith_65
  have hf := it_f c11 hf
  by_cases c16 : (v 0 0) = 3
  · have hf := it_t c16 hf
    refine lv_tableIn (off := 62) (tgt := 66) hx hb dX5_goesOnWith_4 (by rw [c16]; decide) (by rw [c16]; decide) (by rw [c16]; decide) (by decide) ?_
    refine lv_aload_n hx hb dX5_goesOnWith_66 rfl (lv_at hl 0 rfl) ?_
    refine lv_iload_n hx hb dX5_goesOnWith_67 rfl (lv_at hl 1 rfl) ?_
    obtain ⟨r18, hy17, hf⟩ := ob_e hf
    refine xz0 h (va_runV (As := [.int p1]) (rest := []) hC (c_X5_opensValue l G q v p1 hy17 H.size) (xcwV hC lk_X5_45 in_X5 co_X5_opensValue im_X5_opensValue se_X5_opensValue rfl rfl dd_X5_opensValue ⟨Nat.le_of_ble_eq_true rfl, Nat.le_of_ble_eq_true rfl⟩) (preV0 h (Nat.le_of_ble_eq_true rfl) eScribe_0 rfl [.int p1]) rfl rfl hl.1 rfl (lv_room (Nat.le_of_ble_eq_true rfl)) dX5_goesOnWith_68 ⟨Nat.zero_le _, Nat.zero_le _⟩) (fun H locs hz19 h => ?_)
    obtain ⟨v20, ev20, hf⟩ := lt_e hf
    rw [← ev20] at h
    have hf := sm_e hf
    exact xzret hC hr hlk h (by rw [← hf]) hz19 (by rw [← hf]) dX5_goesOnWith_71
  have hf := it_f c16 hf
  by_cases c21 : (v 0 0) = 4
  · have hf := it_t c21 hf
    refine lv_tableIn (off := 68) (tgt := 72) hx hb dX5_goesOnWith_4 (by rw [c21]; decide) (by rw [c21]; decide) (by rw [c21]; decide) (by decide) ?_
    refine lv_aload_n hx hb dX5_goesOnWith_72 rfl (lv_at hl 0 rfl) ?_
    refine lv_iload_n hx hb dX5_goesOnWith_73 rfl (lv_at hl 1 rfl) ?_
    obtain ⟨r23, hy22, hf⟩ := ob_e hf
    refine xz0 h (va_runV (As := [.int p1]) (rest := []) hC (c_X5_endsValue l G q v p1 hy22 H.size) (xcwV hC lk_X5_48 in_X5 co_X5_endsValue im_X5_endsValue se_X5_endsValue rfl rfl dd_X5_endsValue ⟨Nat.le_of_ble_eq_true rfl, Nat.le_of_ble_eq_true rfl⟩) (preV0 h (Nat.le_of_ble_eq_true rfl) eScribe_0 rfl [.int p1]) rfl rfl hl.1 rfl (lv_room (Nat.le_of_ble_eq_true rfl)) dX5_goesOnWith_74 ⟨Nat.zero_le _, Nat.zero_le _⟩) (fun H locs hz24 h => ?_)
    obtain ⟨v25, ev25, hf⟩ := lt_e hf
    rw [← ev25] at h
    have hf := sm_e hf
    exact xzret hC hr hlk h (by rw [← hf]) hz24 (by rw [← hf]) dX5_goesOnWith_77
  have hf := it_f c21 hf
  by_cases c26 : (v 0 0) = 5
  · have hf := it_t c26 hf
    refine lv_tableIn (off := 74) (tgt := 78) hx hb dX5_goesOnWith_4 (by rw [c26]; decide) (by rw [c26]; decide) (by rw [c26]; decide) (by decide) ?_
    refine lv_aload_n hx hb dX5_goesOnWith_78 rfl (lv_at hl 0 rfl) ?_
    refine lv_iload_n hx hb dX5_goesOnWith_79 rfl (lv_at hl 1 rfl) ?_
    obtain ⟨r28, hy27, hf⟩ := ob_e hf
    refine xz0 h (va_runV (As := [.int p1]) (rest := []) hC (c_X5_goesOnBehindValue l G q v p1 hy27 H.size) (xcwV hC lk_X5_51 in_X5 co_X5_goesOnBehindValue im_X5_goesOnBehindValue se_X5_goesOnBehindValue rfl rfl dd_X5_goesOnBehindValue ⟨Nat.le_of_ble_eq_true rfl, Nat.le_of_ble_eq_true rfl⟩) (preV0 h (Nat.le_of_ble_eq_true rfl) eScribe_0 rfl [.int p1]) rfl rfl hl.1 rfl (lv_room (Nat.le_of_ble_eq_true rfl)) dX5_goesOnWith_80 ⟨Nat.zero_le _, Nat.zero_le _⟩) (fun H locs hz29 h => ?_)
    obtain ⟨v30, ev30, hf⟩ := lt_e hf
    rw [← ev30] at h
    have hf := sm_e hf
    exact xzret hC hr hlk h (by rw [← hf]) hz29 (by rw [← hf]) dX5_goesOnWith_83
  have hf := it_f c26 hf
  by_cases c31 : (v 0 0) = 6
  · have hf := it_t c31 hf
    refine lv_tableIn (off := 80) (tgt := 84) hx hb dX5_goesOnWith_4 (by rw [c31]; decide) (by rw [c31]; decide) (by rw [c31]; decide) (by decide) ?_
    refine lv_aload_n hx hb dX5_goesOnWith_84 rfl (lv_at hl 0 rfl) ?_
    refine lv_iload_n hx hb dX5_goesOnWith_85 rfl (lv_at hl 1 rfl) ?_
    obtain ⟨r33, hy32, hf⟩ := ob_e hf
    refine xz0 h (va_runV (As := [.int p1]) (rest := []) hC (c_X5_tellsUrgency l G q v p1 hy32 H.size) (xcwV hC lk_X5_54 in_X5 co_X5_tellsUrgency im_X5_tellsUrgency se_X5_tellsUrgency rfl rfl dd_X5_tellsUrgency ⟨Nat.le_of_ble_eq_true rfl, Nat.le_of_ble_eq_true rfl⟩) (preV0 h (Nat.le_of_ble_eq_true rfl) eScribe_0 rfl [.int p1]) rfl rfl hl.1 rfl (lv_room (Nat.le_of_ble_eq_true rfl)) dX5_goesOnWith_86 ⟨Nat.zero_le _, Nat.zero_le _⟩) (fun H locs hz34 h => ?_)
    obtain ⟨v35, ev35, hf⟩ := lt_e hf
    rw [← ev35] at h
    have hf := sm_e hf
    exact xzret hC hr hlk h (by rw [← hf]) hz34 (by rw [← hf]) dX5_goesOnWith_89
  have hf := it_f c31 hf
  refine lv_tableOut (tgt := 90) hx hb dX5_goesOnWith_4 (by have := xne (k := 0) (by decide) c1; have := xne (k := 1) (by decide) c6; have := xne (k := 2) (by decide) c11; have := xne (k := 3) (by decide) c16; have := xne (k := 4) (by decide) c21; have := xne (k := 5) (by decide) c26; have := xne (k := 6) (by decide) c31; omega) (by decide) ?_
  refine lv_aload_n hx hb dX5_goesOnWith_90 rfl (lv_at hl 0 rfl) ?_
  refine lv_iload_n hx hb dX5_goesOnWith_91 rfl (lv_at hl 1 rfl) ?_
  refine lv_iconst (v := (0 : Int32)) hx hb dX5_goesOnWith_92 (by decide) ?_
  obtain ⟨r37, hy36, hf⟩ := ob_e hf
  refine xz0 h (va_runV (As := [.int p1, .int (0 : Int32)]) (rest := []) hC (c_X5_endsPart l G q v p1 (0 : Int32) hy36 H.size) (xcwV hC lk_X5_57 in_X5 co_X5_endsPart im_X5_endsPart se_X5_endsPart rfl rfl dd_X5_endsPart ⟨Nat.le_of_ble_eq_true rfl, Nat.le_of_ble_eq_true rfl⟩) (preV0 h (Nat.le_of_ble_eq_true rfl) eScribe_0 rfl [.int p1, .int (0 : Int32)]) rfl rfl hl.1 rfl (lv_room (Nat.le_of_ble_eq_true rfl)) dX5_goesOnWith_93 ⟨Nat.zero_le _, Nat.zero_le _⟩) (fun H locs hz38 h => ?_)
  obtain ⟨v39, ev39, hf⟩ := lt_e hf
  rw [← ev39] at h
  have hf := sm_e hf
  exact xzret hC hr hlk h (by rw [← hf]) hz38 (by rw [← hf]) dX5_goesOnWith_96
