def v0BC : xSt := (ct 1 (fun _ _ => 0) (ct 1 (fun _ r => if r < 6 then nI r else 99) (ct 1 (fun _ _ => 0) (ct 3 v0Scribe (ct 1 (fun _ _ => 0) (ct 47 v0State (ct 47 v0State (ct 47 v0State (ct 47 v0State (ct 47 v0State (ct 47 v0State (ct 47 v0State (ct 47 v0State v0State)))))))))))))
theorem ct_ge {α : Type} {n j : Nat} {a b : Nat → α} (h : n ≤ j) : ct n a b j = b (j - n) := by
  simp only [ct]
  rw [if_neg (by omega)]
theorem varr6 {f : Nat → Option Nat} {g : Nat → Nat} (h : ∀ k, k < 6 → f k = some (g (148 + 47 * k))) (h2 : ∀ k, f (k + 6) = none) : f = fun r => if ((if r < 6 then nI r else 99 : Int32)).toNatClampNeg < 6 then some (g (148 + 47 * ((if r < 6 then nI r else 99 : Int32)).toNatClampNeg)) else none := by
  funext r
  by_cases hr : r < 6
  · rw [h r hr, if_pos hr, nI_clamp (by omega), if_pos hr]
  · obtain ⟨k, rfl⟩ : ∃ k, r = k + 6 := ⟨r - 6, by omega⟩
    rw [h2, if_neg hr]
    rfl
/-- where the row has cell k of the chip's world -/
def gBC (k : Nat) : Nat := if k < 2 then k else if k < 3 then 143 else if k < 6 then k + 141 else if k < 7 then 147 else if k < 148 then k - 5 else k
theorem gBC_inj (i j : Nat) (hi : i < 430) (hj : j < 430) (h : gBC i = gBC j) : i = j := by
  unfold gBC at h
  split at h <;> split at h <;> (try split at h) <;> (try split at h) <;> (try split at h) <;> (try split at h) <;> (try split at h) <;> (try split at h) <;> (try split at h) <;> (try split at h) <;> omega
theorem lko_X8_1 : Cond.methodLink RX8 1 Lib.objectInit ∈ wG := wG_t 25 (by decide +kernel) rfl
theorem cl_X8_7 : Cond.classLink RX8 7 RX6 ∈ wG := wG_t 28 (by decide +kernel) rfl
theorem it_X6 : Cond.instantiable RX6 13 ∈ wG := wG_t 29 (by decide +kernel) rfl
theorem co_X6_init : Cond.code yX6_init cX6_init 1 none ∈ wG := wG_t 32 (by decide +kernel) rfl
theorem dd_X6_init : yX6_init.cls ≠ "java/lang/invoke/MethodHandle" ∧ yX6_init.cls ≠ "java/lang/invoke/VarHandle" ∧ (parseMethodDescriptor yX6_init.desc).map (fun d => d.parameters.length) = some 0 := by decide +kernel
theorem im_X6_init : Cond.instanceMethod yX6_init ∈ wG := wG_t 31 (by decide +kernel) rfl
theorem nw_X8_9 : Cond.methodLinkNest RX8 9 yX6_init "BusyChip" ∈ wN := by decide +kernel
theorem ac_char : Cond.arrayClass .char ∈ wG := wG_t 307 (by decide +kernel) rfl
theorem cl_X8_41 : Cond.classLink RX8 41 RX5 ∈ wG := wG_t 276 (by decide +kernel) rfl
theorem it_X5 : Cond.instantiable RX5 6 ∈ wG := wG_t 277 (by decide +kernel) rfl
theorem co_X5_init : Cond.code yX5_init cX5_init 1 none ∈ wG := wG_t 280 (by decide +kernel) rfl
theorem dd_X5_init : yX5_init.cls ≠ "java/lang/invoke/MethodHandle" ∧ yX5_init.cls ≠ "java/lang/invoke/VarHandle" ∧ (parseMethodDescriptor yX5_init.desc).map (fun d => d.parameters.length) = some 0 := by decide +kernel
theorem im_X5_init : Cond.instanceMethod yX5_init ∈ wG := wG_t 279 (by decide +kernel) rfl
theorem nw_X8_43 : Cond.methodLinkNest RX8 43 yX5_init "BusyChip" ∈ wN := by decide +kernel
theorem fl_X8_48 : Cond.fieldLink RX8 48 "BusyChip" "tally" "[I" ∈ wG := wG_t 317 (by decide +kernel) rfl
set_option maxHeartbeats 4000000 in
set_option maxRecDepth 100000 in
theorem c_X8_init (l : Launch) (G : xGl) (sa : Nat → Nat) : mCT l yX8_init (wM yX8_init cX8_init 2 none) { frames := 5, cells := 429, slots := 7704, locals := 95 } G sa 8 [.null, .null, .null, .int 0, .null, .int 0, .null, .int 0, .null, .null] (eBC G) 430 v0BC 429 7704 := by
  refine xCT (cc := cX8_init) (maxL := 2) (by decide) rfl rfl (Nat.le_of_ble_eq_true rfl) ?_
  intro p e s m below meth c ls b hC hin hr hlk h hl
  have hx := hC.1
  have hb := hC.2.1
  refine lv_aload_n hx hb dX8_init_0 rfl (lv_at hl 0 rfl) ?_
  refine gobj hC hl.1 (wM_in lko_X8_1) (wM_in im_obj) (wM_in co_obj) dX8_init_1 ⟨Nat.le_of_ble_eq_true rfl, Nat.le_of_ble_eq_true rfl⟩ ?_
  refine lv_aload_n hx hb dX8_init_4 rfl (lv_at hl 0 rfl) ?_
  refine gnew (ci := 6) (fs := [.null, .null, .null, .null, .null, .null, .null, .int 0, .int 0, .int 0, .int 0, .int 0, .int 0]) (C := RX6) (T := TX6) (N := 13) hC h (wM_us uw_X6) (ty0 := tyX6) tyX6_ok (wM_in cl_X8_7) (wM_in it_X6) (wM_in in_X6) rfl (fun j hj => by rcases (show j = 0 ∨ j = 1 ∨ j = 2 ∨ j = 3 ∨ j = 4 ∨ j = 5 ∨ j = 6 ∨ j = 7 ∨ j = 8 ∨ j = 9 ∨ j = 10 ∨ j = 11 ∨ j = 12 by omega) with rfl | rfl | rfl | rfl | rfl | rfl | rfl | rfl | rfl | rfl | rfl | rfl | rfl <;> rfl) (k1 := 1) (k2 := 13) rfl rfl (Nat.le_of_ble_eq_true rfl) (Nat.le_of_ble_eq_true rfl) dX8_init_5 (fun o1 H h => ?_)
  refine lv_dup hx hb dX8_init_8 rfl ?_
  refine gctor h (va_runIN (As := []) (rest := [.ref o1, .ref b]) hC (c_X6_init l G sa o1 H.size) (gcwN hC (fun _ h9 => wM_in h9) (h.2.2.2.1 _ nw_X8_9) in_X6 co_X6_init im_X6_init rfl rfl rfl dd_X6_init ⟨Nat.le_of_ble_eq_true rfl, Nat.le_of_ble_eq_true rfl⟩) (gpre h) rfl rfl hl.1 rfl (lv_room (Nat.le_of_ble_eq_true rfl)) dX8_init_9 ⟨Nat.le_of_ble_eq_true rfl, Nat.le_of_ble_eq_true rfl⟩) (k1 := 47) (k2 := 818) rfl rfl (fun q2 H locs hq3 hn_ => ?_)
  subst hq3
  have h := hn_
  clear hn_
  refine gputF hC h hin (C := RX8) (T := TX8) (N := 10) (wM_us uw_X8) (ty0 := tyX8) tyX8_ok nmX8 0 rfl rfl 0 (by decide) (wM_in fl_X8_10) rfl rfl rfl rfl (Nat.le_of_ble_eq_true rfl) (ws1 := ([(b, .inr (8, [.ref (q2 0), .null, .null, .int 0, .null, .int 0, .null, .int 0, .null, .null]))] ++ wl (eState G) 47 q2 v0State)) rfl dX8_init_12 (fun H locs h => ?_)
  refine lv_aload_n hx hb dX8_init_15 rfl (lv_at hl 0 rfl) ?_
  refine gnew (ci := 6) (fs := [.null, .null, .null, .null, .null, .null, .null, .int 0, .int 0, .int 0, .int 0, .int 0, .int 0]) (C := RX6) (T := TX6) (N := 13) hC h (wM_us uw_X6) (ty0 := tyX6) tyX6_ok (wM_in cl_X8_7) (wM_in it_X6) (wM_in in_X6) rfl (fun j hj => by rcases (show j = 0 ∨ j = 1 ∨ j = 2 ∨ j = 3 ∨ j = 4 ∨ j = 5 ∨ j = 6 ∨ j = 7 ∨ j = 8 ∨ j = 9 ∨ j = 10 ∨ j = 11 ∨ j = 12 by omega) with rfl | rfl | rfl | rfl | rfl | rfl | rfl | rfl | rfl | rfl | rfl | rfl | rfl <;> rfl) (k1 := 48) (k2 := 831) rfl rfl (Nat.le_of_ble_eq_true rfl) (Nat.le_of_ble_eq_true rfl) dX8_init_16 (fun o4 H h => ?_)
  refine lv_dup hx hb dX8_init_19 rfl ?_
  refine gctor h (va_runIN (As := []) (rest := [.ref o4, .ref b]) hC (c_X6_init l G sa o4 H.size) (gcwN hC (fun _ h9 => wM_in h9) (h.2.2.2.1 _ nw_X8_9) in_X6 co_X6_init im_X6_init rfl rfl rfl dd_X6_init ⟨Nat.le_of_ble_eq_true rfl, Nat.le_of_ble_eq_true rfl⟩) (gpre h) rfl rfl hl.1 rfl (lv_room (Nat.le_of_ble_eq_true rfl)) dX8_init_20 ⟨Nat.le_of_ble_eq_true rfl, Nat.le_of_ble_eq_true rfl⟩) (k1 := 94) (k2 := 1636) rfl rfl (fun q5 H locs hq6 hn_ => ?_)
  subst hq6
  have h := hn_
  clear hn_
  refine gputF hC h hin (C := RX8) (T := TX8) (N := 10) (wM_us uw_X8) (ty0 := tyX8) tyX8_ok nmX8 0 rfl rfl 1 (by decide) (wM_in fl_X8_16) rfl rfl rfl rfl (Nat.le_of_ble_eq_true rfl) (ws1 := (([(b, .inr (8, [.ref (q2 0), .ref (q5 0), .null, .int 0, .null, .int 0, .null, .int 0, .null, .null]))] ++ wl (eState G) 47 q2 v0State) ++ wl (eState G) 47 q5 v0State)) rfl dX8_init_23 (fun H locs h => ?_)
  refine lv_aload_n hx hb dX8_init_26 rfl (lv_at hl 0 rfl) ?_
  refine gnew (ci := 6) (fs := [.null, .null, .null, .null, .null, .null, .null, .int 0, .int 0, .int 0, .int 0, .int 0, .int 0]) (C := RX6) (T := TX6) (N := 13) hC h (wM_us uw_X6) (ty0 := tyX6) tyX6_ok (wM_in cl_X8_7) (wM_in it_X6) (wM_in in_X6) rfl (fun j hj => by rcases (show j = 0 ∨ j = 1 ∨ j = 2 ∨ j = 3 ∨ j = 4 ∨ j = 5 ∨ j = 6 ∨ j = 7 ∨ j = 8 ∨ j = 9 ∨ j = 10 ∨ j = 11 ∨ j = 12 by omega) with rfl | rfl | rfl | rfl | rfl | rfl | rfl | rfl | rfl | rfl | rfl | rfl | rfl <;> rfl) (k1 := 95) (k2 := 1649) rfl rfl (Nat.le_of_ble_eq_true rfl) (Nat.le_of_ble_eq_true rfl) dX8_init_27 (fun o7 H h => ?_)
  refine lv_dup hx hb dX8_init_30 rfl ?_
  refine gctor h (va_runIN (As := []) (rest := [.ref o7, .ref b]) hC (c_X6_init l G sa o7 H.size) (gcwN hC (fun _ h9 => wM_in h9) (h.2.2.2.1 _ nw_X8_9) in_X6 co_X6_init im_X6_init rfl rfl rfl dd_X6_init ⟨Nat.le_of_ble_eq_true rfl, Nat.le_of_ble_eq_true rfl⟩) (gpre h) rfl rfl hl.1 rfl (lv_room (Nat.le_of_ble_eq_true rfl)) dX8_init_31 ⟨Nat.le_of_ble_eq_true rfl, Nat.le_of_ble_eq_true rfl⟩) (k1 := 141) (k2 := 2454) rfl rfl (fun q8 H locs hq9 hn_ => ?_)
  subst hq9
  have h := hn_
  clear hn_
  refine gputF hC h hin (C := RX8) (T := TX8) (N := 10) (wM_us uw_X8) (ty0 := tyX8) tyX8_ok nmX8 0 rfl rfl 2 (by decide) (wM_in fl_X8_19) rfl rfl rfl rfl (Nat.le_of_ble_eq_true rfl) (ws1 := ((([(b, .inr (8, [.ref (q2 0), .ref (q5 0), .ref (q8 0), .int 0, .null, .int 0, .null, .int 0, .null, .null]))] ++ wl (eState G) 47 q2 v0State) ++ wl (eState G) 47 q5 v0State) ++ wl (eState G) 47 q8 v0State)) rfl dX8_init_34 (fun H locs h => ?_)
  refine lv_aload_n hx hb dX8_init_37 rfl (lv_at hl 0 rfl) ?_
  refine lv_iconst (v := (0 : Int32)) hx hb dX8_init_38 (by decide) ?_
  refine gput hC h (C := RX8) (T := TX8) (N := 10) (wM_us uw_X8) (ty0 := tyX8) tyX8_ok nmX8 0 rfl rfl 3 (by decide) (wM_in fl_X8_22) rfl rfl rfl (Nat.le_of_ble_eq_true rfl) (ws1 := ((([(b, .inr (8, [.ref (q2 0), .ref (q5 0), .ref (q8 0), .int (0 : Int32), .null, .int 0, .null, .int 0, .null, .null]))] ++ wl (eState G) 47 q2 v0State) ++ wl (eState G) 47 q5 v0State) ++ wl (eState G) 47 q8 v0State)) rfl dX8_init_39 (fun H locs h => ?_)
  refine lv_aload_n hx hb dX8_init_42 rfl (lv_at hl 0 rfl) ?_
  refine lv_bipush (v := (6 : Int32)) hx hb dX8_init_43 (by decide) ?_
  refine gnewq hC h (t := 3) (wM_in cl_X8_7) (xaoS h.2.2.2.2.2.2) rfl (N := 6) (by decide) (by decide) (Nat.le_of_ble_eq_true rfl) (k1 := 142) (k2 := 2460) rfl rfl (Nat.le_of_ble_eq_true rfl) (Nat.le_of_ble_eq_true rfl) dX8_init_45 (fun a10 H h => ?_)
  rw [show ((((([(b, .inr (8, [.ref (q2 0), .ref (q5 0), .ref (q8 0), .int (0 : Int32), .null, .int 0, .null, .int 0, .null, .null]))] ++ wl (eState G) 47 q2 v0State) ++ wl (eState G) 47 q5 v0State) ++ wl (eState G) 47 q8 v0State) ++ [(a10, .inl (G.2 3, 6, .inr (.inr (.inr (.inr (fun _ => none))))))]) : va_W) = ((([(b, .inr (8, [.ref (q2 0), .ref (q5 0), .ref (q8 0), .int (0 : Int32), .null, .int 0, .null, .int 0, .null, .null]))] ++ (wl (eState G) 47 q2 v0State ++ (wl (eState G) 47 q5 v0State ++ wl (eState G) 47 q8 v0State))) ++ [(a10, .inl (G.2 3, 6, .inr (.inr (.inr (.inr (fun _ => none))))))]) : va_W) by simp only [List.append_assoc]] at h
  have h := gswap h
  refine gputF hC h hin (C := RX8) (T := TX8) (N := 10) (wM_us uw_X8) (ty0 := tyX8) tyX8_ok nmX8 0 rfl rfl 4 (by decide) (wM_in fl_X8_26) rfl rfl rfl rfl (Nat.le_of_ble_eq_true rfl) (ws1 := (([(b, .inr (8, [.ref (q2 0), .ref (q5 0), .ref (q8 0), .int (0 : Int32), .ref a10, .int 0, .null, .int 0, .null, .null]))] ++ [(a10, .inl (G.2 3, 6, .inr (.inr (.inr (.inr (fun _ => none))))))]) ++ (wl (eState G) 47 q2 v0State ++ (wl (eState G) 47 q5 v0State ++ wl (eState G) 47 q8 v0State)))) rfl dX8_init_48 (fun H locs h => ?_)
  refine lv_aload_n hx hb dX8_init_51 rfl (lv_at hl 0 rfl) ?_
  refine lv_iconst (v := (0 : Int32)) hx hb dX8_init_52 (by decide) ?_
  refine gput hC h (C := RX8) (T := TX8) (N := 10) (wM_us uw_X8) (ty0 := tyX8) tyX8_ok nmX8 0 rfl rfl 5 (by decide) (wM_in fl_X8_30) rfl rfl rfl (Nat.le_of_ble_eq_true rfl) (ws1 := (([(b, .inr (8, [.ref (q2 0), .ref (q5 0), .ref (q8 0), .int (0 : Int32), .ref a10, .int (0 : Int32), .null, .int 0, .null, .null]))] ++ [(a10, .inl (G.2 3, 6, .inr (.inr (.inr (.inr (fun _ => none))))))]) ++ (wl (eState G) 47 q2 v0State ++ (wl (eState G) 47 q5 v0State ++ wl (eState G) 47 q8 v0State)))) rfl dX8_init_53 (fun H locs h => ?_)
  refine lv_aload_n hx hb dX8_init_56 rfl (lv_at hl 0 rfl) ?_
  refine lv_bipush (v := (60 : Int32)) hx hb dX8_init_57 (by decide) ?_
  refine gnewch hC h (wM_in ac_char) (N := 60) (by decide) (by decide) (Nat.le_of_ble_eq_true rfl) (k1 := 143) (k2 := 2520) rfl rfl (Nat.le_of_ble_eq_true rfl) (Nat.le_of_ble_eq_true rfl) dX8_init_59 (fun a11 H h => ?_)
  refine gputF hC h hin (C := RX8) (T := TX8) (N := 10) (wM_us uw_X8) (ty0 := tyX8) tyX8_ok nmX8 0 rfl rfl 6 (by decide) (wM_in fl_X8_34) rfl rfl rfl rfl (Nat.le_of_ble_eq_true rfl) (ws1 := ((([(b, .inr (8, [.ref (q2 0), .ref (q5 0), .ref (q8 0), .int (0 : Int32), .ref a10, .int (0 : Int32), .ref a11, .int 0, .null, .null]))] ++ [(a10, .inl (G.2 3, 6, .inr (.inr (.inr (.inr (fun _ => none))))))]) ++ (wl (eState G) 47 q2 v0State ++ (wl (eState G) 47 q5 v0State ++ wl (eState G) 47 q8 v0State))) ++ [(a11, .inl (G.2 1, 60, .inl (fun _ => 0)))])) rfl dX8_init_61 (fun H locs h => ?_)
  refine lv_aload_n hx hb dX8_init_64 rfl (lv_at hl 0 rfl) ?_
  refine lv_iconst (v := (0 : Int32)) hx hb dX8_init_65 (by decide) ?_
  refine gput hC h (C := RX8) (T := TX8) (N := 10) (wM_us uw_X8) (ty0 := tyX8) tyX8_ok nmX8 0 rfl rfl 7 (by decide) (wM_in fl_X8_38) rfl rfl rfl (Nat.le_of_ble_eq_true rfl) (ws1 := ((([(b, .inr (8, [.ref (q2 0), .ref (q5 0), .ref (q8 0), .int (0 : Int32), .ref a10, .int (0 : Int32), .ref a11, .int (0 : Int32), .null, .null]))] ++ [(a10, .inl (G.2 3, 6, .inr (.inr (.inr (.inr (fun _ => none))))))]) ++ (wl (eState G) 47 q2 v0State ++ (wl (eState G) 47 q5 v0State ++ wl (eState G) 47 q8 v0State))) ++ [(a11, .inl (G.2 1, 60, .inl (fun _ => 0)))])) rfl dX8_init_66 (fun H locs h => ?_)
  refine lv_aload_n hx hb dX8_init_69 rfl (lv_at hl 0 rfl) ?_
  refine gnew (ci := 5) (fs := [.int 0, .int 0, .int 0, .int 0, .null, .int 0]) (C := RX5) (T := TX5) (N := 6) hC h (wM_us uw_X5) (ty0 := tyX5) tyX5_ok (wM_in cl_X8_41) (wM_in it_X5) (wM_in in_X5) rfl (fun j hj => by rcases (show j = 0 ∨ j = 1 ∨ j = 2 ∨ j = 3 ∨ j = 4 ∨ j = 5 by omega) with rfl | rfl | rfl | rfl | rfl | rfl <;> rfl) (k1 := 144) (k2 := 2526) rfl rfl (Nat.le_of_ble_eq_true rfl) (Nat.le_of_ble_eq_true rfl) dX8_init_70 (fun o12 H h => ?_)
  refine lv_dup hx hb dX8_init_73 rfl ?_
  refine gctor h (va_runIN (As := []) (rest := [.ref o12, .ref b]) hC (c_X5_init l G sa o12 H.size) (gcwN hC (fun _ h9 => wM_in h9) (h.2.2.2.1 _ nw_X8_43) in_X5 co_X5_init im_X5_init rfl rfl rfl dd_X5_init ⟨Nat.le_of_ble_eq_true rfl, Nat.le_of_ble_eq_true rfl⟩) (gpre h) rfl rfl hl.1 rfl (lv_room (Nat.le_of_ble_eq_true rfl)) dX8_init_74 ⟨Nat.le_of_ble_eq_true rfl, Nat.le_of_ble_eq_true rfl⟩) (k1 := 146) (k2 := 2540) rfl rfl (fun q13 H locs hq14 hn_ => ?_)
  subst hq14
  have h := hn_
  clear hn_
  refine gputF hC h hin (C := RX8) (T := TX8) (N := 10) (wM_us uw_X8) (ty0 := tyX8) tyX8_ok nmX8 0 rfl rfl 8 (by decide) (wM_in fl_X8_44) rfl rfl rfl rfl (Nat.le_of_ble_eq_true rfl) (ws1 := (((([(b, .inr (8, [.ref (q2 0), .ref (q5 0), .ref (q8 0), .int (0 : Int32), .ref a10, .int (0 : Int32), .ref a11, .int (0 : Int32), .ref (q13 0), .null]))] ++ [(a10, .inl (G.2 3, 6, .inr (.inr (.inr (.inr (fun _ => none))))))]) ++ (wl (eState G) 47 q2 v0State ++ (wl (eState G) 47 q5 v0State ++ wl (eState G) 47 q8 v0State))) ++ [(a11, .inl (G.2 1, 60, .inl (fun _ => 0)))]) ++ wl (eScribe G) 3 q13 v0Scribe)) rfl dX8_init_77 (fun H locs h => ?_)
  refine lv_aload_n hx hb dX8_init_80 rfl (lv_at hl 0 rfl) ?_
  refine lv_sipush (v := (256 : Int32)) hx hb dX8_init_81 (by decide) ?_
  refine gnewi hC h (wM_in ac_int) (N := 256) (by decide) (by decide) (Nat.le_of_ble_eq_true rfl) (k1 := 147) (k2 := 2796) rfl rfl (Nat.le_of_ble_eq_true rfl) (Nat.le_of_ble_eq_true rfl) dX8_init_84 (fun a15 H h => ?_)
  refine gputF hC h hin (C := RX8) (T := TX8) (N := 10) (wM_us uw_X8) (ty0 := tyX8) tyX8_ok nmX8 0 rfl rfl 9 (by decide) (wM_in fl_X8_48) rfl rfl rfl rfl (Nat.le_of_ble_eq_true rfl) (ws1 := ((((([(b, .inr (8, [.ref (q2 0), .ref (q5 0), .ref (q8 0), .int (0 : Int32), .ref a10, .int (0 : Int32), .ref a11, .int (0 : Int32), .ref (q13 0), .ref a15]))] ++ [(a10, .inl (G.2 3, 6, .inr (.inr (.inr (.inr (fun _ => none))))))]) ++ (wl (eState G) 47 q2 v0State ++ (wl (eState G) 47 q5 v0State ++ wl (eState G) 47 q8 v0State))) ++ [(a11, .inl (G.2 1, 60, .inl (fun _ => 0)))]) ++ wl (eScribe G) 3 q13 v0Scribe) ++ [(a15, .inl (G.2 0, 256, .inl (fun _ => 0)))])) rfl dX8_init_86 (fun H locs h => ?_)
  refine lv_iconst (v := (0 : Int32)) hx hb dX8_init_89 (by decide) ?_
  refine lv_istore_n (lv' := [(1, .int (0 : Int32)), (0, .ref b)]) hx hb dX8_init_90 rfl hl (by decide) rfl (fun ls hl => ?_)
  refine lv_iload_n hx hb dX8_init_91 rfl (lv_at hl 0 rfl) ?_
  refine lv_aload_n hx hb dX8_init_92 rfl (lv_at hl 1 rfl) ?_
  refine gget hC h (C := RX8) (T := TX8) (N := 10) (wM_us uw_X8) 0 rfl rfl 4 (by decide) (wM_in fl_X8_26) rfl dX8_init_93 ?_
  refine galen hC h 3 rfl 1 rfl (z := (6 : Int32)) rfl dX8_init_96 ?_
  refine lv_icmp_ge (tgt := 119) hx hb dX8_init_97 (by decide) (fun c16 => absurd c16 (by decide)) (fun c16 => ?_)
  refine lv_aload_n hx hb dX8_init_100 rfl (lv_at hl 1 rfl) ?_
  refine gget hC h (C := RX8) (T := TX8) (N := 10) (wM_us uw_X8) 0 rfl rfl 4 (by decide) (wM_in fl_X8_26) rfl dX8_init_101 ?_
  refine lv_iload_n hx hb dX8_init_104 rfl (lv_at hl 0 rfl) ?_
  refine gnew (ci := 6) (fs := [.null, .null, .null, .null, .null, .null, .null, .int 0, .int 0, .int 0, .int 0, .int 0, .int 0]) (C := RX6) (T := TX6) (N := 13) hC h (wM_us uw_X6) (ty0 := tyX6) tyX6_ok (wM_in cl_X8_7) (wM_in it_X6) (wM_in in_X6) rfl (fun j hj => by rcases (show j = 0 ∨ j = 1 ∨ j = 2 ∨ j = 3 ∨ j = 4 ∨ j = 5 ∨ j = 6 ∨ j = 7 ∨ j = 8 ∨ j = 9 ∨ j = 10 ∨ j = 11 ∨ j = 12 by omega) with rfl | rfl | rfl | rfl | rfl | rfl | rfl | rfl | rfl | rfl | rfl | rfl | rfl <;> rfl) (k1 := 148) (k2 := 2809) rfl rfl (Nat.le_of_ble_eq_true rfl) (Nat.le_of_ble_eq_true rfl) dX8_init_105 (fun o17 H h => ?_)
  refine lv_dup hx hb dX8_init_108 rfl ?_
  refine gctor h (va_runIN (As := []) (rest := [.ref o17, .int (0 : Int32), .ref a10]) hC (c_X6_init l G sa o17 H.size) (gcwN hC (fun _ h9 => wM_in h9) (h.2.2.2.1 _ nw_X8_9) in_X6 co_X6_init im_X6_init rfl rfl rfl dd_X6_init ⟨Nat.le_of_ble_eq_true rfl, Nat.le_of_ble_eq_true rfl⟩) (gpre h) rfl rfl hl.1 rfl (lv_room (Nat.le_of_ble_eq_true rfl)) dX8_init_109 ⟨Nat.le_of_ble_eq_true rfl, Nat.le_of_ble_eq_true rfl⟩) (k1 := 194) (k2 := 3614) rfl rfl (fun q18 H locs hq19 hn_ => ?_)
  subst hq19
  have h := hn_
  clear hn_
  refine gast (r := (RX6, TX6, 13)) hC h 1 3 (List.length (((((([(b, .inr (8, [.ref (q2 0), .ref (q5 0), .ref (q8 0), .int (0 : Int32), .ref a10, .int (0 : Int32), .ref a11, .int (0 : Int32), .ref (q13 0), .ref a15]))] ++ [(a10, .inl (G.2 3, 6, .inr (.inr (.inr (.inr (fun _ => none))))))]) ++ (wl (eState G) 47 q2 v0State ++ (wl (eState G) 47 q5 v0State ++ wl (eState G) 47 q8 v0State))) ++ [(a11, .inl (G.2 1, 60, .inl (fun _ => 0)))]) ++ wl (eScribe G) 3 q13 v0Scribe) ++ [(a15, .inl (G.2 0, 256, .inl (fun _ => 0)))]) : va_W)) 6 rfl rfl ((glast (Nat.le_of_ble_eq_true rfl)).trans rfl) rfl (show ¬ ((0 : Int32) < 0 ∨ 6 ≤ (0 : Int32).toNatClampNeg) by decide) (k := 0) (by decide) (ws1 := (((((([(b, .inr (8, [.ref (q2 0), .ref (q5 0), .ref (q8 0), .int (0 : Int32), .ref a10, .int (0 : Int32), .ref a11, .int (0 : Int32), .ref (q13 0), .ref a15]))] ++ [(a10, .inl (G.2 3, 6, .inr (.inr (.inr (.inr (va_up (fun _ => none) 0 (some (q18 0))))))))]) ++ (wl (eState G) 47 q2 v0State ++ (wl (eState G) 47 q5 v0State ++ wl (eState G) 47 q8 v0State))) ++ [(a11, .inl (G.2 1, 60, .inl (fun _ => 0)))]) ++ wl (eScribe G) 3 q13 v0Scribe) ++ [(a15, .inl (G.2 0, 256, .inl (fun _ => 0)))]) ++ wl (eState G) 47 q18 v0State)) rfl dX8_init_112 (fun H locs h => ?_)
  refine lv_iinc (v := (1 : Int32)) (lv' := [(1, .int (1 : Int32)), (0, .ref b)]) hx hb dX8_init_113 hl (k := 0) rfl rfl (by decide) rfl (fun ls hl => ?_)
  refine lv_goto (tgt := 91) hx hb dX8_init_116 (by decide) ?_
  refine lv_iload_n hx hb dX8_init_91 rfl (lv_at hl 0 rfl) ?_
  refine lv_aload_n hx hb dX8_init_92 rfl (lv_at hl 1 rfl) ?_
  refine gget hC h (C := RX8) (T := TX8) (N := 10) (wM_us uw_X8) 0 rfl rfl 4 (by decide) (wM_in fl_X8_26) rfl dX8_init_93 ?_
  refine galen hC h 3 rfl 1 rfl (z := (6 : Int32)) rfl dX8_init_96 ?_
  refine lv_icmp_ge (tgt := 119) hx hb dX8_init_97 (by decide) (fun c20 => absurd c20 (by decide)) (fun c20 => ?_)
  refine lv_aload_n hx hb dX8_init_100 rfl (lv_at hl 1 rfl) ?_
  refine gget hC h (C := RX8) (T := TX8) (N := 10) (wM_us uw_X8) 0 rfl rfl 4 (by decide) (wM_in fl_X8_26) rfl dX8_init_101 ?_
  refine lv_iload_n hx hb dX8_init_104 rfl (lv_at hl 0 rfl) ?_
  refine gnew (ci := 6) (fs := [.null, .null, .null, .null, .null, .null, .null, .int 0, .int 0, .int 0, .int 0, .int 0, .int 0]) (C := RX6) (T := TX6) (N := 13) hC h (wM_us uw_X6) (ty0 := tyX6) tyX6_ok (wM_in cl_X8_7) (wM_in it_X6) (wM_in in_X6) rfl (fun j hj => by rcases (show j = 0 ∨ j = 1 ∨ j = 2 ∨ j = 3 ∨ j = 4 ∨ j = 5 ∨ j = 6 ∨ j = 7 ∨ j = 8 ∨ j = 9 ∨ j = 10 ∨ j = 11 ∨ j = 12 by omega) with rfl | rfl | rfl | rfl | rfl | rfl | rfl | rfl | rfl | rfl | rfl | rfl | rfl <;> rfl) (k1 := 195) (k2 := 3627) rfl rfl (Nat.le_of_ble_eq_true rfl) (Nat.le_of_ble_eq_true rfl) dX8_init_105 (fun o21 H h => ?_)
  refine lv_dup hx hb dX8_init_108 rfl ?_
  refine gctor h (va_runIN (As := []) (rest := [.ref o21, .int (1 : Int32), .ref a10]) hC (c_X6_init l G sa o21 H.size) (gcwN hC (fun _ h9 => wM_in h9) (h.2.2.2.1 _ nw_X8_9) in_X6 co_X6_init im_X6_init rfl rfl rfl dd_X6_init ⟨Nat.le_of_ble_eq_true rfl, Nat.le_of_ble_eq_true rfl⟩) (gpre h) rfl rfl hl.1 rfl (lv_room (Nat.le_of_ble_eq_true rfl)) dX8_init_109 ⟨Nat.le_of_ble_eq_true rfl, Nat.le_of_ble_eq_true rfl⟩) (k1 := 241) (k2 := 4432) rfl rfl (fun q22 H locs hq23 hn_ => ?_)
  subst hq23
  have h := hn_
  clear hn_
  refine gast (r := (RX6, TX6, 13)) hC h 1 3 (List.length ((((((([(b, .inr (8, [.ref (q2 0), .ref (q5 0), .ref (q8 0), .int (0 : Int32), .ref a10, .int (0 : Int32), .ref a11, .int (0 : Int32), .ref (q13 0), .ref a15]))] ++ [(a10, .inl (G.2 3, 6, .inr (.inr (.inr (.inr (va_up (fun _ => none) 0 (some (q18 0))))))))]) ++ (wl (eState G) 47 q2 v0State ++ (wl (eState G) 47 q5 v0State ++ wl (eState G) 47 q8 v0State))) ++ [(a11, .inl (G.2 1, 60, .inl (fun _ => 0)))]) ++ wl (eScribe G) 3 q13 v0Scribe) ++ [(a15, .inl (G.2 0, 256, .inl (fun _ => 0)))]) ++ wl (eState G) 47 q18 v0State) : va_W)) 6 rfl rfl ((glast (Nat.le_of_ble_eq_true rfl)).trans rfl) rfl (show ¬ ((1 : Int32) < 0 ∨ 6 ≤ (1 : Int32).toNatClampNeg) by decide) (k := 1) (by decide) (ws1 := ((((((([(b, .inr (8, [.ref (q2 0), .ref (q5 0), .ref (q8 0), .int (0 : Int32), .ref a10, .int (0 : Int32), .ref a11, .int (0 : Int32), .ref (q13 0), .ref a15]))] ++ [(a10, .inl (G.2 3, 6, .inr (.inr (.inr (.inr (va_up (va_up (fun _ => none) 0 (some (q18 0))) 1 (some (q22 0))))))))]) ++ (wl (eState G) 47 q2 v0State ++ (wl (eState G) 47 q5 v0State ++ wl (eState G) 47 q8 v0State))) ++ [(a11, .inl (G.2 1, 60, .inl (fun _ => 0)))]) ++ wl (eScribe G) 3 q13 v0Scribe) ++ [(a15, .inl (G.2 0, 256, .inl (fun _ => 0)))]) ++ wl (eState G) 47 q18 v0State) ++ wl (eState G) 47 q22 v0State)) rfl dX8_init_112 (fun H locs h => ?_)
  refine lv_iinc (v := (2 : Int32)) (lv' := [(1, .int (2 : Int32)), (0, .ref b)]) hx hb dX8_init_113 hl (k := 0) rfl rfl (by decide) rfl (fun ls hl => ?_)
  refine lv_goto (tgt := 91) hx hb dX8_init_116 (by decide) ?_
  refine lv_iload_n hx hb dX8_init_91 rfl (lv_at hl 0 rfl) ?_
  refine lv_aload_n hx hb dX8_init_92 rfl (lv_at hl 1 rfl) ?_
  refine gget hC h (C := RX8) (T := TX8) (N := 10) (wM_us uw_X8) 0 rfl rfl 4 (by decide) (wM_in fl_X8_26) rfl dX8_init_93 ?_
  refine galen hC h 3 rfl 1 rfl (z := (6 : Int32)) rfl dX8_init_96 ?_
  refine lv_icmp_ge (tgt := 119) hx hb dX8_init_97 (by decide) (fun c24 => absurd c24 (by decide)) (fun c24 => ?_)
  refine lv_aload_n hx hb dX8_init_100 rfl (lv_at hl 1 rfl) ?_
  refine gget hC h (C := RX8) (T := TX8) (N := 10) (wM_us uw_X8) 0 rfl rfl 4 (by decide) (wM_in fl_X8_26) rfl dX8_init_101 ?_
  refine lv_iload_n hx hb dX8_init_104 rfl (lv_at hl 0 rfl) ?_
  refine gnew (ci := 6) (fs := [.null, .null, .null, .null, .null, .null, .null, .int 0, .int 0, .int 0, .int 0, .int 0, .int 0]) (C := RX6) (T := TX6) (N := 13) hC h (wM_us uw_X6) (ty0 := tyX6) tyX6_ok (wM_in cl_X8_7) (wM_in it_X6) (wM_in in_X6) rfl (fun j hj => by rcases (show j = 0 ∨ j = 1 ∨ j = 2 ∨ j = 3 ∨ j = 4 ∨ j = 5 ∨ j = 6 ∨ j = 7 ∨ j = 8 ∨ j = 9 ∨ j = 10 ∨ j = 11 ∨ j = 12 by omega) with rfl | rfl | rfl | rfl | rfl | rfl | rfl | rfl | rfl | rfl | rfl | rfl | rfl <;> rfl) (k1 := 242) (k2 := 4445) rfl rfl (Nat.le_of_ble_eq_true rfl) (Nat.le_of_ble_eq_true rfl) dX8_init_105 (fun o25 H h => ?_)
  refine lv_dup hx hb dX8_init_108 rfl ?_
  refine gctor h (va_runIN (As := []) (rest := [.ref o25, .int (2 : Int32), .ref a10]) hC (c_X6_init l G sa o25 H.size) (gcwN hC (fun _ h9 => wM_in h9) (h.2.2.2.1 _ nw_X8_9) in_X6 co_X6_init im_X6_init rfl rfl rfl dd_X6_init ⟨Nat.le_of_ble_eq_true rfl, Nat.le_of_ble_eq_true rfl⟩) (gpre h) rfl rfl hl.1 rfl (lv_room (Nat.le_of_ble_eq_true rfl)) dX8_init_109 ⟨Nat.le_of_ble_eq_true rfl, Nat.le_of_ble_eq_true rfl⟩) (k1 := 288) (k2 := 5250) rfl rfl (fun q26 H locs hq27 hn_ => ?_)
  subst hq27
  have h := hn_
  clear hn_
  refine gast (r := (RX6, TX6, 13)) hC h 1 3 (List.length (((((((([(b, .inr (8, [.ref (q2 0), .ref (q5 0), .ref (q8 0), .int (0 : Int32), .ref a10, .int (0 : Int32), .ref a11, .int (0 : Int32), .ref (q13 0), .ref a15]))] ++ [(a10, .inl (G.2 3, 6, .inr (.inr (.inr (.inr (va_up (va_up (fun _ => none) 0 (some (q18 0))) 1 (some (q22 0))))))))]) ++ (wl (eState G) 47 q2 v0State ++ (wl (eState G) 47 q5 v0State ++ wl (eState G) 47 q8 v0State))) ++ [(a11, .inl (G.2 1, 60, .inl (fun _ => 0)))]) ++ wl (eScribe G) 3 q13 v0Scribe) ++ [(a15, .inl (G.2 0, 256, .inl (fun _ => 0)))]) ++ wl (eState G) 47 q18 v0State) ++ wl (eState G) 47 q22 v0State) : va_W)) 6 rfl rfl ((glast (Nat.le_of_ble_eq_true rfl)).trans rfl) rfl (show ¬ ((2 : Int32) < 0 ∨ 6 ≤ (2 : Int32).toNatClampNeg) by decide) (k := 2) (by decide) (ws1 := (((((((([(b, .inr (8, [.ref (q2 0), .ref (q5 0), .ref (q8 0), .int (0 : Int32), .ref a10, .int (0 : Int32), .ref a11, .int (0 : Int32), .ref (q13 0), .ref a15]))] ++ [(a10, .inl (G.2 3, 6, .inr (.inr (.inr (.inr (va_up (va_up (va_up (fun _ => none) 0 (some (q18 0))) 1 (some (q22 0))) 2 (some (q26 0))))))))]) ++ (wl (eState G) 47 q2 v0State ++ (wl (eState G) 47 q5 v0State ++ wl (eState G) 47 q8 v0State))) ++ [(a11, .inl (G.2 1, 60, .inl (fun _ => 0)))]) ++ wl (eScribe G) 3 q13 v0Scribe) ++ [(a15, .inl (G.2 0, 256, .inl (fun _ => 0)))]) ++ wl (eState G) 47 q18 v0State) ++ wl (eState G) 47 q22 v0State) ++ wl (eState G) 47 q26 v0State)) rfl dX8_init_112 (fun H locs h => ?_)
  refine lv_iinc (v := (3 : Int32)) (lv' := [(1, .int (3 : Int32)), (0, .ref b)]) hx hb dX8_init_113 hl (k := 0) rfl rfl (by decide) rfl (fun ls hl => ?_)
  refine lv_goto (tgt := 91) hx hb dX8_init_116 (by decide) ?_
  refine lv_iload_n hx hb dX8_init_91 rfl (lv_at hl 0 rfl) ?_
  refine lv_aload_n hx hb dX8_init_92 rfl (lv_at hl 1 rfl) ?_
  refine gget hC h (C := RX8) (T := TX8) (N := 10) (wM_us uw_X8) 0 rfl rfl 4 (by decide) (wM_in fl_X8_26) rfl dX8_init_93 ?_
  refine galen hC h 3 rfl 1 rfl (z := (6 : Int32)) rfl dX8_init_96 ?_
  refine lv_icmp_ge (tgt := 119) hx hb dX8_init_97 (by decide) (fun c28 => absurd c28 (by decide)) (fun c28 => ?_)
  refine lv_aload_n hx hb dX8_init_100 rfl (lv_at hl 1 rfl) ?_
  refine gget hC h (C := RX8) (T := TX8) (N := 10) (wM_us uw_X8) 0 rfl rfl 4 (by decide) (wM_in fl_X8_26) rfl dX8_init_101 ?_
  refine lv_iload_n hx hb dX8_init_104 rfl (lv_at hl 0 rfl) ?_
  refine gnew (ci := 6) (fs := [.null, .null, .null, .null, .null, .null, .null, .int 0, .int 0, .int 0, .int 0, .int 0, .int 0]) (C := RX6) (T := TX6) (N := 13) hC h (wM_us uw_X6) (ty0 := tyX6) tyX6_ok (wM_in cl_X8_7) (wM_in it_X6) (wM_in in_X6) rfl (fun j hj => by rcases (show j = 0 ∨ j = 1 ∨ j = 2 ∨ j = 3 ∨ j = 4 ∨ j = 5 ∨ j = 6 ∨ j = 7 ∨ j = 8 ∨ j = 9 ∨ j = 10 ∨ j = 11 ∨ j = 12 by omega) with rfl | rfl | rfl | rfl | rfl | rfl | rfl | rfl | rfl | rfl | rfl | rfl | rfl <;> rfl) (k1 := 289) (k2 := 5263) rfl rfl (Nat.le_of_ble_eq_true rfl) (Nat.le_of_ble_eq_true rfl) dX8_init_105 (fun o29 H h => ?_)
  refine lv_dup hx hb dX8_init_108 rfl ?_
  refine gctor h (va_runIN (As := []) (rest := [.ref o29, .int (3 : Int32), .ref a10]) hC (c_X6_init l G sa o29 H.size) (gcwN hC (fun _ h9 => wM_in h9) (h.2.2.2.1 _ nw_X8_9) in_X6 co_X6_init im_X6_init rfl rfl rfl dd_X6_init ⟨Nat.le_of_ble_eq_true rfl, Nat.le_of_ble_eq_true rfl⟩) (gpre h) rfl rfl hl.1 rfl (lv_room (Nat.le_of_ble_eq_true rfl)) dX8_init_109 ⟨Nat.le_of_ble_eq_true rfl, Nat.le_of_ble_eq_true rfl⟩) (k1 := 335) (k2 := 6068) rfl rfl (fun q30 H locs hq31 hn_ => ?_)
  subst hq31
  have h := hn_
  clear hn_
  refine gast (r := (RX6, TX6, 13)) hC h 1 3 (List.length ((((((((([(b, .inr (8, [.ref (q2 0), .ref (q5 0), .ref (q8 0), .int (0 : Int32), .ref a10, .int (0 : Int32), .ref a11, .int (0 : Int32), .ref (q13 0), .ref a15]))] ++ [(a10, .inl (G.2 3, 6, .inr (.inr (.inr (.inr (va_up (va_up (va_up (fun _ => none) 0 (some (q18 0))) 1 (some (q22 0))) 2 (some (q26 0))))))))]) ++ (wl (eState G) 47 q2 v0State ++ (wl (eState G) 47 q5 v0State ++ wl (eState G) 47 q8 v0State))) ++ [(a11, .inl (G.2 1, 60, .inl (fun _ => 0)))]) ++ wl (eScribe G) 3 q13 v0Scribe) ++ [(a15, .inl (G.2 0, 256, .inl (fun _ => 0)))]) ++ wl (eState G) 47 q18 v0State) ++ wl (eState G) 47 q22 v0State) ++ wl (eState G) 47 q26 v0State) : va_W)) 6 rfl rfl ((glast (Nat.le_of_ble_eq_true rfl)).trans rfl) rfl (show ¬ ((3 : Int32) < 0 ∨ 6 ≤ (3 : Int32).toNatClampNeg) by decide) (k := 3) (by decide) (ws1 := ((((((((([(b, .inr (8, [.ref (q2 0), .ref (q5 0), .ref (q8 0), .int (0 : Int32), .ref a10, .int (0 : Int32), .ref a11, .int (0 : Int32), .ref (q13 0), .ref a15]))] ++ [(a10, .inl (G.2 3, 6, .inr (.inr (.inr (.inr (va_up (va_up (va_up (va_up (fun _ => none) 0 (some (q18 0))) 1 (some (q22 0))) 2 (some (q26 0))) 3 (some (q30 0))))))))]) ++ (wl (eState G) 47 q2 v0State ++ (wl (eState G) 47 q5 v0State ++ wl (eState G) 47 q8 v0State))) ++ [(a11, .inl (G.2 1, 60, .inl (fun _ => 0)))]) ++ wl (eScribe G) 3 q13 v0Scribe) ++ [(a15, .inl (G.2 0, 256, .inl (fun _ => 0)))]) ++ wl (eState G) 47 q18 v0State) ++ wl (eState G) 47 q22 v0State) ++ wl (eState G) 47 q26 v0State) ++ wl (eState G) 47 q30 v0State)) rfl dX8_init_112 (fun H locs h => ?_)
  refine lv_iinc (v := (4 : Int32)) (lv' := [(1, .int (4 : Int32)), (0, .ref b)]) hx hb dX8_init_113 hl (k := 0) rfl rfl (by decide) rfl (fun ls hl => ?_)
  refine lv_goto (tgt := 91) hx hb dX8_init_116 (by decide) ?_
  refine lv_iload_n hx hb dX8_init_91 rfl (lv_at hl 0 rfl) ?_
  refine lv_aload_n hx hb dX8_init_92 rfl (lv_at hl 1 rfl) ?_
  refine gget hC h (C := RX8) (T := TX8) (N := 10) (wM_us uw_X8) 0 rfl rfl 4 (by decide) (wM_in fl_X8_26) rfl dX8_init_93 ?_
  refine galen hC h 3 rfl 1 rfl (z := (6 : Int32)) rfl dX8_init_96 ?_
  refine lv_icmp_ge (tgt := 119) hx hb dX8_init_97 (by decide) (fun c32 => absurd c32 (by decide)) (fun c32 => ?_)
  refine lv_aload_n hx hb dX8_init_100 rfl (lv_at hl 1 rfl) ?_
  refine gget hC h (C := RX8) (T := TX8) (N := 10) (wM_us uw_X8) 0 rfl rfl 4 (by decide) (wM_in fl_X8_26) rfl dX8_init_101 ?_
  refine lv_iload_n hx hb dX8_init_104 rfl (lv_at hl 0 rfl) ?_
  refine gnew (ci := 6) (fs := [.null, .null, .null, .null, .null, .null, .null, .int 0, .int 0, .int 0, .int 0, .int 0, .int 0]) (C := RX6) (T := TX6) (N := 13) hC h (wM_us uw_X6) (ty0 := tyX6) tyX6_ok (wM_in cl_X8_7) (wM_in it_X6) (wM_in in_X6) rfl (fun j hj => by rcases (show j = 0 ∨ j = 1 ∨ j = 2 ∨ j = 3 ∨ j = 4 ∨ j = 5 ∨ j = 6 ∨ j = 7 ∨ j = 8 ∨ j = 9 ∨ j = 10 ∨ j = 11 ∨ j = 12 by omega) with rfl | rfl | rfl | rfl | rfl | rfl | rfl | rfl | rfl | rfl | rfl | rfl | rfl <;> rfl) (k1 := 336) (k2 := 6081) rfl rfl (Nat.le_of_ble_eq_true rfl) (Nat.le_of_ble_eq_true rfl) dX8_init_105 (fun o33 H h => ?_)
  refine lv_dup hx hb dX8_init_108 rfl ?_
  refine gctor h (va_runIN (As := []) (rest := [.ref o33, .int (4 : Int32), .ref a10]) hC (c_X6_init l G sa o33 H.size) (gcwN hC (fun _ h9 => wM_in h9) (h.2.2.2.1 _ nw_X8_9) in_X6 co_X6_init im_X6_init rfl rfl rfl dd_X6_init ⟨Nat.le_of_ble_eq_true rfl, Nat.le_of_ble_eq_true rfl⟩) (gpre h) rfl rfl hl.1 rfl (lv_room (Nat.le_of_ble_eq_true rfl)) dX8_init_109 ⟨Nat.le_of_ble_eq_true rfl, Nat.le_of_ble_eq_true rfl⟩) (k1 := 382) (k2 := 6886) rfl rfl (fun q34 H locs hq35 hn_ => ?_)
  subst hq35
  have h := hn_
  clear hn_
  refine gast (r := (RX6, TX6, 13)) hC h 1 3 (List.length (((((((((([(b, .inr (8, [.ref (q2 0), .ref (q5 0), .ref (q8 0), .int (0 : Int32), .ref a10, .int (0 : Int32), .ref a11, .int (0 : Int32), .ref (q13 0), .ref a15]))] ++ [(a10, .inl (G.2 3, 6, .inr (.inr (.inr (.inr (va_up (va_up (va_up (va_up (fun _ => none) 0 (some (q18 0))) 1 (some (q22 0))) 2 (some (q26 0))) 3 (some (q30 0))))))))]) ++ (wl (eState G) 47 q2 v0State ++ (wl (eState G) 47 q5 v0State ++ wl (eState G) 47 q8 v0State))) ++ [(a11, .inl (G.2 1, 60, .inl (fun _ => 0)))]) ++ wl (eScribe G) 3 q13 v0Scribe) ++ [(a15, .inl (G.2 0, 256, .inl (fun _ => 0)))]) ++ wl (eState G) 47 q18 v0State) ++ wl (eState G) 47 q22 v0State) ++ wl (eState G) 47 q26 v0State) ++ wl (eState G) 47 q30 v0State) : va_W)) 6 rfl rfl ((glast (Nat.le_of_ble_eq_true rfl)).trans rfl) rfl (show ¬ ((4 : Int32) < 0 ∨ 6 ≤ (4 : Int32).toNatClampNeg) by decide) (k := 4) (by decide) (ws1 := (((((((((([(b, .inr (8, [.ref (q2 0), .ref (q5 0), .ref (q8 0), .int (0 : Int32), .ref a10, .int (0 : Int32), .ref a11, .int (0 : Int32), .ref (q13 0), .ref a15]))] ++ [(a10, .inl (G.2 3, 6, .inr (.inr (.inr (.inr (va_up (va_up (va_up (va_up (va_up (fun _ => none) 0 (some (q18 0))) 1 (some (q22 0))) 2 (some (q26 0))) 3 (some (q30 0))) 4 (some (q34 0))))))))]) ++ (wl (eState G) 47 q2 v0State ++ (wl (eState G) 47 q5 v0State ++ wl (eState G) 47 q8 v0State))) ++ [(a11, .inl (G.2 1, 60, .inl (fun _ => 0)))]) ++ wl (eScribe G) 3 q13 v0Scribe) ++ [(a15, .inl (G.2 0, 256, .inl (fun _ => 0)))]) ++ wl (eState G) 47 q18 v0State) ++ wl (eState G) 47 q22 v0State) ++ wl (eState G) 47 q26 v0State) ++ wl (eState G) 47 q30 v0State) ++ wl (eState G) 47 q34 v0State)) rfl dX8_init_112 (fun H locs h => ?_)
  refine lv_iinc (v := (5 : Int32)) (lv' := [(1, .int (5 : Int32)), (0, .ref b)]) hx hb dX8_init_113 hl (k := 0) rfl rfl (by decide) rfl (fun ls hl => ?_)
  refine lv_goto (tgt := 91) hx hb dX8_init_116 (by decide) ?_
  refine lv_iload_n hx hb dX8_init_91 rfl (lv_at hl 0 rfl) ?_
  refine lv_aload_n hx hb dX8_init_92 rfl (lv_at hl 1 rfl) ?_
  refine gget hC h (C := RX8) (T := TX8) (N := 10) (wM_us uw_X8) 0 rfl rfl 4 (by decide) (wM_in fl_X8_26) rfl dX8_init_93 ?_
  refine galen hC h 3 rfl 1 rfl (z := (6 : Int32)) rfl dX8_init_96 ?_
  refine lv_icmp_ge (tgt := 119) hx hb dX8_init_97 (by decide) (fun c36 => absurd c36 (by decide)) (fun c36 => ?_)
  refine lv_aload_n hx hb dX8_init_100 rfl (lv_at hl 1 rfl) ?_
  refine gget hC h (C := RX8) (T := TX8) (N := 10) (wM_us uw_X8) 0 rfl rfl 4 (by decide) (wM_in fl_X8_26) rfl dX8_init_101 ?_
  refine lv_iload_n hx hb dX8_init_104 rfl (lv_at hl 0 rfl) ?_
  refine gnew (ci := 6) (fs := [.null, .null, .null, .null, .null, .null, .null, .int 0, .int 0, .int 0, .int 0, .int 0, .int 0]) (C := RX6) (T := TX6) (N := 13) hC h (wM_us uw_X6) (ty0 := tyX6) tyX6_ok (wM_in cl_X8_7) (wM_in it_X6) (wM_in in_X6) rfl (fun j hj => by rcases (show j = 0 ∨ j = 1 ∨ j = 2 ∨ j = 3 ∨ j = 4 ∨ j = 5 ∨ j = 6 ∨ j = 7 ∨ j = 8 ∨ j = 9 ∨ j = 10 ∨ j = 11 ∨ j = 12 by omega) with rfl | rfl | rfl | rfl | rfl | rfl | rfl | rfl | rfl | rfl | rfl | rfl | rfl <;> rfl) (k1 := 383) (k2 := 6899) rfl rfl (Nat.le_of_ble_eq_true rfl) (Nat.le_of_ble_eq_true rfl) dX8_init_105 (fun o37 H h => ?_)
  refine lv_dup hx hb dX8_init_108 rfl ?_
  refine gctor h (va_runIN (As := []) (rest := [.ref o37, .int (5 : Int32), .ref a10]) hC (c_X6_init l G sa o37 H.size) (gcwN hC (fun _ h9 => wM_in h9) (h.2.2.2.1 _ nw_X8_9) in_X6 co_X6_init im_X6_init rfl rfl rfl dd_X6_init ⟨Nat.le_of_ble_eq_true rfl, Nat.le_of_ble_eq_true rfl⟩) (gpre h) rfl rfl hl.1 rfl (lv_room (Nat.le_of_ble_eq_true rfl)) dX8_init_109 ⟨Nat.le_of_ble_eq_true rfl, Nat.le_of_ble_eq_true rfl⟩) (k1 := 429) (k2 := 7704) rfl rfl (fun q38 H locs hq39 hn_ => ?_)
  subst hq39
  have h := hn_
  clear hn_
  refine gast (r := (RX6, TX6, 13)) hC h 1 3 (List.length ((((((((((([(b, .inr (8, [.ref (q2 0), .ref (q5 0), .ref (q8 0), .int (0 : Int32), .ref a10, .int (0 : Int32), .ref a11, .int (0 : Int32), .ref (q13 0), .ref a15]))] ++ [(a10, .inl (G.2 3, 6, .inr (.inr (.inr (.inr (va_up (va_up (va_up (va_up (va_up (fun _ => none) 0 (some (q18 0))) 1 (some (q22 0))) 2 (some (q26 0))) 3 (some (q30 0))) 4 (some (q34 0))))))))]) ++ (wl (eState G) 47 q2 v0State ++ (wl (eState G) 47 q5 v0State ++ wl (eState G) 47 q8 v0State))) ++ [(a11, .inl (G.2 1, 60, .inl (fun _ => 0)))]) ++ wl (eScribe G) 3 q13 v0Scribe) ++ [(a15, .inl (G.2 0, 256, .inl (fun _ => 0)))]) ++ wl (eState G) 47 q18 v0State) ++ wl (eState G) 47 q22 v0State) ++ wl (eState G) 47 q26 v0State) ++ wl (eState G) 47 q30 v0State) ++ wl (eState G) 47 q34 v0State) : va_W)) 6 rfl rfl ((glast (Nat.le_of_ble_eq_true rfl)).trans rfl) rfl (show ¬ ((5 : Int32) < 0 ∨ 6 ≤ (5 : Int32).toNatClampNeg) by decide) (k := 5) (by decide) (ws1 := ((((((((((([(b, .inr (8, [.ref (q2 0), .ref (q5 0), .ref (q8 0), .int (0 : Int32), .ref a10, .int (0 : Int32), .ref a11, .int (0 : Int32), .ref (q13 0), .ref a15]))] ++ [(a10, .inl (G.2 3, 6, .inr (.inr (.inr (.inr (va_up (va_up (va_up (va_up (va_up (va_up (fun _ => none) 0 (some (q18 0))) 1 (some (q22 0))) 2 (some (q26 0))) 3 (some (q30 0))) 4 (some (q34 0))) 5 (some (q38 0))))))))]) ++ (wl (eState G) 47 q2 v0State ++ (wl (eState G) 47 q5 v0State ++ wl (eState G) 47 q8 v0State))) ++ [(a11, .inl (G.2 1, 60, .inl (fun _ => 0)))]) ++ wl (eScribe G) 3 q13 v0Scribe) ++ [(a15, .inl (G.2 0, 256, .inl (fun _ => 0)))]) ++ wl (eState G) 47 q18 v0State) ++ wl (eState G) 47 q22 v0State) ++ wl (eState G) 47 q26 v0State) ++ wl (eState G) 47 q30 v0State) ++ wl (eState G) 47 q34 v0State) ++ wl (eState G) 47 q38 v0State)) rfl dX8_init_112 (fun H locs h => ?_)
  refine lv_iinc (v := (6 : Int32)) (lv' := [(1, .int (6 : Int32)), (0, .ref b)]) hx hb dX8_init_113 hl (k := 0) rfl rfl (by decide) rfl (fun ls hl => ?_)
  refine lv_goto (tgt := 91) hx hb dX8_init_116 (by decide) ?_
  refine lv_iload_n hx hb dX8_init_91 rfl (lv_at hl 0 rfl) ?_
  refine lv_aload_n hx hb dX8_init_92 rfl (lv_at hl 1 rfl) ?_
  refine gget hC h (C := RX8) (T := TX8) (N := 10) (wM_us uw_X8) 0 rfl rfl 4 (by decide) (wM_in fl_X8_26) rfl dX8_init_93 ?_
  refine galen hC h 3 rfl 1 rfl (z := (6 : Int32)) rfl dX8_init_96 ?_
  refine lv_icmp_ge (tgt := 119) hx hb dX8_init_97 (by decide) (fun c40 => ?_) (fun c40 => absurd (by decide) c40)
  obtain ⟨ws, hwe⟩ : ∃ ws : va_W, ws = ((((((((((([(b, .inr (8, [.ref (q2 0), .ref (q5 0), .ref (q8 0), .int (0 : Int32), .ref a10, .int (0 : Int32), .ref a11, .int (0 : Int32), .ref (q13 0), .ref a15]))] ++ [(a10, .inl (G.2 3, 6, .inr (.inr (.inr (.inr (va_up (va_up (va_up (va_up (va_up (va_up (fun _ => none) 0 (some (q18 0))) 1 (some (q22 0))) 2 (some (q26 0))) 3 (some (q30 0))) 4 (some (q34 0))) 5 (some (q38 0))))))))]) ++ (wl (eState G) 47 q2 v0State ++ (wl (eState G) 47 q5 v0State ++ wl (eState G) 47 q8 v0State))) ++ [(a11, .inl (G.2 1, 60, .inl (fun _ => 0)))]) ++ wl (eScribe G) 3 q13 v0Scribe) ++ [(a15, .inl (G.2 0, 256, .inl (fun _ => 0)))]) ++ wl (eState G) 47 q18 v0State) ++ wl (eState G) 47 q22 v0State) ++ wl (eState G) 47 q26 v0State) ++ wl (eState G) 47 q30 v0State) ++ wl (eState G) 47 q34 v0State) ++ wl (eState G) 47 q38 v0State) := ⟨_, rfl⟩
  rw [← hwe] at h
  obtain ⟨QB, hQB⟩ : ∃ QB : Nat → Nat, (ct 1 (fun _ => b) (ct 1 (fun _ => a10) (ct 1 (fun _ => a11) (ct 3 q13 (ct 1 (fun _ => a15) (ct 47 q2 (ct 47 q5 (ct 47 q8 (ct 47 q18 (ct 47 q22 (ct 47 q26 (ct 47 q30 (ct 47 q34 q38))))))))))))) = QB := ⟨_, rfl⟩
  have hws := hwe
  simp only [wl_wf, wf_one, wf_app] at hws
  have hc7 : ∀ i, i < 47 → ws[gBC (7 + i)]? = some (QB (7 + i), eBC G QB (7 + i) (v0BC (7 + i))) := by
    intro i hi
    have eq : ∀ j, j < 47 → QB (7 + j) = q2 j := by
      intro j hj
      rw [← hQB]
      simp (disch := omega) only [ct_lo, ct_ge]
      exact congrArg q2 (by omega)
    have ev : v0BC (7 + i) = v0State i := by
      unfold v0BC
      simp (disch := omega) only [ct_lo, ct_ge]
      exact congrArg v0State (by omega)
    have eg : gBC (7 + i) = 2 + i := by unfold gBC; (repeat' split) <;> omega
    rw [eg, eq i hi, (sBC_7 i hi _), ev, hws, wf_get (by omega)]
    simp (disch := omega) only [ct_lo, ct_ge]
    have ei : 2 + i - 2 = 0 + i := by omega
    rw [locState (sh 7 QB) q2 (fun j hj => eq j hj) i hi]
    exact congrArg (fun t => some (q2 t, eState G q2 t (v0State t))) (by omega)
  have hc54 : ∀ i, i < 47 → ws[gBC (54 + i)]? = some (QB (54 + i), eBC G QB (54 + i) (v0BC (54 + i))) := by
    intro i hi
    have eq : ∀ j, j < 47 → QB (54 + j) = q5 j := by
      intro j hj
      rw [← hQB]
      simp (disch := omega) only [ct_lo, ct_ge]
      exact congrArg q5 (by omega)
    have ev : v0BC (54 + i) = v0State i := by
      unfold v0BC
      simp (disch := omega) only [ct_lo, ct_ge]
      exact congrArg v0State (by omega)
    have eg : gBC (54 + i) = 49 + i := by unfold gBC; (repeat' split) <;> omega
    rw [eg, eq i hi, (sBC_54 i hi _), ev, hws, wf_get (by omega)]
    simp (disch := omega) only [ct_lo, ct_ge]
    have ei : 49 + i - 2 = 47 + i := by omega
    rw [locState (sh 54 QB) q5 (fun j hj => eq j hj) i hi]
    exact congrArg (fun t => some (q5 t, eState G q5 t (v0State t))) (by omega)
  have hc101 : ∀ i, i < 47 → ws[gBC (101 + i)]? = some (QB (101 + i), eBC G QB (101 + i) (v0BC (101 + i))) := by
    intro i hi
    have eq : ∀ j, j < 47 → QB (101 + j) = q8 j := by
      intro j hj
      rw [← hQB]
      simp (disch := omega) only [ct_lo, ct_ge]
      exact congrArg q8 (by omega)
    have ev : v0BC (101 + i) = v0State i := by
      unfold v0BC
      simp (disch := omega) only [ct_lo, ct_ge]
      exact congrArg v0State (by omega)
    have eg : gBC (101 + i) = 96 + i := by unfold gBC; (repeat' split) <;> omega
    rw [eg, eq i hi, (sBC_101 i hi _), ev, hws, wf_get (by omega)]
    simp (disch := omega) only [ct_lo, ct_ge]
    have ei : 96 + i - 2 = 94 + i := by omega
    rw [locState (sh 101 QB) q8 (fun j hj => eq j hj) i hi]
    exact congrArg (fun t => some (q8 t, eState G q8 t (v0State t))) (by omega)
  have hc148 : ∀ i, i < 47 → ws[gBC (148 + i)]? = some (QB (148 + i), eBC G QB (148 + i) (v0BC (148 + i))) := by
    intro i hi
    have eq : ∀ j, j < 47 → QB (148 + j) = q18 j := by
      intro j hj
      rw [← hQB]
      simp (disch := omega) only [ct_lo, ct_ge]
      exact congrArg q18 (by omega)
    have ev : v0BC (148 + i) = v0State i := by
      unfold v0BC
      simp (disch := omega) only [ct_lo, ct_ge]
      exact congrArg v0State (by omega)
    have eg : gBC (148 + i) = 148 + i := by unfold gBC; (repeat' split) <;> omega
    rw [eg, eq i hi, (show eBC G QB (148 + i) (v0BC (148 + i)) = eState G (sh 148 QB) i (v0BC (148 + i)) from sBC_sav (k := 0) (by decide) i hi _), ev, hws, wf_get (by omega)]
    simp (disch := omega) only [ct_lo, ct_ge]
    have ei : 148 + i - 2 = 146 + i := by omega
    rw [locState (sh 148 QB) q18 (fun j hj => eq j hj) i hi]
    exact congrArg (fun t => some (q18 t, eState G q18 t (v0State t))) (by omega)
  have hc195 : ∀ i, i < 47 → ws[gBC (195 + i)]? = some (QB (195 + i), eBC G QB (195 + i) (v0BC (195 + i))) := by
    intro i hi
    have eq : ∀ j, j < 47 → QB (195 + j) = q22 j := by
      intro j hj
      rw [← hQB]
      simp (disch := omega) only [ct_lo, ct_ge]
      exact congrArg q22 (by omega)
    have ev : v0BC (195 + i) = v0State i := by
      unfold v0BC
      simp (disch := omega) only [ct_lo, ct_ge]
      exact congrArg v0State (by omega)
    have eg : gBC (195 + i) = 195 + i := by unfold gBC; (repeat' split) <;> omega
    rw [eg, eq i hi, (show eBC G QB (195 + i) (v0BC (195 + i)) = eState G (sh 195 QB) i (v0BC (195 + i)) from sBC_sav (k := 1) (by decide) i hi _), ev, hws, wf_get (by omega)]
    simp (disch := omega) only [ct_lo, ct_ge]
    have ei : 195 + i - 2 = 193 + i := by omega
    rw [locState (sh 195 QB) q22 (fun j hj => eq j hj) i hi]
    exact congrArg (fun t => some (q22 t, eState G q22 t (v0State t))) (by omega)
  have hc242 : ∀ i, i < 47 → ws[gBC (242 + i)]? = some (QB (242 + i), eBC G QB (242 + i) (v0BC (242 + i))) := by
    intro i hi
    have eq : ∀ j, j < 47 → QB (242 + j) = q26 j := by
      intro j hj
      rw [← hQB]
      simp (disch := omega) only [ct_lo, ct_ge]
      exact congrArg q26 (by omega)
    have ev : v0BC (242 + i) = v0State i := by
      unfold v0BC
      simp (disch := omega) only [ct_lo, ct_ge]
      exact congrArg v0State (by omega)
    have eg : gBC (242 + i) = 242 + i := by unfold gBC; (repeat' split) <;> omega
    rw [eg, eq i hi, (show eBC G QB (242 + i) (v0BC (242 + i)) = eState G (sh 242 QB) i (v0BC (242 + i)) from sBC_sav (k := 2) (by decide) i hi _), ev, hws, wf_get (by omega)]
    simp (disch := omega) only [ct_lo, ct_ge]
    have ei : 242 + i - 2 = 240 + i := by omega
    rw [locState (sh 242 QB) q26 (fun j hj => eq j hj) i hi]
    exact congrArg (fun t => some (q26 t, eState G q26 t (v0State t))) (by omega)
  have hc289 : ∀ i, i < 47 → ws[gBC (289 + i)]? = some (QB (289 + i), eBC G QB (289 + i) (v0BC (289 + i))) := by
    intro i hi
    have eq : ∀ j, j < 47 → QB (289 + j) = q30 j := by
      intro j hj
      rw [← hQB]
      simp (disch := omega) only [ct_lo, ct_ge]
      exact congrArg q30 (by omega)
    have ev : v0BC (289 + i) = v0State i := by
      unfold v0BC
      simp (disch := omega) only [ct_lo, ct_ge]
      exact congrArg v0State (by omega)
    have eg : gBC (289 + i) = 289 + i := by unfold gBC; (repeat' split) <;> omega
    rw [eg, eq i hi, (show eBC G QB (289 + i) (v0BC (289 + i)) = eState G (sh 289 QB) i (v0BC (289 + i)) from sBC_sav (k := 3) (by decide) i hi _), ev, hws, wf_get (by omega)]
    simp (disch := omega) only [ct_lo, ct_ge]
    have ei : 289 + i - 2 = 287 + i := by omega
    rw [locState (sh 289 QB) q30 (fun j hj => eq j hj) i hi]
    exact congrArg (fun t => some (q30 t, eState G q30 t (v0State t))) (by omega)
  have hc336 : ∀ i, i < 47 → ws[gBC (336 + i)]? = some (QB (336 + i), eBC G QB (336 + i) (v0BC (336 + i))) := by
    intro i hi
    have eq : ∀ j, j < 47 → QB (336 + j) = q34 j := by
      intro j hj
      rw [← hQB]
      simp (disch := omega) only [ct_lo, ct_ge]
      exact congrArg q34 (by omega)
    have ev : v0BC (336 + i) = v0State i := by
      unfold v0BC
      simp (disch := omega) only [ct_lo, ct_ge]
      exact congrArg v0State (by omega)
    have eg : gBC (336 + i) = 336 + i := by unfold gBC; (repeat' split) <;> omega
    rw [eg, eq i hi, (show eBC G QB (336 + i) (v0BC (336 + i)) = eState G (sh 336 QB) i (v0BC (336 + i)) from sBC_sav (k := 4) (by decide) i hi _), ev, hws, wf_get (by omega)]
    simp (disch := omega) only [ct_lo, ct_ge]
    have ei : 336 + i - 2 = 334 + i := by omega
    rw [locState (sh 336 QB) q34 (fun j hj => eq j hj) i hi]
    exact congrArg (fun t => some (q34 t, eState G q34 t (v0State t))) (by omega)
  have hc383 : ∀ i, i < 47 → ws[gBC (383 + i)]? = some (QB (383 + i), eBC G QB (383 + i) (v0BC (383 + i))) := by
    intro i hi
    have eq : ∀ j, j < 47 → QB (383 + j) = q38 j := by
      intro j hj
      rw [← hQB]
      simp (disch := omega) only [ct_lo, ct_ge]
      exact congrArg q38 (by omega)
    have ev : v0BC (383 + i) = v0State i := by
      unfold v0BC
      simp (disch := omega) only [ct_lo, ct_ge]
      exact congrArg v0State (by omega)
    have eg : gBC (383 + i) = 383 + i := by unfold gBC; (repeat' split) <;> omega
    rw [eg, eq i hi, (show eBC G QB (383 + i) (v0BC (383 + i)) = eState G (sh 383 QB) i (v0BC (383 + i)) from sBC_sav (k := 5) (by decide) i hi _), ev, hws, wf_get (by omega)]
    simp (disch := omega) only [ct_lo, ct_ge]
    have ei : 383 + i - 2 = 381 + i := by omega
    rw [locState (sh 383 QB) q38 (fun j hj => eq j hj) i hi]
    exact congrArg (fun t => some (q38 t, eState G q38 t (v0State t))) (by omega)
  have h0 : ws[gBC 0]? = some (QB 0, eBC G QB 0 (v0BC 0)) := by rw [hwe, ← hQB]; rfl
  have h1 : ws[gBC 1]? = some (QB 1, eBC G QB 1 (v0BC 1)) := by
    rw [hwe]
    refine (show _ = some (a10, (Sum.inl (G.2 3, 6, .inr (.inr (.inr (.inr (va_up (va_up (va_up (va_up (va_up (va_up (fun _ => none) 0 (some (q18 0))) 1 (some (q22 0))) 2 (some (q26 0))) 3 (some (q30 0))) 4 (some (q34 0))) 5 (some (q38 0))))))) : va_E)) from rfl).trans ?_
    rw [varr6 (f := (va_up (va_up (va_up (va_up (va_up (va_up (fun _ => none) 0 (some (q18 0))) 1 (some (q22 0))) 2 (some (q26 0))) 3 (some (q30 0))) 4 (some (q34 0))) 5 (some (q38 0)))) (g := QB) (by rw [← hQB]; exact (bk (bk (bk (bk (bk (bk bk0 rfl) rfl) rfl) rfl) rfl) rfl)) (fun k => by simp [va_up])]
    rw [← hQB]
    rfl
  have h2 : ws[gBC 2]? = some (QB 2, eBC G QB 2 (v0BC 2)) := by
    rw [hws, show gBC 2 = 143 from rfl, wf_get (by decide), ← hQB]; rfl
  have h3 : ∀ i, i < 3 → ws[gBC (3 + i)]? = some (QB (3 + i), eBC G QB (3 + i) (v0BC (3 + i))) := by
    rw [hws, ← hQB]
    exact bk (bk (bk bk0 ((wf_get (by decide)).trans rfl)) ((wf_get (by decide)).trans rfl)) ((wf_get (by decide)).trans rfl)
  have h6 : ws[gBC 6]? = some (QB 6, eBC G QB 6 (v0BC 6)) := by
    rw [hws, show gBC 6 = 147 from rfl, wf_get (by decide), ← hQB]; rfl
  refine gret hC hr hlk h QB (by rw [← hQB]; rfl) gBC (fun k hk => ?_) gBC_inj rfl rfl dX8_init_119
  rcases Nat.lt_or_ge k 1 with c1 | c1
  · obtain rfl : k = 0 := by omega
    exact h0
  rcases Nat.lt_or_ge k 2 with c2 | c2
  · obtain rfl : k = 1 := by omega
    exact h1
  rcases Nat.lt_or_ge k 3 with c3 | c3
  · obtain rfl : k = 2 := by omega
    exact h2
  rcases Nat.lt_or_ge k 6 with c4 | c4
  · obtain ⟨i, rfl⟩ : ∃ i, k = 3 + i := ⟨k - 3, by omega⟩
    exact h3 i (by omega)
  rcases Nat.lt_or_ge k 7 with c5 | c5
  · obtain rfl : k = 6 := by omega
    exact h6
  rcases Nat.lt_or_ge k 54 with d7 | d7
  · obtain ⟨i, rfl⟩ : ∃ i, k = 7 + i := ⟨k - 7, by omega⟩
    exact hc7 i (by omega)
  rcases Nat.lt_or_ge k 101 with d54 | d54
  · obtain ⟨i, rfl⟩ : ∃ i, k = 54 + i := ⟨k - 54, by omega⟩
    exact hc54 i (by omega)
  rcases Nat.lt_or_ge k 148 with d101 | d101
  · obtain ⟨i, rfl⟩ : ∃ i, k = 101 + i := ⟨k - 101, by omega⟩
    exact hc101 i (by omega)
  rcases Nat.lt_or_ge k 195 with d148 | d148
  · obtain ⟨i, rfl⟩ : ∃ i, k = 148 + i := ⟨k - 148, by omega⟩
    exact hc148 i (by omega)
  rcases Nat.lt_or_ge k 242 with d195 | d195
  · obtain ⟨i, rfl⟩ : ∃ i, k = 195 + i := ⟨k - 195, by omega⟩
    exact hc195 i (by omega)
  rcases Nat.lt_or_ge k 289 with d242 | d242
  · obtain ⟨i, rfl⟩ : ∃ i, k = 242 + i := ⟨k - 242, by omega⟩
    exact hc242 i (by omega)
  rcases Nat.lt_or_ge k 336 with d289 | d289
  · obtain ⟨i, rfl⟩ : ∃ i, k = 289 + i := ⟨k - 289, by omega⟩
    exact hc289 i (by omega)
  rcases Nat.lt_or_ge k 383 with d336 | d336
  · obtain ⟨i, rfl⟩ : ∃ i, k = 336 + i := ⟨k - 336, by omega⟩
    exact hc336 i (by omega)
  obtain ⟨i, rfl⟩ : ∃ i, k = 383 + i := ⟨k - 383, by omega⟩
  exact hc383 i (by omega)
