theorem xgo {L k : Nat} (hL : L ≤ 2048) (hk : 4 * k + 4 ≤ L) : ¬ (Int32.ofNat L - 4 < nI (4 * k)) := by
  obtain ⟨d, rfl⟩ : ∃ d, L = d + 4 := ⟨L - 4, by omega⟩
  have e : Int32.ofNat (d + 4) - 4 = nI d := by
    show Int32.ofNat (d + 4) - 4 = Int32.ofNat d
    rw [Int32.ofNat_add]
    exact Int32.add_sub_cancel _ _
  rw [e]
  exact nI_nlt (by omega) (by omega)
theorem xend {L k : Nat} (hL : L ≤ 2048) (hk : k = L / 4) : Int32.ofNat L - 4 < nI (4 * k) := by
  rcases Nat.lt_or_ge L 4 with h | h
  · have hk0 : k = 0 := by omega
    subst hk0
    have : ∀ L, L < 4 → Int32.ofNat L - 4 < nI (4 * 0) := by decide +kernel
    exact this L h
  · obtain ⟨d, rfl⟩ : ∃ d, L = d + 4 := ⟨L - 4, by omega⟩
    have e : Int32.ofNat (d + 4) - 4 = nI d := by
      show Int32.ofNat (d + 4) - 4 = Int32.ofNat d
      rw [Int32.ofNat_add]
      exact Int32.add_sub_cancel _ _
    rw [e]
    exact nI_lt (by omega) (by omega)
theorem xin4 (k : Nat) : nI (4 * k) + 4 = nI (4 * (k + 1)) := by
  rw [show 4 * (k + 1) = 4 * k + 4 by omega]
  exact nI_add (4 * k) 4
theorem it_X8 : Cond.instantiable RX8 10 ∈ wG := wG_t 25 (by decide +kernel) rfl
theorem it_X9 : Cond.instantiable RX9 17 ∈ wG := wG_t 1117 (by decide +kernel) rfl
/-! THE LAW: the loop over the script -/
def stp (RR : Nat → xSt → Prop) (k : Nat) (ms : List (Option xSt)) : Prop := ∃ z, some z ∈ ms ∧ RR (k + 1) z

set_option maxHeartbeats 8000000 in
set_option maxRecDepth 100000 in
theorem law_loop {p : Program} {l : Launch} {e : Env} {s : State} {m : MethodId} {args : Array Value} {below : List Frame} {meth : Method} {c : Code} {Q : State → Prop} {G : xGl} {sa q : Nat → Nat} {A : Nat → Prop} {b L : Nat} {xs : Nat → Int32} (hst : l.stackTraces = false) (hC : CallFix p m c cL_law 9 s args lw_tbl RL) (hT : xT G sa A s s.heap) (hX : va_X b L xs s s.heap) (hbl : b < s.heap.size) (hbA : ¬ A b) (hL : L ≤ 2048) (RR : Nat → xSt → Prop) (hmono : ∀ k v, RR k v → RR (k + 1) v)
    (h0 : ∀ k v, RR k v → 4 * k + 4 ≤ L → stp RR k [m_law_0 v xs L (nI (4 * k)), m_law_0_xISE v xs L (nI (4 * k))])
    (h1 : ∀ k v, RR k v → 4 * k + 4 ≤ L → stp RR k [m_law_1 v xs L (nI (4 * k)), m_law_1_xIAE v xs L (nI (4 * k)), m_law_1_xISE v xs L (nI (4 * k))])
    (h2 : ∀ k v, RR k v → 4 * k + 4 ≤ L → stp RR k [m_law_2 v xs L (nI (4 * k))])
    (h3 : ∀ k v, RR k v → 4 * k + 4 ≤ L → stp RR k [m_law_3 v xs L (nI (4 * k)), m_law_3_xIOB v xs L (nI (4 * k)), m_law_3_xISE v xs L (nI (4 * k))])
    (h4 : ∀ k v, RR k v → 4 * k + 4 ≤ L → stp RR k [m_law_4 v xs L (nI (4 * k)), m_law_4_xIOB v xs L (nI (4 * k)), m_law_4_xISE v xs L (nI (4 * k))])
    (h5 : ∀ k v, RR k v → 4 * k + 4 ≤ L → stp RR k [m_law_5 v xs L (nI (4 * k)), m_law_5_xIAE v xs L (nI (4 * k)), m_law_5_xISE v xs L (nI (4 * k))])
    (h6 : ∀ k v, RR k v → 4 * k + 4 ≤ L → stp RR k [m_law_6 v xs L (nI (4 * k)), m_law_6_xISE v xs L (nI (4 * k))])
    (h7 : ∀ k v, RR k v → 4 * k + 4 ≤ L → stp RR k [m_law_7 v xs L (nI (4 * k)), m_law_7_xISE v xs L (nI (4 * k))])
    (h8 : ∀ k v, RR k v → 4 * k + 4 ≤ L → stp RR k [m_law_8 v xs L (nI (4 * k)), m_law_8_xISE v xs L (nI (4 * k))])
    (h9 : ∀ k v, RR k v → 4 * k + 4 ≤ L → stp RR k [m_law_9 v xs L (nI (4 * k))])
    (h10 : ∀ k v, RR k v → 4 * k + 4 ≤ L → stp RR k [m_law_10 v xs L (nI (4 * k)), m_law_10_xIAE v xs L (nI (4 * k)), m_law_10_xIOB v xs L (nI (4 * k)), m_law_10_xISE v xs L (nI (4 * k))])
    (h11 : ∀ k v, RR k v → 4 * k + 4 ≤ L → stp RR k [m_law_11 v xs L (nI (4 * k)), m_law_11_xIOB v xs L (nI (4 * k))])
    (h12 : ∀ k v, RR k v → 4 * k + 4 ≤ L → stp RR k [m_law_12 v xs L (nI (4 * k)), m_law_12_xIAE v xs L (nI (4 * k))])
    (h13 : ∀ k v, RR k v → 4 * k + 4 ≤ L → stp RR k [m_law_13 v xs L (nI (4 * k)), m_law_13_xIOB v xs L (nI (4 * k)), m_law_13_xIAE v xs L (nI (4 * k))])
    (h14 : ∀ k v, RR k v → 4 * k + 4 ≤ L → stp RR k [m_law_14 v xs L (nI (4 * k)), m_law_14_xIAE v xs L (nI (4 * k)), m_law_14_xISE v xs L (nI (4 * k))])
    (h15 : ∀ k v, RR k v → 4 * k + 4 ≤ L → stp RR k [m_law_15 v xs L (nI (4 * k))])
    (h16 : ∀ k v, RR k v → 4 * k + 4 ≤ L → stp RR k [m_law_16 v xs L (nI (4 * k))])
    (h17 : ∀ k v, RR k v → 4 * k + 4 ≤ L → stp RR k [m_law_17 v xs L (nI (4 * k)), m_law_17_xIAE v xs L (nI (4 * k))])
    (h18 : ∀ k v, RR k v → 4 * k + 4 ≤ L → stp RR k [m_law_18 v xs L (nI (4 * k))])
    (h19 : ∀ k v, RR k v → 4 * k + 4 ≤ L → stp RR k [m_law_19 v xs L (nI (4 * k)), m_law_19_xISE v xs L (nI (4 * k))])
    (h20 : ∀ k v, RR k v → 4 * k + 4 ≤ L → stp RR k [m_law_20 v xs L (nI (4 * k)), m_law_20_xISE v xs L (nI (4 * k))])
    (h21 : ∀ k v, RR k v → 4 * k + 4 ≤ L → stp RR k [m_law_21 v xs L (nI (4 * k)), m_law_21_xIOB v xs L (nI (4 * k)), m_law_21_xISE v xs L (nI (4 * k))])
    (h22 : ∀ k v, RR k v → 4 * k + 4 ≤ L → stp RR k [m_law_22 v xs L (nI (4 * k)), m_law_22_xIOB v xs L (nI (4 * k)), m_law_22_xIAE v xs L (nI (4 * k))])
    (h23 : ∀ k v, RR k v → 4 * k + 4 ≤ L → stp RR k [m_law_23 v xs L (nI (4 * k)), m_law_23_xIOB v xs L (nI (4 * k)), m_law_23_xIAE v xs L (nI (4 * k))])
    (h24 : ∀ k v, RR k v → 4 * k + 4 ≤ L → stp RR k [m_law_24 v xs L (nI (4 * k)), m_law_24_xIAE v xs L (nI (4 * k))])
    (h25 : ∀ k v, RR k v → 4 * k + 4 ≤ L → stp RR k [m_law_25 v xs L (nI (4 * k)), m_law_25_xIOB v xs L (nI (4 * k)), m_law_25_xIAE v xs L (nI (4 * k))])
    (h26 : ∀ k v, RR k v → 4 * k + 4 ≤ L → stp RR k [m_law_26 v xs L (nI (4 * k)), m_law_26_xIAE v xs L (nI (4 * k))])
    (h27 : ∀ k v, RR k v → 4 * k + 4 ≤ L → stp RR k [m_law_27 v xs L (nI (4 * k)), m_law_27_xIOB v xs L (nI (4 * k))])
    (h28 : ∀ k v, RR k v → 4 * k + 4 ≤ L → stp RR k [m_law_28 v xs L (nI (4 * k)), m_law_28_xIAE v xs L (nI (4 * k)), m_law_28_xIOB v xs L (nI (4 * k))])
    (h29 : ∀ k v, RR k v → 4 * k + 4 ≤ L → stp RR k [m_law_29 v xs L (nI (4 * k)), m_law_29_xIOB v xs L (nI (4 * k))])
    (h30 : ∀ k v, RR k v → 4 * k + 4 ≤ L → stp RR k [m_law_30 v xs L (nI (4 * k))])
    (h31 : ∀ k v, RR k v → 4 * k + 4 ≤ L → stp RR k [m_law_31 v xs L (nI (4 * k))])
    (h32 : ∀ k v, RR k v → 4 * k + 4 ≤ L → stp RR k [m_law_32 v xs L (nI (4 * k))])
    (h33 : ∀ k v, RR k v → 4 * k + 4 ≤ L → stp RR k [m_law_33 v xs L (nI (4 * k))])
    (h34 : ∀ k v, RR k v → 4 * k + 4 ≤ L → stp RR k [m_law_34 v xs L (nI (4 * k))])
    (h35 : ∀ k v, RR k v → 4 * k + 4 ≤ L → stp RR k [m_law_35 v xs L (nI (4 * k))])
    (h36 : ∀ k v, RR k v → 4 * k + 4 ≤ L → stp RR k [m_law_36 v xs L (nI (4 * k))])
    (kend : ∀ (H : Heap) (locs : List Loc) (ls : Array Slot) (v : xSt), hg G (LW G) 439 q v A s H locs → W p l e room_1 s m args below meth c H locs (16000 + 513) (32000 + 6 * 513) Q (F0 m 1845 ls [])) :
    ∀ n k v H locs ls cells slots, k + n = L / 4 → RR k v → hg G (LW G) 439 q v A s H locs → lv_has ls 9 [(0, .ref b), (1, .ref (q 0)), (2, .ref (q 431)), (3, .ref (q 430)), (4, .int (nI (4 * k)))] → cells ≤ 16000 + k → slots ≤ 32000 + 6 * k → W p l e room_1 s m args below meth c H locs cells slots Q (F0 m 23 ls []) := by
  intro n
  induction n with
  | zero =>
    intro k v H locs ls cells slots hkn hR h hl hc1 hc2
    have hx := hC.1
    have hb := hC.2.1
    refine lv_iload hx hb dL_law_23 (lv_at hl 4 rfl) ?_
    refine lv_aload_n hx hb dL_law_25 rfl (lv_at hl 0 rfl) ?_
    refine va_slen hx hb hX hbl hbA h.1.2.2.1 dL_law_26 ?_
    refine lv_iconst (v := (4 : Int32)) hx hb dL_law_27 (by decide) ?_
    refine lv_isub hx hb dL_law_28 ?_
    refine lv_icmp_gt (tgt := 1845) hx hb dL_law_29 (by decide) (fun cc => ?_) (fun cc => absurd (xend hL (by omega)) cc)
    exact W.widen (k := 16000 + 513) (n := 32000 + 6 * 513) (by omega) (by omega) (kend H locs ls v h)
  | succ n ih =>
    intro k v H locs ls cells slots hkn hR h hl hc1 hc2
    have hx := hC.1
    have hb := hC.2.1
    have hk4 : 4 * k + 4 ≤ L := by omega
    have hcs : cells + 1 ≤ room_1.cells ∧ slots + 6 ≤ room_1.slots := ⟨Nat.le_trans (show cells + 1 ≤ 17000 by omega) (Nat.le_of_ble_eq_true rfl), Nat.le_trans (show slots + 6 ≤ 40000 by omega) (Nat.le_of_ble_eq_true rfl)⟩
    refine lv_iload hx hb dL_law_23 (lv_at hl 4 rfl) ?_
    refine lv_aload_n hx hb dL_law_25 rfl (lv_at hl 0 rfl) ?_
    refine va_slen hx hb hX hbl hbA h.1.2.2.1 dL_law_26 ?_
    refine lv_iconst (v := (4 : Int32)) hx hb dL_law_27 (by decide) ?_
    refine lv_isub hx hb dL_law_28 ?_
    refine lv_icmp_gt (tgt := 1845) hx hb dL_law_29 (by decide) (fun cc => absurd cc (xgo hL hk4)) (fun cc => ?_)
    refine lv_aload_n hx hb dL_law_32 rfl (lv_at hl 0 rfl) ?_
    refine lv_iload hx hb dL_law_33 (lv_at hl 4 rfl) ?_
    refine va_sld hx hb hX hbl hbA h.1.2.2.1 (nI_in (show 4 * k < L by omega) (by omega)) dL_law_35 ?_
    refine lv_bipush (v := (63 : Int32)) hx hb dL_law_36 (by decide) ?_
    refine lv_iand hx hb dL_law_38 ?_
    have cont : ∀ (z : xSt), RR (k + 1) z → ∀ (H : Heap) (locs : List Loc) (ls : Array Slot), hg G (LW G) 439 q z A s H locs → lv_has ls 9 [(0, .ref b), (1, .ref (q 0)), (2, .ref (q 431)), (3, .ref (q 430)), (4, .int (nI (4 * k)))] → W p l e room_1 s m args below meth c H locs (cells + 1) (slots + 6) Q (F0 m 1839 ls []) := by
      intro z hR1 H locs ls h hl
      refine lv_iinc (v := nI (4 * (k + 1))) (lv' := [(4, .int (nI (4 * (k + 1)))), (0, .ref b), (1, .ref (q 0)), (2, .ref (q 431)), (3, .ref (q 430))]) hx hb dL_law_1839 hl (k := 4) rfl (xin4 k) (by decide) rfl (fun ls hl => ?_)
      refine lv_goto (tgt := 23) hx hb dL_law_1842 (by decide) ?_
      exact ih (k + 1) z H locs ls (cells + 1) (slots + 6) (by omega) hR1 h (lv_sub hl [1, 2, 3, 4, 0] rfl) (by omega) (by omega)
    by_cases c0 : xs (nI (4 * k)).toNatClampNeg &&& 63 = 0
    · refine lv_tableIn (off := 161) (tgt := 200) hx hb dL_law_39 (by rw [c0]; decide) (by rw [c0]; decide) (by rw [c0]; decide) (by decide) ?_
      obtain ⟨z, hz, hR1⟩ := h0 k v hR hk4
      simp only [List.mem_cons, List.not_mem_nil, or_false] at hz
      rcases hz with hz | hz
      · exact k_law_0 (R := room_1) (sa := sa) hst hC wG_law hT hX hbl hbA hcs h (lv_sub hl [0, 1, 2, 3, 4] rfl) hz.symm (fun H locs ls h hl => cont z hR1 H locs ls h hl)
      · exact k_law_0_xISE (R := room_1) (sa := sa) hst hC wG_law hT hX hbl hbA hcs h (lv_sub hl [0, 1, 2, 3, 4] rfl) hz.symm (fun H locs ls h hl => cont z hR1 H locs ls h hl)
    by_cases c1 : xs (nI (4 * k)).toNatClampNeg &&& 63 = 1
    · refine lv_tableIn (off := 205) (tgt := 244) hx hb dL_law_39 (by rw [c1]; decide) (by rw [c1]; decide) (by rw [c1]; decide) (by decide) ?_
      obtain ⟨z, hz, hR1⟩ := h1 k v hR hk4
      simp only [List.mem_cons, List.not_mem_nil, or_false] at hz
      rcases hz with hz | hz | hz
      · exact k_law_1 (R := room_1) (sa := sa) hst hC wG_law hT hX hbl hbA hcs h (lv_sub hl [0, 1, 2, 3, 4] rfl) hz.symm (fun H locs ls h hl => cont z hR1 H locs ls h hl)
      · exact k_law_1_xIAE (R := room_1) (sa := sa) hst hC wG_law hT hX hbl hbA hcs h (lv_sub hl [0, 1, 2, 3, 4] rfl) hz.symm (fun H locs ls h hl => cont z hR1 H locs ls h hl)
      · exact k_law_1_xISE (R := room_1) (sa := sa) hst hC wG_law hT hX hbl hbA hcs h (lv_sub hl [0, 1, 2, 3, 4] rfl) hz.symm (fun H locs ls h hl => cont z hR1 H locs ls h hl)
    by_cases c2 : xs (nI (4 * k)).toNatClampNeg &&& 63 = 2
    · refine lv_tableIn (off := 261) (tgt := 300) hx hb dL_law_39 (by rw [c2]; decide) (by rw [c2]; decide) (by rw [c2]; decide) (by decide) ?_
      obtain ⟨z, hz, hR1⟩ := h2 k v hR hk4
      simp only [List.mem_cons, List.not_mem_nil, or_false] at hz
      rcases hz with hz
      · exact k_law_2 (R := room_1) (sa := sa) hst hC wG_law hT hX hbl hbA hcs h (lv_sub hl [0, 1, 2, 3, 4] rfl) hz.symm (fun H locs ls h hl => cont z hR1 H locs ls h hl)
    by_cases c3 : xs (nI (4 * k)).toNatClampNeg &&& 63 = 3
    · refine lv_tableIn (off := 274) (tgt := 313) hx hb dL_law_39 (by rw [c3]; decide) (by rw [c3]; decide) (by rw [c3]; decide) (by decide) ?_
      obtain ⟨z, hz, hR1⟩ := h3 k v hR hk4
      simp only [List.mem_cons, List.not_mem_nil, or_false] at hz
      rcases hz with hz | hz | hz
      · exact k_law_3 (R := room_1) (sa := sa) hst hC wG_law hT hX hbl hbA hcs h (lv_sub hl [0, 1, 2, 3, 4] rfl) hz.symm (fun H locs ls h hl => cont z hR1 H locs ls h hl)
      · exact k_law_3_xIOB (R := room_1) (sa := sa) hst hC wG_law hT hX hbl hbA hcs h (lv_sub hl [0, 1, 2, 3, 4] rfl) hz.symm (fun H locs ls h hl => cont z hR1 H locs ls h hl)
      · exact k_law_3_xISE (R := room_1) (sa := sa) hst hC wG_law hT hX hbl hbA hcs h (lv_sub hl [0, 1, 2, 3, 4] rfl) hz.symm (fun H locs ls h hl => cont z hR1 H locs ls h hl)
    by_cases c4 : xs (nI (4 * k)).toNatClampNeg &&& 63 = 4
    · refine lv_tableIn (off := 330) (tgt := 369) hx hb dL_law_39 (by rw [c4]; decide) (by rw [c4]; decide) (by rw [c4]; decide) (by decide) ?_
      obtain ⟨z, hz, hR1⟩ := h4 k v hR hk4
      simp only [List.mem_cons, List.not_mem_nil, or_false] at hz
      rcases hz with hz | hz | hz
      · exact k_law_4 (R := room_1) (sa := sa) hst hC wG_law hT hX hbl hbA hcs h (lv_sub hl [0, 1, 2, 3, 4] rfl) hz.symm (fun H locs ls h hl => cont z hR1 H locs ls h hl)
      · exact k_law_4_xIOB (R := room_1) (sa := sa) hst hC wG_law hT hX hbl hbA hcs h (lv_sub hl [0, 1, 2, 3, 4] rfl) hz.symm (fun H locs ls h hl => cont z hR1 H locs ls h hl)
      · exact k_law_4_xISE (R := room_1) (sa := sa) hst hC wG_law hT hX hbl hbA hcs h (lv_sub hl [0, 1, 2, 3, 4] rfl) hz.symm (fun H locs ls h hl => cont z hR1 H locs ls h hl)
    by_cases c5 : xs (nI (4 * k)).toNatClampNeg &&& 63 = 5
    · refine lv_tableIn (off := 386) (tgt := 425) hx hb dL_law_39 (by rw [c5]; decide) (by rw [c5]; decide) (by rw [c5]; decide) (by decide) ?_
      obtain ⟨z, hz, hR1⟩ := h5 k v hR hk4
      simp only [List.mem_cons, List.not_mem_nil, or_false] at hz
      rcases hz with hz | hz | hz
      · exact k_law_5 (R := room_1) (sa := sa) hst hC wG_law hT hX hbl hbA hcs h (lv_sub hl [0, 1, 2, 3, 4] rfl) hz.symm (fun H locs ls h hl => cont z hR1 H locs ls h hl)
      · exact k_law_5_xIAE (R := room_1) (sa := sa) hst hC wG_law hT hX hbl hbA hcs h (lv_sub hl [0, 1, 2, 3, 4] rfl) hz.symm (fun H locs ls h hl => cont z hR1 H locs ls h hl)
      · exact k_law_5_xISE (R := room_1) (sa := sa) hst hC wG_law hT hX hbl hbA hcs h (lv_sub hl [0, 1, 2, 3, 4] rfl) hz.symm (fun H locs ls h hl => cont z hR1 H locs ls h hl)
    by_cases c6 : xs (nI (4 * k)).toNatClampNeg &&& 63 = 6
    · refine lv_tableIn (off := 454) (tgt := 493) hx hb dL_law_39 (by rw [c6]; decide) (by rw [c6]; decide) (by rw [c6]; decide) (by decide) ?_
      obtain ⟨z, hz, hR1⟩ := h6 k v hR hk4
      simp only [List.mem_cons, List.not_mem_nil, or_false] at hz
      rcases hz with hz | hz
      · exact k_law_6 (R := room_1) (sa := sa) hst hC wG_law hT hX hbl hbA hcs h (lv_sub hl [0, 1, 2, 3, 4] rfl) hz.symm (fun H locs ls h hl => cont z hR1 H locs ls h hl)
      · exact k_law_6_xISE (R := room_1) (sa := sa) hst hC wG_law hT hX hbl hbA hcs h (lv_sub hl [0, 1, 2, 3, 4] rfl) hz.symm (fun H locs ls h hl => cont z hR1 H locs ls h hl)
    by_cases c7 : xs (nI (4 * k)).toNatClampNeg &&& 63 = 7
    · refine lv_tableIn (off := 498) (tgt := 537) hx hb dL_law_39 (by rw [c7]; decide) (by rw [c7]; decide) (by rw [c7]; decide) (by decide) ?_
      obtain ⟨z, hz, hR1⟩ := h7 k v hR hk4
      simp only [List.mem_cons, List.not_mem_nil, or_false] at hz
      rcases hz with hz | hz
      · exact k_law_7 (R := room_1) (sa := sa) hst hC wG_law hT hX hbl hbA hcs h (lv_sub hl [0, 1, 2, 3, 4] rfl) hz.symm (fun H locs ls h hl => cont z hR1 H locs ls h hl)
      · exact k_law_7_xISE (R := room_1) (sa := sa) hst hC wG_law hT hX hbl hbA hcs h (lv_sub hl [0, 1, 2, 3, 4] rfl) hz.symm (fun H locs ls h hl => cont z hR1 H locs ls h hl)
    by_cases c8 : xs (nI (4 * k)).toNatClampNeg &&& 63 = 8
    · refine lv_tableIn (off := 542) (tgt := 581) hx hb dL_law_39 (by rw [c8]; decide) (by rw [c8]; decide) (by rw [c8]; decide) (by decide) ?_
      obtain ⟨z, hz, hR1⟩ := h8 k v hR hk4
      simp only [List.mem_cons, List.not_mem_nil, or_false] at hz
      rcases hz with hz | hz
      · exact k_law_8 (R := room_1) (sa := sa) hst hC wG_law hT hX hbl hbA hcs h (lv_sub hl [0, 1, 2, 3, 4] rfl) hz.symm (fun H locs ls h hl => cont z hR1 H locs ls h hl)
      · exact k_law_8_xISE (R := room_1) (sa := sa) hst hC wG_law hT hX hbl hbA hcs h (lv_sub hl [0, 1, 2, 3, 4] rfl) hz.symm (fun H locs ls h hl => cont z hR1 H locs ls h hl)
    by_cases c9 : xs (nI (4 * k)).toNatClampNeg &&& 63 = 9
    · refine lv_tableIn (off := 586) (tgt := 625) hx hb dL_law_39 (by rw [c9]; decide) (by rw [c9]; decide) (by rw [c9]; decide) (by decide) ?_
      obtain ⟨z, hz, hR1⟩ := h9 k v hR hk4
      simp only [List.mem_cons, List.not_mem_nil, or_false] at hz
      rcases hz with hz
      · exact k_law_9 (R := room_1) (sa := sa) hst hC wG_law hT hX hbl hbA hcs h (lv_sub hl [0, 1, 2, 3, 4] rfl) hz.symm (fun H locs ls h hl => cont z hR1 H locs ls h hl)
    by_cases c10 : xs (nI (4 * k)).toNatClampNeg &&& 63 = 10
    · refine lv_tableIn (off := 599) (tgt := 638) hx hb dL_law_39 (by rw [c10]; decide) (by rw [c10]; decide) (by rw [c10]; decide) (by decide) ?_
      obtain ⟨z, hz, hR1⟩ := h10 k v hR hk4
      simp only [List.mem_cons, List.not_mem_nil, or_false] at hz
      rcases hz with hz | hz | hz | hz
      · exact k_law_10 (R := room_1) (sa := sa) hst hC wG_law hT hX hbl hbA hcs h (lv_sub hl [0, 1, 2, 3, 4] rfl) hz.symm (fun H locs ls h hl => cont z hR1 H locs ls h hl)
      · exact k_law_10_xIAE (R := room_1) (sa := sa) hst hC wG_law hT hX hbl hbA hcs h (lv_sub hl [0, 1, 2, 3, 4] rfl) hz.symm (fun H locs ls h hl => cont z hR1 H locs ls h hl)
      · exact k_law_10_xIOB (R := room_1) (sa := sa) hst hC wG_law hT hX hbl hbA hcs h (lv_sub hl [0, 1, 2, 3, 4] rfl) hz.symm (fun H locs ls h hl => cont z hR1 H locs ls h hl)
      · exact k_law_10_xISE (R := room_1) (sa := sa) hst hC wG_law hT hX hbl hbA hcs h (lv_sub hl [0, 1, 2, 3, 4] rfl) hz.symm (fun H locs ls h hl => cont z hR1 H locs ls h hl)
    by_cases c11 : xs (nI (4 * k)).toNatClampNeg &&& 63 = 11
    · refine lv_tableIn (off := 679) (tgt := 718) hx hb dL_law_39 (by rw [c11]; decide) (by rw [c11]; decide) (by rw [c11]; decide) (by decide) ?_
      obtain ⟨z, hz, hR1⟩ := h11 k v hR hk4
      simp only [List.mem_cons, List.not_mem_nil, or_false] at hz
      rcases hz with hz | hz
      · exact k_law_11 (R := room_1) (sa := sa) hst hC wG_law hT hX hbl hbA hcs h (lv_sub hl [0, 1, 2, 3, 4] rfl) hz.symm (fun H locs ls h hl => cont z hR1 H locs ls h hl)
      · exact k_law_11_xIOB (R := room_1) (sa := sa) hst hC wG_law hT hX hbl hbA hcs h (lv_sub hl [0, 1, 2, 3, 4] rfl) hz.symm (fun H locs ls h hl => cont z hR1 H locs ls h hl)
    by_cases c12 : xs (nI (4 * k)).toNatClampNeg &&& 63 = 12
    · refine lv_tableIn (off := 735) (tgt := 774) hx hb dL_law_39 (by rw [c12]; decide) (by rw [c12]; decide) (by rw [c12]; decide) (by decide) ?_
      obtain ⟨z, hz, hR1⟩ := h12 k v hR hk4
      simp only [List.mem_cons, List.not_mem_nil, or_false] at hz
      rcases hz with hz | hz
      · exact k_law_12 (R := room_1) (sa := sa) hst hC wG_law hT hX hbl hbA hcs h (lv_sub hl [0, 1, 2, 3, 4] rfl) hz.symm (fun H locs ls h hl => cont z hR1 H locs ls h hl)
      · exact k_law_12_xIAE (R := room_1) (sa := sa) hst hC wG_law hT hX hbl hbA hcs h (lv_sub hl [0, 1, 2, 3, 4] rfl) hz.symm (fun H locs ls h hl => cont z hR1 H locs ls h hl)
    by_cases c13 : xs (nI (4 * k)).toNatClampNeg &&& 63 = 13
    · refine lv_tableIn (off := 791) (tgt := 830) hx hb dL_law_39 (by rw [c13]; decide) (by rw [c13]; decide) (by rw [c13]; decide) (by decide) ?_
      obtain ⟨z, hz, hR1⟩ := h13 k v hR hk4
      simp only [List.mem_cons, List.not_mem_nil, or_false] at hz
      rcases hz with hz | hz | hz
      · exact k_law_13 (R := room_1) (sa := sa) hst hC wG_law hT hX hbl hbA hcs h (lv_sub hl [0, 1, 2, 3, 4] rfl) hz.symm (fun H locs ls h hl => cont z hR1 H locs ls h hl)
      · exact k_law_13_xIOB (R := room_1) (sa := sa) hst hC wG_law hT hX hbl hbA hcs h (lv_sub hl [0, 1, 2, 3, 4] rfl) hz.symm (fun H locs ls h hl => cont z hR1 H locs ls h hl)
      · exact k_law_13_xIAE (R := room_1) (sa := sa) hst hC wG_law hT hX hbl hbA hcs h (lv_sub hl [0, 1, 2, 3, 4] rfl) hz.symm (fun H locs ls h hl => cont z hR1 H locs ls h hl)
    by_cases c14 : xs (nI (4 * k)).toNatClampNeg &&& 63 = 14
    · refine lv_tableIn (off := 859) (tgt := 898) hx hb dL_law_39 (by rw [c14]; decide) (by rw [c14]; decide) (by rw [c14]; decide) (by decide) ?_
      obtain ⟨z, hz, hR1⟩ := h14 k v hR hk4
      simp only [List.mem_cons, List.not_mem_nil, or_false] at hz
      rcases hz with hz | hz | hz
      · exact k_law_14 (R := room_1) (sa := sa) hst hC wG_law hT hX hbl hbA hcs h (lv_sub hl [0, 1, 2, 3, 4] rfl) hz.symm (fun H locs ls h hl => cont z hR1 H locs ls h hl)
      · exact k_law_14_xIAE (R := room_1) (sa := sa) hst hC wG_law hT hX hbl hbA hcs h (lv_sub hl [0, 1, 2, 3, 4] rfl) hz.symm (fun H locs ls h hl => cont z hR1 H locs ls h hl)
      · exact k_law_14_xISE (R := room_1) (sa := sa) hst hC wG_law hT hX hbl hbA hcs h (lv_sub hl [0, 1, 2, 3, 4] rfl) hz.symm (fun H locs ls h hl => cont z hR1 H locs ls h hl)
    by_cases c15 : xs (nI (4 * k)).toNatClampNeg &&& 63 = 15
    · refine lv_tableIn (off := 915) (tgt := 954) hx hb dL_law_39 (by rw [c15]; decide) (by rw [c15]; decide) (by rw [c15]; decide) (by decide) ?_
      obtain ⟨z, hz, hR1⟩ := h15 k v hR hk4
      simp only [List.mem_cons, List.not_mem_nil, or_false] at hz
      rcases hz with hz
      · exact k_law_15 (R := room_1) (sa := sa) hst hC wG_law hT hX hbl hbA hcs h (lv_sub hl [0, 1, 2, 3, 4] rfl) hz.symm (fun H locs ls h hl => cont z hR1 H locs ls h hl)
    by_cases c16 : xs (nI (4 * k)).toNatClampNeg &&& 63 = 16
    · refine lv_tableIn (off := 928) (tgt := 967) hx hb dL_law_39 (by rw [c16]; decide) (by rw [c16]; decide) (by rw [c16]; decide) (by decide) ?_
      obtain ⟨z, hz, hR1⟩ := h16 k v hR hk4
      simp only [List.mem_cons, List.not_mem_nil, or_false] at hz
      rcases hz with hz
      · exact k_law_16 (R := room_1) (sa := sa) hst hC wG_law hT hX hbl hbA hcs h (lv_sub hl [0, 1, 2, 3, 4] rfl) hz.symm (fun H locs ls h hl => cont z hR1 H locs ls h hl)
    by_cases c17 : xs (nI (4 * k)).toNatClampNeg &&& 63 = 17
    · refine lv_tableIn (off := 941) (tgt := 980) hx hb dL_law_39 (by rw [c17]; decide) (by rw [c17]; decide) (by rw [c17]; decide) (by decide) ?_
      obtain ⟨z, hz, hR1⟩ := h17 k v hR hk4
      simp only [List.mem_cons, List.not_mem_nil, or_false] at hz
      rcases hz with hz | hz
      · exact k_law_17 (R := room_1) (sa := sa) hst hC wG_law hT hX hbl hbA hcs h (lv_sub hl [0, 1, 2, 3, 4] rfl) hz.symm (fun H locs ls h hl => cont z hR1 H locs ls h hl)
      · exact k_law_17_xIAE (R := room_1) (sa := sa) hst hC wG_law hT hX hbl hbA hcs h (lv_sub hl [0, 1, 2, 3, 4] rfl) hz.symm (fun H locs ls h hl => cont z hR1 H locs ls h hl)
    by_cases c18 : xs (nI (4 * k)).toNatClampNeg &&& 63 = 18
    · refine lv_tableIn (off := 985) (tgt := 1024) hx hb dL_law_39 (by rw [c18]; decide) (by rw [c18]; decide) (by rw [c18]; decide) (by decide) ?_
      obtain ⟨z, hz, hR1⟩ := h18 k v hR hk4
      simp only [List.mem_cons, List.not_mem_nil, or_false] at hz
      rcases hz with hz
      · exact k_law_18 (R := room_1) (sa := sa) hst hC wG_law hT hX hbl hbA hcs h (lv_sub hl [0, 1, 2, 3, 4] rfl) hz.symm (fun H locs ls h hl => cont z hR1 H locs ls h hl)
    by_cases c19 : xs (nI (4 * k)).toNatClampNeg &&& 63 = 19
    · refine lv_tableIn (off := 998) (tgt := 1037) hx hb dL_law_39 (by rw [c19]; decide) (by rw [c19]; decide) (by rw [c19]; decide) (by decide) ?_
      obtain ⟨z, hz, hR1⟩ := h19 k v hR hk4
      simp only [List.mem_cons, List.not_mem_nil, or_false] at hz
      rcases hz with hz | hz
      · exact k_law_19 (R := room_1) (sa := sa) hst hC wG_law hT hX hbl hbA hcs h (lv_sub hl [0, 1, 2, 3, 4] rfl) hz.symm (fun H locs ls h hl => cont z hR1 H locs ls h hl)
      · exact k_law_19_xISE (R := room_1) (sa := sa) hst hC wG_law hT hX hbl hbA hcs h (lv_sub hl [0, 1, 2, 3, 4] rfl) hz.symm (fun H locs ls h hl => cont z hR1 H locs ls h hl)
    by_cases c20 : xs (nI (4 * k)).toNatClampNeg &&& 63 = 20
    · refine lv_tableIn (off := 1042) (tgt := 1081) hx hb dL_law_39 (by rw [c20]; decide) (by rw [c20]; decide) (by rw [c20]; decide) (by decide) ?_
      obtain ⟨z, hz, hR1⟩ := h20 k v hR hk4
      simp only [List.mem_cons, List.not_mem_nil, or_false] at hz
      rcases hz with hz | hz
      · exact k_law_20 (R := room_1) (sa := sa) hst hC wG_law hT hX hbl hbA hcs h (lv_sub hl [0, 1, 2, 3, 4] rfl) hz.symm (fun H locs ls h hl => cont z hR1 H locs ls h hl)
      · exact k_law_20_xISE (R := room_1) (sa := sa) hst hC wG_law hT hX hbl hbA hcs h (lv_sub hl [0, 1, 2, 3, 4] rfl) hz.symm (fun H locs ls h hl => cont z hR1 H locs ls h hl)
    by_cases c21 : xs (nI (4 * k)).toNatClampNeg &&& 63 = 21
    · refine lv_tableIn (off := 1086) (tgt := 1125) hx hb dL_law_39 (by rw [c21]; decide) (by rw [c21]; decide) (by rw [c21]; decide) (by decide) ?_
      obtain ⟨z, hz, hR1⟩ := h21 k v hR hk4
      simp only [List.mem_cons, List.not_mem_nil, or_false] at hz
      rcases hz with hz | hz | hz
      · exact k_law_21 (R := room_1) (sa := sa) hst hC wG_law hT hX hbl hbA hcs h (lv_sub hl [0, 1, 2, 3, 4] rfl) hz.symm (fun H locs ls h hl => cont z hR1 H locs ls h hl)
      · exact k_law_21_xIOB (R := room_1) (sa := sa) hst hC wG_law hT hX hbl hbA hcs h (lv_sub hl [0, 1, 2, 3, 4] rfl) hz.symm (fun H locs ls h hl => cont z hR1 H locs ls h hl)
      · exact k_law_21_xISE (R := room_1) (sa := sa) hst hC wG_law hT hX hbl hbA hcs h (lv_sub hl [0, 1, 2, 3, 4] rfl) hz.symm (fun H locs ls h hl => cont z hR1 H locs ls h hl)
    by_cases c22 : xs (nI (4 * k)).toNatClampNeg &&& 63 = 22
    · refine lv_tableIn (off := 1142) (tgt := 1181) hx hb dL_law_39 (by rw [c22]; decide) (by rw [c22]; decide) (by rw [c22]; decide) (by decide) ?_
      obtain ⟨z, hz, hR1⟩ := h22 k v hR hk4
      simp only [List.mem_cons, List.not_mem_nil, or_false] at hz
      rcases hz with hz | hz | hz
      · exact k_law_22 (R := room_1) (sa := sa) hst hC wG_law hT hX hbl hbA hcs h (lv_sub hl [0, 1, 2, 3, 4] rfl) hz.symm (fun H locs ls h hl => cont z hR1 H locs ls h hl)
      · exact k_law_22_xIOB (R := room_1) (sa := sa) hst hC wG_law hT hX hbl hbA hcs h (lv_sub hl [0, 1, 2, 3, 4] rfl) hz.symm (fun H locs ls h hl => cont z hR1 H locs ls h hl)
      · exact k_law_22_xIAE (R := room_1) (sa := sa) hst hC wG_law hT hX hbl hbA hcs h (lv_sub hl [0, 1, 2, 3, 4] rfl) hz.symm (fun H locs ls h hl => cont z hR1 H locs ls h hl)
    by_cases c23 : xs (nI (4 * k)).toNatClampNeg &&& 63 = 23
    · refine lv_tableIn (off := 1210) (tgt := 1249) hx hb dL_law_39 (by rw [c23]; decide) (by rw [c23]; decide) (by rw [c23]; decide) (by decide) ?_
      obtain ⟨z, hz, hR1⟩ := h23 k v hR hk4
      simp only [List.mem_cons, List.not_mem_nil, or_false] at hz
      rcases hz with hz | hz | hz
      · exact k_law_23 (R := room_1) (sa := sa) hst hC wG_law hT hX hbl hbA hcs h (lv_sub hl [0, 1, 2, 3, 4] rfl) hz.symm (fun H locs ls h hl => cont z hR1 H locs ls h hl)
      · exact k_law_23_xIOB (R := room_1) (sa := sa) hst hC wG_law hT hX hbl hbA hcs h (lv_sub hl [0, 1, 2, 3, 4] rfl) hz.symm (fun H locs ls h hl => cont z hR1 H locs ls h hl)
      · exact k_law_23_xIAE (R := room_1) (sa := sa) hst hC wG_law hT hX hbl hbA hcs h (lv_sub hl [0, 1, 2, 3, 4] rfl) hz.symm (fun H locs ls h hl => cont z hR1 H locs ls h hl)
    by_cases c24 : xs (nI (4 * k)).toNatClampNeg &&& 63 = 24
    · refine lv_tableIn (off := 1278) (tgt := 1317) hx hb dL_law_39 (by rw [c24]; decide) (by rw [c24]; decide) (by rw [c24]; decide) (by decide) ?_
      obtain ⟨z, hz, hR1⟩ := h24 k v hR hk4
      simp only [List.mem_cons, List.not_mem_nil, or_false] at hz
      rcases hz with hz | hz
      · exact k_law_24 (R := room_1) (sa := sa) hst hC wG_law hT hX hbl hbA hcs h (lv_sub hl [0, 1, 2, 3, 4] rfl) hz.symm (fun H locs ls h hl => cont z hR1 H locs ls h hl)
      · exact k_law_24_xIAE (R := room_1) (sa := sa) hst hC wG_law hT hX hbl hbA hcs h (lv_sub hl [0, 1, 2, 3, 4] rfl) hz.symm (fun H locs ls h hl => cont z hR1 H locs ls h hl)
    by_cases c25 : xs (nI (4 * k)).toNatClampNeg &&& 63 = 25
    · refine lv_tableIn (off := 1346) (tgt := 1385) hx hb dL_law_39 (by rw [c25]; decide) (by rw [c25]; decide) (by rw [c25]; decide) (by decide) ?_
      obtain ⟨z, hz, hR1⟩ := h25 k v hR hk4
      simp only [List.mem_cons, List.not_mem_nil, or_false] at hz
      rcases hz with hz | hz | hz
      · exact k_law_25 (R := room_1) (sa := sa) hst hC wG_law hT hX hbl hbA hcs h (lv_sub hl [0, 1, 2, 3, 4] rfl) hz.symm (fun H locs ls h hl => cont z hR1 H locs ls h hl)
      · exact k_law_25_xIOB (R := room_1) (sa := sa) hst hC wG_law hT hX hbl hbA hcs h (lv_sub hl [0, 1, 2, 3, 4] rfl) hz.symm (fun H locs ls h hl => cont z hR1 H locs ls h hl)
      · exact k_law_25_xIAE (R := room_1) (sa := sa) hst hC wG_law hT hX hbl hbA hcs h (lv_sub hl [0, 1, 2, 3, 4] rfl) hz.symm (fun H locs ls h hl => cont z hR1 H locs ls h hl)
    by_cases c26 : xs (nI (4 * k)).toNatClampNeg &&& 63 = 26
    · refine lv_tableIn (off := 1414) (tgt := 1453) hx hb dL_law_39 (by rw [c26]; decide) (by rw [c26]; decide) (by rw [c26]; decide) (by decide) ?_
      obtain ⟨z, hz, hR1⟩ := h26 k v hR hk4
      simp only [List.mem_cons, List.not_mem_nil, or_false] at hz
      rcases hz with hz | hz
      · exact k_law_26 (R := room_1) (sa := sa) hst hC wG_law hT hX hbl hbA hcs h (lv_sub hl [0, 1, 2, 3, 4] rfl) hz.symm (fun H locs ls h hl => cont z hR1 H locs ls h hl)
      · exact k_law_26_xIAE (R := room_1) (sa := sa) hst hC wG_law hT hX hbl hbA hcs h (lv_sub hl [0, 1, 2, 3, 4] rfl) hz.symm (fun H locs ls h hl => cont z hR1 H locs ls h hl)
    by_cases c27 : xs (nI (4 * k)).toNatClampNeg &&& 63 = 27
    · refine lv_tableIn (off := 1470) (tgt := 1509) hx hb dL_law_39 (by rw [c27]; decide) (by rw [c27]; decide) (by rw [c27]; decide) (by decide) ?_
      obtain ⟨z, hz, hR1⟩ := h27 k v hR hk4
      simp only [List.mem_cons, List.not_mem_nil, or_false] at hz
      rcases hz with hz | hz
      · exact k_law_27 (R := room_1) (sa := sa) hst hC wG_law hT hX hbl hbA hcs h (lv_sub hl [0, 1, 2, 3, 4] rfl) hz.symm (fun H locs ls h hl => cont z hR1 H locs ls h hl)
      · exact k_law_27_xIOB (R := room_1) (sa := sa) hst hC wG_law hT hX hbl hbA hcs h (lv_sub hl [0, 1, 2, 3, 4] rfl) hz.symm (fun H locs ls h hl => cont z hR1 H locs ls h hl)
    by_cases c28 : xs (nI (4 * k)).toNatClampNeg &&& 63 = 28
    · refine lv_tableIn (off := 1526) (tgt := 1565) hx hb dL_law_39 (by rw [c28]; decide) (by rw [c28]; decide) (by rw [c28]; decide) (by decide) ?_
      obtain ⟨z, hz, hR1⟩ := h28 k v hR hk4
      simp only [List.mem_cons, List.not_mem_nil, or_false] at hz
      rcases hz with hz | hz | hz
      · exact k_law_28 (R := room_1) (sa := sa) hst hC wG_law hT hX hbl hbA hcs h (lv_sub hl [0, 1, 2, 3, 4] rfl) hz.symm (fun H locs ls h hl => cont z hR1 H locs ls h hl)
      · exact k_law_28_xIAE (R := room_1) (sa := sa) hst hC wG_law hT hX hbl hbA hcs h (lv_sub hl [0, 1, 2, 3, 4] rfl) hz.symm (fun H locs ls h hl => cont z hR1 H locs ls h hl)
      · exact k_law_28_xIOB (R := room_1) (sa := sa) hst hC wG_law hT hX hbl hbA hcs h (lv_sub hl [0, 1, 2, 3, 4] rfl) hz.symm (fun H locs ls h hl => cont z hR1 H locs ls h hl)
    by_cases c29 : xs (nI (4 * k)).toNatClampNeg &&& 63 = 29
    · refine lv_tableIn (off := 1594) (tgt := 1633) hx hb dL_law_39 (by rw [c29]; decide) (by rw [c29]; decide) (by rw [c29]; decide) (by decide) ?_
      obtain ⟨z, hz, hR1⟩ := h29 k v hR hk4
      simp only [List.mem_cons, List.not_mem_nil, or_false] at hz
      rcases hz with hz | hz
      · exact k_law_29 (R := room_1) (sa := sa) hst hC wG_law hT hX hbl hbA hcs h (lv_sub hl [0, 1, 2, 3, 4] rfl) hz.symm (fun H locs ls h hl => cont z hR1 H locs ls h hl)
      · exact k_law_29_xIOB (R := room_1) (sa := sa) hst hC wG_law hT hX hbl hbA hcs h (lv_sub hl [0, 1, 2, 3, 4] rfl) hz.symm (fun H locs ls h hl => cont z hR1 H locs ls h hl)
    by_cases c30 : xs (nI (4 * k)).toNatClampNeg &&& 63 = 30
    · refine lv_tableIn (off := 1650) (tgt := 1689) hx hb dL_law_39 (by rw [c30]; decide) (by rw [c30]; decide) (by rw [c30]; decide) (by decide) ?_
      obtain ⟨z, hz, hR1⟩ := h30 k v hR hk4
      simp only [List.mem_cons, List.not_mem_nil, or_false] at hz
      rcases hz with hz
      · exact k_law_30 (R := room_1) (sa := sa) hst hC wG_law hT hX hbl hbA hcs h (lv_sub hl [0, 1, 2, 3, 4] rfl) hz.symm (fun H locs ls h hl => cont z hR1 H locs ls h hl)
    by_cases c31 : xs (nI (4 * k)).toNatClampNeg &&& 63 = 31
    · refine lv_tableIn (off := 1663) (tgt := 1702) hx hb dL_law_39 (by rw [c31]; decide) (by rw [c31]; decide) (by rw [c31]; decide) (by decide) ?_
      obtain ⟨z, hz, hR1⟩ := h31 k v hR hk4
      simp only [List.mem_cons, List.not_mem_nil, or_false] at hz
      rcases hz with hz
      · exact k_law_31 (R := room_1) (sa := sa) hst hC wG_law hT hX hbl hbA hcs h (lv_sub hl [0, 1, 2, 3, 4] rfl) hz.symm (fun H locs ls h hl => cont z hR1 H locs ls h hl)
    by_cases c32 : xs (nI (4 * k)).toNatClampNeg &&& 63 = 32
    · refine lv_tableIn (off := 1676) (tgt := 1715) hx hb dL_law_39 (by rw [c32]; decide) (by rw [c32]; decide) (by rw [c32]; decide) (by decide) ?_
      obtain ⟨z, hz, hR1⟩ := h32 k v hR hk4
      simp only [List.mem_cons, List.not_mem_nil, or_false] at hz
      rcases hz with hz
      · exact k_law_32 (R := room_1) (sa := sa) hst hC wG_law hT hX hbl hbA hcs h (lv_sub hl [0, 1, 2, 3, 4] rfl) hz.symm (fun H locs ls h hl => cont z hR1 H locs ls h hl)
    by_cases c33 : xs (nI (4 * k)).toNatClampNeg &&& 63 = 33
    · refine lv_tableIn (off := 1689) (tgt := 1728) hx hb dL_law_39 (by rw [c33]; decide) (by rw [c33]; decide) (by rw [c33]; decide) (by decide) ?_
      obtain ⟨z, hz, hR1⟩ := h33 k v hR hk4
      simp only [List.mem_cons, List.not_mem_nil, or_false] at hz
      rcases hz with hz
      · exact k_law_33 (R := room_1) (sa := sa) hst hC wG_law hT hX hbl hbA hcs h (lv_sub hl [0, 1, 2, 3, 4] rfl) hz.symm (fun H locs ls h hl => cont z hR1 H locs ls h hl)
    by_cases c34 : xs (nI (4 * k)).toNatClampNeg &&& 63 = 34
    · refine lv_tableIn (off := 1702) (tgt := 1741) hx hb dL_law_39 (by rw [c34]; decide) (by rw [c34]; decide) (by rw [c34]; decide) (by decide) ?_
      obtain ⟨z, hz, hR1⟩ := h34 k v hR hk4
      simp only [List.mem_cons, List.not_mem_nil, or_false] at hz
      rcases hz with hz
      · exact k_law_34 (R := room_1) (sa := sa) hst hC wG_law hT hX hbl hbA hcs h (lv_sub hl [0, 1, 2, 3, 4] rfl) hz.symm (fun H locs ls h hl => cont z hR1 H locs ls h hl)
    by_cases c35 : xs (nI (4 * k)).toNatClampNeg &&& 63 = 35
    · refine lv_tableIn (off := 1743) (tgt := 1782) hx hb dL_law_39 (by rw [c35]; decide) (by rw [c35]; decide) (by rw [c35]; decide) (by decide) ?_
      obtain ⟨z, hz, hR1⟩ := h35 k v hR hk4
      simp only [List.mem_cons, List.not_mem_nil, or_false] at hz
      rcases hz with hz
      · exact k_law_35 (R := room_1) (sa := sa) hst hC wG_law hT hX hbl hbA hcs h (lv_sub hl [0, 1, 2, 3, 4] rfl) hz.symm (fun H locs ls h hl => cont z hR1 H locs ls h hl)
    by_cases c36 : xs (nI (4 * k)).toNatClampNeg &&& 63 = 36
    · refine lv_tableIn (off := 1786) (tgt := 1825) hx hb dL_law_39 (by rw [c36]; decide) (by rw [c36]; decide) (by rw [c36]; decide) (by decide) ?_
      obtain ⟨z, hz, hR1⟩ := h36 k v hR hk4
      simp only [List.mem_cons, List.not_mem_nil, or_false] at hz
      rcases hz with hz
      · exact k_law_36 (R := room_1) (sa := sa) hst hC wG_law hT hX hbl hbA hcs h (lv_sub hl [0, 1, 2, 3, 4] rfl) hz.symm (fun H locs ls h hl => cont z hR1 H locs ls h hl)
    refine lv_tableOut (tgt := 1839) hx hb dL_law_39 (by have := xne (k := 0) (by decide) c0; have := xne (k := 1) (by decide) c1; have := xne (k := 2) (by decide) c2; have := xne (k := 3) (by decide) c3; have := xne (k := 4) (by decide) c4; have := xne (k := 5) (by decide) c5; have := xne (k := 6) (by decide) c6; have := xne (k := 7) (by decide) c7; have := xne (k := 8) (by decide) c8; have := xne (k := 9) (by decide) c9; have := xne (k := 10) (by decide) c10; have := xne (k := 11) (by decide) c11; have := xne (k := 12) (by decide) c12; have := xne (k := 13) (by decide) c13; have := xne (k := 14) (by decide) c14; have := xne (k := 15) (by decide) c15; have := xne (k := 16) (by decide) c16; have := xne (k := 17) (by decide) c17; have := xne (k := 18) (by decide) c18; have := xne (k := 19) (by decide) c19; have := xne (k := 20) (by decide) c20; have := xne (k := 21) (by decide) c21; have := xne (k := 22) (by decide) c22; have := xne (k := 23) (by decide) c23; have := xne (k := 24) (by decide) c24; have := xne (k := 25) (by decide) c25; have := xne (k := 26) (by decide) c26; have := xne (k := 27) (by decide) c27; have := xne (k := 28) (by decide) c28; have := xne (k := 29) (by decide) c29; have := xne (k := 30) (by decide) c30; have := xne (k := 31) (by decide) c31; have := xne (k := 32) (by decide) c32; have := xne (k := 33) (by decide) c33; have := xne (k := 34) (by decide) c34; have := xne (k := 35) (by decide) c35; have := xne (k := 36) (by decide) c36; omega) (by decide) ?_
    exact W.widen (k := cells + 1) (n := slots + 6) (by omega) (by omega) (cont v (hmono k v hR) H locs ls h hl)
