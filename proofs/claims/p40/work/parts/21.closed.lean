/-! closed forms of the leaves -/
def xwi (a b c : Int32) : Int32 := if a < b then 0 else if c < a then 0 else 1
def xat (N : Nat) (f : Nat → Int32) (i : Int32) : Int32 := if i < 0 then 0 else if Int32.ofNat N ≤ i then 0 else f i.toNatClampNeg
def xpt (N : Nat) (f : Nat → Int32) (i x : Int32) : Nat → Int32 := if i < 0 then f else if Int32.ofNat N ≤ i then f else va_up f i.toNatClampNeg x
def xso (k w : Int32) : Int32 := if k = 1 then w / 32 else w
def xrp (c s : Int32) : Int32 := c / 8 * 8 + ((c + s) - (c + s) / 8 * 8)
def xpg (s : Int32) : Int32 := (15 : Int32) <<< ((s * 4) &&& 31)
def xmx (h v : Int64) : Int64 := 31 * h + v
def xfl (N : Nat) (f : Nat → Int32) (x : Int32) : Nat → Int32 := fun j => if j < N then x else f j
theorem xin_of {N : Nat} (hN : N < 2147483648) {i : Int32} (h1 : ¬ i < 0) (h2 : ¬ Int32.ofNat N ≤ i) : ¬ (i < 0 ∨ N ≤ i.toNatClampNeg) := by
  obtain ⟨k, hk, rfl⟩ := nI_of h1
  rw [nI_clamp hk]
  rintro (h | h)
  · exact h1 h
  · exact h2 (nI_le h hk)
theorem e_X8_isWithin {a b c : Int32} : m_X8_isWithin a b c = some (xwi a b c) := by
  unfold m_X8_isWithin xwi
  by_cases h1 : a < b
  · simp [lt, h1]
  · by_cases h2 : c < a <;> simp [lt, h1, h2]
theorem e_X8_at {N : Nat} (hN : N < 2147483648) {v : xSt} {i : Int32} : m_X8_at N v i = some (xat N (v 0) i) := by
  unfold m_X8_at xat
  by_cases h1 : i < 0
  · simp only [lt, if_pos h1]
  · by_cases h2 : Int32.ofNat N ≤ i
    · simp only [lt, if_neg h1, if_pos h2]
    · simp only [lt, if_neg h1, if_neg h2, ck]
      rw [if_pos (xin_of hN h1 h2)]
theorem va_up_id {α : Type} {v : Nat → α} {j : Nat} : va_up v j (v j) = v := by
  funext i
  by_cases h : i = j
  · subst h; rw [va_up_self]
  · rw [va_up_ne _ _ h]
theorem e_X8_put {N : Nat} (hN : N < 2147483648) {v : xSt} {i x : Int32} : m_X8_put N v i x = some (va_up v 0 (xpt N (v 0) i x)) := by
  unfold m_X8_put xpt
  by_cases h1 : i < 0
  · rw [if_pos h1, if_pos h1, va_up_id]
  · by_cases h2 : Int32.ofNat N ≤ i
    · rw [if_neg h1, if_pos h2, if_neg h1, if_pos h2, va_up_id]
    · simp only [lt, if_neg h1, if_neg h2, ck]
      rw [if_pos (xin_of hN h1 h2)]
      rfl
theorem e_X8_sectorOf {k w : Int32} : m_X8_sectorOf k w = some (xso k w) := by
  unfold m_X8_sectorOf xso
  by_cases h : k = 1
  · rw [if_pos h, if_pos h]
  · rw [if_neg h, if_neg h]
theorem e_X8_roundPage {c s : Int32} : m_X8_roundPage c s = some (xrp c s) := rfl
theorem e_X0_pagesOf {s : Int32} : m_X0_pagesOf s = some (xpg s) := rfl
def xbc (x : Int32) : Int32 := match m_J6_bitCount_0f7a4 x with | some y => y | none => 0
theorem e_J6_bitCount_0f7a4 {x : Int32} : m_J6_bitCount_0f7a4 x = some (xbc x) := rfl
theorem fill_l {N : Nat} (hN : N < 2147483648) {x : Int32} {B : (Int32 × xSt → Option xSt) → Int32 × xSt → Option xSt} (hB : B = fun (rec : Int32 × xSt → Option xSt) => un2 (fun (a1 : Int32) (v2 : xSt) => (if (Int32.ofNat N) ≤ a1 then some v2 else ck (¬ (a1 < 0 ∨ N ≤ a1.toNatClampNeg)) (lt (st2 v2 0 a1.toNatClampNeg x) (fun v6 => rec ((a1 + 1), v6)))))) :
    ∀ (d i : Nat), i + d = N → ∀ (w : xSt) (n : Nat), d < n → lp B n (nI i, w) = some (va_up w 0 (fun j => if i ≤ j ∧ j < N then x else w 0 j)) := by
  intro d
  induction d with
  | zero =>
    intro i hi w n hn
    obtain ⟨n, rfl⟩ : ∃ k, n = k + 1 := ⟨n - 1, by omega⟩
    rw [lp, hB]
    simp only [un2]
    rw [if_pos (show Int32.ofNat N ≤ nI i by rw [show i = N by omega]; exact nI_le (Nat.le_refl _) hN)]
    congr 1
    funext j k
    by_cases hj : j = 0
    · subst hj
      rw [va_up_self, if_neg (by omega)]
    · rw [va_up_ne _ _ hj]
  | succ d ih =>
    intro i hi w n hn
    obtain ⟨n, rfl⟩ : ∃ k, n = k + 1 := ⟨n - 1, by omega⟩
    rw [lp]
    have e1 : B (lp B n) (nI i, w) = lp B n (nI (i + 1), st2 w 0 i x) := by
      rw [hB]
      simp only [un2]
      rw [if_neg (show ¬ Int32.ofNat N ≤ nI i from nI_ge (by omega) hN)]
      simp only [ck]
      rw [if_pos (by rw [nI_clamp (by omega)]; rintro (h | h); exact nI_pos (by omega) h; omega), nI_clamp (by omega), ← nI_1]
      rfl
    rw [e1, ih (i + 1) (by omega) _ n (by omega)]
    congr 1
    funext j k
    by_cases hj : j = 0
    · subst hj
      rw [va_up_self, va_up_self]
      unfold st2
      rw [va_up_self]
      by_cases hk : k = i
      · subst hk
        rw [if_neg (by omega), va_up_self, if_pos ⟨Nat.le_refl _, by omega⟩]
      · rw [va_up_ne _ _ hk]
        by_cases h2 : i + 1 ≤ k ∧ k < N
        · rw [if_pos h2, if_pos ⟨by omega, h2.2⟩]
        · rw [if_neg h2, if_neg (by omega)]
    · unfold st2
      rw [va_up_ne _ _ hj, va_up_ne _ _ hj, va_up_ne _ _ hj]
theorem xF_gt {d : Nat} (h : d < 2147483648) : d < xF := Nat.lt_trans h (by decide)
theorem e_J7_fill {N : Nat} (hN : N < 2147483648) {v : xSt} {x : Int32} : m_J7_fill_53178 N v x = some (va_up v 0 (xfl N (v 0) x)) := by
  have h := fill_l hN (x := x) rfl N 0 (by omega) v xF (xF_gt hN)
  rw [nI_0] at h
  unfold m_J7_fill_53178
  refine h.trans ?_
  congr 1
  funext j k
  by_cases hj : j = 0
  · subst hj
    rw [va_up_self, va_up_self]
    unfold xfl
    by_cases hk : k < N
    · rw [if_pos hk, if_pos ⟨Nat.zero_le _, hk⟩]
    · rw [if_neg hk, if_neg (by omega)]
  · rw [va_up_ne _ _ hj, va_up_ne _ _ hj]
theorem k_X8_isWithin (l : Launch) (G : xGl) (q : Nat → Nat) (v : xSt) (a : Int32) (b : Int32) (c : Int32) : mRO l yX8_isWithin (wM yX8_isWithin cX8_isWithin 3 (some .boolean)) { frames := 0, cells := 0, slots := 0, locals := 0 } G e0 0 q v [.int a, .int b, .int c] (qZ (xwi a b c)) := c_X8_isWithin l G q v a b c e_X8_isWithin
theorem k_X8_at (l : Launch) (G : xGl) (q : Nat → Nat) (N : Nat) (hN : N < 2147483648) (v : xSt) (i : Int32) : mRO l yX8_at (wM yX8_at cX8_at 2 (some .int)) { frames := 0, cells := 0, slots := 0, locals := 0 } G (eInt G N) 1 q v [.ref (q 0), .int i] (qI (xat N (v 0) i)) := c_X8_at l G q N v i (e_X8_at hN)
theorem k_X8_put (l : Launch) (G : xGl) (q : Nat → Nat) (N : Nat) (hN : N < 2147483648) (v : xSt) (i : Int32) (x : Int32) : mRW l yX8_put (wM yX8_put cX8_put 3 none) { frames := 0, cells := 0, slots := 0, locals := 0 } G (eInt G N) 1 q v [.ref (q 0), .int i, .int x] qV (va_up v 0 (xpt N (v 0) i x)) := c_X8_put l G q N v i x (e_X8_put hN)
theorem k_J7_fill_53178 (l : Launch) (G : xGl) (q : Nat → Nat) (N : Nat) (hN : N < 2147483648) (v : xSt) (x : Int32) : mRW l yJ7_fill_53178 (wM yJ7_fill_53178 cJ7_fill_53178 4 none) { frames := 0, cells := 0, slots := 0, locals := 0 } G (eInt G N) 1 q v [.ref (q 0), .int x] qV (va_up v 0 (xfl N (v 0) x)) := c_J7_fill_53178 l G q N v x (e_J7_fill hN)
theorem k_X8_sectorOf (l : Launch) (G : xGl) (q : Nat → Nat) (v : xSt) (a : Int32) (b : Int32) : mRO l yX8_sectorOf (wM yX8_sectorOf cX8_sectorOf 2 (some .int)) { frames := 0, cells := 0, slots := 0, locals := 0 } G e0 0 q v [.int a, .int b] (qI (xso a b)) := c_X8_sectorOf l G q v a b e_X8_sectorOf
theorem k_X8_roundPage (l : Launch) (G : xGl) (q : Nat → Nat) (v : xSt) (a : Int32) (b : Int32) : mRO l yX8_roundPage (wM yX8_roundPage cX8_roundPage 2 (some .int)) { frames := 0, cells := 0, slots := 0, locals := 0 } G e0 0 q v [.int a, .int b] (qI (xrp a b)) := c_X8_roundPage l G q v a b e_X8_roundPage
theorem k_X0_pagesOf (l : Launch) (G : xGl) (q : Nat → Nat) (v : xSt) (a : Int32) : mRO l yX0_pagesOf (wM yX0_pagesOf cX0_pagesOf 1 (some .int)) { frames := 0, cells := 0, slots := 0, locals := 0 } G e0 0 q v [.int a] (qI (xpg a)) := c_X0_pagesOf l G q v a e_X0_pagesOf
theorem k_J6_bitCount_0f7a4 (l : Launch) (G : xGl) (q : Nat → Nat) (v : xSt) (a : Int32) : mRO l yJ6_bitCount_0f7a4 (wM yJ6_bitCount_0f7a4 cJ6_bitCount_0f7a4 1 (some .int)) { frames := 0, cells := 0, slots := 0, locals := 0 } G e0 0 q v [.int a] (qI (xbc a)) := c_J6_bitCount_0f7a4 l G q v a e_J6_bitCount_0f7a4
theorem in_X8 : Cond.initialized RX8 ∈ wG := wG_t 1 (by decide +kernel) rfl
theorem co_X8_isWithin : Cond.code yX8_isWithin cX8_isWithin 3 (some .boolean) ∈ wG := wG_t 393 (by decide +kernel) rfl
theorem dd_X8_isWithin : yX8_isWithin.cls ≠ "java/lang/invoke/MethodHandle" ∧ yX8_isWithin.cls ≠ "java/lang/invoke/VarHandle" ∧ (parseMethodDescriptor yX8_isWithin.desc).map (fun d => d.parameters.length) = some 3 := by decide +kernel
theorem st_X8_isWithin : Cond.static yX8_isWithin ∈ wG := wG_t 392 (by decide +kernel) rfl
theorem lk_X8_69 : Cond.methodLink RX8 69 yX8_isWithin ∈ wG := wG_t 391 (by decide +kernel) rfl
def m_X8_isCell (p0 : Int32) : Option (Int32) := some (xwi p0 (0 : Int32) (255 : Int32))
set_option maxHeartbeats 4000000 in
set_option maxRecDepth 100000 in
theorem c_X8_isCell (l : Launch) (G : xGl) (q : Nat → Nat) (v : xSt) (p0 : Int32) {z : (Int32)} (hf : m_X8_isCell p0 = some z) : mRO l yX8_isCell (wM yX8_isCell cX8_isCell 1 (some .boolean)) { frames := 1, cells := 0, slots := 0, locals := 22 } G (e0) 0 q v [.int p0] (qZ z) := by
  refine xRO (cc := cX8_isCell) (maxL := 1) (ret := (some .boolean)) (by decide) rfl (Nat.le_of_ble_eq_true rfl) ?_
  intro p e s m below meth c ls A hC hr hlk h hl
  have hx := hC.1
  have hb := hC.2.1
  have hl : lv_has ls 1 [(0, .int p0)] := hl
  unfold m_X8_isCell at hf
  obtain ⟨H, hH⟩ : ∃ H, H = s.heap := ⟨_, rfl⟩
  obtain ⟨locs, hlo⟩ : ∃ x : List Loc, x = [] := ⟨_, rfl⟩
  have h : ho G (e0) 0 q v A s H locs := by rw [hH, hlo]; exact h
  rw [← hlo, ← hH]
  clear hH hlo
  refine lv_iload_n hx hb dX8_isCell_0 rfl (lv_at hl 0 rfl) ?_
  refine lv_iconst (v := (0 : Int32)) hx hb dX8_isCell_1 (by decide) ?_
  refine lv_sipush (v := (255 : Int32)) hx hb dX8_isCell_2 (by decide) ?_
  refine xzO h (va_runS (As := [.int p0, .int (0 : Int32), .int (255 : Int32)]) (rest := []) hC (k_X8_isWithin l G q v p0 (0 : Int32) (255 : Int32) H.size) (xcwS hC lk_X8_69 in_X8 co_X8_isWithin st_X8_isWithin rfl rfl dd_X8_isWithin ⟨Nat.le_of_ble_eq_true rfl, Nat.le_of_ble_eq_true rfl⟩) (preSN h.o [.int p0, .int (0 : Int32), .int (255 : Int32)]) rfl rfl hl.1 rfl (lv_room (Nat.le_of_ble_eq_true rfl)) dX8_isCell_5 ⟨Nat.zero_le _, Nat.zero_le _⟩) (fun H locs hz1 h => ?_)
  have hf := sm_e hf
  exact ozret hC hr hlk h (by rw [← hf]) hz1 dX8_isCell_8
theorem k_X8_isCell (l : Launch) (G : xGl) (q : Nat → Nat) (v : xSt) (a : Int32) : mRO l yX8_isCell (wM yX8_isCell cX8_isCell 1 (some .boolean)) { frames := 1, cells := 0, slots := 0, locals := 22 } G e0 0 q v [.int a] (qZ (xwi a 0 255)) := c_X8_isCell l G q v a rfl
def m_X8_isSector (p0 : Int32) : Option (Int32) := some (xwi p0 (0 : Int32) (7 : Int32))
set_option maxHeartbeats 4000000 in
set_option maxRecDepth 100000 in
theorem c_X8_isSector (l : Launch) (G : xGl) (q : Nat → Nat) (v : xSt) (p0 : Int32) {z : (Int32)} (hf : m_X8_isSector p0 = some z) : mRO l yX8_isSector (wM yX8_isSector cX8_isSector 1 (some .boolean)) { frames := 1, cells := 0, slots := 0, locals := 22 } G (e0) 0 q v [.int p0] (qZ z) := by
  refine xRO (cc := cX8_isSector) (maxL := 1) (ret := (some .boolean)) (by decide) rfl (Nat.le_of_ble_eq_true rfl) ?_
  intro p e s m below meth c ls A hC hr hlk h hl
  have hx := hC.1
  have hb := hC.2.1
  have hl : lv_has ls 1 [(0, .int p0)] := hl
  unfold m_X8_isSector at hf
  obtain ⟨H, hH⟩ : ∃ H, H = s.heap := ⟨_, rfl⟩
  obtain ⟨locs, hlo⟩ : ∃ x : List Loc, x = [] := ⟨_, rfl⟩
  have h : ho G (e0) 0 q v A s H locs := by rw [hH, hlo]; exact h
  rw [← hlo, ← hH]
  clear hH hlo
  refine lv_iload_n hx hb dX8_isSector_0 rfl (lv_at hl 0 rfl) ?_
  refine lv_iconst (v := (0 : Int32)) hx hb dX8_isSector_1 (by decide) ?_
  refine lv_bipush (v := (7 : Int32)) hx hb dX8_isSector_2 (by decide) ?_
  refine xzO h (va_runS (As := [.int p0, .int (0 : Int32), .int (7 : Int32)]) (rest := []) hC (k_X8_isWithin l G q v p0 (0 : Int32) (7 : Int32) H.size) (xcwS hC lk_X8_69 in_X8 co_X8_isWithin st_X8_isWithin rfl rfl dd_X8_isWithin ⟨Nat.le_of_ble_eq_true rfl, Nat.le_of_ble_eq_true rfl⟩) (preSN h.o [.int p0, .int (0 : Int32), .int (7 : Int32)]) rfl rfl hl.1 rfl (lv_room (Nat.le_of_ble_eq_true rfl)) dX8_isSector_4 ⟨Nat.zero_le _, Nat.zero_le _⟩) (fun H locs hz1 h => ?_)
  have hf := sm_e hf
  exact ozret hC hr hlk h (by rw [← hf]) hz1 dX8_isSector_7
theorem k_X8_isSector (l : Launch) (G : xGl) (q : Nat → Nat) (v : xSt) (a : Int32) : mRO l yX8_isSector (wM yX8_isSector cX8_isSector 1 (some .boolean)) { frames := 1, cells := 0, slots := 0, locals := 22 } G e0 0 q v [.int a] (qZ (xwi a 0 7)) := c_X8_isSector l G q v a rfl
