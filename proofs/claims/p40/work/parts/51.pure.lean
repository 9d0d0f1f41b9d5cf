/-! THE REFERENCE: its methods' closed forms over the array σ -/
theorem kc552 {α : Type} {m : Option α} : ck (¬ ((552 : Int32) < 0 ∨ 797 ≤ (552 : Nat))) m = m := q_ck (by decide)
theorem kn552 : (552 : Int32).toNatClampNeg = 552 := Eq.trans rfl rfl
theorem kc553 {α : Type} {m : Option α} : ck (¬ ((553 : Int32) < 0 ∨ 797 ≤ (553 : Nat))) m = m := q_ck (by decide)
theorem kn553 : (553 : Int32).toNatClampNeg = 553 := Eq.trans rfl rfl
theorem kc554 {α : Type} {m : Option α} : ck (¬ ((554 : Int32) < 0 ∨ 797 ≤ (554 : Nat))) m = m := q_ck (by decide)
theorem kn554 : (554 : Int32).toNatClampNeg = 554 := Eq.trans rfl rfl
theorem kc555 {α : Type} {m : Option α} : ck (¬ ((555 : Int32) < 0 ∨ 797 ≤ (555 : Nat))) m = m := q_ck (by decide)
theorem kn555 : (555 : Int32).toNatClampNeg = 555 := Eq.trans rfl rfl
theorem kc556 {α : Type} {m : Option α} : ck (¬ ((556 : Int32) < 0 ∨ 797 ≤ (556 : Nat))) m = m := q_ck (by decide)
theorem kn556 : (556 : Int32).toNatClampNeg = 556 := Eq.trans rfl rfl
theorem kc557 {α : Type} {m : Option α} : ck (¬ ((557 : Int32) < 0 ∨ 797 ≤ (557 : Nat))) m = m := q_ck (by decide)
theorem kn557 : (557 : Int32).toNatClampNeg = 557 := Eq.trans rfl rfl
theorem kc558 {α : Type} {m : Option α} : ck (¬ ((558 : Int32) < 0 ∨ 797 ≤ (558 : Nat))) m = m := q_ck (by decide)
theorem kn558 : (558 : Int32).toNatClampNeg = 558 := Eq.trans rfl rfl
theorem kc559 {α : Type} {m : Option α} : ck (¬ ((559 : Int32) < 0 ∨ 797 ≤ (559 : Nat))) m = m := q_ck (by decide)
theorem kn559 : (559 : Int32).toNatClampNeg = 559 := Eq.trans rfl rfl
theorem kc560 {α : Type} {m : Option α} : ck (¬ ((560 : Int32) < 0 ∨ 797 ≤ (560 : Nat))) m = m := q_ck (by decide)
theorem kn560 : (560 : Int32).toNatClampNeg = 560 := Eq.trans rfl rfl
theorem kc561 {α : Type} {m : Option α} : ck (¬ ((561 : Int32) < 0 ∨ 797 ≤ (561 : Nat))) m = m := q_ck (by decide)
theorem kn561 : (561 : Int32).toNatClampNeg = 561 := Eq.trans rfl rfl
theorem kc562 {α : Type} {m : Option α} : ck (¬ ((562 : Int32) < 0 ∨ 797 ≤ (562 : Nat))) m = m := q_ck (by decide)
theorem kn562 : (562 : Int32).toNatClampNeg = 562 := Eq.trans rfl rfl
theorem kc563 {α : Type} {m : Option α} : ck (¬ ((563 : Int32) < 0 ∨ 797 ≤ (563 : Nat))) m = m := q_ck (by decide)
theorem kn563 : (563 : Int32).toNatClampNeg = 563 := Eq.trans rfl rfl
theorem kc564 {α : Type} {m : Option α} : ck (¬ ((564 : Int32) < 0 ∨ 797 ≤ (564 : Nat))) m = m := q_ck (by decide)
theorem kn564 : (564 : Int32).toNatClampNeg = 564 := Eq.trans rfl rfl
theorem kc565 {α : Type} {m : Option α} : ck (¬ ((565 : Int32) < 0 ∨ 797 ≤ (565 : Nat))) m = m := q_ck (by decide)
theorem kn565 : (565 : Int32).toNatClampNeg = 565 := Eq.trans rfl rfl
theorem kc566 {α : Type} {m : Option α} : ck (¬ ((566 : Int32) < 0 ∨ 797 ≤ (566 : Nat))) m = m := q_ck (by decide)
theorem kn566 : (566 : Int32).toNatClampNeg = 566 := Eq.trans rfl rfl
theorem kc567 {α : Type} {m : Option α} : ck (¬ ((567 : Int32) < 0 ∨ 797 ≤ (567 : Nat))) m = m := q_ck (by decide)
theorem kn567 : (567 : Int32).toNatClampNeg = 567 := Eq.trans rfl rfl
theorem kc580 {α : Type} {m : Option α} : ck (¬ ((580 : Int32) < 0 ∨ 797 ≤ (580 : Nat))) m = m := q_ck (by decide)
theorem kn580 : (580 : Int32).toNatClampNeg = 580 := Eq.trans rfl rfl
theorem kc583 {α : Type} {m : Option α} : ck (¬ ((583 : Int32) < 0 ∨ 797 ≤ (583 : Nat))) m = m := q_ck (by decide)
theorem kn583 : (583 : Int32).toNatClampNeg = 583 := Eq.trans rfl rfl
theorem kc605 {α : Type} {m : Option α} : ck (¬ ((605 : Int32) < 0 ∨ 797 ≤ (605 : Nat))) m = m := q_ck (by decide)
theorem kn605 : (605 : Int32).toNatClampNeg = 605 := Eq.trans rfl rfl
theorem r_under {w : xSt} {σ : Nat → Int32} {j : Nat} (hj : 581 + j < 797) : m_X9_under (va_up w 1 σ) (nI j) = some (σ (581 + j)) := by
  unfold m_X9_under
  simp (disch := omega) only [li, q_lt, q_ob, q_u1, q_u2, q_u3, q_u4, nI_add, pk_mul, q_cl, q_lts, q_le, q_eq, q_sub, q_div, q_ck, q_st, va_up_self, Nat.reduceAdd, Nat.reduceMul]
theorem r_apart {w : xSt} {σ : Nat → Int32} {j : Nat} (hj : 599 + j < 797) : m_X9_apart (va_up w 1 σ) (nI j) = some (σ (599 + j)) := by
  unfold m_X9_apart
  simp (disch := omega) only [li, q_lt, q_ob, q_u1, q_u2, q_u3, q_u4, nI_add, pk_mul, q_cl, q_lts, q_le, q_eq, q_sub, q_div, q_ck, q_st, va_up_self, Nat.reduceAdd, Nat.reduceMul]
theorem r_lays {w : xSt} {σ : Nat → Int32} {j : Nat} {x : Int32} (hj : 581 + j < 797) : m_X9_lays (va_up w 1 σ) (nI j) x = some (va_up w 1 (va_up σ (581 + j) x)) := by
  unfold m_X9_lays
  simp (disch := omega) only [li, q_lt, q_ob, q_u1, q_u2, q_u3, q_u4, nI_add, pk_mul, q_cl, q_lts, q_le, q_eq, q_sub, q_div, q_ck, q_st, va_up_self, Nat.reduceAdd, Nat.reduceMul]
theorem r_ofOrder {w : xSt} {σ : Nat → Int32} {r j : Nat} (hj : 617 + 18 * r + j < 797) : m_X9_ofOrder (va_up w 1 σ) (nI r) (nI j) = some (σ (617 + 18 * r + j)) := by
  unfold m_X9_ofOrder
  simp (disch := omega) only [li, q_lt, q_ob, q_u1, q_u2, q_u3, q_u4, nI_add, pk_mul, q_cl, q_lts, q_le, q_eq, q_sub, q_div, q_ck, q_st, va_up_self, Nat.reduceAdd, Nat.reduceMul]
theorem r_busy0 {w : xSt} {σ : Nat → Int32} (h : σ 581 = nI 0) : m_X9_isBusy (va_up w 1 σ) = some 0 := by
  unfold m_X9_isBusy
  simp (disch := omega) only [li, q_lt, q_ob, q_u1, q_u2, q_u3, q_u4, nI_add, pk_mul, q_cl, q_lts, q_le, q_eq, q_sub, q_div, q_ck, q_st, va_up_self, Nat.reduceAdd, Nat.reduceMul, r_under, h]
  rw [if_pos (by omega)]
theorem r_busy1 {w : xSt} {σ : Nat → Int32} {k : Nat} (h : σ 581 = nI k) (h0 : 0 < k) (hk : k ≤ 3) : m_X9_isBusy (va_up w 1 σ) = some 1 := by
  unfold m_X9_isBusy
  simp (disch := omega) only [li, q_lt, q_ob, q_u1, q_u2, q_u3, q_u4, nI_add, pk_mul, q_cl, q_lts, q_le, q_eq, q_sub, q_div, q_ck, q_st, va_up_self, Nat.reduceAdd, Nat.reduceMul, r_under, h]
  rw [if_neg (by omega)]
theorem r_aside0 {w : xSt} {σ : Nat → Int32} (h : σ 599 = nI 0) : m_X9_isAside (va_up w 1 σ) = some 0 := by
  unfold m_X9_isAside
  simp (disch := omega) only [li, q_lt, q_ob, q_u1, q_u2, q_u3, q_u4, nI_add, pk_mul, q_cl, q_lts, q_le, q_eq, q_sub, q_div, q_ck, q_st, va_up_self, Nat.reduceAdd, Nat.reduceMul, r_apart, h]
  rw [if_pos (by omega)]
theorem r_aside1 {w : xSt} {σ : Nat → Int32} {k : Nat} (h : σ 599 = nI k) (h0 : 0 < k) (hk : k ≤ 3) : m_X9_isAside (va_up w 1 σ) = some 1 := by
  unfold m_X9_isAside
  simp (disch := omega) only [li, q_lt, q_ob, q_u1, q_u2, q_u3, q_u4, nI_add, pk_mul, q_cl, q_lts, q_le, q_eq, q_sub, q_div, q_ck, q_st, va_up_self, Nat.reduceAdd, Nat.reduceMul, r_apart, h]
  rw [if_neg (by omega)]
/-- what is locked, as numbers of the machine -/
def lkm (l : Int32) : Int32 := if l = 0 then 0 else (1 : Int32) <<< ((l - 1) &&& 31)
def lk (l d s : Int32) : Int32 := if d = 1 then (if s < 8 - lkm l then 0 else 1) else (if lkm l ≤ s then 0 else 1)
theorem r_locked {w : xSt} {σ : Nat → Int32} {s : Int32} : m_X9_isLocked (va_up w 1 σ) s = some (lk (σ 554) (σ 555) s) := by
  unfold m_X9_isLocked lk lkm
  simp only [q_lt, q_ob, kc552, kn552, kc553, kn553, kc554, kn554, kc555, kn555, kc556, kn556, kc557, kn557, kc558, kn558, kc559, kn559, kc560, kn560, kc561, kn561, kc562, kn562, kc563, kn563, kc564, kn564, kc565, kn565, kc566, kn566, kc567, kn567, kc580, kn580, kc583, kn583, kc605, kn605, va_up_self]
  by_cases h : σ 554 = 0 <;> by_cases h2 : σ 555 = 1
  · simp only [if_pos h, if_pos h2]
    by_cases h3 : s < 8 - (0 : Int32)
    · rw [if_pos h3, if_pos h3]
    · rw [if_neg h3, if_neg h3]
  · simp only [if_pos h, if_neg h2]
    by_cases h3 : (0 : Int32) ≤ s
    · rw [if_pos h3, if_pos h3]
    · rw [if_neg h3, if_neg h3]
  · simp only [if_neg h, if_pos h2]
    by_cases h3 : s < 8 - (1 : Int32) <<< ((σ 554 - 1) &&& 31)
    · rw [if_pos h3, if_pos h3]
    · rw [if_neg h3, if_neg h3]
  · simp only [if_neg h, if_neg h2]
    by_cases h3 : (1 : Int32) <<< ((σ 554 - 1) &&& 31) ≤ s
    · rw [if_pos h3, if_pos h3]
    · rw [if_neg h3, if_neg h3]
/-- the sector of the order at a rank -/
def sa (σ : Nat → Int32) (r : Nat) : Int32 := if σ (617 + 18 * r + 1) = 0 then σ (617 + 18 * r + 2) / 32 else σ (617 + 18 * r + 2)
theorem r_sectorAt {w : xSt} {σ : Nat → Int32} {r : Nat} (hr : r < 10) : m_X9_sectorAt (va_up w 1 σ) (nI r) = some (sa σ r) := by
  unfold m_X9_sectorAt sa
  have e1 := r_ofOrder (w := w) (σ := σ) (r := r) (j := 1) (by omega)
  have e2 := r_ofOrder (w := w) (σ := σ) (r := r) (j := 2) (by omega)
  rw [show (1 : Int32) = nI 1 from rfl, show (2 : Int32) = nI 2 from rfl, e1, e2]
  simp only [q_ob]
  by_cases h : σ (617 + 18 * r + 1) = 0
  · rw [if_pos h, if_pos h]
  · rw [if_neg h, if_neg h]
theorem r_clears {w : xSt} {σ : Nat → Int32} {s : Nat} (hs : s < 2) : m_X9_clears (va_up w 1 σ) (nI s) = some (va_up w 1 (fl σ (581 + 18 * s) 18 (fun _ => nI 0))) := by
  unfold m_X9_clears
  refine lpf_r (fun k => (nI k, va_up w 1 (fl σ (581 + 18 * s) k (fun _ => nI 0)))) 18 (xFg (by omega)) (by simp only [fl_0]; rfl) (fun k rec hk => ?_) (fun rec => ?_)
  · simp (disch := omega) only [li, q_lt, q_ob, q_u1, q_u2, q_u3, q_u4, nI_add, pk_mul, q_cl, q_lts, q_le, q_eq, q_sub, q_div, q_ck, q_st, va_up_self, Nat.reduceAdd, Nat.reduceMul]
    rw [if_neg (by omega), fl_s rfl rfl]
  · simp (disch := omega) only [li, q_lt, q_ob, q_u1, q_u2, q_u3, q_u4, nI_add, pk_mul, q_cl, q_lts, q_le, q_eq, q_sub, q_div, q_ck, q_st, va_up_self, Nat.reduceAdd, Nat.reduceMul]
    rw [if_pos (by omega)]
theorem r_removes {w : xSt} {σ : Nat → Int32} {r n : Nat} (hr : r < 10) (hn : σ 580 = nI n) (h0 : 0 < n) (h1 : n ≤ 10) : m_X9_removes (va_up w 1 σ) (nI r) = some (va_up w 1 (va_up (fl σ (617 + 18 * r) (180 - 18 * r) (fun k => if 617 + 18 * r + k + 18 < 797 then σ (617 + 18 * r + k + 18) else nI 0)) 580 (nI (n - 1)))) := by
  unfold m_X9_removes
  refine lpf_r (fun k => (nI (617 + 18 * r + k), va_up w 1 (fl σ (617 + 18 * r) k (fun k => if 617 + 18 * r + k + 18 < 797 then σ (617 + 18 * r + k + 18) else nI 0)))) (180 - 18 * r) (xFg (by omega)) (by simp only [fl_0, li, pk_mul, nI_add, Nat.add_zero]) (fun k rec hk => ?_) (fun rec => ?_)
  · simp (disch := omega) only [li, q_lt, q_ob, q_u1, q_u2, q_u3, q_u4, nI_add, pk_mul, q_cl, q_lts, q_le, q_eq, q_sub, q_div, q_ck, q_st, va_up_self, Nat.reduceAdd, Nat.reduceMul]
    rw [if_neg (by omega)]
    by_cases h : 797 ≤ 617 + 18 * r + k + 18
    · rw [if_pos h, fl_s rfl (by rw [if_neg (by omega)]), Nat.add_assoc]
    · rw [if_neg h, fl_o (by omega), fl_s rfl (by rw [if_pos (by omega)]), Nat.add_assoc]
  · have e : fl σ (617 + 18 * r) (180 - 18 * r) (fun k => if 617 + 18 * r + k + 18 < 797 then σ (617 + 18 * r + k + 18) else nI 0) 580 = nI n := by rw [fl_o (by omega), hn]
    simp (disch := omega) only [li, q_lt, q_ob, q_u1, q_u2, q_u3, q_u4, nI_add, pk_mul, q_cl, q_lts, q_le, q_eq, q_sub, q_div, q_ck, q_st, va_up_self, Nat.reduceAdd, Nat.reduceMul, e]
    rw [if_pos (by omega)]
theorem r_eraseTicks {w : xSt} {σ : Nat → Int32} {s : Nat} (hs : s < 8) : m_X9_eraseTicks (va_up w 1 σ) (nI s) = some (4 + σ 557 + σ (544 + s) / 4) := by
  unfold m_X9_eraseTicks
  simp (disch := omega) only [li, q_lt, q_ob, q_u1, q_u2, q_u3, q_u4, nI_add, pk_mul, q_cl, q_lts, q_le, q_eq, q_sub, q_div, q_ck, q_st, va_up_self, Nat.reduceAdd, Nat.reduceMul]
theorem r_beginsErase {w : xSt} {σ : Nat → Int32} {s : Nat} {u : Int32} (hs : s < 8) : m_X9_beginsErase (va_up w 1 σ) (nI s) u = some (4 + σ 557 + σ (544 + s) / 4, va_up w 1 (va_up (va_up (va_up (va_up (fl σ 581 18 (fun _ => nI 0)) 581 (nI 2)) 582 (nI s)) 584 (4 + σ 557 + σ (544 + s) / 4)) 586 u)) := by
  unfold m_X9_beginsErase
  have e := r_clears (w := w) (σ := σ) (s := 0) (by omega)
  simp (disch := omega) only [li, q_lt, q_ob, q_u1, q_u2, q_u3, q_u4, nI_add, pk_mul, q_cl, q_lts, q_le, q_eq, q_sub, q_div, q_ck, q_st, va_up_self, Nat.reduceAdd, Nat.reduceMul, e, r_lays, r_under, r_eraseTicks, va_up_ne, fl_o]
theorem r_beginsLock {w : xSt} {σ : Nat → Int32} {l d : Int32} : m_X9_beginsLock (va_up w 1 σ) l d = some (σ 559, va_up w 1 (va_up (va_up (va_up (va_up (va_up (fl σ 581 18 (fun _ => nI 0)) 581 (nI 3)) 582 l) 588 d) 584 (σ 559)) 586 (-1))) := by
  unfold m_X9_beginsLock
  have e := r_clears (w := w) (σ := σ) (s := 0) (by omega)
  simp (disch := omega) only [li, q_lt, q_ob, q_u1, q_u2, q_u3, q_u4, nI_add, pk_mul, q_cl, q_lts, q_le, q_eq, q_sub, q_div, q_ck, q_st, va_up_self, Nat.reduceAdd, Nat.reduceMul, e, r_lays, r_under, va_up_ne, fl_o]
def mn (a b : Nat) : Nat := if a < b then a else b
theorem r_beginsWrite {w : xSt} {σ : Nat → Int32} {c at_ many e : Nat} {u : Int32} (h1 : 568 = at_ ∨ (617 ≤ at_ ∧ at_ + 12 ≤ 797)) (hm : many ≤ 12) (h0 : 0 < many) (he : σ 556 = nI e) (hc : c < 256) :
    m_X9_beginsWrite (va_up w 1 σ) (nI c) (nI at_) (nI many) u = some (nI (mn many 8 * e), va_up w 1 (fl (va_up (va_up (va_up (va_up (va_up (fl σ 581 18 (fun _ => nI 0)) 581 (nI 1)) 582 (nI c)) 585 (nI e)) 584 (nI (mn many 8 * e))) 586 u) 590 (mn many 8) (fun k => σ (at_ + (if k + 8 < many then k + 8 else k))))) := by
  unfold m_X9_beginsWrite
  have e0 := r_clears (w := w) (σ := σ) (s := 0) (by omega)
  simp only [q_lt]
  by_cases h : 8 ≤ many
  · have hm8 : mn many 8 = 8 := by unfold mn; split <;> omega
    rw [hm8, if_pos (show (8 : Int32) ≤ nI many from nI_le h (by omega))]
    simp (disch := omega) only [li, q_lt, q_ob, kc556, kn556, e0, r_lays, Nat.reduceAdd, Nat.reduceMul, q_ck, q_cl, q_lts, va_up_self, va_up_ne, fl_o, he, pk_mul]
    refine lpf_r (fun k => (nI k, va_up w 1 (fl (va_up (va_up (va_up (va_up (va_up (fl σ 581 18 (fun _ => nI 0)) 581 (nI 1)) 582 (nI c)) 585 (nI e)) 584 (nI (8 * e))) 586 u) 590 k (fun k => σ (at_ + (if k + 8 < many then k + 8 else k)))))) 8 (xFg (by omega)) (by simp only [fl_0]) (fun k rec hk => ?_) (fun rec => ?_)
    · have hx : ∀ i, i < 12 → fl (va_up (va_up (va_up (va_up (va_up (fl σ 581 18 (fun _ => nI 0)) 581 (nI 1)) 582 (nI c)) 585 (nI e)) 584 (nI (8 * e))) 586 u) 590 k (fun k => σ (at_ + (if k + 8 < many then k + 8 else k))) (at_ + i) = σ (at_ + i) := by
        intro i hi
        rw [fl_o (by omega), va_up_ne _ _ (by omega), va_up_ne _ _ (by omega), va_up_ne _ _ (by omega), va_up_ne _ _ (by omega), va_up_ne _ _ (by omega), fl_o (by omega)]
      simp (disch := omega) only [li, q_lt, q_ob, q_u1, q_u2, q_u3, q_u4, nI_add, pk_mul, q_cl, q_lts, q_le, q_eq, q_sub, q_div, q_ck, q_st, va_up_self, Nat.reduceAdd, Nat.reduceMul]
      rw [if_neg (by omega)]
      by_cases h : many ≤ k + 8
      · rw [if_pos h, hx k (by omega), r_lays (by omega)]
        simp only [q_ob]
        rw [fl_s (by omega) (by rw [if_neg (by omega)])]
      · rw [if_neg h, hx (k + 8) (by omega), r_lays (by omega)]
        simp only [q_ob]
        rw [fl_s (by omega) (by rw [if_pos (by omega)])]
    · simp (disch := omega) only [li, q_lt, q_ob, q_u1, q_u2, q_u3, q_u4, nI_add, pk_mul, q_cl, q_lts, q_le, q_eq, q_sub, q_div, q_ck, q_st, va_up_self, Nat.reduceAdd, Nat.reduceMul, r_under, fl_o, va_up_ne]
      rw [if_pos (by omega)]
  · have hm8 : mn many 8 = many := by unfold mn; split <;> omega
    rw [hm8, if_neg (show ¬ (8 : Int32) ≤ nI many from nI_ge (a := many) (b := 8) (by omega) (by omega))]
    simp (disch := omega) only [li, q_lt, q_ob, kc556, kn556, e0, r_lays, Nat.reduceAdd, Nat.reduceMul, q_ck, q_cl, q_lts, va_up_self, va_up_ne, fl_o, he, pk_mul]
    refine lpf_r (fun k => (nI k, va_up w 1 (fl (va_up (va_up (va_up (va_up (va_up (fl σ 581 18 (fun _ => nI 0)) 581 (nI 1)) 582 (nI c)) 585 (nI e)) 584 (nI (many * e))) 586 u) 590 k (fun k => σ (at_ + (if k + 8 < many then k + 8 else k)))))) many (xFg (by omega)) (by simp only [fl_0]) (fun k rec hk => ?_) (fun rec => ?_)
    · have hx : ∀ i, i < 12 → fl (va_up (va_up (va_up (va_up (va_up (fl σ 581 18 (fun _ => nI 0)) 581 (nI 1)) 582 (nI c)) 585 (nI e)) 584 (nI (many * e))) 586 u) 590 k (fun k => σ (at_ + (if k + 8 < many then k + 8 else k))) (at_ + i) = σ (at_ + i) := by
        intro i hi
        rw [fl_o (by omega), va_up_ne _ _ (by omega), va_up_ne _ _ (by omega), va_up_ne _ _ (by omega), va_up_ne _ _ (by omega), va_up_ne _ _ (by omega), fl_o (by omega)]
      simp (disch := omega) only [li, q_lt, q_ob, q_u1, q_u2, q_u3, q_u4, nI_add, pk_mul, q_cl, q_lts, q_le, q_eq, q_sub, q_div, q_ck, q_st, va_up_self, Nat.reduceAdd, Nat.reduceMul]
      rw [if_neg (by omega)]
      by_cases h : many ≤ k + 8
      · rw [if_pos h, hx k (by omega), r_lays (by omega)]
        simp only [q_ob]
        rw [fl_s (by omega) (by rw [if_neg (by omega)])]
      · rw [if_neg h, hx (k + 8) (by omega), r_lays (by omega)]
        simp only [q_ob]
        rw [fl_s (by omega) (by rw [if_pos (by omega)])]
    · simp (disch := omega) only [li, q_lt, q_ob, q_u1, q_u2, q_u3, q_u4, nI_add, pk_mul, q_cl, q_lts, q_le, q_eq, q_sub, q_div, q_ck, q_st, va_up_self, Nat.reduceAdd, Nat.reduceMul, r_under, fl_o, va_up_ne]
      rw [if_pos (by omega)]
