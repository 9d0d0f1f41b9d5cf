/-! THE REFERENCE, second part -/
/-- the beginnings of works, and what stands after them -/
def bW (σ : Nat → Int32) (c a m e : Nat) (u : Int32) : Nat → Int32 := fl (va_up (va_up (va_up (va_up (va_up (fl σ 581 18 (fun _ => nI 0)) 581 (nI 1)) 582 (nI c)) 585 (nI e)) 584 (nI (mn m 8 * e))) 586 u) 590 (mn m 8) (fun k => σ (a + (if k + 8 < m then k + 8 else k)))
def bE (σ : Nat → Int32) (s : Nat) (u t : Int32) : Nat → Int32 := va_up (va_up (va_up (va_up (fl σ 581 18 (fun _ => nI 0)) 581 (nI 2)) 582 (nI s)) 584 t) 586 u
def bL (σ : Nat → Int32) (l d : Int32) : Nat → Int32 := va_up (va_up (va_up (va_up (va_up (fl σ 581 18 (fun _ => nI 0)) 581 (nI 3)) 582 l) 588 d) 584 (σ 559)) 586 (-1)
def rM (σ : Nat → Int32) (r n : Nat) : Nat → Int32 := va_up (fl σ (617 + 18 * r) (180 - 18 * r) (fun k => if 617 + 18 * r + k + 18 < 797 then σ (617 + 18 * r + k + 18) else nI 0)) 580 (nI (n - 1))
def sA (σ : Nat → Int32) (u : Int32) : Nat → Int32 := va_up (fl (va_up (fl σ 599 18 (fun k => σ (581 + k))) 605 u) 581 18 (fun _ => nI 0)) 565 (σ 565 + nI 1)
def tB (σ : Nat → Int32) : Nat → Int32 := fl (va_up (fl σ 581 18 (fun k => σ (599 + k))) 587 (nI 0)) 599 18 (fun _ => nI 0)
theorem r_setsAside {w : xSt} {σ : Nat → Int32} {u : Int32} : m_X9_setsAside (va_up w 1 σ) u = some (va_up w 1 (sA σ u)) := by
  unfold m_X9_setsAside sA
  refine lpf_r (fun k => (nI k, va_up w 1 (fl σ 599 k (fun k => σ (581 + k))))) 18 (xFg (by omega)) (by simp only [fl_0]; rfl) (fun k rec hk => ?_) (fun rec => ?_)
  · simp (disch := omega) only [li, q_lt, q_ob, q_u1, q_u2, q_u3, q_u4, nI_add, pk_mul, q_cl, q_lts, q_le, q_eq, q_sub, q_div, q_ck, q_st, va_up_self, Nat.reduceAdd, Nat.reduceMul, fl_o]
    rw [if_neg (by omega), fl_s rfl rfl]
  · simp (disch := omega) only [li, q_lt, q_ob, q_u1, q_u2, q_u3, q_u4, nI_add, pk_mul, q_cl, q_lts, q_le, q_eq, q_sub, q_div, q_ck, q_st, va_up_self, Nat.reduceAdd, Nat.reduceMul, r_clears, fl_o, va_up_ne]
    rw [if_pos (by omega)]
theorem r_takesBack {w : xSt} {σ : Nat → Int32} : m_X9_takesBack (va_up w 1 σ) = some (va_up w 1 (tB σ)) := by
  unfold m_X9_takesBack tB
  refine lpf_r (fun k => (nI k, va_up w 1 (fl σ 581 k (fun k => σ (599 + k))))) 18 (xFg (by omega)) (by simp only [fl_0]; rfl) (fun k rec hk => ?_) (fun rec => ?_)
  · simp (disch := omega) only [li, q_lt, q_ob, q_u1, q_u2, q_u3, q_u4, nI_add, pk_mul, q_cl, q_lts, q_le, q_eq, q_sub, q_div, q_ck, q_st, va_up_self, Nat.reduceAdd, Nat.reduceMul, fl_o]
    rw [if_neg (by omega), fl_s rfl rfl]
  · simp (disch := omega) only [li, q_lt, q_ob, q_u1, q_u2, q_u3, q_u4, nI_add, pk_mul, q_cl, q_lts, q_le, q_eq, q_sub, q_div, q_ck, q_st, va_up_self, Nat.reduceAdd, Nat.reduceMul, r_clears, r_lays, fl_o, va_up_ne]
    rw [if_pos (by omega)]
theorem r_beginsOrder0 {w : xSt} {σ : Nat → Int32} {r n p m e : Nat} (hr : r < n) (hn : σ 580 = nI n) (hn1 : n ≤ 10) (hk : σ (617 + 18 * r + 1) = nI 0) (hp : σ (617 + 18 * r + 2) = nI p) (hp1 : p < 256) (hm : σ (617 + 18 * r + 5) = nI m) (hm0 : 0 < m) (hm1 : m ≤ 12) (he : σ 556 = nI e) :
    m_X9_beginsOrder (va_up w 1 σ) (nI r) = some (va_up w 1 (rM (bW σ p (617 + 18 * r + 6) m e (σ (617 + 18 * r + 3))) r n)) := by
  have e1 := r_beginsWrite (w := w) (σ := σ) (c := p) (at_ := 617 + 18 * r + 6) (many := m) (e := e) (u := σ (617 + 18 * r + 3)) (by omega) hm1 hm0 he hp1
  have hmm : mn m 8 ≤ 8 := by unfold mn; split <;> omega
  have e2 := r_removes (w := w) (σ := bW σ p (617 + 18 * r + 6) m e (σ (617 + 18 * r + 3))) (r := r) (n := n) (by omega) (by unfold bW; simp (disch := omega) only [fl_o, va_up_ne]; exact hn) (by omega) hn1
  unfold m_X9_beginsOrder
  unfold bW at e2 ⊢
  unfold rM
  simp (disch := omega) only [li, q_lt, q_ob, r_ofOrder, hk, hp, hm, pk_mul, nI_add, e1, e2]
  rw [if_pos trivial]
theorem r_beginsOrder1 {w : xSt} {σ : Nat → Int32} {r n p : Nat} (hr : r < n) (hn : σ 580 = nI n) (hn1 : n ≤ 10) (hk : σ (617 + 18 * r + 1) = nI 1) (hp : σ (617 + 18 * r + 2) = nI p) (hp1 : p < 8) :
    m_X9_beginsOrder (va_up w 1 σ) (nI r) = some (va_up w 1 (rM (bE σ p (σ (617 + 18 * r + 3)) (4 + σ 557 + σ (544 + p) / 4)) r n)) := by
  have e1 := r_beginsErase (w := w) (σ := σ) (s := p) (u := σ (617 + 18 * r + 3)) hp1
  have e2 := r_removes (w := w) (σ := bE σ p (σ (617 + 18 * r + 3)) (4 + σ 557 + σ (544 + p) / 4)) (r := r) (n := n) (by omega) (by unfold bE; simp (disch := omega) only [fl_o, va_up_ne]; exact hn) (by omega) hn1
  unfold m_X9_beginsOrder
  unfold bE at e2 ⊢
  unfold rM
  simp (disch := omega) only [li, q_lt, q_ob, r_ofOrder, hk, hp] at e1 e2 ⊢
  rw [if_neg (by decide)]
  simp only [e1, e2, q_ob]
/-! an erase -/
/-- the cells of a sector and its pages after an erase -/
def eS (σ : Nat → Int32) (s k : Nat) : Nat → Int32 := fun j => if 32 * s ≤ j ∧ j < 32 * s + k then (255 : Int32) &&& (σ (256 + j) ^^^ (-1)) else if 512 + 4 * s ≤ j ∧ 8 * (j - 512) < 32 * s + k ∧ j < 544 then 0 else σ j
theorem eS_0 {σ : Nat → Int32} {s : Nat} : eS σ s 0 = σ := by
  funext j
  unfold eS
  rw [if_neg (by omega), if_neg (by omega)]
theorem eS_s {σ : Nat → Int32} {s k : Nat} (hs : s < 8) (hk : k < 32) : va_up (va_up (eS σ s k) (32 * s + k) ((255 : Int32) &&& (σ (256 + (32 * s + k)) ^^^ (-1)))) (512 + (32 * s + k) / 8) 0 = eS σ s (k + 1) := by
  funext j
  by_cases h1 : j = 512 + (32 * s + k) / 8
  · rw [h1, va_up_self]
    unfold eS
    rw [if_neg (by omega), if_pos (by omega)]
  · rw [va_up_ne _ _ h1]
    by_cases h2 : j = 32 * s + k
    · rw [h2, va_up_self]
      unfold eS
      rw [if_pos (by omega)]
    · rw [va_up_ne _ _ h2]
      unfold eS
      by_cases h3 : 32 * s ≤ j ∧ j < 32 * s + k
      · rw [if_pos h3, if_pos (by omega)]
      · rw [if_neg h3, if_neg (show ¬ (32 * s ≤ j ∧ j < 32 * s + (k + 1)) by omega)]
        by_cases h4 : 512 + 4 * s ≤ j ∧ 8 * (j - 512) < 32 * s + k ∧ j < 544
        · rw [if_pos h4, if_pos (by omega)]
        · rw [if_neg h4, if_neg (by omega)]
def eE (σ : Nat → Int32) (s z b : Nat) : Nat → Int32 :=
  if z + 1 ≤ b then va_up (eS σ s 32) (544 + s) (nI (z + 1))
  else va_up (va_up (va_up (eS σ s 32) (544 + s) (nI (z + 1))) (256 + (32 * s + (z + 1) % 32)) (σ (256 + (32 * s + (z + 1) % 32)) ||| ((1 : Int32) <<< (nI ((z + 1) % 8) &&& 31)))) (32 * s + (z + 1) % 32) ((255 : Int32) &&& ((σ (256 + (32 * s + (z + 1) % 32)) ||| ((1 : Int32) <<< (nI ((z + 1) % 8) &&& 31))) ^^^ (-1)))
theorem r_endsErase {w : xSt} {σ : Nat → Int32} {s z b : Nat} (hs : s < 8) (hz : σ (544 + s) = nI z) (hz1 : z < 100000000) (hb : σ 558 = nI b) (hb1 : b < 100000) : m_X9_endsErase (va_up w 1 σ) (nI s) = some (va_up w 1 (eE σ s z b)) := by
  unfold m_X9_endsErase
  refine lpf_r (fun k => (nI (32 * s + k), va_up w 1 (eS σ s k))) 32 (xFg (by omega)) (by simp only [eS_0, li, pk_mul, Nat.add_zero]) (fun k rec hk => ?_) (fun rec => ?_)
  · have e1 : eS σ s k (256 + (32 * s + k)) = σ (256 + (32 * s + k)) := by unfold eS; rw [if_neg (by omega), if_neg (by omega)]
    have e2 := eS_s (σ := σ) hs hk
    simp only [li] at e2
    simp (disch := omega) only [li, q_lt, q_ob, q_u1, q_u2, q_u3, q_u4, nI_add, pk_mul, q_cl, q_lts, q_le, q_eq, q_sub, q_div, q_ck, q_st, va_up_self, Nat.reduceAdd, Nat.reduceMul, e1]
    rw [if_neg (by omega), e2]
    rfl
  · have e1 : eS σ s 32 (544 + s) = nI z := by unfold eS; rw [if_neg (by omega), if_neg (by omega)]; exact hz
    have e2 : eS σ s 32 558 = nI b := by unfold eS; rw [if_neg (by omega), if_neg (by omega)]; exact hb
    have e3 : ∀ k, k < 32 → eS σ s 32 (256 + (32 * s + k)) = σ (256 + (32 * s + k)) := by intro k hk; unfold eS; rw [if_neg (by omega), if_neg (by omega)]
    have e4 : (z + 1) - (z + 1) / 32 * 32 = (z + 1) % 32 := by omega
    have e5 : (z + 1) - (z + 1) / 8 * 8 = (z + 1) % 8 := by omega
    simp (disch := omega) only [li, q_lt, q_ob, q_u2, nI_add, pk_mul, q_cl, q_lts, q_le, q_ck, q_st, va_up_self, va_up_ne, Nat.reduceAdd, Nat.reduceMul, e1, e2, q_div, q_sub, e4, e5]
    rw [if_pos (by omega)]
    unfold eE
    by_cases h : z + 1 ≤ b
    · rw [if_pos h, if_pos h]
    · rw [if_neg h, if_neg h, e3 _ (Nat.mod_lt _ (by omega))]
      rfl
/-- the page of an erase whose cells fall: what bits fall in k cells from a on -/
def fB (σ : Nat → Int32) (a : Nat) : Nat → Int32
  | 0 => σ 563
  | k + 1 => fB σ a k + (xbc (σ (a + k)) - xbc (nI 0))
def eF (σ : Nat → Int32) (a k : Nat) : Nat → Int32 := va_up (fl σ a k (fun _ => nI 0)) 563 (fB σ a k)
theorem eF_s {σ : Nat → Int32} {a k : Nat} (ha : a + k < 256) : va_up (va_up (eF σ a k) 563 (eF σ a k 563 + (xbc (σ (a + k)) - xbc (nI 0)))) (a + k) (nI 0) = eF σ a (k + 1) := by
  unfold eF
  rw [va_up_self, bx_uu]
  funext j
  by_cases h : j = a + k
  · rw [h, va_up_self, va_up_ne _ _ (by omega), fl_i (by omega) (by omega)]
  · rw [va_up_ne _ _ h]
    by_cases h2 : j = 563
    · rw [h2, va_up_self, va_up_self]
      rfl
    · rw [va_up_ne _ _ h2, va_up_ne _ _ h2]
      by_cases h3 : a ≤ j ∧ j < a + k
      · rw [fl_i h3.1 h3.2, fl_i h3.1 (by omega)]
      · rw [fl_o (by omega), fl_o (by omega)]
theorem eF_0 {σ : Nat → Int32} {a : Nat} : eF σ a 0 = σ := by
  unfold eF
  rw [fl_0]
  exact va_up_id
/-- an erase in its first four ticks, and not in its last -/
theorem r_erasesOn0 {w : xSt} {σ : Nat → Int32} {s d t : Nat} (hp : σ 582 = nI s) (hs : s < 8) (hd : σ 583 = nI d) (ht : σ 584 = nI t) (hd0 : 0 < d) (hd4 : d ≤ 4) (htd : d < t) (ht1 : t < 20000000) (hc : ∀ c, c < 256 → ∃ k, k < 256 ∧ σ c = nI k) :
    m_X9_erasesOn (va_up w 1 σ) = some (va_up w 1 (eF σ (32 * s + 8 * (d - 1)) 8)) := by
  unfold m_X9_erasesOn
  simp (disch := omega) only [li, q_lt, q_ob, r_under, Nat.reduceAdd, hp, hd, ht, nI_add, pk_mul, q_sub, q_lts]
  rw [if_neg (by omega)]
  refine lpf_r (fun k => (nI (32 * s + 8 * (d - 1) + k), va_up w 1 (eF σ (32 * s + 8 * (d - 1)) k))) 8 (xFg (by omega)) (by simp only [eF_0, Nat.add_zero]) (fun k rec hk => ?_) (fun rec => ?_)
  · have e1 : eF σ (32 * s + 8 * (d - 1)) k (32 * s + 8 * (d - 1) + k) = σ (32 * s + 8 * (d - 1) + k) := by
      unfold eF
      rw [va_up_ne _ _ (by omega), fl_o (by omega)]
    obtain ⟨a, ha, ea⟩ := hc (32 * s + 8 * (d - 1) + k) (by omega)
    have e2 := r_falls (w := w) (σ := eF σ (32 * s + 8 * (d - 1)) k) (c := 32 * s + 8 * (d - 1) + k) (a := a) (b := 0) (by omega) ha (by omega) (by rw [e1, ea])
    rw [← ea, eF_s (by omega)] at e2
    simp (disch := omega) only [li, q_lt, q_ob, q_u1, q_u2, q_u3, q_u4, nI_add, pk_mul, q_cl, q_lts, q_le, q_eq, q_sub, q_div, q_ck, q_st, va_up_self, Nat.reduceAdd, Nat.reduceMul, e2]
    rw [if_neg (by omega)]
    rfl
  · have e1 : eF σ (32 * s + 8 * (d - 1)) 8 583 = nI d := by
      unfold eF
      rw [va_up_ne _ _ (by omega), fl_o (by omega)]
      exact hd
    have e2 : eF σ (32 * s + 8 * (d - 1)) 8 584 = nI t := by
      unfold eF
      rw [va_up_ne _ _ (by omega), fl_o (by omega)]
      exact ht
    simp (disch := omega) only [li, q_lt, q_ob, q_u1, q_u2, q_u3, q_u4, nI_add, pk_mul, q_cl, q_lts, q_le, q_eq, q_sub, q_div, q_ck, q_st, va_up_self, Nat.reduceAdd, Nat.reduceMul, r_under, e1, e2]
    rw [if_pos (by omega), if_neg (by omega)]
/-- an erase behind its first four ticks -/
theorem r_erasesOn1 {w : xSt} {σ : Nat → Int32} {s d t z b : Nat} (hp : σ 582 = nI s) (hs : s < 8) (hd : σ 583 = nI d) (ht : σ 584 = nI t) (hd4 : 4 < d) (htd : d ≤ t) (ht1 : t < 20000000) (hz : σ (544 + s) = nI z) (hz1 : z < 100000000) (hb : σ 558 = nI b) (hb1 : b < 100000) :
    m_X9_erasesOn (va_up w 1 σ) = some (va_up w 1 (if d = t then eE σ s z b else σ)) := by
  have e := r_endsErase (w := w) hs hz hz1 hb hb1
  unfold m_X9_erasesOn
  simp (disch := omega) only [li, q_lt, q_ob, r_under, Nat.reduceAdd, hp, hd, ht, q_lts, q_eq, e]
  rw [if_pos (by omega)]
  by_cases h : d = t
  · rw [if_pos h, if_pos h]
  · rw [if_neg h, if_neg h]
theorem r_locksOn {w : xSt} {σ : Nat → Int32} {d t : Nat} (hd : σ 583 = nI d) (ht : σ 584 = nI t) (hd1 : d < 20000000) (ht1 : t < 20000000) :
    m_X9_locksOn (va_up w 1 σ) = some (va_up w 1 (if d = t then va_up (va_up σ 554 (σ 582)) 555 (σ 588) else σ)) := by
  unfold m_X9_locksOn
  simp (disch := omega) only [li, q_lt, q_ob, r_under, Nat.reduceAdd, hd, ht, q_lts, q_eq, q_cl, q_ck, q_st, va_up_ne]
  by_cases h : d = t
  · rw [if_pos h, if_pos h]
  · rw [if_neg h, if_neg h]
/-- the under-way work goes on: what its kind does, then its end -/
theorem r_goesOn {w : xSt} {σ τ : Nat → Int32} {k d t : Nat} (hk : σ 581 = nI k) (hk1 : k ≤ 3) (hd : σ 583 = nI d) (hd1 : d < 20000000) (ht1 : t < 20000000)
    (hm : (if nI k = nI 1 then m_X9_writesOn (va_up w 1 (va_up σ 583 (nI (d + 1)))) else if nI k = nI 2 then m_X9_erasesOn (va_up w 1 (va_up σ 583 (nI (d + 1)))) else m_X9_locksOn (va_up w 1 (va_up σ 583 (nI (d + 1))))) = some (va_up w 1 τ)) (h2 : τ 583 = nI (d + 1)) (h3 : τ 584 = nI t) :
    m_X9_goesOn (va_up w 1 σ) = some (va_up w 1 (if d + 1 = t then fl τ 581 18 (fun _ => nI 0) else τ)) := by
  have key : ∀ m : Option xSt, m = some (va_up w 1 τ) → ob m (fun r17 => lt r17 (fun v6 => ob (m_X9_under v6 (2 : Int32)) (fun r9 => ob (m_X9_under v6 (3 : Int32)) (fun r11 => (if r9 = r11 then ob (m_X9_clears v6 (0 : Int32)) (fun r14 => some r14) else some v6))))) = some (va_up w 1 (if d + 1 = t then fl τ 581 18 (fun _ => nI 0) else τ)) := by
    intro m hm
    subst hm
    simp (disch := omega) only [li, q_lt, q_ob, r_under, Nat.reduceAdd, Nat.reduceMul, h2, h3, q_eq, r_clears]
    by_cases h : d + 1 = t
    · rw [if_pos h, if_pos h]
    · rw [if_neg h, if_neg h]
  simp only [li, q_lt] at key
  unfold m_X9_goesOn
  simp (disch := omega) only [li, q_lt, q_cl, q_lts, q_ck, va_up_self, q_st, hd, nI_add, r_under, va_up_ne, q_ob, Nat.reduceAdd, hk]
  by_cases c1 : nI k = nI 1
  · rw [if_pos c1] at hm ⊢
    exact key _ hm
  · by_cases c2 : nI k = nI 2
    · rw [if_neg c1, if_pos c2] at hm ⊢
      exact key _ hm
    · rw [if_neg c1, if_neg c2] at hm ⊢
      exact key _ hm
theorem r_unloads {w : xSt} {σ : Nat → Int32} : m_X9_unloads (va_up w 1 σ) = some (va_up w 1 (va_up (fl σ 568 12 (fun _ => nI 0)) 567 (nI 0))) := by
  unfold m_X9_unloads
  refine lpf_r (fun k => (nI k, va_up w 1 (fl σ 568 k (fun _ => nI 0)))) 12 (xFg (by omega)) (by simp only [fl_0]; rfl) (fun k rec hk => ?_) (fun rec => ?_)
  · simp (disch := omega) only [li, q_lt, q_ob, q_u1, q_u2, q_u3, q_u4, nI_add, pk_mul, q_cl, q_lts, q_le, q_eq, q_sub, q_div, q_ck, q_st, va_up_self, Nat.reduceAdd, Nat.reduceMul]
    rw [if_neg (by omega), fl_s rfl rfl]
  · simp (disch := omega) only [li, q_lt, q_ob, q_u1, q_u2, q_u3, q_u4, nI_add, pk_mul, q_cl, q_lts, q_le, q_eq, q_sub, q_div, q_ck, q_st, va_up_self, Nat.reduceAdd, Nat.reduceMul]
    rw [if_pos (by omega)]
