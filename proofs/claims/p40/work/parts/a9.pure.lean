/-! SUMS, what is locked, what is left, why not -/
theorem oN_a {σ : Nat → Int32} {a m : Nat} : ∀ k, oN σ a (m + k) = oN σ a m + oN σ (a + m) k := by
  intro k
  induction k with
  | zero => exact (Int32.add_zero _).symm
  | succ k ih => rw [show m + (k + 1) = m + k + 1 by omega, oN_s, oN_s, ih, Int32.add_assoc, show a + m + k = a + (m + k) by omega]
def SK (σ : Nat → Int32) (n : Nat) : Nat → Nat
  | 0 => 0
  | k + 1 => SK σ n k + oF σ (nI k) n
theorem SK_s {σ : Nat → Int32} {n k : Nat} : SK σ n (k + 1) = SK σ n k + oF σ (nI k) n := rfl
theorem sa_n {B : Nat} {v : xSt} {σ : Nat → Int32} (H : R0 B v σ) {n : Nat} (hn : σ 580 = nI n) (hn1 : n ≤ 10) {r : Nat} (hr : r < n) : ∃ x, x < 8 ∧ sa σ r = nI x := by
  obtain ⟨n', q, π, a1, a2, a3, a4, a5, a6, a7, a8, a9⟩ := H.2.2.2.2.2.2.1
  obtain rfl : n' = n := (nI_eq (by omega) (by omega)).mp (a3.symm.trans hn)
  obtain ⟨-, ⟨k, p, m, d1, d2, d3, d4, d5, d6, d7, -⟩, -⟩ := a8 r hr
  unfold sa
  rw [d3, d5]
  rcases (show k = 0 ∨ k = 1 by omega) with rfl | rfl
  · have := d6 rfl
    rw [if_pos (show nI 0 = 0 from rfl)]
    exact ⟨p / 32, by omega, q_div (d := 32) (by omega) (by omega) (by omega)⟩
  · rw [if_neg (by decide)]
    exact ⟨p, d7 rfl, rfl⟩
theorem oF_1 : ∀ x, x < 8 → (if nI x = nI 0 then 1 else 0) + (if nI x = nI 1 then 1 else 0) + (if nI x = nI 2 then 1 else 0) + (if nI x = nI 3 then 1 else 0) + (if nI x = nI 4 then 1 else 0) + (if nI x = nI 5 then 1 else 0) + (if nI x = nI 6 then 1 else 0) + (if nI x = nI 7 then 1 else 0) = 1 := by decide +kernel
theorem SK_8 {B : Nat} {v : xSt} {σ : Nat → Int32} (H : R0 B v σ) {n : Nat} (hn : σ 580 = nI n) (hn1 : n ≤ 10) : SK σ n 8 = n := by
  have key : ∀ k, k ≤ n → oF σ (nI 0) k + oF σ (nI 1) k + oF σ (nI 2) k + oF σ (nI 3) k + oF σ (nI 4) k + oF σ (nI 5) k + oF σ (nI 6) k + oF σ (nI 7) k = k := by
    intro k
    induction k with
    | zero => exact fun _ => rfl
    | succ k ih =>
      intro hk
      obtain ⟨x, x1, x2⟩ := sa_n H hn hn1 (r := k) (by omega)
      have e := oF_1 x x1
      have i := ih (by omega)
      simp only [oF_s, x2]
      omega
  have e : SK σ n 8 = 0 + oF σ (nI 0) n + oF σ (nI 1) n + oF σ (nI 2) n + oF σ (nI 3) n + oF σ (nI 4) n + oF σ (nI 5) n + oF σ (nI 6) n + oF σ (nI 7) n := rfl
  rw [e, Nat.zero_add]
  exact key n (Nat.le_refl _)
theorem lk_all : ∀ l, l ≤ 4 → ((∀ s, s < 8 → lk (nI l) 1 (nI s) = 1) ↔ l = 4) ∧ ((∀ s, s < 8 → (if lkm (nI l) ≤ nI s then (0 : Int32) else 1) = 1) ↔ l = 4) := by
  have : ∀ l, l < 5 → ((∀ s, s < 8 → lk (nI l) 1 (nI s) = 1) ↔ l = 4) ∧ ((∀ s, s < 8 → (if lkm (nI l) ≤ nI s then (0 : Int32) else 1) = 1) ↔ l = 4) := by decide +kernel
  exact fun l hl => this l (by omega)
theorem lk_4 {l : Nat} (hl : l ≤ 4) (d : Int32) : (∀ s, s < 8 → lk (nI l) d (nI s) = 1) ↔ l = 4 := by
  by_cases c : d = 1
  · subst c
    exact (lk_all l hl).1
  · rw [← (lk_all l hl).2]
    unfold lk
    simp only [if_neg c]
theorem t_least {B : Nat} {v w : xSt} (H : RBC B v w) : ∃ z, m_X8_leastWorn v = some z ∧ ((z = -1 ∧ w 1 554 = nI 4) ∨ (¬ z = -1 ∧ ¬ w 1 554 = nI 4)) := by
  obtain ⟨⟨l, l1, l2, l3⟩, l4, l5⟩ := id H.1.1.2.2.1
  have eh : ∀ s, m_X2_hold (sh 12 v) s = some (lk (w 1 554) (w 1 555) s) := fun s => by
    have e1 := e_hold (u := sh 12 v) (s := s) l2 l1
    rw [show (sh 12 v) 0 0 = w 1 554 from l2.trans l3.symm, show (sh 12 v) 0 1 = w 1 555 from l4] at e1
    exact e1
  have key : wp (m_X8_leastWorn v) (fun z => (z = -1 ∧ ∀ s, s < 8 → lk (w 1 554) (w 1 555) (nI s) = 1) ∨ (¬ z = -1 ∧ ∃ s, s < 8 ∧ lk (w 1 554) (w 1 555) (nI s) = 0)) := by
    unfold m_X8_leastWorn
    refine wp_lp (fun k s => s.2 = nI k ∧ ((s.1 = -1 ∧ ∀ t, t < k → lk (w 1 554) (w 1 555) (nI t) = 1) ∨ (¬ s.1 = -1 ∧ ∃ t, t < 8 ∧ lk (w 1 554) (w 1 555) (nI t) = 0))) 8 (xFg (by omega)) ⟨rfl, Or.inl ⟨rfl, fun t ht => absurd ht (by omega)⟩⟩ (fun k s rec hk hI => Or.inl ?_) (fun s rec hI => ?_)
    · obtain ⟨z, i⟩ := s
      obtain ⟨h1, h2⟩ := hI
      dsimp only at h1 h2
      subst h1
      simp only [q_u2, eh, q_ob, q_lt]
      rw [if_neg (show ¬ (8 : Int32) ≤ nI k from nI_ge (b := 8) hk (by omega)), nI_1]
      have nk : ¬ nI k = -1 := by rw [q_ne1 (by omega)]; exact id
      by_cases c : lk (w 1 554) (w 1 555) (nI k) = 0
      · rw [if_pos c]
        by_cases c2 : z = -1
        · rw [if_pos c2]
          exact ⟨_, ⟨rfl, Or.inr ⟨nk, k, hk, c⟩⟩, rfl⟩
        · rw [if_neg c2]
          split
          · exact ⟨_, ⟨rfl, Or.inr ⟨c2, k, hk, c⟩⟩, rfl⟩
          · exact ⟨_, ⟨rfl, Or.inr ⟨nk, k, hk, c⟩⟩, rfl⟩
      · rw [if_neg c]
        have c1 : lk (w 1 554) (w 1 555) (nI k) = 1 := (lk_01 _ _ _).resolve_left c
        refine ⟨_, ⟨rfl, ?_⟩, rfl⟩
        rcases h2 with ⟨h2, h3⟩ | h2
        · refine Or.inl ⟨h2, fun t ht => ?_⟩
          by_cases e : t = k
          · rw [e]; exact c1
          · exact h3 t (by omega)
        · exact Or.inr h2
    · obtain ⟨z, i⟩ := s
      obtain ⟨h1, h2⟩ := hI
      dsimp only at h1 h2
      subst h1
      simp only [q_u2]
      refine wp_t (show (8 : Int32) ≤ nI 8 by decide) (wp_s ?_)
      exact h2
  obtain ⟨z, hz, hk⟩ := key
  refine ⟨z, hz, ?_⟩
  rw [l3] at hk ⊢
  rcases hk with ⟨h1, h2⟩ | ⟨h1, s, h2, h3⟩
  · exact Or.inl ⟨h1, congrArg nI ((lk_4 l1 _).mp h2)⟩
  · refine Or.inr ⟨h1, fun e => ?_⟩
    obtain rfl : l = 4 := (nI_eq (by omega) (by omega)).mp e
    have := (lk_4 (l := 4) l1 (w 1 555)).mpr rfl s h2
    rw [h3] at this
    exact absurd this (by decide)
/-- what is left of a work: none without one -/
theorem lf_e {o : Nat → Int32} {z : Int32} {r σ : Nat → Int32} {b : Nat} (H : RWk o z r σ b) : (σ b = 0 ∧ σ (b + 3) - σ (b + 2) = 0) ∨ (¬ σ b = 0 ∧ ∃ x k, 1 ≤ k ∧ k ≤ 3 ∧ σ b = nI k ∧ 0 < x ∧ x < 20000000 ∧ σ (b + 3) - σ (b + 2) = nI x) := by
  rcases H.2 with h | ⟨k, d, t, p, a1, a2, a3, a4, a5, a6, a7, a8, a9, a10, a11⟩
  · obtain ⟨a1, a2, a3, a4, a5, a6, a7, a8, a9⟩ := h
    exact Or.inl ⟨a1, by rw [a7, a8]; rfl⟩
  · exact Or.inr ⟨by rw [a3]; exact nI_ne0 (by omega) (by omega), t - d, k, a1, a2, a3, by omega, by omega, by rw [a8, a10, q_sub (by omega)]⟩
/-! why not -/
def wy2 (σ : Nat → Int32) (s : Nat) : Int32 := if σ 581 = 0 then (if σ 552 = 0 then 2 else (if lk (σ 554) (σ 555) (nI s) = 0 then (if σ 599 = 0 then 0 else 4) else 3)) else 1
theorem why_n {B : Nat} {v w : xSt} (H : RBC B v w) {k p : Int32} (h1 : ¬ xwi k 1 3 = 0) (h2 : ∃ x, m_X8_isPlace k p = some x ∧ ¬ x = 0) : ∃ j, j ≤ 5 ∧ m_X8_why_n v k p = some (nI j) ∧ HN v k p j ∧ m_X9_whyNot w k p = some (nI j) := by
  obtain ⟨j, hj, c1, c2, c3⟩ := s_hind (k := k) (p := p) H.1.1
  obtain ⟨x, x1, x2⟩ := h2
  have e := c2 w
  rw [va_up_id] at e
  refine ⟨j, hj, ?_, c1, e⟩
  unfold m_X8_why_n
  rw [if_neg h1, x1, q_ob, if_neg x2, c1, q_ob]
theorem t_why2 {B : Nat} {v w : xSt} (H : RBC B v w) {s : Nat} (hs : s < 8) : m_X8_why_n v 2 (nI s) = some (wy2 (w 1) s) := by
  have hx : ∀ s, s < 8 → ¬ xwi (nI s) 0 7 = 0 := by decide +kernel
  obtain ⟨j, hj, c1, -, c3⟩ := why_n H (k := 2) (p := nI s) (by decide) ⟨xwi (nI s) 0 7, by unfold m_X8_isPlace; rw [if_neg (by decide), if_pos rfl], hx s hs⟩
  refine c1.trans ?_
  rw [← c3]
  have el := r_locked (w := w) (σ := w 1) (s := nI s)
  rw [va_up_id] at el
  have hal : m_X9_allows w 2 (nI s) = some (if w 1 599 = 0 then 1 else 0) := by
    unfold m_X9_allows
    rcases s_asd H.1.1 with ⟨d1, d2, d3⟩ | ⟨d1, ⟨k, k1, k2, k3⟩, d3⟩
    · have e := d3 w
      rw [show va_up w 1 (w 1) = w from va_up_id] at e
      rw [e, q_ob, if_pos rfl, if_pos (show w 1 599 = 0 from d2)]
    · have e := d3 w
      rw [show va_up w 1 (w 1) = w from va_up_id] at e
      have ea := r_apart (w := w) (σ := w 1) (j := 0) (by omega)
      rw [va_up_id] at ea
      rw [e, q_ob, if_neg (by decide), show m_X9_apart w 0 = some (w 1 599) from ea, q_ob]
      simp only [q_lt]
      rw [if_neg (show ¬ w 1 599 = 0 by rw [show w 1 599 = nI k from k3]; exact nI_ne0 (by omega) (by omega))]
      split
      · rw [if_neg (by decide)]
      · rfl
  unfold m_X9_whyNot wy2
  rcases (s_und H.1.1).2 with c0 | ⟨k, k1, k2, c0⟩
  · have e := r_busy0 (w := w) (σ := w 1) c0
    rw [va_up_id] at e
    rw [e, q_ob, if_pos rfl, if_pos (show w 1 581 = 0 from c0)]
    simp only [kn552, kc552, q_lt]
    by_cases ca : w 1 552 = 0
    · rw [if_pos ca, if_pos ca]
    · rw [if_neg ca, if_neg ca, if_neg (by decide)]
      rw [show m_X9_sectorOf w 2 (nI s) = some (nI s) by unfold m_X9_sectorOf; rw [if_neg (by decide)], q_ob, el, q_ob]
      by_cases cl : lk (w 1 554) (w 1 555) (nI s) = 0
      · rw [if_pos cl, if_pos cl, hal, q_ob]
        by_cases c9 : w 1 599 = 0
        · rw [if_pos c9, if_pos c9, if_neg (by decide), if_neg (by decide)]
        · rw [if_neg c9, if_neg c9, if_pos rfl]
      · rw [if_neg cl, if_neg cl]
  · have e := r_busy1 (w := w) (σ := w 1) c0 (by omega) k2
    rw [va_up_id] at e
    rw [e, q_ob, if_neg (by decide), if_neg (show ¬ w 1 581 = 0 by rw [show w 1 581 = nI k from c0]; exact nI_ne0 (by omega) (by omega))]
