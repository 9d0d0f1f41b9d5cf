/-! THE CLASS AND THE TIE: what the clerk does -/
/-- an order at a rank -/
theorem od_f {B n r : Nat} {v : xSt} {σ : Nat → Int32} {π : Nat → Nat} {q : Nat} (H : R0 B v σ) (hn : σ 580 = nI n) (hr : r < n) (a7 : PM 10 π (v 15)) (a8 : ∀ r, r < n → ROd q (v (16 + 3 * π r)) (v (17 + 3 * π r) 1) (v (18 + 3 * π r)) σ (617 + 18 * r)) : ∃ k p, k < 2 ∧ σ (617 + 18 * r + 1) = nI k ∧ v (16 + 3 * π r) 1 = nI (k + 1) ∧ v (16 + 3 * π r) 2 = nI p ∧ σ (617 + 18 * r + 2) = nI p ∧ v (16 + 3 * π r) 3 = σ (617 + 18 * r + 3) ∧ p < 256 := by
  obtain ⟨⟨num, c1, c2, c3⟩, ⟨k, p, m, d1, d2, d3, d4, d5, d6, d7, d8, d9, d10⟩, ⟨u, f1, f2, f3⟩, f4⟩ := a8 r hr
  refine ⟨k, p, d1, d3, d2, d4, d5, by rw [f2, f3], ?_⟩
  rcases (show k = 0 ∨ k = 1 by omega) with rfl | rfl
  · exact d6 rfl
  · have := d7 rfl
    omega
theorem e_isOpen {B n r : Nat} {v : xSt} {σ : Nat → Int32} {π : Nat → Nat} {q : Nat} (H : R0 B v σ) (hn : σ 580 = nI n) (hr : r < n) (a7 : PM 10 π (v 15)) (a8 : ∀ r, r < n → ROd q (v (16 + 3 * π r)) (v (17 + 3 * π r) 1) (v (18 + 3 * π r)) σ (617 + 18 * r)) (hn1 : n ≤ 10 := by omega) : m_X6_isOpen v (some (π r)) = some (if lk (σ 554) (σ 555) (sa σ r) = 0 then 1 else 0) := by
  obtain ⟨k, p, b1, b2, b3, b4, b5, b6, b7⟩ := od_f H hn hr a7 a8
  obtain ⟨h1, h2, ⟨⟨l, l1, l2, l3⟩, l4, l5⟩, h4, h5, h6, h7, h8⟩ := id H
  have hπ := (a7.1 r (by omega)).1
  have e16 : 14 + (2 + 3 * π r) = 16 + 3 * π r := by omega
  have es : xso (nI (k + 1)) (nI p) = sa σ r := by
    unfold sa xso
    rw [b2, b5]
    rcases (show k = 0 ∨ k = 1 by omega) with rfl | rfl
    · rw [if_pos (by rfl), if_pos (by rfl)]
    · rw [if_neg (by decide), if_neg (by decide)]
  have eh := e_hold (u := sh 5 v) (s := sa σ r) l2 l1
  unfold m_X6_isOpen
  simp only [q_oms, q_lt, e16, b3, b4, es]
  rw [q_ck hπ, eh]
  simp only [q_ob]
  rw [show (sh 5 v) 0 0 = σ 554 from l2.trans l3.symm, show (sh 5 v) 0 1 = σ 555 from l4]
  by_cases c : lk (σ 554) (σ 555) (sa σ r) = 0
  · rw [if_pos c, if_pos c]
  · rw [if_neg c, if_neg c]
theorem s_foremost {B n : Nat} {v : xSt} {σ : Nat → Int32} (H : R0 B v σ) (hn : σ 580 = nI n) (hn1 : n ≤ 10) : wp (m_X6_foremost v) (FD 0 n (fun r => lk (σ 554) (σ 555) (sa σ r) = 0)) := by
  obtain ⟨h1, h2, h3, h4, h5, h6, h7, h8⟩ := id H
  obtain ⟨n', q, π, a1, a2, a3, a4, a5, a6, a7, a8, a9⟩ := id h7
  obtain rfl : n' = n := (nI_eq (by omega) (by omega)).mp (a3.symm.trans hn)
  unfold m_X6_foremost
  refine lp_fi (p := fun r => lk (σ 554) (σ 555) (sa σ r) = 0) (xFg (by omega)) rfl (fun r rec hr hp => ?_) (fun r rec hr hp => ?_) (fun rec => ?_)
  · have eo : m_X1_orderAt (sh 14 v) (nI r) = some (some (π r)) := e_orderAt (c := sh 14 v) a4 a1 a7 hr
    have io := e_isOpen H hn hr a7 a8
    have hπ := (a7.1 r (by omega)).1
    simp only [q_u1, a4]
    rw [if_neg (nI_ge hr (by omega)), eo]
    simp only [q_ob, q_oms]
    rw [q_ck hπ, io]
    simp only [q_ob]
    rw [if_pos hp, if_neg (by decide)]
  · have eo : m_X1_orderAt (sh 14 v) (nI r) = some (some (π r)) := e_orderAt (c := sh 14 v) a4 a1 a7 hr
    have io := e_isOpen H hn hr a7 a8
    have hπ := (a7.1 r (by omega)).1
    simp only [q_u1, a4]
    rw [if_neg (nI_ge hr (by omega)), eo]
    simp only [q_ob, q_oms]
    rw [q_ck hπ, io]
    simp only [q_ob]
    rw [if_neg hp, if_pos (by rfl), show nI r + 1 = nI (r + 1) from nI_1 r]
  · simp only [q_u1, a4]
    rw [if_pos (nI_le (Nat.le_refl _) (by omega))]
theorem s_press8 {B n : Nat} {v : xSt} {σ : Nat → Int32} (H : R0 B v σ) (hn : σ 580 = nI n) (hn1 : n ≤ 10) : wp (m_X6_foremostPressing_v8 v) (FD 0 n (prs σ (v 8 1) (v 8 6))) := by
  obtain ⟨h1, h2, h3, h4, h5, h6, h7, h8⟩ := id H
  obtain ⟨n', q, π, a1, a2, a3, a4, a5, a6, a7, a8, a9⟩ := id h7
  obtain rfl : n' = n := (nI_eq (by omega) (by omega)).mp (a3.symm.trans hn)
  unfold m_X6_foremostPressing_v8
  refine wp_e (e_setting (j := 4) h8 (by omega)) ?_
  refine lp_fi (p := prs σ (v 8 1) (v 8 6)) (xFg (by omega)) rfl (fun r rec hr hp => ?_) (fun r rec hr hp => ?_) (fun rec => ?_)
  · obtain ⟨k, p, b1, b2, b3, b4, b5, b6, b7⟩ := od_f H hn hr a7 a8
    have eo : m_X1_orderAt (sh 14 v) (nI r) = some (some (π r)) := e_orderAt (c := sh 14 v) a4 a1 a7 hr
    have io := e_isOpen H hn hr a7 a8
    have hπ := (a7.1 r (by omega)).1
    simp only [q_u1, a4]
    rw [if_neg (nI_ge hr (by omega)), eo]
    simp only [q_ob, q_oms, q_lt]
    rw [q_ck hπ]
    obtain ⟨p1, p2, p3, p4⟩ := hp
    have e16 : 14 + (2 + 3 * π r) = 16 + 3 * π r := by omega
    simp only [e16, io, q_ob]
    rw [b2] at p1
    obtain rfl : k = 0 := (nI_eq (by omega) (by omega)).mp p1
    have hx : ¬ xso 1 (v (16 + 3 * π r) 2) = v 8 1 := by
      intro hx
      refine p2 (Eq.trans ?_ hx)
      rw [b4]
      unfold sa xso
      rw [if_pos (by rw [b2]; rfl), b5, if_pos rfl]
    rw [b6, if_neg p3, b3, if_pos (by rfl), if_neg hx, if_pos p4, if_neg (by decide)]
  · obtain ⟨k, p, b1, b2, b3, b4, b5, b6, b7⟩ := od_f H hn hr a7 a8
    have eo : m_X1_orderAt (sh 14 v) (nI r) = some (some (π r)) := e_orderAt (c := sh 14 v) a4 a1 a7 hr
    have io := e_isOpen H hn hr a7 a8
    have hπ := (a7.1 r (by omega)).1
    simp only [q_u1, a4]
    rw [if_neg (nI_ge hr (by omega)), eo]
    simp only [q_ob, q_oms, q_lt]
    rw [q_ck hπ]
    have e16 : 14 + (2 + 3 * π r) = 16 + 3 * π r := by omega
    simp only [e16, io, q_ob, b6, b3, b4]
    rw [show nI r + 1 = nI (r + 1) from nI_1 r]
    by_cases c3 : σ (617 + 18 * r + 3) < v 8 6 + σ 560
    · rw [if_pos c3]
    · rw [if_neg c3]
      rcases (show k = 0 ∨ k = 1 by omega) with rfl | rfl
      · rw [if_pos (by rfl)]
        have es : xso 1 (nI p) = sa σ r := by
          unfold sa xso
          rw [if_pos rfl, if_pos (by rw [b2]; rfl), b5]
        rw [es]
        by_cases c2 : sa σ r = v 8 1
        · rw [if_pos c2]
        · rw [if_neg c2]
          by_cases c4 : lk (σ 554) (σ 555) (sa σ r) = 0
          · exact absurd ⟨by rw [b2]; rfl, c2, c3, c4⟩ hp
          · rw [if_neg c4, if_pos (by rfl)]
      · rw [if_neg (by decide)]
  · simp only [q_u1, a4]
    rw [if_pos (nI_le (Nat.le_refl _) (by omega))]
theorem s_press11 {B n : Nat} {v : xSt} {σ : Nat → Int32} (H : R0 B v σ) (hn : σ 580 = nI n) (hn1 : n ≤ 10) : wp (m_X6_foremostPressing_v11 v) (FD 0 n (prs σ (v 11 1) (v 11 6))) := by
  obtain ⟨h1, h2, h3, h4, h5, h6, h7, h8⟩ := id H
  obtain ⟨n', q, π, a1, a2, a3, a4, a5, a6, a7, a8, a9⟩ := id h7
  obtain rfl : n' = n := (nI_eq (by omega) (by omega)).mp (a3.symm.trans hn)
  unfold m_X6_foremostPressing_v11
  refine wp_e (e_setting (j := 4) h8 (by omega)) ?_
  refine lp_fi (p := prs σ (v 11 1) (v 11 6)) (xFg (by omega)) rfl (fun r rec hr hp => ?_) (fun r rec hr hp => ?_) (fun rec => ?_)
  · obtain ⟨k, p, b1, b2, b3, b4, b5, b6, b7⟩ := od_f H hn hr a7 a8
    have eo : m_X1_orderAt (sh 14 v) (nI r) = some (some (π r)) := e_orderAt (c := sh 14 v) a4 a1 a7 hr
    have io := e_isOpen H hn hr a7 a8
    have hπ := (a7.1 r (by omega)).1
    simp only [q_u1, a4]
    rw [if_neg (nI_ge hr (by omega)), eo]
    simp only [q_ob, q_oms, q_lt]
    rw [q_ck hπ]
    obtain ⟨p1, p2, p3, p4⟩ := hp
    have e16 : 14 + (2 + 3 * π r) = 16 + 3 * π r := by omega
    simp only [e16, io, q_ob]
    rw [b2] at p1
    obtain rfl : k = 0 := (nI_eq (by omega) (by omega)).mp p1
    have hx : ¬ xso 1 (v (16 + 3 * π r) 2) = v 11 1 := by
      intro hx
      refine p2 (Eq.trans ?_ hx)
      rw [b4]
      unfold sa xso
      rw [if_pos (by rw [b2]; rfl), b5, if_pos rfl]
    rw [b6, if_neg p3, b3, if_pos (by rfl), if_neg hx, if_pos p4, if_neg (by decide)]
  · obtain ⟨k, p, b1, b2, b3, b4, b5, b6, b7⟩ := od_f H hn hr a7 a8
    have eo : m_X1_orderAt (sh 14 v) (nI r) = some (some (π r)) := e_orderAt (c := sh 14 v) a4 a1 a7 hr
    have io := e_isOpen H hn hr a7 a8
    have hπ := (a7.1 r (by omega)).1
    simp only [q_u1, a4]
    rw [if_neg (nI_ge hr (by omega)), eo]
    simp only [q_ob, q_oms, q_lt]
    rw [q_ck hπ]
    have e16 : 14 + (2 + 3 * π r) = 16 + 3 * π r := by omega
    simp only [e16, io, q_ob, b6, b3, b4]
    rw [show nI r + 1 = nI (r + 1) from nI_1 r]
    by_cases c3 : σ (617 + 18 * r + 3) < v 11 6 + σ 560
    · rw [if_pos c3]
    · rw [if_neg c3]
      rcases (show k = 0 ∨ k = 1 by omega) with rfl | rfl
      · rw [if_pos (by rfl)]
        have es : xso 1 (nI p) = sa σ r := by
          unfold sa xso
          rw [if_pos rfl, if_pos (by rw [b2]; rfl), b5]
        rw [es]
        by_cases c2 : sa σ r = v 11 1
        · rw [if_pos c2]
        · rw [if_neg c2]
          by_cases c4 : lk (σ 554) (σ 555) (sa σ r) = 0
          · exact absurd ⟨by rw [b2]; rfl, c2, c3, c4⟩ hp
          · rw [if_neg c4, if_pos (by rfl)]
      · rw [if_neg (by decide)]
  · simp only [q_u1, a4]
    rw [if_pos (nI_le (Nat.le_refl _) (by omega))]

theorem r_foremost_e {w : xSt} {σ : Nat → Int32} {n : Nat} {z : Int32} (hn : σ 580 = nI n) (h1 : n ≤ 10) (h : FD 0 n (fun r => lk (σ 554) (σ 555) (sa σ r) = 0) z) : m_X9_foremost (va_up w 1 σ) = some z := by
  obtain ⟨y, e, g⟩ := r_foremost (w := w) hn h1
  rw [e, FD_u g h]
theorem r_presses_e {w : xSt} {σ : Nat → Int32} {n : Nat} {s u z : Int32} (hn : σ 580 = nI n) (h1 : n ≤ 10) (h : FD 0 n (prs σ s u) z) : m_X9_presses (va_up w 1 σ) s u = some z := by
  obtain ⟨y, e, g⟩ := r_presses (w := w) hn h1
  rw [e, FD_u g h]
theorem FD_z {n : Nat} {p : Nat → Prop} {z : Int32} (h : FD 0 n p z) (hn : n ≤ 10) : z = -1 ∨ ∃ r, r < n ∧ z = nI r ∧ ¬ z = -1 := by
  rcases h with ⟨h, -⟩ | ⟨r, -, h2, h3, -⟩
  · exact Or.inl h
  · refine Or.inr ⟨r, h2, h3, ?_⟩
    rw [h3, q_ne1 (by omega)]
    exact id
/-- the clerk has nothing to begin and nothing goes on -/
def idle (σ τ : Nat → Int32) : Prop := τ = σ ∧ σ 581 = 0 ∧ ((σ 599 = 0 ∧ ∃ n, σ 580 = nI n ∧ n ≤ 10 ∧ FD 0 n (fun r => lk (σ 554) (σ 555) (sa σ r) = 0) (-1)) ∨ ((∃ k, 1 ≤ k ∧ k ≤ 3 ∧ σ 599 = nI k) ∧ σ 605 = 0))
/-- what the clerk does at the beginning of a tick -/
theorem s_acts {B : Nat} {v : xSt} {σ : Nat → Int32} (H : R0 B v σ) (hB : B < 16000000) : ∃ τ, (∀ w, m_X9_acts (va_up w 1 σ) = some (va_up w 1 τ)) ∧ τ 561 = σ 561 ∧ (¬ τ 581 = 0 ∨ idle σ τ) ∧ wp (m_X6_clerkChooses v) (fun r => wp (if r.1 = -1 then some r.2 else m_X6_beginOrder r.2 r.1) (fun v' => R0 B v' τ ∧ ∀ j, j < 9 → v' 0 j = v 0 j)) := by
  obtain ⟨h1, h2, h3, h4, h5, h6, h7, h8⟩ := id H
  obtain ⟨n, q, π, a1, a2, a3, a4, a5, a6, a7, a8, a9⟩ := id h7
  have u0 : ∀ w : xSt, m_X9_under (va_up w 1 σ) 0 = some (σ 581) := fun w => r_under (j := 0) (by omega)
  have u1 : ∀ w : xSt, m_X9_under (va_up w 1 σ) 1 = some (σ 582) := fun w => r_under (j := 1) (by omega)
  have u5 : ∀ w : xSt, m_X9_under (va_up w 1 σ) 5 = some (σ 586) := fun w => r_under (j := 5) (by omega)
  have p1 : ∀ w : xSt, m_X9_apart (va_up w 1 σ) 1 = some (σ 600) := fun w => r_apart (j := 1) (by omega)
  have p5 : ∀ w : xSt, m_X9_apart (va_up w 1 σ) 5 = some (σ 604) := fun w => r_apart (j := 5) (by omega)
  have p6 : ∀ w : xSt, m_X9_apart (va_up w 1 σ) 6 = some (σ 605) := fun w => r_apart (j := 6) (by omega)
  obtain ⟨y, y1, y2, y3⟩ := RWk_7 h6
  have ha : (σ 599 = nI 0 ∧ v 11 0 = 0) ∨ ∃ k, 1 ≤ k ∧ k ≤ 3 ∧ σ 599 = nI k ∧ v 11 0 = nI k ∧ v 11 1 = σ 600 ∧ v 11 6 = σ 604 := by
    rcases h6.2 with h | ⟨k, d, t, p, h⟩
    · exact Or.inl ⟨h.1, h.2.1⟩
    · obtain ⟨b1, b2, b3, b4, b5, b6, b7, b8, b9, b10, b11, b12, b13, b14⟩ := h
      exact Or.inr ⟨k, b1, b2, b3, b4, by rw [b11, ← b12], b13⟩
  rcases h5.2 with hu | ⟨k, d, t, p, b1, b2, b3, b4, b5, b6, b7, b8, b9, b10, b11, b12, b13, b14⟩
  · -- nothing is under way
    obtain ⟨e1, e2, -⟩ := hu
    have bz : ∀ w : xSt, m_X9_isBusy (va_up w 1 σ) = some 0 := fun w => r_busy0 e1
    have cb : m_X6_isBusy v = some 0 := by unfold m_X6_isBusy; rw [if_pos e2]
    rcases ha with ⟨g1, g2⟩ | ⟨k, g1, g2, g3, g4, g5, g6⟩
    · have az : ∀ w : xSt, m_X9_isAside (va_up w 1 σ) = some 0 := fun w => r_aside0 g1
      obtain ⟨z, hz, hf⟩ := s_foremost H a3 a1
      have rf : ∀ w : xSt, m_X9_foremost (va_up w 1 σ) = some z := fun w => r_foremost_e a3 a1 hf
      have cc : m_X6_clerkChooses v = some (z, v) := by
        unfold m_X6_clerkChooses
        rw [cb]
        simp only [q_ob]
        rw [if_pos (by decide), if_pos g2, hz]
        rfl
      rcases FD_z hf a1 with hz1 | ⟨r, hr, hz1, hz2⟩
      · refine ⟨σ, fun w => ?_, rfl, Or.inr ⟨rfl, e1, Or.inl ⟨g1, n, a3, a1, by rw [← hz1]; exact hf⟩⟩, ⟨(z, v), cc, ?_⟩⟩
        · unfold m_X9_acts
          simp only [u0, q_ob, q_lt, e1, bz, az, rf]
          rw [if_neg (by decide), if_pos (by decide), if_pos (by decide), if_pos (by decide), if_pos (by decide), if_pos (by decide), if_pos hz1]
        · dsimp only
          rw [if_pos hz1]
          exact wp_s ⟨H, fun _ _ => rfl⟩
      · obtain ⟨τ, t1, t2, tb, t3⟩ := s_beginOrder H hB a3 a1 hr
        refine ⟨τ, fun w => ?_, t2, Or.inl tb, ⟨(z, v), cc, ?_⟩⟩
        · unfold m_X9_acts
          simp only [u0, q_ob, q_lt, e1, bz, az, rf]
          rw [if_neg (by decide), if_pos (by decide), if_pos (by decide), if_pos (by decide), if_pos (by decide), if_pos (by decide), if_neg hz2, hz1, t1 w]
          rfl
        · dsimp only
          rw [if_neg hz2, hz1]
          exact wp_m t3 (fun v' h => ⟨h.1, fun j hj => by rw [h.2]⟩)
    · have az : ∀ w : xSt, m_X9_isAside (va_up w 1 σ) = some 1 := fun w => r_aside1 g3 (by omega) g2
      have gn : ¬ v 11 0 = 0 := by rw [g4]; exact nI_ne0 (by omega) (by omega)
      obtain ⟨z, hz, hf⟩ := s_press11 H a3 a1
      rw [g5, g6] at hf
      have rf : ∀ w : xSt, m_X9_presses (va_up w 1 σ) (σ 600) (σ 604) = some z := fun w => r_presses_e a3 a1 hf
      rcases (show y = 0 ∨ y = 1 by omega) with rfl | rfl
      · refine ⟨σ, fun w => ?_, rfl, Or.inr ⟨rfl, e1, Or.inr ⟨⟨k, g1, g2, g3⟩, y3⟩⟩, ⟨(-1, v), ?_, ?_⟩⟩
        · unfold m_X9_acts
          simp only [u0, q_ob, q_lt, e1, bz, az, p6]
          rw [if_neg (by decide), if_pos (by decide), if_pos (by decide), if_pos (by decide), if_neg (by decide), if_pos (show σ 605 = 0 from y3)]
        · unfold m_X6_clerkChooses
          rw [cb]
          simp only [q_ob, q_lt]
          rw [if_pos (by decide), if_neg gn, if_pos (show v 11 7 = 0 from y2), if_pos (show v 11 7 = 0 from y2)]
        · dsimp only
          rw [if_pos (by decide)]
          exact wp_s ⟨H, fun _ _ => rfl⟩
      · have yn : ¬ v 11 7 = 0 := by rw [y2]; decide
        have yn' : ¬ σ 605 = 0 := by rw [show σ 605 = nI 1 from y3]; decide
        rcases FD_z hf a1 with hz1 | ⟨r, hr, hz1, hz2⟩
        · obtain ⟨v', hv', hR, hv0⟩ := s_letGoOn H g3 g1 g2
          refine ⟨tB σ, fun w => ?_, tB_o (by omega), Or.inl ?_, ⟨(-1, v'), ?_, ?_⟩⟩
          rotate_left
          · unfold tB
            rw [fl_o (by omega), va_up_ne _ _ (by omega), fl_i (by omega) (by omega)]
            show ¬ σ 599 = 0
            rw [g3]
            exact nI_ne0 (by omega) (by omega)
          rotate_right
          · unfold m_X9_acts
            simp only [u0, q_ob, q_lt, e1, bz, az, p6, p1, p5, rf]
            rw [if_neg (by decide), if_pos (by decide), if_pos (by decide), if_pos (by decide), if_neg (by decide), if_neg yn', if_neg (by decide), if_pos hz1, r_takesBack]
            rfl
          · unfold m_X6_clerkChooses
            rw [cb]
            simp only [q_ob, q_lt]
            rw [if_pos (by decide), if_neg gn, if_neg yn, hz]
            simp only [q_ob]
            rw [if_neg yn, if_pos hz1, hv', hz1]
            rfl
          · dsimp only
            rw [if_pos (by decide)]
            exact wp_s ⟨hR, fun j hj => by rw [hv0]⟩
        · obtain ⟨τ, t1, t2, tb, t3⟩ := s_beginOrder H hB a3 a1 hr
          refine ⟨τ, fun w => ?_, t2, Or.inl tb, ⟨(z, v), ?_, ?_⟩⟩
          · unfold m_X9_acts
            simp only [u0, q_ob, q_lt, e1, bz, az, p6, p1, p5, rf]
            rw [if_neg (by decide), if_pos (by decide), if_pos (by decide), if_pos (by decide), if_neg (by decide), if_neg yn', if_neg (by decide), if_neg hz2, hz1, t1 w]
            rfl
          · unfold m_X6_clerkChooses
            rw [cb]
            simp only [q_ob, q_lt]
            rw [if_pos (by decide), if_neg gn, if_neg yn, hz]
            simp only [q_ob]
            rw [if_neg yn, if_neg hz2]
          · dsimp only
            rw [if_neg hz2, hz1]
            exact wp_m t3 (fun v' h => ⟨h.1, fun j hj => by rw [h.2]⟩)
  · -- a work is under way
    have bz : ∀ w : xSt, m_X9_isBusy (va_up w 1 σ) = some 1 := fun w => r_busy1 b3 (by omega) b2
    have bn : ¬ v 8 0 = 0 := by rw [b4]; exact nI_ne0 (by omega) (by omega)
    have cb : m_X6_isBusy v = some 1 := by unfold m_X6_isBusy; rw [if_neg bn]
    have nothing : (∀ w : xSt, m_X9_acts (va_up w 1 σ) = some (va_up w 1 σ)) → m_X6_clerkChooses v = some (-1, v) → ∃ τ, (∀ w, m_X9_acts (va_up w 1 σ) = some (va_up w 1 τ)) ∧ τ 561 = σ 561 ∧ (¬ τ 581 = 0 ∨ idle σ τ) ∧ wp (m_X6_clerkChooses v) (fun r => wp (if r.1 = -1 then some r.2 else m_X6_beginOrder r.2 r.1) (fun v' => R0 B v' τ ∧ ∀ j, j < 9 → v' 0 j = v 0 j)) := by
      intro c1 c2
      refine ⟨σ, c1, rfl, Or.inl (by rw [b3]; exact nI_ne0 (by omega) (by omega)), ⟨(-1, v), c2, ?_⟩⟩
      dsimp only
      rw [if_pos (by decide)]
      exact wp_s ⟨H, fun _ _ => rfl⟩
    by_cases ck2 : k = 2
    · by_cases cu : v 8 6 = -1
      · refine nothing (fun w => ?_) ?_
        · unfold m_X9_acts
          simp only [u0, u5, q_ob, q_lt, b3, bz]
          rw [if_pos (by rw [ck2]; rfl), if_pos (by rw [← b13]; exact cu), if_pos (by decide), if_pos (by decide), if_neg (by decide)]
        · unfold m_X6_clerkChooses
          rw [cb]
          simp only [q_ob, q_lt]
          rw [if_neg (by decide), if_pos (by rw [b4, ck2]; rfl), if_pos cu, if_pos (by decide), if_pos (by decide)]
      · rcases ha with ⟨g1, g2⟩ | ⟨k', g1, g2, g3, g4, g5, g6⟩
        · have az : ∀ w : xSt, m_X9_isAside (va_up w 1 σ) = some 0 := fun w => r_aside0 g1
          obtain ⟨z, hz, hf⟩ := s_press8 H a3 a1
          rw [b13, show v 8 1 = σ 582 by rw [b11, ← b12]] at hf
          have rf : ∀ w : xSt, m_X9_presses (va_up w 1 σ) (σ 582) (σ 586) = some z := fun w => r_presses_e a3 a1 hf
          rcases FD_z hf a1 with hz1 | ⟨r, hr, hz1, hz2⟩
          · refine nothing (fun w => ?_) ?_
            · unfold m_X9_acts
              simp only [u0, u1, u5, q_ob, q_lt, b3, bz, az, rf]
              rw [if_pos (by rw [ck2]; rfl), if_neg (by rw [← b13]; exact cu), if_pos (by decide), if_neg (by decide), if_pos hz1, if_neg (by decide)]
            · unfold m_X6_clerkChooses
              rw [cb]
              simp only [q_ob, q_lt]
              rw [if_neg (by decide), if_pos (by rw [b4, ck2]; rfl), if_neg cu, if_pos g2, if_neg (by decide), hz]
              simp only [q_ob]
              rw [if_pos hz1, hz1]
          · obtain ⟨v1, hv1, hR1, hv10⟩ := s_setAside (u := 1) H b3 b1 b2 (by omega)
            obtain ⟨τ, t1, t2, tb, t3⟩ := s_beginOrder hR1 hB (by rw [sA_o (by omega) (by omega)]; exact a3) a1 hr
            refine ⟨τ, fun w => ?_, by rw [t2, sA_o (by omega) (by omega)], Or.inl tb, ⟨(z, v1), ?_, ?_⟩⟩
            · unfold m_X9_acts
              simp only [u0, u1, u5, q_ob, q_lt, b3, bz, az, rf]
              rw [if_pos (by rw [ck2]; rfl), if_neg (by rw [← b13]; exact cu), if_pos (by decide), if_neg (by decide), if_neg hz2, r_setsAside]
              simp only [q_ob]
              rw [hz1, show (1 : Int32) = nI 1 from rfl, t1 w]
              rfl
            · unfold m_X6_clerkChooses
              rw [cb]
              simp only [q_ob, q_lt]
              rw [if_neg (by decide), if_pos (by rw [b4, ck2]; rfl), if_neg cu, if_pos g2, if_neg (by decide), hz]
              simp only [q_ob]
              rw [if_neg hz2, show (1 : Int32) = nI 1 from rfl, hv1]
              rfl
            · dsimp only
              rw [if_neg hz2, hz1]
              exact wp_m t3 (fun v' h => ⟨h.1, fun j hj => by rw [h.2]; exact hv10 j hj⟩)
        · have az : ∀ w : xSt, m_X9_isAside (va_up w 1 σ) = some 1 := fun w => r_aside1 g3 (by omega) g2
          have gn : ¬ v 11 0 = 0 := by rw [g4]; exact nI_ne0 (by omega) (by omega)
          refine nothing (fun w => ?_) ?_
          · unfold m_X9_acts
            simp only [u0, u1, u5, q_ob, q_lt, b3, bz, az]
            rw [if_pos (by rw [ck2]; rfl), if_neg (by rw [← b13]; exact cu), if_neg (by decide), if_pos (by decide), if_pos (by decide), if_neg (by decide)]
          · unfold m_X6_clerkChooses
            rw [cb]
            simp only [q_ob, q_lt]
            rw [if_neg (by decide), if_pos (by rw [b4, ck2]; rfl), if_neg cu, if_neg gn, if_pos (by decide), if_pos (by decide)]
    · have ckn : ¬ nI k = 2 := fun e => ck2 ((nI_eq (by omega) (by omega)).mp e)
      refine nothing (fun w => ?_) ?_
      · unfold m_X9_acts
        simp only [u0, q_ob, q_lt, b3, bz]
        rw [if_neg ckn, if_pos (by decide), if_pos (by decide), if_neg (by decide)]
      · unfold m_X6_clerkChooses
        rw [cb]
        simp only [q_ob, q_lt]
        rw [if_neg (by decide), if_neg (by rw [b4]; exact ckn), if_pos (by decide), if_pos (by decide)]
