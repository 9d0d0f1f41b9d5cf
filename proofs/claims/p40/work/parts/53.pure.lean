/-! THE TIE between a state of the class (47 objects v) and the reference's array σ -/
def xb (u : Int32) (p : Nat) : Int32 := if u.toBitVec.getLsbD p = true then 1 else 0
def RCell (B : Nat) (u : Int32) (h t e σ : Nat → Int32) : Prop :=
  (∀ c, c < 256 → h c = σ c ∧ ∃ k, k < 256 ∧ σ c = nI k) ∧ (∀ c, c < 256 → t c = σ (256 + c) ∧ ∃ k, k < 256 ∧ σ (256 + c) = nI k) ∧ (∀ p, p < 32 → σ (512 + p) = xb u p) ∧
  ∃ z : Nat → Nat, (∀ s, s < 8 → e s = nI (z s) ∧ σ (544 + s) = nI (z s)) ∧ z 0 + z 1 + z 2 + z 3 + z 4 + z 5 + z 6 + z 7 ≤ B
def RSc (f σ : Nat → Int32) : Prop := f 7 = σ 552 ∧ (σ 552 = 0 ∨ σ 552 = 1) ∧ f 9 = σ 562 ∧ f 10 = σ 563 ∧ f 11 = σ 564 ∧ f 12 = σ 565
def RLk (f σ : Nat → Int32) : Prop := (∃ l, l ≤ 4 ∧ f 0 = nI l ∧ σ 554 = nI l) ∧ f 1 = σ 555 ∧ f 2 = σ 553 ∧ (σ 553 = 0 ∨ σ 553 = 1)
def RRw (m : Nat) (z : Int32) (r σ : Nat → Int32) (b : Nat) : Prop := z = nI m ∧ m ≤ 12 ∧ ∀ i, i < m → r i = σ (b + i) ∧ ∃ k, k < 256 ∧ σ (b + i) = nI k
def RLd (z : Int32) (r σ : Nat → Int32) : Prop := ∃ m, RRw m z r σ 568 ∧ σ 567 = nI m
/-- the value for the cell so many steps behind the first -/
def xvf (z : Int32) (r : Nat → Int32) (k : Int32) : Int32 := if k < 0 then -1 else if k < z then xat 12 r (k + (z - 1 - k) / 8 * 8) else -1
def RWk (o : Nat → Int32) (z : Int32) (r σ : Nat → Int32) (b : Nat) : Prop :=
  (∃ u, u < 2 ∧ o 7 = nI u ∧ σ (b + 6) = nI u) ∧
  ((σ b = 0 ∧ o 0 = 0 ∧ o 1 = -1 ∧ o 6 = -1 ∧ o 4 = 0 ∧ o 5 = 0 ∧ σ (b + 2) = 0 ∧ σ (b + 3) = 0 ∧ o 7 = 0) ∨
   ∃ k d t p, 1 ≤ k ∧ k ≤ 3 ∧ σ b = nI k ∧ o 0 = nI k ∧ d < t ∧ t < 20000000 ∧ o 5 = nI d ∧ σ (b + 2) = nI d ∧ o 4 = nI t ∧ σ (b + 3) = nI t ∧ o 1 = nI p ∧ σ (b + 1) = nI p ∧ o 6 = σ (b + 5) ∧ (o 6 = -1 ∨ ∃ g, g ≤ 9 ∧ o 6 = nI g) ∧
    (k = 1 → p < 256 ∧ ∃ n e, 1 ≤ n ∧ n ≤ 8 ∧ 1 ≤ e ∧ e ≤ 99 ∧ t = n * e ∧ o 3 = nI e ∧ σ (b + 4) = nI e ∧ ∀ i, i < n → xvf z r (nI i) = σ (b + 9 + i) ∧ ∃ a, a < 256 ∧ σ (b + 9 + i) = nI a) ∧
    (k = 2 → p < 8 ∧ 5 ≤ t) ∧ (k = 3 → p ≤ 4 ∧ o 2 = σ (b + 7)))
def PM (n : Nat) (π : Nat → Nat) (f : Nat → Int32) : Prop := (∀ r, r < n → π r < n ∧ f r = nI (π r)) ∧ ∀ r r', r < n → r' < n → π r = π r' → r = r'
def ROd (q : Nat) (o : Nat → Int32) (z : Int32) (r σ : Nat → Int32) (b : Nat) : Prop :=
  (∃ a, a < q ∧ o 0 = nI a ∧ σ b = nI a) ∧ (∃ k p m, k < 2 ∧ o 1 = nI (k + 1) ∧ σ (b + 1) = nI k ∧ o 2 = nI p ∧ σ (b + 2) = nI p ∧ (k = 0 → p < 256) ∧ (k = 1 → p < 8) ∧ RRw m z r σ (b + 6) ∧ σ (b + 5) = nI m ∧ (k = 0 → 0 < m)) ∧
  (∃ u, u ≤ 9 ∧ o 3 = nI u ∧ σ (b + 3) = nI u) ∧ o 4 = σ (b + 4)
def RLn (B : Nat) (v : xSt) (σ : Nat → Int32) : Prop := ∃ (n q : Nat) (π : Nat → Nat), n ≤ 10 ∧ q ≤ B ∧ σ 580 = nI n ∧ v 14 1 = nI n ∧ σ 566 = nI q ∧ v 14 2 = nI q ∧ PM 10 π (v 15) ∧ (∀ r, r < n → ROd q (v (16 + 3 * π r)) (v (17 + 3 * π r) 1) (v (18 + 3 * π r)) σ (617 + 18 * r)) ∧ ∀ r r', r < n → r' < n → σ (617 + 18 * r) = σ (617 + 18 * r') → r = r'
def RSt (s σ : Nat → Int32) : Prop := ∀ j, j < 5 → s j = σ (556 + j) ∧ ∃ k, 1 ≤ k ∧ k ≤ 99 ∧ σ (556 + j) = nI k
def R0 (B : Nat) (v : xSt) (σ : Nat → Int32) : Prop := RSc (v 0) σ ∧ RCell B (v 1 3) (v 2) (v 3) (v 4) σ ∧ RLk (v 5) σ ∧ RLd (v 6 1) (v 7) σ ∧ RWk (v 8) (v 9 1) (v 10) σ 581 ∧ RWk (v 11) (v 12 1) (v 13) σ 599 ∧ RLn B v σ ∧ RSt (v 46) σ
def RR (B : Nat) (v : xSt) (σ : Nat → Int32) : Prop := R0 B v σ ∧ v 0 8 = σ 561
/-! each part of the tie asks for its own places alone -/
theorem RCell_c {B : Nat} {u : Int32} {h t e σ τ : Nat → Int32} (H : RCell B u h t e σ) (g : ∀ k, k < 552 → τ k = σ k) : RCell B u h t e τ := by
  obtain ⟨h1, h2, h3, z, h4, h5⟩ := H
  refine ⟨fun c hc => ?_, fun c hc => ?_, fun p hp => ?_, z, fun s hs => ?_, h5⟩
  · rw [g c (by omega)]; exact h1 c hc
  · rw [g (256 + c) (by omega)]; exact h2 c hc
  · rw [g (512 + p) (by omega)]; exact h3 p hp
  · rw [g (544 + s) (by omega)]; exact h4 s hs
theorem RCell_b {B B' : Nat} {u : Int32} {h t e σ : Nat → Int32} (H : RCell B u h t e σ) (g : B ≤ B') : RCell B' u h t e σ := by
  obtain ⟨h1, h2, h3, z, h4, h5⟩ := H
  exact ⟨h1, h2, h3, z, h4, Nat.le_trans h5 g⟩
theorem RCell_v {B : Nat} {u : Int32} {h t e h' t' e' σ : Nat → Int32} (H : RCell B u h t e σ) (g1 : ∀ c, c < 256 → h' c = h c) (g2 : ∀ c, c < 256 → t' c = t c) (g3 : ∀ c, c < 8 → e' c = e c) : RCell B u h' t' e' σ := by
  obtain ⟨h1, h2, h3, z, h4, h5⟩ := H
  refine ⟨fun c hc => ?_, fun c hc => ?_, h3, z, fun s hs => ?_, h5⟩
  · rw [g1 c (by omega)]; exact h1 c hc
  · rw [g2 c (by omega)]; exact h2 c hc
  · rw [g3 s (by omega)]; exact h4 s hs
theorem RSc_c {f f' σ τ : Nat → Int32} (H : RSc f σ) (g : ∀ k, k = 552 ∨ (562 ≤ k ∧ k < 566) → τ k = σ k) (gf : ∀ k, k = 7 ∨ (9 ≤ k ∧ k < 13) → f' k = f k) : RSc f' τ := by
  obtain ⟨h1, h2, h3, h4, h5, h6⟩ := H
  unfold RSc
  rw [g 552 (by omega), g 562 (by omega), g 563 (by omega), g 564 (by omega), g 565 (by omega), gf 7 (by omega), gf 9 (by omega), gf 10 (by omega), gf 11 (by omega), gf 12 (by omega)]
  exact ⟨h1, h2, h3, h4, h5, h6⟩
theorem RLk_c {f f' σ τ : Nat → Int32} (H : RLk f σ) (g : ∀ k, 553 ≤ k → k < 556 → τ k = σ k) (gf : ∀ k, k < 3 → f' k = f k) : RLk f' τ := by
  unfold RLk
  rw [g 553 (by omega) (by omega), g 554 (by omega) (by omega), g 555 (by omega) (by omega), gf 0 (by omega), gf 1 (by omega), gf 2 (by omega)]
  exact H
theorem RRw_c {m b b' : Nat} {z : Int32} {r r' σ τ : Nat → Int32} (H : RRw m z r σ b) (g : ∀ k, k < 12 → τ (b' + k) = σ (b + k)) (gr : ∀ k, k < 12 → r' k = r k) : RRw m z r' τ b' := by
  obtain ⟨h1, h2, h3⟩ := H
  refine ⟨h1, h2, fun i hi => ?_⟩
  rw [g i (by omega), gr i (by omega)]
  exact h3 i hi
theorem RLd_c {z : Int32} {r r' σ τ : Nat → Int32} (H : RLd z r σ) (g : ∀ k, 567 ≤ k → k < 580 → τ k = σ k) (gr : ∀ k, k < 12 → r' k = r k) : RLd z r' τ := by
  obtain ⟨m, h1, h2⟩ := H
  exact ⟨m, RRw_c h1 (fun k hk => g (568 + k) (by omega) (by omega)) gr, by rw [g 567 (by omega) (by omega)]; exact h2⟩
theorem xvf_c {z : Int32} {r r' : Nat → Int32} (h : ∀ k, k < 12 → r' k = r k) (k : Int32) : xvf z r' k = xvf z r k := by
  unfold xvf
  by_cases c : k < 0
  · rw [if_pos c, if_pos c]
  by_cases c2 : k < z
  · rw [if_neg c, if_neg c, if_pos c2, if_pos c2]
    unfold xat
    by_cases c3 : k + (z - 1 - k) / 8 * 8 < 0
    · rw [if_pos c3, if_pos c3]
    by_cases c4 : Int32.ofNat 12 ≤ k + (z - 1 - k) / 8 * 8
    · rw [if_neg c3, if_neg c3, if_pos c4, if_pos c4]
    · rw [if_neg c3, if_neg c3, if_neg c4, if_neg c4]
      refine h _ ?_
      obtain ⟨j, hj, e⟩ := nI_of c3
      rw [e] at c4 ⊢
      rw [q_cl hj]
      rcases Nat.lt_or_ge j 12 with c5 | c5
      · exact c5
      · exact absurd (nI_le c5 hj) c4
  · rw [if_neg c, if_neg c, if_neg c2, if_neg c2]
theorem RWk_c {o o' : Nat → Int32} {z : Int32} {r r' σ τ : Nat → Int32} {b b' : Nat} (H : RWk o z r σ b) (g : ∀ k, k < 18 → τ (b' + k) = σ (b + k)) (go : ∀ k, k < 8 → o' k = o k) (gr : ∀ k, k < 12 → r' k = r k) : RWk o' z r' τ b' := by
  have g0 := g 0 (by omega)
  simp only [Nat.add_zero] at g0
  unfold RWk
  rw [g0, g 1 (by omega), g 2 (by omega), g 3 (by omega), g 4 (by omega), g 5 (by omega), g 6 (by omega), g 7 (by omega), go 0 (by omega), go 1 (by omega), go 2 (by omega), go 3 (by omega), go 4 (by omega), go 5 (by omega), go 6 (by omega), go 7 (by omega)]
  obtain ⟨h1, h2⟩ := H
  refine ⟨h1, ?_⟩
  rcases h2 with h2 | ⟨k, d, t, p, h2⟩
  · exact Or.inl h2
  · obtain ⟨a1, a2, a3, a4, a5, a6, a7, a8, a9, a10, a11, a12, a13, a14, a15, a16⟩ := h2
    refine Or.inr ⟨k, d, t, p, a1, a2, a3, a4, a5, a6, a7, a8, a9, a10, a11, a12, a13, a14, fun hk => ?_, a16⟩
    obtain ⟨b1, n, e, b2, b3, b4, b5, b6, b7, b8, b9⟩ := a15 hk
    refine ⟨b1, n, e, b2, b3, b4, b5, b6, b7, b8, fun i hi => ?_⟩
    rw [xvf_c gr, show b' + 9 + i = b' + (9 + i) by omega, g (9 + i) (by omega), show b + (9 + i) = b + 9 + i by omega]
    exact b9 i hi
theorem ROd_c {q q' : Nat} {o o' : Nat → Int32} {z : Int32} {r r' σ τ : Nat → Int32} {b b' : Nat} (H : ROd q o z r σ b) (g : ∀ k, k < 18 → τ (b' + k) = σ (b + k)) (go : ∀ k, k < 5 → o' k = o k) (gr : ∀ k, k < 12 → r' k = r k) (hq : q ≤ q') : ROd q' o' z r' τ b' := by
  have g0 := g 0 (by omega)
  simp only [Nat.add_zero] at g0
  obtain ⟨⟨a, h1, h2⟩, ⟨k, p, m, h3, h4, h5, h6, h7, h8, h9, h10, h11⟩, h12, h13⟩ := H
  unfold ROd
  rw [g0, g 1 (by omega), g 2 (by omega), g 3 (by omega), g 4 (by omega), g 5 (by omega), go 0 (by omega), go 1 (by omega), go 2 (by omega), go 3 (by omega), go 4 (by omega)]
  refine ⟨⟨a, by omega, h2⟩, ⟨k, p, m, h3, h4, h5, h6, h7, h8, h9, RRw_c h10 (fun i hi => ?_) gr, h11⟩, h12, h13⟩
  rw [show b' + 6 + i = b' + (6 + i) by omega, g (6 + i) (by omega), show b + (6 + i) = b + 6 + i by omega]
theorem PM_c {n : Nat} {π : Nat → Nat} {f f' : Nat → Int32} (H : PM n π f) (g : ∀ r, r < n → f' r = f r) : PM n π f' := by
  refine ⟨fun r hr => ?_, H.2⟩
  rw [g r hr]
  exact H.1 r hr
theorem RLn_c {B B' : Nat} {v v' : xSt} {σ τ : Nat → Int32} (H : RLn B v σ) (hB : B ≤ B') (g : ∀ k, k = 566 ∨ k = 580 ∨ (617 ≤ k ∧ k < 797) → τ k = σ k) (gv : ∀ j, 14 ≤ j → j < 46 → v' j = v j) : RLn B' v' τ := by
  obtain ⟨n, q, π, h1, h2, h3, h4, h5, h6, h7, h8, h9⟩ := H
  refine ⟨n, q, π, h1, by omega, by rw [g 580 (by omega)]; exact h3, by rw [gv 14 (by omega) (by omega)]; exact h4, by rw [g 566 (by omega)]; exact h5, by rw [gv 14 (by omega) (by omega)]; exact h6, by rw [gv 15 (by omega) (by omega)]; exact h7, fun r hr => ?_, fun r r' hr hr' e => ?_⟩
  · have hp := (h7.1 r (by omega)).1
    rw [gv _ (by omega) (by omega), gv _ (by omega) (by omega), gv _ (by omega) (by omega)]
    exact ROd_c (h8 r hr) (fun k hk => g _ (by omega)) (fun _ _ => rfl) (fun _ _ => rfl) (Nat.le_refl _)
  · rw [g _ (by omega), g _ (by omega)] at e
    exact h9 r r' hr hr' e
theorem RSt_c {s s' σ τ : Nat → Int32} (H : RSt s σ) (g : ∀ k, 556 ≤ k → k < 561 → τ k = σ k) (gs : ∀ k, k < 5 → s' k = s k) : RSt s' τ := by
  intro j hj
  rw [g (556 + j) (by omega) (by omega), gs j hj]
  exact H j hj
theorem R0_v {B : Nat} {v v' : xSt} {σ : Nat → Int32} (H : R0 B v σ) (g : ∀ j, j < 47 → v' j = v j) : R0 B v' σ := by
  obtain ⟨h1, h2, h3, h4, h5, h6, h7, h8⟩ := H
  unfold R0
  rw [g 0 (by omega), g 1 (by omega), g 2 (by omega), g 3 (by omega), g 4 (by omega), g 5 (by omega), g 6 (by omega), g 7 (by omega), g 8 (by omega), g 9 (by omega), g 10 (by omega), g 11 (by omega), g 12 (by omega), g 13 (by omega), g 46 (by omega)]
  exact ⟨h1, h2, h3, h4, h5, h6, RLn_c h7 (Nat.le_refl _) (fun _ _ => rfl) (fun j _ hj => g j (by omega)), h8⟩
theorem RR_v {B : Nat} {v v' : xSt} {σ : Nat → Int32} (H : RR B v σ) (g : ∀ j, j < 47 → v' j = v j) : RR B v' σ := ⟨R0_v H.1 g, by rw [g 0 (by omega)]; exact H.2⟩
theorem R0_b {B B' : Nat} {v : xSt} {σ : Nat → Int32} (H : R0 B v σ) (hB : B ≤ B') : R0 B' v σ := by
  obtain ⟨h1, h2, h3, h4, h5, h6, h7, h8⟩ := H
  exact ⟨h1, RCell_b h2 hB, h3, h4, h5, h6, RLn_c h7 hB (fun _ _ => rfl) (fun _ _ _ => rfl), h8⟩
theorem RR_b {B B' : Nat} {v : xSt} {σ : Nat → Int32} (H : RR B v σ) (hB : B ≤ B') : RR B' v σ := ⟨R0_b H.1 hB, H.2⟩
theorem R0_s {B : Nat} {v : xSt} {σ τ : Nat → Int32} (H : R0 B v σ) (g : ∀ k, k < 797 → k ≠ 561 → τ k = σ k) : R0 B v τ := by
  obtain ⟨h1, h2, h3, h4, h5, h6, h7, h8⟩ := H
  exact ⟨RSc_c h1 (fun k hk => g k (by omega) (by omega)) (fun _ _ => rfl), RCell_c h2 (fun k hk => g k (by omega) (by omega)), RLk_c h3 (fun k hk hk2 => g k (by omega) (by omega)) (fun _ _ => rfl), RLd_c h4 (fun k hk hk2 => g k (by omega) (by omega)) (fun _ _ => rfl), RWk_c h5 (fun k hk => g _ (by omega) (by omega)) (fun _ _ => rfl) (fun _ _ => rfl), RWk_c h6 (fun k hk => g _ (by omega) (by omega)) (fun _ _ => rfl) (fun _ _ => rfl), RLn_c h7 (Nat.le_refl _) (fun k hk => g k (by omega) (by omega)) (fun _ _ _ => rfl), RSt_c h8 (fun k hk hk2 => g k (by omega) (by omega)) (fun _ _ => rfl)⟩
