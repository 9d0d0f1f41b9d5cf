/-! THE CLASS AND THE TIE: a tick, cells that fall, the end of an erase -/
def R0x (B : Nat) (v : xSt) (σ : Nat → Int32) : Prop := RSc (v 0) σ ∧ RCell B (v 1 3) (v 2) (v 3) (v 4) σ ∧ RLk (v 5) σ ∧ RLd (v 6 1) (v 7) σ ∧ RWk (v 11) (v 12 1) (v 13) σ 599 ∧ RLn B v σ ∧ RSt (v 46) σ
theorem R0x_of {B : Nat} {v v' : xSt} {σ τ : Nat → Int32} (H : R0 B v σ) (gv : ∀ j, j < 47 → j ≠ 8 → j ≠ 9 → j ≠ 10 → v' j = v j) (g : ∀ k, k < 581 ∨ 599 ≤ k → τ k = σ k) : R0x B v' τ := by
  obtain ⟨h1, h2, h3, h4, h5, h6, h7, h8⟩ := H
  unfold R0x
  rw [gv 0 (by omega) (by omega) (by omega) (by omega), gv 1 (by omega) (by omega) (by omega) (by omega), gv 2 (by omega) (by omega) (by omega) (by omega), gv 3 (by omega) (by omega) (by omega) (by omega), gv 4 (by omega) (by omega) (by omega) (by omega), gv 5 (by omega) (by omega) (by omega) (by omega), gv 6 (by omega) (by omega) (by omega) (by omega), gv 7 (by omega) (by omega) (by omega) (by omega), gv 11 (by omega) (by omega) (by omega) (by omega), gv 12 (by omega) (by omega) (by omega) (by omega), gv 13 (by omega) (by omega) (by omega) (by omega), gv 46 (by omega) (by omega) (by omega) (by omega)]
  exact ⟨RSc_c h1 (fun k hk => g k (by omega)) (fun _ _ => rfl), RCell_c h2 (fun k hk => g k (by omega)), RLk_c h3 (fun k hk hk2 => g k (by omega)) (fun _ _ => rfl), RLd_c h4 (fun k hk hk2 => g k (by omega)) (fun _ _ => rfl), RWk_c h6 (fun k hk => g _ (by omega)) (fun _ _ => rfl) (fun _ _ => rfl), RLn_c h7 (Nat.le_refl _) (fun k hk => g k (by omega)) (fun j hj hj2 => gv j (by omega) (by omega) (by omega) (by omega)), RSt_c h8 (fun k hk hk2 => g k (by omega)) (fun _ _ => rfl)⟩
theorem R0x_to {B : Nat} {v v' : xSt} {σ τ : Nat → Int32} (H : R0x B v σ) (gv : ∀ j, j < 47 → j ≠ 8 → j ≠ 9 → j ≠ 10 → v' j = v j) (g : ∀ k, k < 581 ∨ 599 ≤ k → τ k = σ k) (hw : RWk (v' 8) (v' 9 1) (v' 10) τ 581) : R0 B v' τ := by
  obtain ⟨h1, h2, h3, h4, h6, h7, h8⟩ := H
  unfold R0
  rw [gv 0 (by omega) (by omega) (by omega) (by omega), gv 1 (by omega) (by omega) (by omega) (by omega), gv 2 (by omega) (by omega) (by omega) (by omega), gv 3 (by omega) (by omega) (by omega) (by omega), gv 4 (by omega) (by omega) (by omega) (by omega), gv 5 (by omega) (by omega) (by omega) (by omega), gv 6 (by omega) (by omega) (by omega) (by omega), gv 7 (by omega) (by omega) (by omega) (by omega), gv 11 (by omega) (by omega) (by omega) (by omega), gv 12 (by omega) (by omega) (by omega) (by omega), gv 13 (by omega) (by omega) (by omega) (by omega), gv 46 (by omega) (by omega) (by omega) (by omega)]
  exact ⟨RSc_c h1 (fun k hk => g k (by omega)) (fun _ _ => rfl), RCell_c h2 (fun k hk => g k (by omega)), RLk_c h3 (fun k hk hk2 => g k (by omega)) (fun _ _ => rfl), RLd_c h4 (fun k hk hk2 => g k (by omega)) (fun _ _ => rfl), hw, RWk_c h6 (fun k hk => g _ (by omega)) (fun _ _ => rfl) (fun _ _ => rfl), RLn_c h7 (Nat.le_refl _) (fun k hk => g k (by omega)) (fun j hj hj2 => gv j (by omega) (by omega) (by omega) (by omega)), RSt_c h8 (fun k hk hk2 => g k (by omega)) (fun _ _ => rfl)⟩
/-- a tick more of a work that doesn't end -/
theorem RWk_d {o o' : Nat → Int32} {z : Int32} {r r' σ τ : Nat → Int32} {b k d t : Nat} (H : RWk o z r σ b) (hk : σ b = nI k) (hk1 : 1 ≤ k) (hk3 : k ≤ 3) (hd : o 5 = nI d) (hd1 : d < 20000000) (ht : o 4 = nI t) (ht1 : t < 20000000) (hdt : d + 1 < t) (g : ∀ k, k < 18 → k ≠ 2 → τ (b + k) = σ (b + k)) (g2 : τ (b + 2) = nI (d + 1)) (go : ∀ k, k < 8 → k ≠ 5 → o' k = o k) (go5 : o' 5 = nI (d + 1)) (gr : ∀ k, k < 12 → r' k = r k) : RWk o' z r' τ b := by
  have g0 := g 0 (by omega) (by omega)
  simp only [Nat.add_zero] at g0
  unfold RWk
  rw [g0, g 1 (by omega) (by omega), g 3 (by omega) (by omega), g 4 (by omega) (by omega), g 5 (by omega) (by omega), g 6 (by omega) (by omega), g 7 (by omega) (by omega), go 0 (by omega) (by omega), go 1 (by omega) (by omega), go 2 (by omega) (by omega), go 3 (by omega) (by omega), go 4 (by omega) (by omega), go 6 (by omega) (by omega), go 7 (by omega) (by omega), g2, go5]
  obtain ⟨h1, h2⟩ := H
  refine ⟨h1, ?_⟩
  rcases h2 with h2 | ⟨k2, d2, t2, p, h2⟩
  · have e := h2.1
    rw [hk] at e
    exact absurd e (nI_ne0 (by omega) (by omega))
  · obtain ⟨a1, a2, a3, a4, a5, a6, a7, a8, a9, a10, a11, a12, a13, a14, a15, a16⟩ := h2
    obtain rfl : t2 = t := (nI_eq (by omega) (by omega)).mp (a9.symm.trans ht)
    refine Or.inr ⟨k2, d + 1, t2, p, a1, a2, a3, a4, hdt, a6, rfl, rfl, a9, a10, a11, a12, a13, a14, fun hk => ?_, a16⟩
    obtain ⟨b1, n, e, b2, b3, b4, b5, b6, b7, b8, b9⟩ := a15 hk
    refine ⟨b1, n, e, b2, b3, b4, b5, b6, b7, b8, fun i hi => ?_⟩
    rw [xvf_c gr, show b + 9 + i = b + (9 + i) by omega, g (9 + i) (by omega) (by omega), show b + (9 + i) = b + 9 + i by omega]
    exact b9 i hi
theorem s_endWk {B : Nat} {v : xSt} {σ : Nat → Int32} (H : R0x B v σ) : wp (ob (m_X7_end (sh 8 v)) (fun r4 => lt (pu 8 3 v r4) (fun v5 => some v5))) (fun v' => R0 B v' (fl σ 581 18 (fun _ => nI 0)) ∧ v' 0 = v 0) := by
  obtain ⟨r4, hr4, y0, y4⟩ := s_X7_end (sh 8 v)
  refine wp_e hr4 (wp_n (fun v5 e5 => wp_s ⟨?_, ?_⟩))
  · have k8 : v5 8 = r4 0 := by rw [e5, pu_i (by omega) (by omega)]
    refine R0x_to H (fun j hj j8 j9 j10 => ?_) (fun k hk => fl_o (by omega)) ?_
    · rw [e5, pu_o (by omega)]
    · rw [k8, y0]
      exact RWk_0 (fun k hk => fl_i (by omega) (by omega)) rfl rfl rfl rfl rfl rfl
  · rw [e5, pu_o (by omega)]
theorem RCell_h {B c k : Nat} {u : Int32} {h t e σ τ : Nat → Int32} (H : RCell B u h t e σ) (hk : k < 256) (g : ∀ j, j < 552 → j ≠ c → τ j = σ j) (gc : τ c = nI k) (hc : c < 256) : RCell B u (va_up h c (nI k)) t e τ := by
  obtain ⟨h1, h2, h3, z, h4, h5⟩ := H
  refine ⟨fun j hj => ?_, fun j hj => ?_, fun p hp => ?_, z, fun s hs => ?_, h5⟩
  · by_cases e : j = c
    · rw [e, va_up_self, gc]
      exact ⟨rfl, k, hk, rfl⟩
    · rw [va_up_ne _ _ e, g j (by omega) e]
      exact h1 j hj
  · rw [g _ (by omega) (by omega)]; exact h2 j hj
  · rw [g _ (by omega) (by omega)]; exact h3 p hp
  · rw [g _ (by omega) (by omega)]; exact h4 s hs
theorem e_fall {c : xSt} {p a b : Nat} (hp : p < 256) (ha : c 1 p = nI a) : m_X0_fall c (nI p) (nI b) = some (xbc (nI a) - xbc (nI (a &&& b)), va_up c 1 (va_up (c 1) p (nI (a &&& b)))) := by
  unfold m_X0_fall
  simp only [q_lt]
  rw [xat_n hp (by omega), xpt_n hp (by omega), ha, nI_and]
/-- the class's way on, as tick has it -/
def x_go (v : xSt) : Option (Int32 × xSt) := lt (st2 v 8 5 ((v 8 5) + (1 : Int32))) (fun v11 => lt (fun (v12 : xSt) => ob (m_X7_left (sh 8 v12)) (fun r15 => (if 0 < r15 then some ((1 : Int32), v12) else ob (m_X6_endWork v12) (fun r18 => some ((1 : Int32), r18))))) (fun j13 => (if (v11 8 0) = (1 : Int32) then ob (m_X6_goOnWriting v11) (fun r27 => j13 r27) else (if (v11 8 0) = (2 : Int32) then (if (4 : Int32) < (v11 8 5) then j13 v11 else ob (m_X0_fallWholly (sh 1 v11) ((((v11 8 1) * (4 : Int32)) + (v11 8 5)) - (1 : Int32))) (fun r23 => lt (pu 1 4 v11 r23.2) (fun v24 => lt (st2 v24 0 10 ((v11 0 10) + r23.1)) (fun v25 => j13 v25)))) else j13 v11))))
/-- what stands when the kind has done its part -/
def x_end (v12 : xSt) : Option (Int32 × xSt) := ob (m_X7_left (sh 8 v12)) (fun r15 => (if 0 < r15 then some ((1 : Int32), v12) else ob (m_X6_endWork v12) (fun r18 => some ((1 : Int32), r18))))
theorem x_end0 {v : xSt} {d t : Nat} (hd : v 8 5 = nI d) (ht : v 8 4 = nI t) (h : d < t) (h1 : t < 20000000) : x_end v = some (1, v) := by
  have e : m_X7_left (sh 8 v) = some (nI (t - d)) := by
    unfold m_X7_left
    rw [show (sh 8 v) 0 4 = nI t from ht, show (sh 8 v) 0 5 = nI d from hd, q_sub (by omega)]
  unfold x_end
  rw [e]
  simp only [q_ob]
  rw [if_pos (show (0 : Int32) < nI (t - d) from nI_lt (a := 0) (by omega) (by omega))]
theorem x_end1 {v : xSt} {d t : Nat} (hd : v 8 5 = nI d) (ht : v 8 4 = nI t) (h : d = t) (h1 : t < 20000000) : x_end v = ob (m_X6_endWork v) (fun r18 => some ((1 : Int32), r18)) := by
  have e : m_X7_left (sh 8 v) = some (nI 0) := by
    unfold m_X7_left
    rw [show (sh 8 v) 0 4 = nI t from ht, show (sh 8 v) 0 5 = nI d from hd, h, q_sub (by omega), Nat.sub_self]
  unfold x_end
  rw [e]
  simp only [q_ob]
  rw [if_neg (by decide)]
/-- a change of the locks goes on -/
theorem s_go3 {B d t : Nat} {v : xSt} {σ : Nat → Int32} (H : R0 B v σ) (hk : σ 581 = nI 3) (hk8 : v 8 0 = nI 3) (hd : v 8 5 = nI d) (hd2 : σ 583 = nI d) (ht : v 8 4 = nI t) (ht2 : σ 584 = nI t) (hdt : d < t) (ht1 : t < 20000000) : ∃ τ, (∀ w, m_X9_goesOn (va_up w 1 σ) = some (va_up w 1 τ)) ∧ τ 561 = σ 561 ∧ wp (x_go v) (fun r => r.1 = 1 ∧ R0 (B + 1) r.2 τ ∧ ∀ j, j < 9 → r.2 0 j = v 0 j) := by
  obtain ⟨h1, h2, h3, h4, h5, h6, h7, h8⟩ := id H
  have hloc : ∃ l, l ≤ 4 ∧ v 8 1 = nI l ∧ σ 582 = nI l ∧ v 8 2 = σ 588 := by
    rcases h5.2 with h | ⟨k, d', t', p, a1, a2, a3, a4, a5, a6, a7, a8, a9, a10, a11, a12, a13, a14, a15, a16, a17⟩
    · rw [hk] at h; exact absurd h.1 (by decide)
    · obtain rfl : k = 3 := (nI_eq (by omega) (by omega)).mp (a3.symm.trans hk)
      exact ⟨p, (a17 rfl).1, a11, a12, (a17 rfl).2⟩
  obtain ⟨l, l1, l2, l3, l4⟩ := hloc
  have w583 : (va_up σ 583 (nI (d + 1))) 583 = nI (d + 1) := va_up_self _ _ _
  have w584 : (va_up σ 583 (nI (d + 1))) 584 = nI t := by rw [va_up_ne _ _ (by omega), ht2]
  have rl : ∀ w : xSt, m_X9_locksOn (va_up w 1 (va_up σ 583 (nI (d + 1)))) = some (va_up w 1 (if d + 1 = t then va_up (va_up (va_up σ 583 (nI (d + 1))) 554 (σ 582)) 555 (σ 588) else va_up σ 583 (nI (d + 1)))) := by
    intro w
    have := r_locksOn (w := w) w583 w584 (by omega) (by omega)
    rw [va_up_ne (k := 583) (j := 582) _ _ (by omega), va_up_ne (k := 583) (j := 588) _ _ (by omega)] at this
    exact this
  have g8 : (st2 v 8 5 ((v 8 5) + (1 : Int32))) 8 = va_up (v 8) 5 (nI (d + 1)) := by
    rw [q_ss, hd, nI_1]
  have gv : ∀ j, j ≠ 8 → (st2 v 8 5 ((v 8 5) + (1 : Int32))) j = v j := fun j hj => q_sn hj
  have hx : x_go v = x_end (st2 v 8 5 ((v 8 5) + (1 : Int32))) := by
    unfold x_go x_end
    simp only [q_lt]
    have e0 : (st2 v 8 5 ((v 8 5) + (1 : Int32))) 8 0 = nI 3 := by rw [g8, va_up_ne _ _ (by omega), hk8]
    rw [e0, if_neg (by decide), if_neg (by decide)]
  by_cases hl : d + 1 = t
  · refine ⟨fl (va_up (va_up (va_up σ 583 (nI (d + 1))) 554 (σ 582)) 555 (σ 588)) 581 18 (fun _ => nI 0), fun w => ?_, ?_, ?_⟩
    · have := r_goesOn (w := w) (τ := va_up (va_up (va_up σ 583 (nI (d + 1))) 554 (σ 582)) 555 (σ 588)) hk (by omega) hd2 (by omega) ht1 (by rw [if_neg (by decide), if_neg (by decide), rl w, if_pos hl]) (by rw [va_up_ne _ _ (by omega), va_up_ne _ _ (by omega), w583]) (by rw [va_up_ne _ _ (by omega), va_up_ne _ _ (by omega), w584])
      rw [if_pos hl] at this
      exact this
    · rw [fl_o (by omega), va_up_ne _ _ (by omega), va_up_ne _ _ (by omega), va_up_ne _ _ (by omega)]
    · rw [hx, x_end1 (d := d + 1) (t := t) (by rw [g8, va_up_self]) (by rw [g8, va_up_ne _ _ (by omega), ht]) hl ht1]
      unfold m_X6_endWork
      refine wp_o ?_
      refine wp_n (fun j2 ej => ?_)
      refine wp_f (by rw [g8, va_up_ne _ _ (by omega), hk8]; decide) (wp_f (by rw [g8, va_up_ne _ _ (by omega), hk8]; decide) (wp_n (fun v8 e8 => wp_n (fun v9 e9 => ?_))))
      have k8 : ∀ j, j ≠ 5 → j ≠ 8 → v9 j = v j := by
        intro j h5 h8
        rw [e9, q_sn h5, e8, q_sn h5, gv j h8]
      have k5 : v9 5 = va_up (va_up (v 5) 0 (nI l)) 1 (σ 588) := by
        have v88 : v8 8 = va_up (v 8) 5 (nI (d + 1)) := by rw [e8, q_sn (by omega), g8]
        rw [e9, q_ss, v88, e8, q_ss, gv 5 (by omega), g8, va_up_ne _ _ (by omega), va_up_ne _ _ (by omega), l2, l4]
      have HX : R0x B v9 (va_up (va_up (va_up σ 583 (nI (d + 1))) 554 (σ 582)) 555 (σ 588)) := by
        obtain ⟨x1, x2, x3, x4, x6, x7, x8⟩ := R0x_of (v' := v) (τ := va_up σ 583 (nI (d + 1))) H (fun _ _ _ _ _ => rfl) (fun k hk => va_up_ne _ _ (by omega))
        unfold R0x
        rw [k8 0 (by omega) (by omega), k8 1 (by omega) (by omega), k8 2 (by omega) (by omega), k8 3 (by omega) (by omega), k8 4 (by omega) (by omega), k8 6 (by omega) (by omega), k8 7 (by omega) (by omega), k8 11 (by omega) (by omega), k8 12 (by omega) (by omega), k8 13 (by omega) (by omega), k8 46 (by omega) (by omega), k5]
        have gg : ∀ k, k ≠ 554 → k ≠ 555 → (va_up (va_up (va_up σ 583 (nI (d + 1))) 554 (σ 582)) 555 (σ 588)) k = va_up σ 583 (nI (d + 1)) k := by
          intro k k1 k2
          rw [va_up_ne _ _ k2, va_up_ne _ _ k1]
        refine ⟨RSc_c x1 (fun k hk => gg k (by omega) (by omega)) (fun _ _ => rfl), RCell_c x2 (fun k hk => gg k (by omega) (by omega)), ?_, RLd_c x4 (fun k hk hk2 => gg k (by omega) (by omega)) (fun _ _ => rfl), RWk_c x6 (fun k hk => gg _ (by omega) (by omega)) (fun _ _ => rfl) (fun _ _ => rfl), RLn_c x7 (Nat.le_refl _) (fun k hk => gg k (by omega) (by omega)) (fun j hj hj2 => k8 j (by omega) (by omega)), RSt_c x8 (fun k hk hk2 => gg k (by omega) (by omega)) (fun _ _ => rfl)⟩
        obtain ⟨y1, y2, y3, y4⟩ := x3
        refine ⟨⟨l, l1, ?_, ?_⟩, ?_, ?_, ?_⟩
        · rw [va_up_ne _ _ (by omega), va_up_self]
        · rw [va_up_ne _ _ (by omega), va_up_self, l3]
        · rw [va_up_self, va_up_self]
        · rw [va_up_ne _ _ (by omega), va_up_ne _ _ (by omega), gg 553 (by omega) (by omega)]
          exact y3
        · rw [gg 553 (by omega) (by omega)]
          exact y4
      rw [ej]
      refine wp_m (s_endWk HX) (fun v' hv => wp_s ⟨rfl, R0_b hv.1 (by omega), fun j hj => ?_⟩)
      dsimp only
      rw [hv.2, k8 0 (by omega) (by omega)]
  · refine ⟨va_up σ 583 (nI (d + 1)), fun w => ?_, va_up_ne _ _ (by omega), ?_⟩
    · have := r_goesOn (w := w) (τ := va_up σ 583 (nI (d + 1))) hk (by omega) hd2 (by omega) ht1 (by rw [if_neg (by decide), if_neg (by decide), rl w, if_neg hl]) w583 w584
      rw [if_neg hl] at this
      exact this
    · rw [hx, x_end0 (d := d + 1) (t := t) (by rw [g8, va_up_self]) (by rw [g8, va_up_ne _ _ (by omega), ht]) (by omega) ht1]
      refine wp_s ⟨rfl, R0_b (R0x_to (R0x_of (v' := v) (τ := σ) H (fun _ _ _ _ _ => rfl) (fun _ _ => rfl)) (fun j j1 j2 j3 j4 => gv j j2) (fun k hk => va_up_ne _ _ (by omega)) ?_) (by omega), fun j hj => by dsimp only; rw [gv 0 (by omega)]⟩
      dsimp only
      rw [g8, gv 9 (by omega), gv 10 (by omega)]
      exact RWk_d (o := v 8) (r := v 10) h5 hk (by omega) (by omega) hd (by omega) ht ht1 (by omega) (fun k hk hk2 => va_up_ne _ _ (by omega)) (va_up_self _ _ _) (fun k hk hk2 => va_up_ne _ _ hk2) (va_up_self _ _ _) (fun _ _ => rfl)
theorem x_rem {d e q m : Nat} (hd : d < 100000) (he0 : 0 < e) (he1 : e < 100000) (hq : d / e = q) (hm : d % e = m) : nI d - nI d / nI e * nI e = nI m := by
  rw [xrem (by omega) he0 (by omega), hm]
theorem s_goOnW {B p e d q m a b i : Nat} {v : xSt} {σ : Nat → Int32} (H : R0x B v σ) (h3 : v 8 3 = nI e) (he0 : 0 < e) (he1 : e < 100000) (h5 : v 8 5 = nI d) (hd0 : 0 < d) (hd : d < 100000) (h1 : v 8 1 = nI p) (hp : p < 256) (hq : d / e = q) (hm : d % e = m) (hq9 : q < 9) (ha : σ (rp p (q - 1)) = nI a) (ha1 : a < 256) (hb : xvf (v 9 1) (v 10) (nI (q - 1)) = nI b) (hb1 : b < 256) :
    wp (m_X6_goOnWriting v) (fun v' => R0x B v' (if m = 0 then va_up (va_up σ 563 (σ 563 + (xbc (nI a) - xbc (nI (a &&& b))))) (rp p (q - 1)) (nI (a &&& b)) else σ) ∧ (∀ j, 8 ≤ j → j < 11 → v' j = v j) ∧ ∀ j, j < 10 → v' 0 j = v 0 j) := by
  have hrp : rp p (q - 1) < 256 := by unfold rp; omega
  have hab1 : a &&& b < 256 := Nat.and_lt_two_pow (n := 8) _ hb1
  have hrem := x_rem hd he0 he1 hq hm
  have hen : ¬ nI e = 0 := nI_ne0 he0 (by omega)
  have hmb : m < 100000 := by rw [← hm]; exact Nat.lt_trans (Nat.mod_lt _ he0) he1
  unfold m_X6_goOnWriting
  rw [h3, h5, hrem]
  refine wp_f (nI_nle he0 (by omega)) (wp_c hen ?_)
  by_cases hz : m = 0
  · have hq1 : 1 ≤ q := by
      rw [← hq]
      exact Nat.div_pos (Nat.le_of_dvd hd0 (Nat.dvd_of_mod_eq_zero (by rw [hm]; exact hz))) he0
    obtain ⟨x1, x2, x3, x4, x6, x7, x8⟩ := H
    have hdiv : nI d / nI e - 1 = nI (q - 1) := by
      rw [pk_div (by omega) he0 (by omega), hq]
      exact q_sub (b := 1) (by omega)
    rw [hdiv, hz]
    refine wp_t (by decide) (wp_c hen (wp_e (e_valueFor (c := sh 9 v)) ?_))
    rw [show xvf ((sh 9 v) 0 1) ((sh 9 v) 1) (nI (q - 1)) = nI b from hb, h1, xrp_n hp (by omega)]
    have ea : (sh 1 v) 1 (rp p (q - 1)) = nI a := by
      show v 2 (rp p (q - 1)) = nI a
      rw [(x2.1 _ hrp).1, ha]
    refine wp_e (e_fall hrp ea) (wp_n (fun v9 e9 => wp_n (fun v10 e10 => wp_s ?_)))
    have k9 : ∀ j, j ≠ 2 → v9 j = v j := by
      intro j hj
      rw [e9]
      dsimp only
      by_cases jj : 1 ≤ j ∧ j < 1 + 4
      · rw [pu_i jj.1 jj.2, va_up_ne _ _ (by omega), sh_e]
        congr 1
        omega
      · rw [pu_o (by omega)]
    have k92 : v9 2 = va_up (v 2) (rp p (q - 1)) (nI (a &&& b)) := by
      rw [e9]
      dsimp only
      rw [pu_i (by omega) (by omega), va_up_self]
      rfl
    have k10 : ∀ j, j ≠ 2 → j ≠ 0 → v10 j = v j := by
      intro j j1 j2
      rw [e10, q_sn j2, k9 j j1]
    have k102 : v10 2 = va_up (v 2) (rp p (q - 1)) (nI (a &&& b)) := by rw [e10, q_sn (by omega), k92]
    have k100 : v10 0 = va_up (v 0) 10 (v 0 10 + (xbc (nI a) - xbc (nI (a &&& b)))) := by rw [e10, q_ss, k9 0 (by omega)]
    rw [if_pos rfl]
    have gg : ∀ k, k ≠ 563 → k ≠ rp p (q - 1) → (va_up (va_up σ 563 (σ 563 + (xbc (nI a) - xbc (nI (a &&& b))))) (rp p (q - 1)) (nI (a &&& b))) k = σ k := by
      intro k k1 k2
      rw [va_up_ne _ _ k2, va_up_ne _ _ k1]
    refine ⟨⟨?_, ?_, ?_, ?_, ?_, ?_, ?_⟩, fun j j1 j2 => k10 j (by omega) (by omega), fun j j1 => by rw [k100, va_up_ne _ _ (by omega)]⟩
    · obtain ⟨c1, c2, c3, c4, c5, c6⟩ := x1
      rw [k100]
      unfold RSc
      rw [gg 552 (by omega) (by omega), gg 562 (by omega) (by omega), gg 564 (by omega) (by omega), gg 565 (by omega) (by omega)]
      refine ⟨c1, c2, c3, ?_, c5, c6⟩
      rw [va_up_self, va_up_ne _ _ (by omega), va_up_self, c4]
    · rw [k10 1 (by omega) (by omega), k102, k10 3 (by omega) (by omega), k10 4 (by omega) (by omega)]
      exact RCell_h x2 hab1 (fun j j1 j2 => gg j (by omega) j2) (va_up_self _ _ _) hrp
    · rw [k10 5 (by omega) (by omega)]
      exact RLk_c x3 (fun k hk hk2 => gg k (by omega) (by omega)) (fun _ _ => rfl)
    · rw [k10 6 (by omega) (by omega), k10 7 (by omega) (by omega)]
      exact RLd_c x4 (fun k hk hk2 => gg k (by omega) (by omega)) (fun _ _ => rfl)
    · rw [k10 11 (by omega) (by omega), k10 12 (by omega) (by omega), k10 13 (by omega) (by omega)]
      exact RWk_c x6 (fun k hk => gg _ (by omega) (by omega)) (fun _ _ => rfl) (fun _ _ => rfl)
    · exact RLn_c x7 (Nat.le_refl _) (fun k hk => gg k (by omega) (by omega)) (fun j hj hj2 => k10 j (by omega) (by omega))
    · rw [k10 46 (by omega) (by omega)]
      exact RSt_c x8 (fun k hk hk2 => gg k (by omega) (by omega)) (fun _ _ => rfl)
  · rw [if_neg hz]
    exact wp_f (nI_ne0 (by omega) (by omega)) (wp_s ⟨H, fun _ _ _ => rfl, fun _ _ => rfl⟩)
/-- a write goes on -/
theorem s_go1 {B d t : Nat} {v : xSt} {σ : Nat → Int32} (H : R0 B v σ) (hk : σ 581 = nI 1) (hk8 : v 8 0 = nI 1) (hd : v 8 5 = nI d) (hd2 : σ 583 = nI d) (ht : v 8 4 = nI t) (ht2 : σ 584 = nI t) (hdt : d < t) (ht1 : t < 20000000) : ∃ τ, (∀ w, m_X9_goesOn (va_up w 1 σ) = some (va_up w 1 τ)) ∧ τ 561 = σ 561 ∧ wp (x_go v) (fun r => r.1 = 1 ∧ R0 (B + 1) r.2 τ ∧ ∀ j, j < 9 → r.2 0 j = v 0 j) := by
  obtain ⟨h1, h2, h3, h4, h5, h6, h7, h8⟩ := id H
  have hloc : ∃ p n e, p < 256 ∧ v 8 1 = nI p ∧ σ 582 = nI p ∧ 1 ≤ n ∧ n ≤ 8 ∧ 1 ≤ e ∧ e ≤ 99 ∧ t = n * e ∧ v 8 3 = nI e ∧ σ 585 = nI e ∧ ∀ i, i < n → xvf (v 9 1) (v 10) (nI i) = σ (590 + i) ∧ ∃ a, a < 256 ∧ σ (590 + i) = nI a := by
    rcases h5.2 with h | ⟨k, d', t', p, a1, a2, a3, a4, a5, a6, a7, a8, a9, a10, a11, a12, a13, a14, a15, a16, a17⟩
    · rw [hk] at h; exact absurd h.1 (by decide)
    · obtain rfl : k = 1 := (nI_eq (by omega) (by omega)).mp (a3.symm.trans hk)
      obtain rfl : t' = t := (nI_eq (by omega) (by omega)).mp (a9.symm.trans ht)
      obtain ⟨b1, n, e, b2, b3, b4, b5, b6, b7, b8, b9⟩ := a15 rfl
      exact ⟨p, n, e, b1, a11, a12, b2, b3, b4, b5, b6, b7, b8, b9⟩
  obtain ⟨p, n, e, l1, l2, l3, n1, n2, e1, e2, te, l4, l5, l6⟩ := hloc
  have hte : n * e ≤ 8 * 99 := Nat.mul_le_mul n2 e2
  obtain ⟨q, hq⟩ : ∃ q, (d + 1) / e = q := ⟨_, rfl⟩
  obtain ⟨m, hm⟩ : ∃ m, (d + 1) % e = m := ⟨_, rfl⟩
  have hqn : q ≤ n := by
    rw [← hq]
    exact Nat.div_le_of_le_mul (by rw [Nat.mul_comm e n]; omega)
  obtain ⟨b0, b, hb1, hb⟩ := l6 (q - 1) (by omega)
  obtain ⟨c0, a, ha1, ha⟩ := h2.1 (rp p (q - 1)) (by unfold rp; omega)
  have hrp : rp p (q - 1) < 256 := by unfold rp; omega
  have hab1 : a &&& b < 256 := Nat.and_lt_two_pow (n := 8) _ hb1
  obtain ⟨ρ, hρ⟩ : ∃ ρ, ρ = (if m = 0 then va_up (va_up (va_up σ 583 (nI (d + 1))) 563 ((va_up σ 583 (nI (d + 1))) 563 + (xbc (nI a) - xbc (nI (a &&& b))))) (rp p (q - 1)) (nI (a &&& b)) else va_up σ 583 (nI (d + 1))) := ⟨_, rfl⟩
  have rk : ∀ k, 563 < k → k < 797 → ρ k = va_up σ 583 (nI (d + 1)) k := by
    intro k k1 k2
    rw [hρ]
    split
    · rw [va_up_ne _ _ (by omega), va_up_ne _ _ (by omega)]
    · rfl
  have rk2 : ∀ k, k = 561 ∨ k = 562 → ρ k = va_up σ 583 (nI (d + 1)) k := by
    intro k k1
    rw [hρ]
    split
    · rw [va_up_ne _ _ (by omega), va_up_ne _ _ (by omega)]
    · rfl
  have rl : ∀ w : xSt, m_X9_writesOn (va_up w 1 (va_up σ 583 (nI (d + 1)))) = some (va_up w 1 (va_up ρ 562 (σ 562 + (if d + 1 = t then nI 1 else nI 0)))) := by
    intro w
    have := r_writesOn (w := w) (σ := va_up σ 583 (nI (d + 1))) (d := d + 1) (e := e) (t := t) (c := p) (a := a) (b := b) (q := q) (m := m) (va_up_self _ _ _) (by rw [va_up_ne _ _ (by omega)]; exact l5) (by rw [va_up_ne _ _ (by omega)]; exact ht2) (by omega) (by omega) (by omega) (by omega) (by omega) (by rw [va_up_ne _ _ (by omega)]; exact l3) l1 hq hm (by omega) (by rw [va_up_ne _ _ (by omega)]; exact ha) ha1 (by rw [va_up_ne _ _ (by omega)]; exact hb) hb1
    rw [← hρ, va_up_ne (k := 583) (j := 562) _ _ (by omega)] at this
    exact this
  obtain ⟨v11, e11⟩ : ∃ v11, v11 = st2 v 8 5 ((v 8 5) + (1 : Int32)) := ⟨_, rfl⟩
  have g8 : v11 8 = va_up (v 8) 5 (nI (d + 1)) := by
    rw [e11, q_ss, hd, nI_1]
  have gv : ∀ j, j ≠ 8 → v11 j = v j := fun j hj => by rw [e11]; exact q_sn hj
  have hx : x_go v = ob (m_X6_goOnWriting v11) (fun r27 => x_end r27) := by
    unfold x_go x_end
    simp only [q_lt]
    rw [← e11]
    have e0 : v11 8 0 = nI 1 := by rw [g8, va_up_ne _ _ (by omega), hk8]
    rw [e0, if_pos (by decide)]
  have HX := R0x_of (v' := v11) (τ := va_up σ 583 (nI (d + 1))) H (fun j j1 j2 j3 j4 => gv j j2) (fun k hk => va_up_ne _ _ (by omega))
  have HG := s_goOnW (i := 0) (p := p) (e := e) (d := d + 1) (q := q) (m := m) (a := a) (b := b) HX (by rw [g8, va_up_ne _ _ (by omega)]; exact l4) (by omega) (by omega) (by rw [g8, va_up_self]) (by omega) (by omega) (by rw [g8, va_up_ne _ _ (by omega)]; exact l2) l1 hq hm (by omega) (by rw [va_up_ne _ _ (by omega)]; exact ha) ha1 (by rw [gv 9 (by omega), gv 10 (by omega), b0]; exact hb) hb1
  rw [← hρ] at HG
  obtain ⟨v12, hv12, HR, y8, y0⟩ := HG
  have z8 : v12 8 = va_up (v 8) 5 (nI (d + 1)) := by rw [y8 8 (by omega) (by omega), g8]
  by_cases hl : d + 1 = t
  · refine ⟨fl (va_up ρ 562 (σ 562 + nI 1)) 581 18 (fun _ => nI 0), fun w => ?_, ?_, ?_⟩
    · have := r_goesOn (w := w) (τ := va_up ρ 562 (σ 562 + nI 1)) hk (by omega) hd2 (by omega) ht1 (by rw [if_pos (by decide), rl w, if_pos hl]) (by rw [va_up_ne _ _ (by omega), rk _ (by omega) (by omega), va_up_self]) (by rw [va_up_ne _ _ (by omega), rk _ (by omega) (by omega), va_up_ne _ _ (by omega)]; exact ht2)
      rw [if_pos hl] at this
      exact this
    · rw [fl_o (by omega), va_up_ne _ _ (by omega), rk2 _ (by omega), va_up_ne _ _ (by omega)]
    · rw [hx, hv12]
      simp only [q_ob]
      rw [x_end1 (d := d + 1) (t := t) (by rw [z8, va_up_self]) (by rw [z8, va_up_ne _ _ (by omega), ht]) hl ht1]
      unfold m_X6_endWork
      refine wp_o ?_
      refine wp_n (fun j2 ej => ?_)
      refine wp_t (by rw [z8, va_up_ne _ _ (by omega), hk8]; decide) (wp_n (fun v15 e15 => ?_))
      have k15 : ∀ j, j ≠ 0 → v15 j = v12 j := by
        intro j hj
        rw [e15, q_sn hj]
      have k0 : v15 0 = va_up (v12 0) 9 (v12 0 9 + 1) := by rw [e15, q_ss]
      have HX2 : R0x B v15 (va_up ρ 562 (σ 562 + nI 1)) := by
        obtain ⟨x1, x2, x3, x4, x6, x7, x8⟩ := HR
        unfold R0x
        rw [k15 1 (by omega), k15 2 (by omega), k15 3 (by omega), k15 4 (by omega), k15 5 (by omega), k15 6 (by omega), k15 7 (by omega), k15 11 (by omega), k15 12 (by omega), k15 13 (by omega), k15 46 (by omega), k0]
        have gg : ∀ k, k ≠ 562 → (va_up ρ 562 (σ 562 + nI 1)) k = ρ k := fun k k1 => va_up_ne _ _ k1
        refine ⟨?_, RCell_c x2 (fun k hk => gg k (by omega)), RLk_c x3 (fun k hk hk2 => gg k (by omega)) (fun _ _ => rfl), RLd_c x4 (fun k hk hk2 => gg k (by omega)) (fun _ _ => rfl), RWk_c x6 (fun k hk => gg _ (by omega)) (fun _ _ => rfl) (fun _ _ => rfl), RLn_c x7 (Nat.le_refl _) (fun k hk => gg k (by omega)) (fun j hj hj2 => k15 j (by omega)), RSt_c x8 (fun k hk hk2 => gg k (by omega)) (fun _ _ => rfl)⟩
        obtain ⟨c1, c2, c3, c4, c5, c6⟩ := x1
        unfold RSc
        rw [gg 552 (by omega), gg 563 (by omega), gg 564 (by omega), gg 565 (by omega)]
        refine ⟨c1, c2, ?_, c4, c5, c6⟩
        rw [va_up_self, va_up_self, c3, rk2 _ (by omega), va_up_ne _ _ (by omega)]
        rfl
      rw [ej]
      refine wp_m (s_endWk HX2) (fun v' hv => wp_s ⟨rfl, R0_b hv.1 (by omega), fun j hj => ?_⟩)
      dsimp only
      rw [hv.2, k0, va_up_ne _ _ (by omega), y0 j (by omega), gv 0 (by omega)]
  · have e562 : va_up ρ 562 (σ 562 + nI 0) = ρ := by
      have : σ 562 + nI 0 = ρ 562 := by
        rw [rk2 _ (by omega), va_up_ne _ _ (by omega)]
        exact Int32.add_zero _
      rw [this]
      exact va_up_id
    refine ⟨ρ, fun w => ?_, ?_, ?_⟩
    · have := r_goesOn (w := w) (τ := ρ) hk (by omega) hd2 (by omega) ht1 (by rw [if_pos (by decide), rl w, if_neg hl, e562]) (by rw [rk _ (by omega) (by omega), va_up_self]) (by rw [rk _ (by omega) (by omega), va_up_ne _ _ (by omega)]; exact ht2)
      rw [if_neg hl] at this
      exact this
    · rw [rk2 _ (by omega), va_up_ne _ _ (by omega)]
    · rw [hx, hv12]
      simp only [q_ob]
      rw [x_end0 (d := d + 1) (t := t) (by rw [z8, va_up_self]) (by rw [z8, va_up_ne _ _ (by omega), ht]) (by omega) ht1]
      refine wp_s ⟨rfl, R0_b (R0x_to HR (fun _ _ _ _ _ => rfl) (fun _ _ => rfl) ?_) (by omega), fun j hj => by dsimp only; rw [y0 j (by omega), gv 0 (by omega)]⟩
      dsimp only
      rw [z8, y8 9 (by omega) (by omega), y8 10 (by omega) (by omega), gv 9 (by omega), gv 10 (by omega)]
      exact RWk_d (o := v 8) (r := v 10) h5 hk (by omega) (by omega) hd (by omega) ht ht1 (by omega) (fun k hk hk2 => by rw [rk _ (by omega) (by omega), va_up_ne _ _ (by omega)]) (by rw [rk _ (by omega) (by omega), va_up_self]) (fun k hk hk2 => va_up_ne _ _ hk2) (va_up_self _ _ _) (fun _ _ => rfl)
