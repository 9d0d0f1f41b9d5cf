/-! TICKS -/
def IG (B : Nat) (σ τ : Nat → Int32) : Prop := IC τ ∧ IS τ ∧ IN B τ ∧ IZ τ ∧ τ 561 = σ 561 ∧ ∀ f, σ 563 = nI f → ∃ z, z ≤ 64 ∧ τ 563 = nI (f + z)
theorem IG_c {B : Nat} {σ τ ρ : Nat → Int32} (H : IG B σ τ) (g : ∀ k, k < 512 ∨ k = 561 ∨ k = 563 ∨ k = 566 ∨ k = 580 ∨ 617 ≤ k → ρ k = τ k) : IG B σ ρ :=
  ⟨IC_c H.1 (fun k hk => g k (by omega)), IS_c H.2.1 (fun k hk => g k (by omega)), IN_c H.2.2.1 (fun k hk => g k (by omega)), IZ_c H.2.2.2.1 (fun k hk => g k (by omega)), by rw [g 561 (by omega)]; exact H.2.2.2.2.1, by rw [g 563 (by omega)]; exact H.2.2.2.2.2⟩
theorem IG_0 {B : Nat} {σ : Nat → Int32} (H : IV B σ) : IG B σ σ := ⟨H.1, H.2.1, H.2.2.1, H.2.2.2.2, rfl, fun f hf => ⟨0, by omega, hf⟩⟩
theorem i_begin {B n r : Nat} {v : xSt} {σ : Nat → Int32} (H : R0 B v σ) (hI : IV B σ) (hn : σ 580 = nI n) (hn1 : n ≤ 10) (hr : r < n) : ∃ τ, (∀ w, m_X9_beginsOrder (va_up w 1 σ) (nI r) = some (va_up w 1 τ)) ∧ IV B τ ∧ τ 561 = σ 561 ∧ τ 563 = σ 563 := by
  obtain ⟨h1, h2, h3, h4, h5, h6, h7, h8⟩ := id H
  obtain ⟨n', q, π, a1, a2, a3, a4, a5, a6, a7, a8, a9⟩ := id h7
  obtain rfl : n' = n := (nI_eq (by omega) (by omega)).mp (a3.symm.trans hn)
  obtain ⟨⟨num, c1, c2, c3⟩, ⟨k, p, m, d1, d2, d3, d4, d5, d6, d7, d8, d9, d10⟩, ⟨u, f1, f2, f3⟩, f4⟩ := a8 r hr
  rcases (show k = 0 ∨ k = 1 by omega) with rfl | rfl
  · obtain ⟨g1, e, g2, g3, g4⟩ := h8 0 (by omega)
    obtain ⟨z1, z2, z3⟩ := id d8
    exact ⟨_, fun w => r_beginsOrder0 hr hn hn1 d3 d5 (d6 rfl) d9 (d10 rfl) z2 g4, IV_rM (IV_c hI (fun k hk => bW_o (by omega))) (by rw [bW_o (by omega)]; exact hn) hn1 hr, by rw [rM_o (by omega) (by omega), bW_o (by omega)], by rw [rM_o (by omega) (by omega), bW_o (by omega)]⟩
  · exact ⟨_, fun w => r_beginsOrder1 hr hn hn1 d3 d5 (d7 rfl), IV_rM (IV_c hI (fun k hk => bE_o (by omega))) (by rw [bE_o (by omega)]; exact hn) hn1 hr, by rw [rM_o (by omega) (by omega), bE_o (by omega)], by rw [rM_o (by omega) (by omega), bE_o (by omega)]⟩
theorem i_acts {B : Nat} {v : xSt} {σ : Nat → Int32} (H : R0 B v σ) (hI : IV B σ) : ∃ τ, (∀ w, m_X9_acts (va_up w 1 σ) = some (va_up w 1 τ)) ∧ IV B τ ∧ τ 561 = σ 561 ∧ τ 563 = σ 563 := by
  obtain ⟨h1, h2, h3, h4, h5, h6, h7, h8⟩ := id H
  obtain ⟨n, q, π, a1, a2, a3, a4, a5, a6, a7, a8, a9⟩ := id h7
  have u0 : ∀ w : xSt, m_X9_under (va_up w 1 σ) 0 = some (σ 581) := fun w => r_under (j := 0) (by omega)
  have u1 : ∀ w : xSt, m_X9_under (va_up w 1 σ) 1 = some (σ 582) := fun w => r_under (j := 1) (by omega)
  have u5 : ∀ w : xSt, m_X9_under (va_up w 1 σ) 5 = some (σ 586) := fun w => r_under (j := 5) (by omega)
  have p1 : ∀ w : xSt, m_X9_apart (va_up w 1 σ) 1 = some (σ 600) := fun w => r_apart (j := 1) (by omega)
  have p5 : ∀ w : xSt, m_X9_apart (va_up w 1 σ) 5 = some (σ 604) := fun w => r_apart (j := 5) (by omega)
  have p6 : ∀ w : xSt, m_X9_apart (va_up w 1 σ) 6 = some (σ 605) := fun w => r_apart (j := 6) (by omega)
  obtain ⟨y, y1, y2, y3⟩ := RWk_7 h6
  have ha : (σ 599 = nI 0 ∧ v 11 0 = 0) ∨ ∃ k, 1 ≤ k ∧ k ≤ 3 ∧ σ 599 = nI k ∧ v 11 0 = nI k ∧ v 11 1 = σ 600 ∧ v 11 6 = σ 604 := by
    rcases h6.2 with h | ⟨k, d, t, p, h⟩
    · exact Or.inl ⟨h.1, h.2.1⟩
    · obtain ⟨b1, b2, b3, b4, b5, b6, b7, b8, b9, b10, b11, b12, b13, b14⟩ := h
      exact Or.inr ⟨k, b1, b2, b3, b4, by rw [b11, ← b12], b13⟩
  rcases h5.2 with hu | ⟨k, d, t, p, b1, b2, b3, b4, b5, b6, b7, b8, b9, b10, b11, b12, b13, b14⟩
  · obtain ⟨e1, e2, -⟩ := hu
    have bz : ∀ w : xSt, m_X9_isBusy (va_up w 1 σ) = some 0 := fun w => r_busy0 e1
    rcases ha with ⟨g1, g2⟩ | ⟨k, g1, g2, g3, g4, g5, g6⟩
    · have az : ∀ w : xSt, m_X9_isAside (va_up w 1 σ) = some 0 := fun w => r_aside0 g1
      obtain ⟨z, hz, hf⟩ := s_foremost H a3 a1
      have rf : ∀ w : xSt, m_X9_foremost (va_up w 1 σ) = some z := fun w => r_foremost_e a3 a1 hf
      rcases FD_z hf a1 with hz1 | ⟨r, hr, hz1, hz2⟩
      · refine ⟨σ, fun w => ?_, hI, rfl, rfl⟩
        unfold m_X9_acts
        simp only [u0, q_ob, q_lt, e1, bz, az, rf]
        rw [if_neg (by decide), if_pos (by decide), if_pos (by decide), if_pos (by decide), if_pos (by decide), if_pos (by decide), if_pos hz1]
      · obtain ⟨τ, t1, t2, t3, t4⟩ := i_begin H hI a3 a1 hr
        refine ⟨τ, fun w => ?_, t2, t3, t4⟩
        unfold m_X9_acts
        simp only [u0, q_ob, q_lt, e1, bz, az, rf]
        rw [if_neg (by decide), if_pos (by decide), if_pos (by decide), if_pos (by decide), if_pos (by decide), if_pos (by decide), if_neg hz2, hz1, t1 w]
        rfl
    · have az : ∀ w : xSt, m_X9_isAside (va_up w 1 σ) = some 1 := fun w => r_aside1 g3 (by omega) g2
      obtain ⟨z, hz, hf⟩ := s_press11 H a3 a1
      rw [g5, g6] at hf
      have rf : ∀ w : xSt, m_X9_presses (va_up w 1 σ) (σ 600) (σ 604) = some z := fun w => r_presses_e a3 a1 hf
      rcases (show y = 0 ∨ y = 1 by omega) with rfl | rfl
      · refine ⟨σ, fun w => ?_, hI, rfl, rfl⟩
        unfold m_X9_acts
        simp only [u0, q_ob, q_lt, e1, bz, az, p6]
        rw [if_neg (by decide), if_pos (by decide), if_pos (by decide), if_pos (by decide), if_neg (by decide), if_pos (show σ 605 = 0 from y3)]
      · have yn' : ¬ σ 605 = 0 := by rw [show σ 605 = nI 1 from y3]; decide
        rcases FD_z hf a1 with hz1 | ⟨r, hr, hz1, hz2⟩
        · refine ⟨tB σ, fun w => ?_, IV_c hI (fun k hk => tB_o (by omega)), tB_o (by omega), tB_o (by omega)⟩
          unfold m_X9_acts
          simp only [u0, q_ob, q_lt, e1, bz, az, p6, p1, p5, rf]
          rw [if_neg (by decide), if_pos (by decide), if_pos (by decide), if_pos (by decide), if_neg (by decide), if_neg yn', if_neg (by decide), if_pos hz1, r_takesBack]
          rfl
        · obtain ⟨τ, t1, t2, t3, t4⟩ := i_begin H hI a3 a1 hr
          refine ⟨τ, fun w => ?_, t2, t3, t4⟩
          unfold m_X9_acts
          simp only [u0, q_ob, q_lt, e1, bz, az, p6, p1, p5, rf]
          rw [if_neg (by decide), if_pos (by decide), if_pos (by decide), if_pos (by decide), if_neg (by decide), if_neg yn', if_neg (by decide), if_neg hz2, hz1, t1 w]
          rfl
  · have bz : ∀ w : xSt, m_X9_isBusy (va_up w 1 σ) = some 1 := fun w => r_busy1 b3 (by omega) b2
    by_cases ck2 : k = 2
    · by_cases cu : v 8 6 = -1
      · refine ⟨σ, fun w => ?_, hI, rfl, rfl⟩
        unfold m_X9_acts
        simp only [u0, u5, q_ob, q_lt, b3, bz]
        rw [if_pos (by rw [ck2]; rfl), if_pos (by rw [← b13]; exact cu), if_pos (by decide), if_pos (by decide), if_neg (by decide)]
      · rcases ha with ⟨g1, g2⟩ | ⟨k', g1, g2, g3, g4, g5, g6⟩
        · have az : ∀ w : xSt, m_X9_isAside (va_up w 1 σ) = some 0 := fun w => r_aside0 g1
          obtain ⟨z, hz, hf⟩ := s_press8 H a3 a1
          rw [b13, show v 8 1 = σ 582 by rw [b11, ← b12]] at hf
          have rf : ∀ w : xSt, m_X9_presses (va_up w 1 σ) (σ 582) (σ 586) = some z := fun w => r_presses_e a3 a1 hf
          rcases FD_z hf a1 with hz1 | ⟨r, hr, hz1, hz2⟩
          · refine ⟨σ, fun w => ?_, hI, rfl, rfl⟩
            unfold m_X9_acts
            simp only [u0, u1, u5, q_ob, q_lt, b3, bz, az, rf]
            rw [if_pos (by rw [ck2]; rfl), if_neg (by rw [← b13]; exact cu), if_pos (by decide), if_neg (by decide), if_pos hz1, if_neg (by decide)]
          · obtain ⟨v1, hv1, hR1, hv10⟩ := s_setAside (u := 1) H b3 b1 b2 (by omega)
            obtain ⟨τ, t1, t2, t3, t4⟩ := i_begin hR1 (IV_c hI (fun k hk => sA_o (by omega) (by omega))) (by rw [sA_o (by omega) (by omega)]; exact a3) a1 hr
            refine ⟨τ, fun w => ?_, t2, by rw [t3, sA_o (by omega) (by omega)], by rw [t4, sA_o (by omega) (by omega)]⟩
            unfold m_X9_acts
            simp only [u0, u1, u5, q_ob, q_lt, b3, bz, az, rf]
            rw [if_pos (by rw [ck2]; rfl), if_neg (by rw [← b13]; exact cu), if_pos (by decide), if_neg (by decide), if_neg hz2, r_setsAside]
            simp only [q_ob]
            rw [hz1, show (1 : Int32) = nI 1 from rfl, t1 w]
            rfl
        · have az : ∀ w : xSt, m_X9_isAside (va_up w 1 σ) = some 1 := fun w => r_aside1 g3 (by omega) g2
          refine ⟨σ, fun w => ?_, hI, rfl, rfl⟩
          unfold m_X9_acts
          simp only [u0, u1, u5, q_ob, q_lt, b3, bz, az]
          rw [if_pos (by rw [ck2]; rfl), if_neg (by rw [← b13]; exact cu), if_neg (by decide), if_pos (by decide), if_pos (by decide), if_neg (by decide)]
    · have ckn : ¬ nI k = 2 := fun e => ck2 ((nI_eq (by omega) (by omega)).mp e)
      refine ⟨σ, fun w => ?_, hI, rfl, rfl⟩
      unfold m_X9_acts
      simp only [u0, q_ob, q_lt, b3, bz]
      rw [if_neg ckn, if_pos (by decide), if_pos (by decide), if_neg (by decide)]
/-! a work goes on -/
theorem pp_m : ∀ a, a < 256 → ∀ b, b < 256 → pp (a &&& b) ≤ pp a := by decide +kernel
theorem nx (x : Int32) : ((255 : Int32) &&& (x ^^^ (-1))) &&& x = 0 := by
  apply Int32.toBitVec_inj.mp
  have e1 : (-1 : Int32).toBitVec = BitVec.allOnes 32 := by decide
  rw [Int32.toBitVec_and, Int32.toBitVec_and, Int32.toBitVec_xor, e1]
  refine BitVec.eq_of_getLsbD_eq (fun i hi => ?_)
  rw [BitVec.getLsbD_and, BitVec.getLsbD_and, BitVec.getLsbD_xor, BitVec.getLsbD_allOnes]
  cases x.toBitVec.getLsbD i <;> simp [hi]
theorem an_0 {a b s : Int32} (h : a &&& s = 0) : (a &&& b) &&& s = 0 := by
  rw [Int32.and_assoc, Int32.and_comm b s, ← Int32.and_assoc, h, Int32.zero_and]
theorem fB_n {σ : Nat → Int32} {a f : Nat} (h0 : σ 563 = nI f) : ∀ k, (∀ i, i < k → ∃ v, v < 256 ∧ σ (a + i) = nI v) → ∃ z, z ≤ 8 * k ∧ fB σ a k = nI (f + z) := by
  intro k
  induction k with
  | zero => exact fun _ => ⟨0, by omega, h0⟩
  | succ k ih =>
    intro h
    obtain ⟨z, z1, z2⟩ := ih (fun i hi => h i (by omega))
    obtain ⟨v, v1, v2⟩ := h k (by omega)
    refine ⟨z + pp v, ?_, ?_⟩
    · have := pp_8 v v1
      omega
    · show fB σ a k + (xbc (σ (a + k)) - xbc (nI 0)) = _
      rw [z2, v2, xbc_b v1, xbc_b (by omega), show pp 0 = 0 by decide, q_sub (by omega), nI_add]
      exact congrArg nI (by omega)
theorem IC_0 : ∀ x : Int32, nI 0 &&& x = 0 := fun x => by
  apply Int32.toBitVec_inj.mp
  rw [Int32.toBitVec_and, show (nI 0).toBitVec = 0#32 by decide]
  exact BitVec.zero_and
theorem i_go {B : Nat} {v : xSt} {σ : Nat → Int32} (H : R0 B v σ) (hB : B < 16000000) (hI : IV B σ) (hu : ¬ σ 581 = 0) : ∃ τ, (∀ w, m_X9_goesOn (va_up w 1 σ) = some (va_up w 1 τ)) ∧ IG B σ τ := by
  obtain ⟨h1, h2, h3, h4, h5, h6, h7, h8⟩ := id H
  rcases h5.2 with h | ⟨k, d, t, p, b1, b2, hk, b4, hdt, ht1, b7, hd2, b9, ht2, b11, hp, b13, b14, b15, b16, b17⟩
  · exact absurd h.1 hu
  have w583 : (va_up σ 583 (nI (d + 1))) 583 = nI (d + 1) := va_up_self _ _ _
  have w584 : (va_up σ 583 (nI (d + 1))) 584 = nI t := by rw [va_up_ne _ _ (by omega), ht2]
  have w582 : (va_up σ 583 (nI (d + 1))) 582 = nI p := by rw [va_up_ne _ _ (by omega), hp]
  have hI1 : IG B σ (va_up σ 583 (nI (d + 1))) := IG_c (IG_0 hI) (fun k hk => va_up_ne _ _ (by omega))
  have fin : ∀ τ, IG B σ τ → IG B σ (fl τ 581 18 (fun _ => nI 0)) := fun τ h => IG_c h (fun k hk => fl_o (by omega))
  rcases (show k = 1 ∨ k = 2 ∨ k = 3 by omega) with rfl | rfl | rfl
  · obtain ⟨l1, n, e, n1, n2, e1, e2, te, l4, l5, l6⟩ := b15 rfl
    have hte : n * e ≤ 8 * 99 := Nat.mul_le_mul n2 e2
    obtain ⟨q, hq⟩ : ∃ q, (d + 1) / e = q := ⟨_, rfl⟩
    obtain ⟨m, hm⟩ : ∃ m, (d + 1) % e = m := ⟨_, rfl⟩
    have hqn : q ≤ n := by
      rw [← hq]
      exact Nat.div_le_of_le_mul (by rw [Nat.mul_comm e n]; omega)
    obtain ⟨b0, b, hb1, hb⟩ := l6 (q - 1) (by omega)
    obtain ⟨c0, a, ha1, ha⟩ := h2.1 (rp p (q - 1)) (by unfold rp; omega)
    have hrp : rp p (q - 1) < 256 := by unfold rp; omega
    have hab1 : a &&& b < 256 := Nat.and_lt_two_pow (n := 8) _ hb1
    obtain ⟨ρ, hρ⟩ : ∃ ρ, ρ = (if m = 0 then va_up (va_up (va_up σ 583 (nI (d + 1))) 563 ((va_up σ 583 (nI (d + 1))) 563 + (xbc (nI a) - xbc (nI (a &&& b))))) (rp p (q - 1)) (nI (a &&& b)) else va_up σ 583 (nI (d + 1))) := ⟨_, rfl⟩
    have hρI : IG B σ ρ := by
      rw [hρ]
      by_cases hm0 : m = 0
      · rw [if_pos hm0]
        obtain ⟨i1, i2, i3, i8, i6, i7⟩ := hI1
        have pa := pp_m a ha1 b hb1
        have pa8 := pp_8 a ha1
        refine ⟨fun c hc => ?_, IS_c i2 (fun k hk => by rw [va_up_ne _ _ (by omega), va_up_ne _ _ (by omega)]), IN_c i3 (fun k hk => by rw [va_up_ne _ _ (by omega), va_up_ne _ _ (by omega)]), IZ_c i8 (fun k hk => by rw [va_up_ne _ _ (by omega), va_up_ne _ _ (by omega)]), ?_, fun f hf => ⟨pp a - pp (a &&& b), by omega, ?_⟩⟩
        · rw [va_up_ne (k := rp p (q - 1)) (j := 256 + c) _ _ (by omega), va_up_ne (k := 563) (j := 256 + c) _ _ (by omega)]
          by_cases hc2 : c = rp p (q - 1)
          · subst hc2
            rw [va_up_self, ← nI_and]
            refine an_0 ?_
            rw [← ha]
            have := i1 (rp p (q - 1)) hrp
            rw [va_up_ne (k := 583) (j := rp p (q - 1)) _ _ (by omega)] at this
            exact this
          · rw [va_up_ne _ _ hc2, va_up_ne _ _ (by omega)]
            exact i1 c hc
        · rw [va_up_ne _ _ (by omega), va_up_ne _ _ (by omega)]
          exact i6
        · rw [va_up_ne _ _ (by omega), va_up_self, va_up_ne _ _ (by omega), hf, xbc_b ha1, xbc_b hab1, q_sub pa, nI_add]
      · rw [if_neg hm0]
        exact hI1
    have rk : ∀ k, 563 < k → k < 797 → ρ k = va_up σ 583 (nI (d + 1)) k := by
      intro k k1 k2
      rw [hρ]
      split
      · rw [va_up_ne _ _ (by omega), va_up_ne _ _ (by omega)]
      · rfl
    have rl : ∀ w : xSt, m_X9_writesOn (va_up w 1 (va_up σ 583 (nI (d + 1)))) = some (va_up w 1 (va_up ρ 562 (σ 562 + (if d + 1 = t then nI 1 else nI 0)))) := by
      intro w
      have := r_writesOn (w := w) (σ := va_up σ 583 (nI (d + 1))) (d := d + 1) (e := e) (t := t) (c := p) (a := a) (b := b) (q := q) (m := m) (va_up_self _ _ _) (by rw [va_up_ne _ _ (by omega)]; exact l5) (by rw [va_up_ne _ _ (by omega)]; exact ht2) (by omega) (by omega) (by omega) (by omega) (by omega) w582 l1 hq hm (by omega) (by rw [va_up_ne _ _ (by omega)]; exact ha) ha1 (by rw [va_up_ne _ _ (by omega)]; exact hb) hb1
      rw [← hρ, va_up_ne (k := 583) (j := 562) _ _ (by omega)] at this
      exact this
    have h5 : IG B σ (va_up ρ 562 (σ 562 + (if d + 1 = t then nI 1 else nI 0))) := IG_c hρI (fun k hk => va_up_ne _ _ (by omega))
    have y1 : (va_up ρ 562 (σ 562 + (if d + 1 = t then nI 1 else nI 0))) 583 = nI (d + 1) := by rw [va_up_ne _ _ (by omega), rk _ (by omega) (by omega), va_up_self]
    have y2 : (va_up ρ 562 (σ 562 + (if d + 1 = t then nI 1 else nI 0))) 584 = nI t := by rw [va_up_ne _ _ (by omega), rk _ (by omega) (by omega), va_up_ne _ _ (by omega)]; exact ht2
    obtain ⟨τ, hτ⟩ : ∃ τ, τ = va_up ρ 562 (σ 562 + (if d + 1 = t then nI 1 else nI 0)) := ⟨_, rfl⟩
    rw [← hτ] at h5 y1 y2
    refine ⟨_, fun w => r_goesOn (w := w) (τ := τ) hk (by omega) hd2 (by omega) ht1 (by rw [if_pos (by decide), rl w, hτ]) y1 y2, ?_⟩
    split
    · exact fin _ h5
    · exact h5
  · obtain ⟨p8, t5⟩ := b16 rfl
    by_cases h4d : d + 1 ≤ 4
    · have hcell : ∀ c, c < 256 → ∃ k, k < 256 ∧ (va_up σ 583 (nI (d + 1))) c = nI k := by
        intro c hc
        rw [va_up_ne _ _ (by omega)]
        exact (h2.1 c hc).2
      obtain ⟨g, hg⟩ : ∃ g, g = 32 * p + 8 * (d + 1 - 1) := ⟨_, rfl⟩
      have g1 : g + 8 ≤ 256 := by omega
      have rl : ∀ w : xSt, m_X9_erasesOn (va_up w 1 (va_up σ 583 (nI (d + 1)))) = some (va_up w 1 (eF (va_up σ 583 (nI (d + 1))) g 8)) := by
        intro w
        have := r_erasesOn0 (w := w) w582 p8 w583 w584 (by omega) h4d (by omega) ht1 hcell
        rw [← hg] at this
        exact this
      obtain ⟨σ1, hσ1⟩ : ∃ σ1, σ1 = va_up σ 583 (nI (d + 1)) := ⟨_, rfl⟩
      rw [← hσ1] at rl hcell w583 w584 w582 hI1
      have rk : ∀ k, k ≠ 563 → (k < g ∨ g + 8 ≤ k) → eF σ1 g 8 k = σ1 k := by
        intro k k1 k2
        unfold eF
        rw [va_up_ne _ _ k1, fl_o k2]
      refine ⟨_, fun w => r_goesOn (w := w) (τ := eF σ1 g 8) hk (by omega) hd2 (by omega) ht1 (by rw [if_neg (by decide), if_pos (by decide), ← hσ1, rl w]) (by rw [rk _ (by omega) (by omega), w583]) (by rw [rk _ (by omega) (by omega), w584]), ?_⟩
      have h5 : IG B σ (eF σ1 g 8) := by
        obtain ⟨i1, i2, i3, i8, i6, i7⟩ := hI1
        refine ⟨fun c hc => ?_, IS_c i2 (fun k hk => rk k (by omega) (by omega)), IN_c i3 (fun k hk => rk k (by omega) (by omega)), IZ_c i8 (fun k hk => rk k (by omega) (by omega)), ?_, fun f hf => ?_⟩
        · rw [rk (256 + c) (by omega) (by omega)]
          by_cases hc2 : g ≤ c ∧ c < g + 8
          · have : eF σ1 g 8 c = nI 0 := by
              unfold eF
              rw [va_up_ne _ _ (by omega), fl_i hc2.1 hc2.2]
            rw [this]
            exact IC_0 _
          · rw [rk c (by omega) (by omega)]
            exact i1 c hc
        · rw [rk 561 (by omega) (by omega)]
          exact i6
        · obtain ⟨z, z1, z2⟩ := fB_n (σ := σ1) (a := g) (f := f) (by rw [hσ1, va_up_ne _ _ (by omega)]; exact hf) 8 (fun i hi => hcell (g + i) (by omega))
          refine ⟨z, z1, ?_⟩
          unfold eF
          rw [va_up_self]
          exact z2
      split
      · exact fin _ h5
      · exact h5
    · obtain ⟨s1, b, s2, s3, s4⟩ := h8 2 (by omega)
      obtain ⟨z, z1, z2, z3⟩ := RCell_z h2 p8
      have rl : ∀ w : xSt, m_X9_erasesOn (va_up w 1 (va_up σ 583 (nI (d + 1)))) = some (va_up w 1 (if d + 1 = t then eE (va_up σ 583 (nI (d + 1))) p z b else va_up σ 583 (nI (d + 1)))) := by
        intro w
        exact r_erasesOn1 (w := w) w582 p8 w583 w584 (by omega) (by omega) ht1 (by rw [va_up_ne _ _ (by omega)]; exact z3) (by omega) (by rw [va_up_ne _ _ (by omega)]; exact s4) (by omega)
      obtain ⟨σ1, hσ1⟩ : ∃ σ1, σ1 = va_up σ 583 (nI (d + 1)) := ⟨_, rfl⟩
      rw [← hσ1] at rl w583 w584 w582 hI1
      have h5 : IG B σ (if d + 1 = t then eE σ1 p z b else σ1) := by
        split
        · obtain ⟨i1, i2, i3, i8, i6, i7⟩ := hI1
          have hz : ∀ j, 552 ≤ j → eE σ1 p z b j = σ1 j := fun j hj => eE_o p8 hj
          refine ⟨fun c hc => ?_, IS_c i2 (fun k hk => hz k (by omega)), IN_c i3 (fun k hk => hz k (by omega)), IZ_c i8 (fun k hk => hz k (by omega)), by rw [hz 561 (by omega)]; exact i6, by rw [hz 563 (by omega)]; exact i7⟩
          have s0 : eS σ1 p 32 c &&& eS σ1 p 32 (256 + c) = 0 := by
            rw [eS_c hc, eS_m p8 (by omega) (by omega)]
            split
            · exact nx _
            · exact i1 c hc
          unfold eE
          split
          · rw [va_up_ne _ _ (by omega), va_up_ne _ _ (by omega)]
            exact s0
          · obtain ⟨y, hy⟩ : ∃ y, y = 32 * p + (z + 1) % 32 := ⟨_, rfl⟩
            rw [← hy]
            have hy1 : y < 256 := by omega
            by_cases hc2 : c = y
            · subst hc2
              rw [va_up_self, va_up_ne _ _ (by omega), va_up_self]
              exact nx _
            · rw [va_up_ne (k := y) (j := c) _ _ hc2, va_up_ne (k := y) (j := 256 + c) _ _ (by omega), va_up_ne (k := 256 + y) (j := c) _ _ (by omega), va_up_ne (k := 256 + y) (j := 256 + c) _ _ (by omega), va_up_ne _ _ (by omega), va_up_ne _ _ (by omega)]
              exact s0
        · exact hI1
      refine ⟨_, fun w => r_goesOn (w := w) (τ := if d + 1 = t then eE σ1 p z b else σ1) hk (by omega) hd2 (by omega) ht1 (by rw [if_neg (by decide), if_pos (by decide), ← hσ1, rl w]) ?_ ?_, ?_⟩
      · split
        · rw [eE_o p8 (by omega), w583]
        · exact w583
      · split
        · rw [eE_o p8 (by omega), w584]
        · exact w584
      · obtain ⟨τ, hτ⟩ : ∃ τ, τ = (if d + 1 = t then eE σ1 p z b else σ1) := ⟨_, rfl⟩
        rw [← hτ] at h5 ⊢
        split
        · exact fin _ h5
        · exact h5
  · have rl : ∀ w : xSt, m_X9_locksOn (va_up w 1 (va_up σ 583 (nI (d + 1)))) = some (va_up w 1 (if d + 1 = t then va_up (va_up (va_up σ 583 (nI (d + 1))) 554 ((va_up σ 583 (nI (d + 1))) 582)) 555 ((va_up σ 583 (nI (d + 1))) 588) else va_up σ 583 (nI (d + 1)))) := by
      intro w
      exact r_locksOn (w := w) w583 w584 (by omega) (by omega)
    obtain ⟨τ, hτ⟩ : ∃ τ, τ = (if d + 1 = t then va_up (va_up (va_up σ 583 (nI (d + 1))) 554 ((va_up σ 583 (nI (d + 1))) 582)) 555 ((va_up σ 583 (nI (d + 1))) 588) else va_up σ 583 (nI (d + 1))) := ⟨_, rfl⟩
    have tk : ∀ k, k ≠ 554 → k ≠ 555 → τ k = va_up σ 583 (nI (d + 1)) k := by
      intro k k1 k2
      rw [hτ]
      split
      · rw [va_up_ne _ _ k2, va_up_ne _ _ k1]
      · rfl
    refine ⟨_, fun w => r_goesOn (w := w) (τ := τ) hk (by omega) hd2 (by omega) ht1 (by rw [if_neg (by decide), if_neg (by decide), rl w, hτ]) (by rw [tk _ (by omega) (by omega), w583]) (by rw [tk _ (by omega) (by omega), w584]), ?_⟩
    have h5 : IG B σ τ := IG_c hI1 (fun k hk => tk k (by omega) (by omega))
    split
    · exact fin _ h5
    · exact h5
/-- a tick -/
theorem i_tick {B : Nat} {v : xSt} {σ : Nat → Int32} (H : RR B v σ) (hB : B < 16000000) (hI : IV B σ) : ∃ b τ v', m_X6_tick v = some (b, v') ∧ (∀ w, m_X9_ticks (va_up w 1 σ) = some (b, va_up w 1 τ)) ∧ RR (B + 1) v' τ ∧ (b = 0 ∨ b = 1) ∧ τ 561 = σ 561 + nI 1 ∧ IV (B + 1) τ ∧ ∀ f, σ 563 = nI f → ∃ z, z ≤ 64 ∧ τ 563 = nI (f + z) := by
  obtain ⟨b, τ, v', h1, h2, h3, h4, h5, -⟩ := s_tick H hB
  obtain ⟨ρ, a1, a2, a3, a4⟩ := i_acts H.1 hI
  obtain ⟨ρ', t1, t2, tb, r, hr, v4, hv4, HR, hv0⟩ := s_acts H.1 hB
  obtain rfl : ρ' = ρ := by
    have e := (t1 (fun _ _ => 0)).symm.trans (a1 (fun _ _ => 0))
    have e2 := congrFun (Option.some.inj e) 1
    rw [va_up_self, va_up_self] at e2
    exact e2
  have key : IG B ρ' (va_up τ 561 (σ 561)) := by
    have h2' := h2 (fun _ _ => 0)
    unfold m_X9_ticks at h2'
    rw [a1, q_ob] at h2'
    have fin : ∀ (x : Nat → Int32) (bb : Int32), x 561 = σ 561 → lt (va_up (fun _ _ => 0) 1 x) (fun (v6 : xSt) => ck (¬ ((561 : Int32) < 0 ∨ 797 ≤ (561 : Int32).toNatClampNeg)) (ck (¬ ((561 : Int32) < 0 ∨ 797 ≤ (561 : Int32).toNatClampNeg)) (lt (st2 v6 1 (561 : Int32).toNatClampNeg ((v6 1 (561 : Int32).toNatClampNeg) + (1 : Int32))) (fun v10 => some (bb, v10))))) = some (b, va_up (fun _ _ => 0) 1 τ) → va_up τ 561 (σ 561) = x := by
      intro x bb hx e
      simp only [q_lt, kc561, kn561, q_st, va_up_self, hx] at e
      have e2 := congrFun (congrArg Prod.snd (Option.some.inj e)) 1
      dsimp only at e2
      rw [va_up_self, va_up_self] at e2
      rw [← e2]
      funext k
      by_cases hk : k = 561
      · subst hk
        rw [va_up_self, hx]
      · rw [va_up_ne _ _ hk, va_up_ne _ _ hk]
    by_cases c : ρ' 581 = 0
    · rw [r_busy0 c, q_ob] at h2'
      have e := fin ρ' 0 a3 h2'
      rw [e]
      exact IG_0 a2
    · obtain ⟨τ2, g1, g2⟩ := i_go HR hB a2 c
      have hb : m_X9_isBusy (va_up (fun _ _ => 0) 1 ρ') = some 1 := by
        rcases (s_und HR).2 with e | ⟨k, k1, k2, k3⟩
        · exact absurd e c
        · exact r_busy1 k3 (by omega) k2
      rw [hb, q_ob] at h2'
      simp only [g1, q_ob] at h2'
      have e := fin τ2 1 (g2.2.2.2.2.1.trans a3) h2'
      rw [e]
      exact g2
  obtain ⟨i1, i2, i3, i8, i6, i7⟩ := key
  have hfell : ∀ f, σ 563 = nI f → ∃ z, z ≤ 64 ∧ τ 563 = nI (f + z) := fun f hf => by
    obtain ⟨z, z1, z2⟩ := i7 f (a4.trans hf)
    rw [va_up_ne _ _ (by omega)] at z2
    exact ⟨z, z1, z2⟩
  refine ⟨b, τ, v', h1, h2, h3, h4, h5, ⟨IC_c i1 (fun k hk => (va_up_ne _ _ (by omega)).symm), IS_c i2 (fun k hk => (va_up_ne _ _ (by omega)).symm), IN_b (IN_c i3 (fun k hk => (va_up_ne _ _ (by omega)).symm)) (by omega), ?_, IZ_c i8 (fun k hk => (va_up_ne _ _ (by omega)).symm)⟩, hfell⟩
  obtain ⟨t, f, f1, f2, f3, f4⟩ := hI.2.2.2.1
  obtain ⟨z, z1, z2⟩ := hfell f f4
  exact ⟨t + 1, f + z, by omega, by omega, by rw [h5, f3, nI_add], z2⟩
