/-! THE CLASS AND THE TIE: an erase goes on; a tick -/
def fW (h : Nat → Int32) (a : Nat) : Nat → Int32
  | 0 => nI 0
  | k + 1 => fW h a k + (xbc (h (a + k)) - xbc (nI 0))
theorem fW_c {h g : Nat → Int32} {a k : Nat} (H : ∀ j, a ≤ j → j < a + k → h j = g j) : fW h a k = fW g a k := by
  induction k with
  | zero => rfl
  | succ k ih =>
    unfold fW
    rw [ih (fun j h1 h2 => H j h1 (by omega)), H (a + k) (by omega) (by omega)]
theorem fB_w {σ : Nat → Int32} {a : Nat} (k : Nat) : fB σ a k = σ 563 + fW σ a k := by
  induction k with
  | zero =>
    unfold fB fW
    exact (Int32.add_zero _).symm
  | succ k ih =>
    unfold fB fW
    rw [ih, Int32.add_assoc]
theorem e_fallW {c : xSt} {g : Nat} (hg : g < 32) (hc : ∀ i, i < 256 → ∃ k, k < 256 ∧ c 1 i = nI k) : m_X0_fallWholly c (nI g) = some (fW (c 1) (g * 8) 8, va_up c 1 (fl (c 1) (g * 8) 8 (fun _ => nI 0))) := by
  unfold m_X0_fallWholly
  refine lpf_r (fun k => (fW (c 1) (g * 8) k, nI k, va_up c 1 (fl (c 1) (g * 8) k (fun _ => nI 0)))) 8 (xFg (by omega)) (by simp only [fl_0, va_up_id]; rfl) (fun k rec hk => ?_) (fun rec => ?_)
  · obtain ⟨a, ha, ea⟩ := hc (g * 8 + k) (by omega)
    have e1 := e_fall (c := va_up c 1 (fl (c 1) (g * 8) k (fun _ => nI 0))) (p := g * 8 + k) (a := a) (b := 0) (by omega) (by rw [va_up_self, fl_o (by omega)]; exact ea)
    rw [Nat.and_zero, va_up_self, bx_uu, fl_s rfl rfl, ← ea] at e1
    simp only [q_u3, li, pk_mul, nI_add, e1, q_ob, q_lt]
    rw [if_neg (nI_ge hk (by omega))]
    rfl
  · simp only [q_u3]
    rw [if_pos (show (8 : Int32) ≤ nI 8 by decide)]
theorem RCell_f {B a n : Nat} {u : Int32} {h t e σ τ : Nat → Int32} (H : RCell B u h t e σ) (ha : a + n ≤ 256) (g : ∀ j, j < 552 → (j < a ∨ a + n ≤ j) → τ j = σ j) (gc : ∀ j, a ≤ j → j < a + n → τ j = nI 0) : RCell B u (fl h a n (fun _ => nI 0)) t e τ := by
  obtain ⟨h1, h2, h3, z, h4, h5⟩ := H
  refine ⟨fun j hj => ?_, fun j hj => ?_, fun p hp => ?_, z, fun s hs => ?_, h5⟩
  · by_cases c : a ≤ j ∧ j < a + n
    · rw [fl_i c.1 c.2, gc j c.1 c.2]
      exact ⟨rfl, 0, by omega, rfl⟩
    · rw [fl_o (by omega), g j (by omega) (by omega)]
      exact h1 j hj
  · rw [g _ (by omega) (by omega)]; exact h2 j hj
  · rw [g _ (by omega) (by omega)]; exact h3 p hp
  · rw [g _ (by omega) (by omega)]; exact h4 s hs
def xbt (z : Nat) : Int32 := (1 : Int32) <<< (nI ((z + 1) % 8) &&& 31)
def xwn (p z : Nat) : Nat := 32 * p + (z + 1) % 32
def hF (h t : Nat → Int32) (p : Nat) : Nat → Int32 := fl h (32 * p) 32 (fun k => (255 : Int32) &&& (t (32 * p + k) ^^^ (-1)))
def hE (h t : Nat → Int32) (p z b : Nat) : Nat → Int32 := if z + 1 ≤ b then hF h t p else va_up (hF h t p) (xwn p z) (hF h t p (xwn p z) &&& (xbt z ^^^ (-1)))
def tE (t : Nat → Int32) (p z b : Nat) : Nat → Int32 := if z + 1 ≤ b then t else va_up t (xwn p z) (t (xwn p z) ||| xbt z)
theorem e_endErase {c : xSt} {p z b : Nat} (hp : p < 8) (hz : c 3 p = nI z) (hz1 : z < 100000000) (hb : b < 100000) : wp (m_X0_endErase c (nI p) (nI b)) (fun r => r 0 = va_up (c 0) 3 (c 0 3 &&& (xpg (nI p) ^^^ (-1))) ∧ r 1 = hE (c 1) (c 2) p z b ∧ r 2 = tE (c 2) p z b ∧ r 3 = va_up (c 3) p (nI (z + 1))) := by
  have ep : nI p * 32 = nI (32 * p) := by rw [show (32 : Int32) = nI 32 from rfl, pk_mul, Nat.mul_comm]
  have ep2 : nI (32 * p) + 32 = nI (32 * p + 32) := nI_add _ 32
  have ez : nI z + 1 = nI (z + 1) := nI_1 z
  have e32 : nI (z + 1) - nI (z + 1) / 32 * 32 = nI ((z + 1) % 32) := xrem (d := 32) (by omega) (by omega) (by omega)
  have e8 : nI (z + 1) - nI (z + 1) / 8 * 8 = nI ((z + 1) % 8) := xrem (d := 8) (by omega) (by omega) (by omega)
  have hw : xwn p z < 256 := by unfold xwn; omega
  unfold m_X0_endErase
  rw [ep, ep2]
  have fls : ∀ k, va_up (fl (c 1) (32 * p) k (fun k => (255 : Int32) &&& (c 2 (32 * p + k) ^^^ (-1)))) (32 * p + k) ((255 : Int32) &&& (c 2 (32 * p + k) ^^^ (-1))) = fl (c 1) (32 * p) (k + 1) (fun k => (255 : Int32) &&& (c 2 (32 * p + k) ^^^ (-1))) := fun k => fl_s rfl rfl
  refine wp_lp (fun k s => s = (nI (32 * p + k), va_up c 1 (fl (c 1) (32 * p) k (fun k => (255 : Int32) &&& (c 2 (32 * p + k) ^^^ (-1)))))) 32 (xFg (by omega)) (by simp only [fl_0, va_up_id, Nat.add_zero]) (fun k s rec hk hI => Or.inl ⟨_, rfl, ?_⟩) (fun s rec hI => ?_)
  · subst hI
    simp only [q_u2, q_lt]
    rw [if_neg (nI_ge (by omega) (by omega)), va_up_self, va_up_ne _ _ (show (2 : Nat) ≠ 1 by omega), xat_n (by omega) (by omega), xpt_n (by omega) (by omega), bx_uu, fls, nI_1]
    rfl
  · subst hI
    simp only [q_u2]
    refine wp_t (nI_le (by omega) (by omega)) (wp_n (fun v5 e5 => ?_))
    have k5 : ∀ j, j ≠ 0 → j ≠ 1 → v5 j = c j := by
      intro j j0 j1
      rw [e5, q_sn j0, va_up_ne _ _ j1]
    have k51 : v5 1 = hF (c 1) (c 2) p := by
      rw [e5, q_sn (by omega), va_up_self]
      rfl
    have k50 : v5 0 = va_up (c 0) 3 (c 0 3 &&& (xpg (nI p) ^^^ (-1))) := by
      rw [e5, q_ss, va_up_ne _ _ (show (0 : Nat) ≠ 1 by omega)]
    rw [k5 3 (by omega) (by omega), xat_n hp (by omega), hz, ez, xpt_n hp (by omega)]
    refine wp_n (fun v6 e6 => ?_)
    have k6 : ∀ j, j ≠ 3 → v6 j = v5 j := by
      intro j j3
      rw [e6, va_up_ne _ _ j3]
    have k63 : v6 3 = va_up (c 3) p (nI (z + 1)) := by rw [e6, va_up_self]
    by_cases hzb : z + 1 ≤ b
    · refine wp_t (nI_le hzb (by omega)) (wp_s ⟨?_, ?_, ?_, k63⟩)
      · rw [k6 0 (by omega), k50]
      · rw [k6 1 (by omega), k51]
        unfold hE
        rw [if_pos hzb]
      · rw [k6 2 (by omega), k5 2 (by omega) (by omega)]
        unfold tE
        rw [if_pos hzb]
    · refine wp_f (nI_ge (by omega) (by omega)) ?_
      rw [e32, e8, nI_add]
      refine wp_n (fun x8 ex8 => wp_n (fun x9 ex9 => ?_))
      have f8 : x8 = nI (xwn p z) := ex8
      have f9 : x9 = xbt z := ex9
      rw [f8, f9, k6 2 (by omega), k5 2 (by omega) (by omega), xat_n hw (by omega), xpt_n hw (by omega)]
      refine wp_n (fun v10 e10 => ?_)
      have k10 : ∀ j, j ≠ 2 → v10 j = v6 j := by
        intro j j3
        rw [e10, va_up_ne _ _ j3]
      have k102 : v10 2 = va_up (c 2) (xwn p z) (c 2 (xwn p z) ||| xbt z) := by rw [e10, va_up_self]
      rw [k10 1 (by omega), k6 1 (by omega), k51, xat_n hw (by omega), xpt_n hw (by omega)]
      refine wp_n (fun v11 e11 => wp_s ⟨?_, ?_, ?_, ?_⟩)
      · rw [e11, va_up_ne _ _ (by omega), k10 0 (by omega), k6 0 (by omega), k50]
      · rw [e11, va_up_self]
        unfold hE
        rw [if_neg hzb]
      · rw [e11, va_up_ne _ _ (by omega), k102]
        unfold tE
        rw [if_neg hzb]
      · rw [e11, va_up_ne _ _ (by omega), k10 3 (by omega), k63]
theorem x255 : ∀ a, a < 256 → (255 : Int32) &&& (nI a ^^^ (-1)) = nI (255 - a) := by decide +kernel
theorem xbt_n (z : Nat) : xbt z = nI (2 ^ ((z + 1) % 8)) := by
  have : ∀ j, j < 8 → (1 : Int32) <<< (nI j &&& 31) = nI (2 ^ j) := by decide +kernel
  exact this _ (Nat.mod_lt _ (by omega))
theorem nI_or (a b : Nat) : nI a ||| nI b = nI (a ||| b) := by
  apply Int32.toBitVec_inj.mp
  show BitVec.ofNat 32 a ||| BitVec.ofNat 32 b = BitVec.ofNat 32 (a ||| b)
  exact (BitVec.ofNat_or ..).symm
theorem x_dem {a j : Nat} (ha : a < 256) (hj : j < 8) : ((255 : Int32) &&& (nI a ^^^ (-1))) &&& (nI (2 ^ j) ^^^ (-1)) = (255 : Int32) &&& ((nI a ||| nI (2 ^ j)) ^^^ (-1)) := by
  have : ∀ j, j < 8 → ∀ a, a < 256 → ((255 : Int32) &&& (nI a ^^^ (-1))) &&& (nI (2 ^ j) ^^^ (-1)) = (255 : Int32) &&& ((nI a ||| nI (2 ^ j)) ^^^ (-1)) := by decide +kernel
  exact this j hj a ha
theorem xb_and (u m : Int32) (i : Nat) (hi : i < 32) : xb (u &&& (m ^^^ (-1))) i = if m.toBitVec.getLsbD i = true then 0 else xb u i := by
  have e1 : (-1 : Int32).toBitVec = BitVec.allOnes 32 := by decide
  unfold xb
  rw [Int32.toBitVec_and, Int32.toBitVec_xor, BitVec.getLsbD_and, BitVec.getLsbD_xor, e1, BitVec.getLsbD_allOnes]
  cases m.toBitVec.getLsbD i <;> cases u.toBitVec.getLsbD i <;> simp [hi]
theorem xpg_b : ∀ p, p < 8 → ∀ i, i < 32 → (xpg (nI p)).toBitVec.getLsbD i = decide (4 * p ≤ i ∧ i < 4 * p + 4) := by decide +kernel
theorem eS_c {σ : Nat → Int32} {s j : Nat} (hj : j < 256) : eS σ s 32 j = if 32 * s ≤ j ∧ j < 32 * s + 32 then (255 : Int32) &&& (σ (256 + j) ^^^ (-1)) else σ j := by
  unfold eS
  by_cases h : 32 * s ≤ j ∧ j < 32 * s + 32
  · rw [if_pos h, if_pos h]
  · rw [if_neg h, if_neg h, if_neg (by omega)]
theorem eS_m {σ : Nat → Int32} {s j : Nat} (hs : s < 8) (hj : 256 ≤ j) (hj2 : j < 512 ∨ 544 ≤ j) : eS σ s 32 j = σ j := by
  unfold eS
  rw [if_neg (by omega), if_neg (by omega)]
theorem eE_u {σ : Nat → Int32} {s z b j : Nat} (hs : s < 8) (hj : 512 ≤ j) (hj2 : j ≠ 544 + s) : eE σ s z b j = eS σ s 32 j := by
  unfold eE
  split
  · rw [va_up_ne _ _ hj2]
  · rw [va_up_ne _ _ (by omega), va_up_ne _ _ (by omega), va_up_ne _ _ hj2]
theorem eE_s {σ : Nat → Int32} {s z b : Nat} (hs : s < 8) : eE σ s z b (544 + s) = nI (z + 1) := by
  unfold eE
  split
  · rw [va_up_self]
  · rw [va_up_ne _ _ (by omega), va_up_ne _ _ (by omega), va_up_self]
theorem eE_o {σ : Nat → Int32} {s z b j : Nat} (hs : s < 8) (hj : 552 ≤ j) : eE σ s z b j = σ j := by
  rw [eE_u hs (by omega) (by omega), eS_m hs (by omega) (by omega)]
theorem z_up (z : Nat → Nat) (p : Nat) (hp : p < 8) : (va_up z p (z p + 1)) 0 + (va_up z p (z p + 1)) 1 + (va_up z p (z p + 1)) 2 + (va_up z p (z p + 1)) 3 + (va_up z p (z p + 1)) 4 + (va_up z p (z p + 1)) 5 + (va_up z p (z p + 1)) 6 + (va_up z p (z p + 1)) 7 = z 0 + z 1 + z 2 + z 3 + z 4 + z 5 + z 6 + z 7 + 1 := by
  rcases (show p = 0 ∨ p = 1 ∨ p = 2 ∨ p = 3 ∨ p = 4 ∨ p = 5 ∨ p = 6 ∨ p = 7 by omega) with rfl | rfl | rfl | rfl | rfl | rfl | rfl | rfl <;> simp (disch := omega) only [va_up_self, va_up_ne] <;> omega
theorem RCell_e {B p b : Nat} {u : Int32} {h t e σ : Nat → Int32} (H : RCell B u h t e σ) (hp : p < 8) : ∃ z, z ≤ B ∧ e p = nI z ∧ σ (544 + p) = nI z ∧ RCell (B + 1) (u &&& (xpg (nI p) ^^^ (-1))) (hE h t p z b) (tE t p z b) (va_up e p (nI (z + 1))) (eE σ p z b) := by
  obtain ⟨h1, h2, h3, z, h4, h5⟩ := id H
  obtain ⟨z0, q1, q2, q3⟩ := RCell_z H hp
  have hw : xwn p (z p) < 256 ∧ 32 * p ≤ xwn p (z p) ∧ xwn p (z p) < 32 * p + 32 := by unfold xwn; omega
  obtain ⟨aw, haw, eaw⟩ := (h2 (xwn p (z p)) hw.1).2
  have hbits : aw ||| 2 ^ ((z p + 1) % 8) < 256 := Nat.or_lt_two_pow (n := 8) haw (Nat.pow_lt_pow_right (by omega) (Nat.mod_lt _ (by omega)))
  have hFc : ∀ c, c < 256 → hF h t p c = eS σ p 32 c ∧ ∃ k, k < 256 ∧ eS σ p 32 c = nI k := by
    intro c hc
    rw [eS_c hc]
    unfold hF
    obtain ⟨a, ha, ea⟩ := (h2 c hc).2
    by_cases cc : 32 * p ≤ c ∧ c < 32 * p + 32
    · rw [fl_i cc.1 cc.2, if_pos cc, show 32 * p + (c - 32 * p) = c by omega, (h2 c hc).1, ea, x255 a ha]
      exact ⟨rfl, 255 - a, by omega, rfl⟩
    · rw [fl_o (by omega), if_neg cc]
      exact h1 c hc
  refine ⟨z p, ?_, (h4 p hp).1, (h4 p hp).2, fun c hc => ?_, fun c hc => ?_, fun i hi => ?_, va_up z p (z p + 1), fun s hs => ?_, ?_⟩
  · have e0 : nI z0 = nI (z p) := q2.symm.trans (h4 p hp).1
    rcases (show p = 0 ∨ p = 1 ∨ p = 2 ∨ p = 3 ∨ p = 4 ∨ p = 5 ∨ p = 6 ∨ p = 7 by omega) with rfl | rfl | rfl | rfl | rfl | rfl | rfl | rfl <;> omega
  · unfold hE eE
    by_cases hzb : z p + 1 ≤ b
    · rw [if_pos hzb, if_pos hzb, va_up_ne _ _ (by omega)]
      exact hFc c hc
    · rw [if_neg hzb, if_neg hzb]
      show va_up (hF h t p) (xwn p (z p)) _ c = va_up (va_up (va_up _ _ _) (256 + xwn p (z p)) _) (xwn p (z p)) ((255 : Int32) &&& ((σ (256 + xwn p (z p)) ||| xbt (z p)) ^^^ (-1))) c ∧ ∃ k, k < 256 ∧ va_up (va_up (va_up _ _ _) (256 + xwn p (z p)) _) (xwn p (z p)) ((255 : Int32) &&& ((σ (256 + xwn p (z p)) ||| xbt (z p)) ^^^ (-1))) c = nI k
      by_cases cw : c = xwn p (z p)
      · subst cw
        rw [va_up_self, va_up_self, (hFc _ hc).1, eS_c hc, if_pos hw.2, eaw, xbt_n, x_dem haw (Nat.mod_lt _ (by omega)), nI_or, x255 _ hbits]
        exact ⟨rfl, _, by omega, rfl⟩
      · rw [va_up_ne _ _ cw, va_up_ne _ _ cw, va_up_ne _ _ (by omega), va_up_ne _ _ (by omega)]
        exact hFc c hc
  · unfold tE eE
    by_cases hzb : z p + 1 ≤ b
    · rw [if_pos hzb, if_pos hzb, va_up_ne _ _ (by omega), eS_m hp (by omega) (by omega)]
      exact h2 c hc
    · rw [if_neg hzb, if_neg hzb]
      show va_up t (xwn p (z p)) _ c = va_up (va_up (va_up _ _ _) (256 + xwn p (z p)) (σ (256 + xwn p (z p)) ||| xbt (z p))) (xwn p (z p)) _ (256 + c) ∧ ∃ k, k < 256 ∧ va_up (va_up (va_up _ _ _) (256 + xwn p (z p)) (σ (256 + xwn p (z p)) ||| xbt (z p))) (xwn p (z p)) _ (256 + c) = nI k
      rw [va_up_ne (k := xwn p (z p)) (j := 256 + c) _ _ (by omega)]
      by_cases cw : c = xwn p (z p)
      · subst cw
        rw [va_up_self, va_up_self, (h2 _ hc).1, eaw, xbt_n, nI_or]
        exact ⟨rfl, _, hbits, rfl⟩
      · rw [va_up_ne _ _ cw, va_up_ne _ _ (by omega), va_up_ne _ _ (by omega), eS_m hp (by omega) (by omega)]
        exact h2 c hc
  · rw [eE_u hp (by omega) (by omega), xb_and _ _ _ hi, xpg_b p hp i hi]
    unfold eS
    rw [if_neg (by omega)]
    by_cases ci : 4 * p ≤ i ∧ i < 4 * p + 4
    · rw [if_pos (by omega), if_pos (by simp [ci])]
    · rw [if_neg (by omega), if_neg (by simp; omega)]
      exact h3 i hi
  · by_cases cs : s = p
    · subst cs
      rw [va_up_self, va_up_self, eE_s hp]
      exact ⟨rfl, rfl⟩
    · rw [va_up_ne _ _ cs, va_up_ne _ _ cs, eE_u hp (by omega) (by omega), eS_m hp (by omega) (by omega)]
      exact h4 s hs
  · rw [z_up z p hp]
    omega
