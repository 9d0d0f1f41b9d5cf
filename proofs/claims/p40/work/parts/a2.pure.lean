/-! WHAT HOLDS OF EVERY ARRAY beside the tie: stuck bits are 0, the line is in its order, numbers and counts -/
def IC (σ : Nat → Int32) : Prop := ∀ c, c < 256 → σ c &&& σ (256 + c) = 0
def so (σ : Nat → Int32) (r s : Nat) : Prop := σ (617 + 18 * s + 3) < σ (617 + 18 * r + 3) ∨ (σ (617 + 18 * r + 3) = σ (617 + 18 * s + 3) ∧ σ (617 + 18 * r) < σ (617 + 18 * s))
def IS (σ : Nat → Int32) : Prop := ∀ n, σ 580 = nI n → n ≤ 10 → ∀ r, r + 1 < n → so σ r (r + 1)
def IN (B : Nat) (σ : Nat → Int32) : Prop := ∃ n q, n ≤ 10 ∧ q ≤ B ∧ σ 580 = nI n ∧ σ 566 = nI q ∧ n ≤ q
def IF (B k : Nat) (σ : Nat → Int32) : Prop := ∃ t f, t ≤ B ∧ f ≤ 64 * t + k ∧ σ 561 = nI t ∧ σ 563 = nI f
def IZ (σ : Nat → Int32) : Prop := ∀ j, 797 ≤ j → σ j = 0
def IV (B : Nat) (σ : Nat → Int32) : Prop := IC σ ∧ IS σ ∧ IN B σ ∧ IF B 0 σ ∧ IZ σ
theorem IC_c {σ τ : Nat → Int32} (H : IC σ) (g : ∀ k, k < 512 → τ k = σ k) : IC τ := fun c hc => by rw [g c (by omega), g (256 + c) (by omega)]; exact H c hc
theorem so_c {σ τ : Nat → Int32} {r s : Nat} (hr : r < 10) (hs : s < 10) (H : so σ r s) (g : ∀ k, 617 ≤ k → k < 797 → τ k = σ k) : so τ r s := by
  unfold so
  rw [g (617 + 18 * s + 3) (by omega) (by omega), g (617 + 18 * r + 3) (by omega) (by omega), g (617 + 18 * r) (by omega) (by omega), g (617 + 18 * s) (by omega) (by omega)]
  exact H
theorem IS_c {σ τ : Nat → Int32} (H : IS σ) (g : ∀ k, k = 580 ∨ (617 ≤ k ∧ k < 797) → τ k = σ k) : IS τ := fun n hn hn1 r hr => by
  rw [g 580 (by omega)] at hn
  exact so_c (by omega) (by omega) (H n hn hn1 r hr) (fun k h1 h2 => g k (by omega))
theorem IN_c {B : Nat} {σ τ : Nat → Int32} (H : IN B σ) (g : ∀ k, k = 566 ∨ k = 580 → τ k = σ k) : IN B τ := by
  obtain ⟨n, q, h1, h2, h3, h4, h5⟩ := H
  exact ⟨n, q, h1, h2, by rw [g 580 (by omega)]; exact h3, by rw [g 566 (by omega)]; exact h4, h5⟩
theorem IN_b {B B' : Nat} {σ : Nat → Int32} (H : IN B σ) (hB : B ≤ B') : IN B' σ := by
  obtain ⟨n, q, h1, h2, h3⟩ := H
  exact ⟨n, q, h1, by omega, h3⟩
theorem IF_c {B k : Nat} {σ τ : Nat → Int32} (H : IF B k σ) (g : ∀ k, k = 561 ∨ k = 563 → τ k = σ k) : IF B k τ := by
  obtain ⟨t, f, h1, h2, h3, h4⟩ := H
  exact ⟨t, f, h1, h2, by rw [g 561 (by omega)]; exact h3, by rw [g 563 (by omega)]; exact h4⟩
theorem IF_b {B B' k : Nat} {σ : Nat → Int32} (H : IF B k σ) (hB : B ≤ B') : IF B' k σ := by
  obtain ⟨t, f, h1, h2, h3⟩ := H
  exact ⟨t, f, by omega, h2, h3⟩
theorem IZ_c {σ τ : Nat → Int32} (H : IZ σ) (g : ∀ k, 797 ≤ k → τ k = σ k) : IZ τ := fun j hj => by rw [g j hj]; exact H j hj
theorem IV_b {B B' : Nat} {σ : Nat → Int32} (H : IV B σ) (hB : B ≤ B') : IV B' σ := ⟨H.1, H.2.1, IN_b H.2.2.1 hB, IF_b H.2.2.2.1 hB, H.2.2.2.2⟩
theorem IV_c {B : Nat} {σ τ : Nat → Int32} (H : IV B σ) (g : ∀ k, k < 512 ∨ k = 561 ∨ k = 563 ∨ k = 566 ∨ k = 580 ∨ 617 ≤ k → τ k = σ k) : IV B τ :=
  ⟨IC_c H.1 (fun k hk => g k (by omega)), IS_c H.2.1 (fun k hk => g k (by omega)), IN_c H.2.2.1 (fun k hk => g k (by omega)), IF_c H.2.2.2.1 (fun k hk => g k (by omega)), IZ_c H.2.2.2.2 (fun k hk => g k (by omega))⟩
theorem IV_t {B : Nat} {σ : Nat → Int32} (H : IV B σ) : ∃ t, t ≤ B ∧ σ 561 = nI t := by
  obtain ⟨t, f, h1, h2, h3, h4⟩ := H.2.2.2.1
  exact ⟨t, h1, h3⟩
/-! saved states and the snapshot, as arrays -/
def svd (w : xSt) (i : Nat) : Nat → Int32 := fun j => if j < 797 then w 3 (797 * i + j) else 0
def kpt (w : xSt) : Nat → Int32 := fun j => if j < 797 then w 4 j else 0
def JJ (B : Nat) (w : xSt) : Prop := IV B (w 1) ∧ (∀ n, w 0 3 = nI n → n ≤ 6 → ∀ i, i < n → IV B (svd w i)) ∧ (w 0 5 = 1 → IV B (kpt w))
def J (B : Nat) (v w : xSt) : Prop := RBC B v w ∧ JJ B w
/-- nothing that undo() would restore has changed -/
def EQ (w w' : xSt) : Prop := w' 1 = w 1 ∧ w' 3 = w 3 ∧ w' 4 = w 4 ∧ w' 0 3 = w 0 3 ∧ w' 0 5 = w 0 5
/-- the state w was saved -/
def SV (w w' : xSt) : Prop := ∃ n n', n ≤ 6 ∧ w 0 3 = nI n ∧ n' = (if n = 6 then 5 else n) ∧ w' 0 3 = nI (n' + 1) ∧ w' 0 5 = w 0 5 ∧ w' 4 = w 4 ∧ (∀ k, k < 797 * n' → w' 3 k = w 3 (k + 797 * (n - n'))) ∧ ∀ k, k < 797 → w' 3 (797 * n' + k) = w 1 k
theorem EQ_r (w : xSt) : EQ w w := ⟨rfl, rfl, rfl, rfl, rfl⟩
theorem EQ_t {w w' w'' : xSt} (h : EQ w w') (g : EQ w' w'') : EQ w w'' := ⟨g.1.trans h.1, g.2.1.trans h.2.1, g.2.2.1.trans h.2.2.1, g.2.2.2.1.trans h.2.2.2.1, g.2.2.2.2.trans h.2.2.2.2⟩
theorem EQ_8 (w : xSt) (x : Int32) : EQ w (st2 w 0 8 x) := ⟨q_sn (by omega), q_sn (by omega), q_sn (by omega), by rw [q_ss, va_up_ne _ _ (by omega)], by rw [q_ss, va_up_ne _ _ (by omega)]⟩
theorem EQ_svd {w w' : xSt} (h : EQ w w') (i : Nat) : svd w' i = svd w i := by unfold svd; rw [h.2.1]
theorem EQ_kpt {w w' : xSt} (h : EQ w w') : kpt w' = kpt w := by unfold kpt; rw [h.2.2.1]
theorem JJ_b {B B' : Nat} {w : xSt} (H : JJ B w) (hB : B ≤ B') : JJ B' w := ⟨IV_b H.1 hB, fun n hn hn1 i hi => IV_b (H.2.1 n hn hn1 i hi) hB, fun h => IV_b (H.2.2 h) hB⟩
theorem J_b {B B' : Nat} {v w : xSt} (H : J B v w) (hB : B ≤ B') : J B' v w := ⟨RBC_b H.1 hB, JJ_b H.2 hB⟩
theorem JJ_e {B : Nat} {w w' : xSt} (H : JJ B w) (h : EQ w w') : JJ B w' := by
  obtain ⟨g1, g2, g3⟩ := H
  refine ⟨by rw [h.1]; exact g1, fun n hn hn1 i hi => ?_, fun h5 => ?_⟩
  · rw [EQ_svd h]
    exact g2 n (h.2.2.2.1.symm.trans hn) hn1 i hi
  · rw [EQ_kpt h]
    exact g3 (h.2.2.2.2.symm.trans h5)
theorem cut_1 {w : xSt} (H : IZ (w 1)) : (fun j => if j < 797 then w 1 j else 0) = w 1 := by
  funext j
  by_cases h : j < 797
  · rw [if_pos h]
  · rw [if_neg h, H j (by omega)]
/-- the saved states behind a save -/
theorem SV_s {w w' : xSt} (H : IZ (w 1)) (h : SV w w') : ∃ n n', n ≤ 6 ∧ w 0 3 = nI n ∧ n' ≤ n ∧ n' < 6 ∧ (n < 6 → n' = n) ∧ (n = 6 → n' = 5) ∧ w' 0 3 = nI (n' + 1) ∧ (∀ i, i < n' → svd w' i = svd w (i + (n - n'))) ∧ svd w' n' = w 1 := by
  obtain ⟨n, n', h1, h2, h3, h4, h5, h6, h7, h8⟩ := h
  have hn : n' ≤ n ∧ n' < 6 ∧ (n < 6 → n' = n) ∧ (n = 6 → n' = 5) := by
    by_cases c : n = 6
    · rw [if_pos c] at h3
      exact ⟨by omega, by omega, fun _ => by omega, fun _ => h3⟩
    · rw [if_neg c] at h3
      exact ⟨by omega, by omega, fun _ => h3, fun e => absurd e c⟩
  refine ⟨n, n', h1, h2, hn.1, hn.2.1, hn.2.2.1, hn.2.2.2, h4, fun i hi => ?_, ?_⟩
  · funext j
    unfold svd
    by_cases c : j < 797
    · rw [if_pos c, if_pos c, h7 _ (by omega)]
      exact congrArg (w 3) (by omega)
    · rw [if_neg c, if_neg c]
  · rw [← cut_1 H]
    funext j
    unfold svd
    by_cases c : j < 797
    · rw [if_pos c, if_pos c, h8 j c]
    · rw [if_neg c, if_neg c]
theorem SV_k {w w' : xSt} (h : SV w w') : w' 0 5 = w 0 5 ∧ kpt w' = kpt w := by
  obtain ⟨n, n', h1, h2, h3, h4, h5, h6, h7, h8⟩ := h
  exact ⟨h5, by unfold kpt; rw [h6]⟩
theorem JJ_p {B B' : Nat} {w w' : xSt} (H : JJ B w) (hB : B ≤ B') (h : SV w w') (g : IV B' (w' 1)) : JJ B' w' := by
  obtain ⟨n, n', h1, h2, h3, h4, h5, h6, h7, h8, h9⟩ := SV_s H.1.2.2.2.2 h
  obtain ⟨k1, k2⟩ := SV_k h
  refine ⟨g, fun m hm hm1 i hi => ?_, fun e => ?_⟩
  · obtain rfl : m = n' + 1 := (nI_eq (by omega) (by omega)).mp (hm.symm.trans h7)
    by_cases c : i < n'
    · rw [h8 i c]
      exact IV_b (H.2.1 n h2 h1 _ (by omega)) hB
    · obtain rfl : i = n' := by omega
      rw [h9]
      exact IV_b H.1 hB
  · rw [k2]
    exact IV_b (H.2.2 (k1.symm.trans e)) hB
theorem sv_e {B : Nat} {v w w0 : xSt} (H : RBC B v w) (h0 : w0 0 3 = w 0 3) (h05 : w0 0 5 = w 0 5) (h1 : w0 1 = w 1) (h3 : w0 3 = w 3) (h4 : w0 4 = w 4) : ∃ w1, m_X9_saves w0 = some w1 ∧ SV w w1 ∧ w1 1 = w 1 ∧ (∀ k, k ≠ 3 → w1 0 k = w0 0 k) ∧ ∀ j, j ≠ 0 → j ≠ 3 → w1 j = w0 j := by
  obtain ⟨n, n1, n2, n3, -⟩ := H.2.2.2.1
  obtain ⟨w1, n', e0, e1, e2, e3, e4, e5⟩ := r_saves (w := w0) (h0.trans n3) n1
  refine ⟨w1, e1, ⟨n, n', n1, n3, ?_, by rw [e2, va_up_self], by rw [e2, va_up_ne _ _ (by omega)]; exact h05, by rw [e3 4 (by omega) (by omega)]; exact h4, fun k hk => by rw [e4 k hk, h3], fun k hk => by rw [e5 k hk, h1]⟩, by rw [e3 1 (by omega) (by omega)]; exact h1, fun k hk => by rw [e2, va_up_ne _ _ hk], e3⟩
  by_cases c : n = 6
  · rw [if_pos c] at e0 ⊢
    exact e0
  · rw [if_neg c] at e0 ⊢
    exact e0
/-- .. from a state where nothing but the mark has changed -/
theorem sv_8 {B : Nat} {v w : xSt} (H : RBC B v w) : ∃ w1, m_X9_saves (st2 w 0 8 0) = some w1 ∧ SV w w1 ∧ w1 1 = w 1 ∧ w1 0 8 = 0 ∧ ∀ j, j ≠ 0 → j ≠ 3 → w1 j = w j := by
  obtain ⟨g1, g2, g3, g4, g5⟩ := EQ_8 w 0
  obtain ⟨w1, e1, e2, e3, e4, e5⟩ := sv_e H g4 g5 g1 g2 g3
  exact ⟨w1, e1, e2, e3, by rw [e4 8 (by omega), w1_8], fun j h1 h2 => by rw [e5 j h1 h2, q_sn h1]⟩
theorem SV_1 {w w1 : xSt} {τ : Nat → Int32} (h : SV w w1) : SV w (va_up w1 1 τ) := by
  obtain ⟨n, n', h1, h2, h3, h4, h5, h6, h7, h8⟩ := h
  refine ⟨n, n', h1, h2, h3, ?_, ?_, ?_, fun k hk => ?_, fun k hk => ?_⟩
  · rw [va_up_ne _ _ (by omega)]; exact h4
  · rw [va_up_ne _ _ (by omega)]; exact h5
  · rw [va_up_ne _ _ (by omega)]; exact h6
  · rw [va_up_ne _ _ (by omega)]; exact h7 k hk
  · rw [va_up_ne _ _ (by omega)]; exact h8 k hk
/-! a call that returns with a new state; one that throws -/
def OK (B : Nat) (w : xSt) (m : Option (Int32 × xSt)) (z : Int32) (τ : Nat → Int32) : Prop := ∃ v' w', m = some (z, v') ∧ SV w w' ∧ w' 1 = τ ∧ J B v' w'
def NO (B : Nat) (w : xSt) (m : Option (Int32 × xSt)) (z : Int32) : Prop := ∃ v' w', m = some (z, v') ∧ EQ w w' ∧ J B v' w'
theorem OK_f {B B' : Nat} {w w1 : xSt} {τ : Nat → Int32} {z : Int32} {a b : Option (Int32 × xSt)} (H : JJ B w) (hB : B ≤ B') (h : MN B' a b) (e : b = some (z, va_up w1 1 τ)) (hS : SV w w1) (hτ : IV B' τ) : ∃ v', a = some (z, v') ∧ J B' v' (va_up w1 1 τ) := by
  obtain ⟨z', v', w', h1, h2, h3, h4⟩ := h
  rw [h2] at e
  cases e
  exact ⟨v', h1, h4, JJ_p H hB (SV_1 hS) (by rw [va_up_self]; exact hτ)⟩
theorem NO_f {B : Nat} {w w' : xSt} {z : Int32} {a : Option (String × xSt)} {b : Option (Int32 × xSt)} {E : String} {k : Int32} (H : JJ B w) (h : MT B a E k b) (e : b = some (z, w')) (hE : EQ w w') : ∃ v', a = some (E, v') ∧ J B v' w' := by
  obtain ⟨v', z', w'', h1, h2, h3, h4⟩ := h
  rw [h2] at e
  cases e
  exact ⟨v', h1, h4, JJ_e H hE⟩
theorem pk_n {B : Nat} {a b : Option (Int32 × xSt)} {z : Int32} {w' : xSt} (h : MN B a b) (e : b = some (z, w')) : w' 0 8 = 0 := by
  obtain ⟨z', v', w'', h1, h2, h3, h4⟩ := h
  rw [h2] at e
  cases e
  exact h3
theorem pk_t {B : Nat} {a : Option (String × xSt)} {b : Option (Int32 × xSt)} {E : String} {k z : Int32} {w' : xSt} (h : MT B a E k b) (e : b = some (z, w')) : w' 0 8 = k := by
  obtain ⟨v', z', w'', h1, h2, h3, h4⟩ := h
  rw [h2] at e
  cases e
  exact h3
theorem p2_0 {B B' : Nat} {a b : Option (Int32 × xSt)} {t : Option (String × xSt)} {E : String} {z : Int32} {w' : xSt} (h : MN B a b ∨ MT B' t E 1 b) (e : b = some (z, w')) (k : w' 0 8 = 0) : MN B a b :=
  h.elim id (fun h => absurd ((pk_t h e).symm.trans k) (by decide))
theorem p2_1 {B B' : Nat} {a b : Option (Int32 × xSt)} {t : Option (String × xSt)} {E : String} {z : Int32} {w' : xSt} (h : MN B a b ∨ MT B' t E 1 b) (e : b = some (z, w')) (k : w' 0 8 = 1) : MT B' t E 1 b :=
  h.elim (fun h => absurd ((pk_n h e).symm.trans k) (by decide)) id
theorem p3_0 {B B' B2 : Nat} {a b : Option (Int32 × xSt)} {t t2 : Option (String × xSt)} {E E2 : String} {z : Int32} {w' : xSt} (h : MN B a b ∨ MT B' t E 1 b ∨ MT B2 t2 E2 2 b) (e : b = some (z, w')) (k : w' 0 8 = 0) : MN B a b :=
  h.elim id (fun h => h.elim (fun h => absurd ((pk_t h e).symm.trans k) (by decide)) (fun h => absurd ((pk_t h e).symm.trans k) (by decide)))
theorem p3_1 {B B' B2 : Nat} {a b : Option (Int32 × xSt)} {t t2 : Option (String × xSt)} {E E2 : String} {z : Int32} {w' : xSt} (h : MN B a b ∨ MT B' t E 1 b ∨ MT B2 t2 E2 2 b) (e : b = some (z, w')) (k : w' 0 8 = 1) : MT B' t E 1 b :=
  h.elim (fun h => absurd ((pk_n h e).symm.trans k) (by decide)) (fun h => h.elim id (fun h => absurd ((pk_t h e).symm.trans k) (by decide)))
theorem p3_2 {B B' B2 : Nat} {a b : Option (Int32 × xSt)} {t t2 : Option (String × xSt)} {E E2 : String} {z : Int32} {w' : xSt} (h : MN B a b ∨ MT B' t E 1 b ∨ MT B2 t2 E2 2 b) (e : b = some (z, w')) (k : w' 0 8 = 2) : MT B2 t2 E2 2 b :=
  h.elim (fun h => absurd ((pk_n h e).symm.trans k) (by decide)) (fun h => h.elim (fun h => absurd ((pk_t h e).symm.trans k) (by decide)) id)
