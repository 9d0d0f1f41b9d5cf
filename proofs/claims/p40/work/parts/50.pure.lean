/-! THE PURE LEVEL, what it stands on -/
theorem q_lt {α β : Type} (x : α) (f : α → β) : lt x f = f x := Eq.trans rfl rfl
theorem q_ob {α β : Type} (a : α) (f : α → Option β) : ob (some a) f = f a := Eq.trans rfl rfl
theorem q_omn {α β : Type} (A : β) (f : α → β) : om none A f = A := Eq.trans rfl rfl
theorem q_oms {α β : Type} (k : α) (A : β) (f : α → β) : om (some k) A f = f k := Eq.trans rfl rfl
theorem q_ck {α : Type} {c : Prop} {i : Decidable c} {m : Option α} (h : c) : @ck α c i m = m := if_pos h
theorem q_u1 {α β : Type} (f : α → β) (a : α) : un1 f a = f a := Eq.trans rfl rfl
theorem q_u2 {α β γ : Type} (f : α → β → γ) (a : α) (b : β) : un2 f (a, b) = f a b := Eq.trans rfl rfl
theorem q_u3 {α β γ δ : Type} (f : α → β → γ → δ) (a : α) (b : β) (c : γ) : un3 f (a, b, c) = f a b c := Eq.trans rfl rfl
theorem q_u4 {α β γ δ ε : Type} (f : α → β → γ → δ → ε) (a : α) (b : β) (c : γ) (d : δ) : un4 f (a, b, c, d) = f a b c d := Eq.trans rfl rfl
theorem li (n : Nat) : (no_index (OfNat.ofNat n) : Int32) = nI n := Eq.trans rfl rfl
theorem q_cl {n : Nat} (h : n < 2147483648) : (nI n).toNatClampNeg = n := nI_clamp h
theorem q_le {a b : Nat} (ha : a < 2147483648) (hb : b < 2147483648) : (nI a ≤ nI b) = (a ≤ b) := propext (nI_leI ha hb)
theorem q_lts {a b : Nat} (ha : a < 2147483648) (hb : b < 2147483648) : (nI a < nI b) = (a < b) := propext (nI_ltI ha hb)
theorem q_eq {a b : Nat} (ha : a < 2147483648) (hb : b < 2147483648) : (nI a = nI b) = (a = b) := propext (nI_eq ha hb)
theorem q_sub {a b : Nat} (h : b ≤ a) : nI a - nI b = nI (a - b) := pk_sub h
theorem q_div {a d : Nat} (ha : a < 2147483648) (h0 : 0 < d) (hd : d < 2147483648) : nI a / nI d = nI (a / d) := pk_div ha h0 hd
theorem q_ne1 {a : Nat} (ha : a < 2147483648) : (nI a = -1) = False := by
  apply propext
  constructor
  · intro h
    have h2 := congrArg Int32.toInt h
    rw [nI_toInt ha] at h2
    rw [show (-1 : Int32).toInt = -1 by decide] at h2
    omega
  · intro h; cases h
theorem q_st {v : xSt} {f : Nat → Int32} {o k : Nat} {x : Int32} : st2 (va_up v o f) o k x = va_up v o (va_up f k x) := by
  unfold st2
  rw [va_up_self, bx_uu]
theorem q_sn {v : xSt} {o p k : Nat} {x : Int32} (h : o ≠ p) : (st2 v p k x) o = v o := by
  unfold st2
  rw [va_up_ne _ _ h]
theorem q_ss {v : xSt} {o k : Nat} {x : Int32} : (st2 v o k x) o = va_up (v o) k x := by
  unfold st2
  rw [va_up_self]
theorem lpf_r {σ ρ : Type} {B : (σ → Option ρ) → σ → Option ρ} {s0 : σ} {r : Option ρ} {F : Nat} (s : Nat → σ) (n : Nat) (hF : n < F) (h0 : s0 = s 0) (hs : ∀ k rec, k < n → B rec (s k) = rec (s (k + 1))) (he : ∀ rec, B rec (s n) = r) : lp B F s0 = r := by
  have key : ∀ d k F, k + d = n → d < F → lp B F (s k) = r := by
    intro d
    induction d with
    | zero =>
      intro k F hk hF
      obtain ⟨F, rfl⟩ : ∃ t, F = t + 1 := ⟨F - 1, by omega⟩
      obtain rfl : k = n := by omega
      rw [lp]
      exact he _
    | succ d ih =>
      intro k F hk hF
      obtain ⟨F, rfl⟩ : ∃ t, F = t + 1 := ⟨F - 1, by omega⟩
      rw [lp, hs k _ (by omega)]
      exact ih (k + 1) F (by omega) (by omega)
  rw [h0]
  exact key n 0 F (by omega) hF
/-- a run that ends, with an answer of which P holds -/
def wp {α : Type} (m : Option α) (P : α → Prop) : Prop := ∃ r, m = some r ∧ P r
theorem wp_s {α : Type} {a : α} {P : α → Prop} (h : P a) : wp (some a) P := ⟨a, rfl, h⟩
theorem wp_l {α β : Type} {x : α} {f : α → Option β} {P : β → Prop} (h : wp (f x) P) : wp (lt x f) P := h
theorem wp_n {α β : Type} {x : α} {f : α → Option β} {P : β → Prop} (h : ∀ y, y = x → wp (f y) P) : wp (lt x f) P := h x rfl
theorem wp_c {α : Type} {c : Prop} {i : Decidable c} {m : Option α} {P : α → Prop} (hc : c) (h : wp m P) : wp (@ck α c i m) P := by rw [q_ck hc]; exact h
theorem wp_o {α β : Type} {m : Option α} {f : α → Option β} {P : β → Prop} (h : wp m (fun a => wp (f a) P)) : wp (ob m f) P := by
  obtain ⟨a, rfl, h⟩ := h
  exact h
theorem wp_e {α β : Type} {m : Option α} {a : α} {f : α → Option β} {P : β → Prop} (e : m = some a) (h : wp (f a) P) : wp (ob m f) P := by
  subst e
  exact h
theorem wp_t {α : Type} {c : Prop} {i : Decidable c} {x y : Option α} {P : α → Prop} (hc : c) (h : wp x P) : wp (@ite _ c i x y) P := by rw [if_pos hc]; exact h
theorem wp_f {α : Type} {c : Prop} {i : Decidable c} {x y : Option α} {P : α → Prop} (hc : ¬ c) (h : wp y P) : wp (@ite _ c i x y) P := by rw [if_neg hc]; exact h
theorem wp_i {α : Type} {c : Prop} {i : Decidable c} {x y : Option α} {P : α → Prop} (h1 : c → wp x P) (h2 : ¬ c → wp y P) : wp (@ite _ c i x y) P := by
  by_cases h : c
  · exact wp_t h (h1 h)
  · exact wp_f h (h2 h)
theorem wp_m {α : Type} {m : Option α} {P Q : α → Prop} (h : wp m P) (hP : ∀ r, P r → Q r) : wp m Q := by
  obtain ⟨r, e, h⟩ := h
  exact ⟨r, e, hP r h⟩
theorem wp_om {α β : Type} {m : Option α} {f : α → Option β} {P : α → Prop} {Q : β → Prop} (h : wp m P) (hf : ∀ a, P a → wp (f a) Q) : wp (ob m f) Q := by
  obtain ⟨a, rfl, h⟩ := h
  exact hf a h
theorem wp_lp {σ ρ : Type} {B : (σ → Option ρ) → σ → Option ρ} {s0 : σ} {P : ρ → Prop} {F : Nat} (I : Nat → σ → Prop) (n : Nat) (hF : n < F) (h0 : I 0 s0) (hs : ∀ k s rec, k < n → I k s → (∃ s', I (k + 1) s' ∧ B rec s = rec s') ∨ wp (B rec s) P) (he : ∀ s rec, I n s → wp (B rec s) P) : wp (lp B F s0) P := by
  have key : ∀ d k F s, k + d = n → d < F → I k s → wp (lp B F s) P := by
    intro d
    induction d with
    | zero =>
      intro k F s hk hF hI
      obtain ⟨F, rfl⟩ : ∃ t, F = t + 1 := ⟨F - 1, by omega⟩
      obtain rfl : k = n := by omega
      rw [lp]
      exact he _ _ hI
    | succ d ih =>
      intro k F s hk hF hI
      obtain ⟨F, rfl⟩ : ∃ t, F = t + 1 := ⟨F - 1, by omega⟩
      rw [lp]
      rcases hs k s (lp B F) (by omega) hI with ⟨s', h1, h2⟩ | h
      · rw [h2]
        exact ih (k + 1) F s' (by omega) (by omega) h1
      · exact h
  exact key n 0 F s0 (by omega) hF h0
theorem xFg {n : Nat} (h : n < 1099511627776) : n < xF := h
/-- n places from a on hold what f says -/
def fl (g : Nat → Int32) (a n : Nat) (f : Nat → Int32) : Nat → Int32 := fun j => if a ≤ j ∧ j < a + n then f (j - a) else g j
theorem fl_0 {g : Nat → Int32} {a : Nat} {f : Nat → Int32} : fl g a 0 f = g := by
  funext j
  unfold fl
  rw [if_neg (by omega)]
theorem fl_i {g : Nat → Int32} {a n : Nat} {f : Nat → Int32} {j : Nat} (h : a ≤ j) (h2 : j < a + n) : fl g a n f j = f (j - a) := if_pos ⟨h, h2⟩
theorem fl_o {g : Nat → Int32} {a n : Nat} {f : Nat → Int32} {j : Nat} (h : j < a ∨ a + n ≤ j) : fl g a n f j = g j := if_neg (by omega)
theorem fl_s {g : Nat → Int32} {a k p : Nat} {f : Nat → Int32} {x : Int32} (hp : p = a + k) (hx : x = f k) : va_up (fl g a k f) p x = fl g a (k + 1) f := by
  subst hp; subst hx
  funext j
  by_cases h : j = a + k
  · subst h
    rw [va_up_self, fl_i (by omega) (by omega)]
    congr 1
    omega
  · rw [va_up_ne _ _ h]
    by_cases h2 : a ≤ j ∧ j < a + k
    · rw [fl_i h2.1 h2.2, fl_i h2.1 (by omega)]
    · rw [fl_o (by omega), fl_o (by omega)]
theorem up_eq {α : Type} {f : Nat → α} {k j : Nat} {x : α} : va_up f k x j = if j = k then x else f j := Eq.trans rfl rfl
