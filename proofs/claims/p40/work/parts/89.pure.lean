/-! A WRITE JOINS: the class -/
theorem PM_j {n i : Nat} {π : Nat → Nat} {f : Nat → Int32} (hn1 : n < 10) (hi : i ≤ n) (hp : PM 10 π f) : PM 10 (fun r => π (gI i n r)) (va_up (slf f n (n - i)) i (nI (π n))) := by
  have cq : ∀ a, a < 10 → f a = nI (π a) := fun a ha => (hp.1 a ha).2
  have cl : ∀ a, a < 10 → π a < 10 := fun a ha => (hp.1 a ha).1
  refine ⟨fun r hr => ⟨cl _ (gI_b hi hn1 hr), ?_⟩, fun r r' hr hr' e => gI_i hi (hp.2 _ _ (gI_b hi hn1 hr) (gI_b hi hn1 hr') e)⟩
  rw [up_eq]
  unfold gI
  dsimp only
  by_cases h1 : r = i
  · rw [if_pos h1, if_neg (by omega), if_pos h1]
  · rw [if_neg h1]
    unfold slf
    by_cases h2 : r < i
    · rw [if_neg (by omega), if_pos h2, cq r hr]
    · rw [if_neg h2, if_neg h1]
      by_cases h3 : r ≤ n
      · rw [if_pos (by omega), if_pos h3, cq _ (by omega)]
      · rw [if_neg (by omega), if_neg h3, cq r hr]
theorem s_rankJ {n i q : Nat} {π : Nat → Nat} {c : xSt} (hn : c 0 1 = nI (n + 1)) (hn1 : n < 10) (hi : i ≤ n) (hp : PM 10 π (c 1)) (hq : c (2 + 3 * π i) 0 = nI q) (ho : ∀ r, r < i → ¬ c (2 + 3 * π r) 0 = nI q) : m_X1_rankOf c (nI q) = some (nI i) := by
  unfold m_X1_rankOf
  refine lpf_r (fun k => nI k) i (xFg (by omega)) rfl (fun k rec hk => ?_) (fun rec => ?_)
  · have hπ := (hp.1 k (by omega)).1
    simp only [q_u1, q_lt]
    rw [hn, if_neg (nI_ge (by omega) (by omega)), e_orderAt hn (by omega) hp (by omega)]
    simp only [q_ob, q_oms]
    rw [q_ck hπ, if_neg (ho k hk), show nI k + 1 = nI (k + 1) from nI_1 k]
  · have hπ := (hp.1 i (by omega)).1
    simp only [q_u1, q_lt]
    rw [hn, if_neg (nI_ge (by omega) (by omega)), e_orderAt hn (by omega) hp (by omega)]
    simp only [q_ob, q_oms]
    rw [q_ck hπ, if_pos hq]
theorem s_joinWrite {n i u q : Nat} {π : Nat → Nat} {c : xSt} {σ : Nat → Int32} {P X : Int32} (hn : c 0 1 = nI n) (hn1 : n < 10) (hq : c 0 2 = nI q) (hp : PM 10 π (c 1)) (hi : i ≤ n) (hu : ∀ r, r < n → c (2 + 3 * π r) 3 = σ (617 + 18 * r + 3)) (h1 : ∀ r, i ≤ r → r < n → ¬ nI u ≤ σ (617 + 18 * r + 3)) (h2 : i = 0 ∨ nI u ≤ σ (617 + 18 * (i - 1) + 3)) (hd : ∀ r, r < n → ¬ c (2 + 3 * π r) 0 = nI q) : ∃ c2, m_X1_joinWrite c P (nI u) X = some (nI q, c2) ∧ c2 0 = jnC c n i q (π n) 1 P (nI u) X 0 ∧ c2 1 = jnC c n i q (π n) 1 P (nI u) X 1 ∧ c2 (2 + 3 * π n) = jnC c n i q (π n) 1 P (nI u) X (2 + 3 * π n) ∧ c2 (2 + 3 * π n + 1) 1 = c 32 1 ∧ (∀ i, i < 12 → c2 (2 + 3 * π n + 2) i = c 33 i) ∧ (∀ j, 2 ≤ j → j < 32 → j ≠ 2 + 3 * π n → j ≠ 2 + 3 * π n + 1 → j ≠ 2 + 3 * π n + 2 → c2 j = c j) ∧ c2 32 = c 32 ∧ c2 33 = c 33 := by
  have cln := (hp.1 n hn1).1
  obtain ⟨d, hdd⟩ : ∃ d, d = jnC c n i q (π n) 1 P (nI u) X := ⟨_, rfl⟩
  have ej := s_join (K := 1) (P := P) (X := X) hn hn1 hq hp hi hu h1 h2
  rw [← hdd] at ej ⊢
  have do_ : ∀ j, 2 ≤ j → j ≠ 2 + 3 * π n → j ≠ 2 + 3 * π n + 1 → d j = c j := fun j a b e => by rw [hdd]; exact jnC_o a b e
  have d0 : d 0 1 = nI (n + 1) := by rw [hdd, jnC_0, va_up_ne _ _ (by omega), va_up_self]
  have dp : PM 10 (fun r => π (gI i n r)) (d 1) := by rw [hdd, jnC_1]; exact PM_j hn1 hi hp
  have gi : gI i n i = n := by unfold gI; rw [if_neg (by omega), if_pos rfl]
  have epu : pu 0 32 c d = d := by
    funext j
    by_cases h : j < 32
    · rw [pu_i (by omega) (by omega)]
      rfl
    · rw [pu_o (by omega), do_ j (by omega) (by omega) (by omega)]
  have er : m_X1_rankOf d (nI q) = some (nI i) := by
    refine s_rankJ (π := fun r => π (gI i n r)) d0 hn1 hi dp ?_ (fun r hr => ?_)
    · rw [gi, hdd]
      exact jnC_k.1
    · have g : gI i n r = r := by unfold gI; rw [if_pos hr]
      have hne : π r ≠ π n := fun e => by
        have := hp.2 r n (by omega) hn1 e
        omega
      rw [g, do_ _ (by omega) (by omega) (by omega)]
      exact hd r (by omega)
  have eo := e_orderAt d0 (by omega) dp (show i < n + 1 by omega)
  rw [gi] at eo
  obtain ⟨r, hr, r0, r1, r2⟩ := s_X4_become (ct 2 (sh ((2 + 3 * π n) + 1) d) (sh 32 d))
  refine ⟨pu 32 2 (pu ((2 + 3 * π n) + 1) 2 d r) (sh 2 r), ?_, ?_, ?_, ?_, ?_, fun t ht => ?_, fun j j1 j2 j3 j4 j5 => ?_, ?_, ?_⟩
  · unfold m_X1_joinWrite
    rw [ej, q_ob, q_lt]
    dsimp only
    rw [epu, er, q_ob, eo, q_ob, q_oms, q_ck cln, hr, q_ob, q_lt]
  · rw [pu_o (by omega), pu_o (by omega)]
  · rw [pu_o (by omega), pu_o (by omega)]
  · rw [pu_o (by omega), pu_o (by omega)]
  · rw [pu_o (by omega), pu_i (by omega) (by omega), show 2 + 3 * π n + 1 - (2 + 3 * π n + 1) = 0 by omega, r0, va_up_self, ct_h (by omega), sh_e]
    show d 32 1 = _
    rw [do_ 32 (by omega) (by omega) (by omega)]
  · rw [pu_o (by omega), pu_i (by omega) (by omega), show 2 + 3 * π n + 2 - (2 + 3 * π n + 1) = 1 by omega, r1 t ht, ct_h (by omega), sh_e]
    show d 33 t = _
    rw [do_ 33 (by omega) (by omega) (by omega)]
  · rw [pu_o (by omega), pu_o (by omega), do_ j j1 j3 j4]
  · rw [pu_i (by omega) (by omega), show (32 : Nat) - 32 = 0 by omega, sh_e, r2 _ (by omega), ct_h (by omega), sh_e]
    show d 32 = _
    rw [do_ 32 (by omega) (by omega) (by omega)]
  · rw [pu_i (by omega) (by omega), show (33 : Nat) - 32 = 1 by omega, sh_e, r2 _ (by omega), ct_h (by omega), sh_e]
    show d 33 = _
    rw [do_ 33 (by omega) (by omega) (by omega)]
