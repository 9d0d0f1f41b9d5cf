/-! OBEY and the text, as the law calls them -/
theorem SV_c {w w1 u : xSt} (h : SV w w1) (g03 : u 0 3 = w1 0 3) (g05 : u 0 5 = w1 0 5) (g4 : u 4 = w1 4) (g3 : u 3 = w1 3) : SV w u := by
  obtain ⟨n, n', h1, h2, h3, h4, h5, h6, h7, h8⟩ := h
  exact ⟨n, n', h1, h2, h3, g03.trans h4, g05.trans h5, g4.trans h6, fun k hk => by rw [g3]; exact h7 k hk, fun k hk => by rw [g3]; exact h8 k hk⟩
theorem EQ_FRM {w w' : xSt} (h : FRM w w') : EQ w w' := ⟨h.1 1 (by omega) (by omega), h.1 3 (by omega) (by omega), h.1 4 (by omega) (by omega), h.2 3 (by omega), h.2 5 (by omega)⟩
theorem D_first {B L : Nat} {T : Nat → Nat} {v w : xSt} (hJ : J B v w) (hT : TX T L w) (hV : TV T L v) : ∃ q v' w', q ≤ L ∧ m_X8_firstError v = some (nI q, v') ∧ EQ w w' ∧ J B v' w' ∧ TX T L w' ∧ TV T L v' := by
  have hT1 : TX T L (st2 w 0 8 0) := ⟨hT.1, by rw [q_ss, va_up_ne _ _ (by omega)]; exact hT.2.1, fun i hi => by rw [q_sn (by omega)]; exact hT.2.2 i hi⟩
  obtain ⟨r, w', c', e1, e2, e2b, e3⟩ := s_fe hT1 hV
  have hE : EQ w w' := EQ_t (EQ_8 w 0) (EQ_FRM e2)
  have H1 := RBC_F (RBC_p3 (c := c') (RBC_1 (x := 0) hJ.1)) e2
  rcases e3 with ⟨h1, h2, -⟩ | ⟨h1, q, h2, h3, -⟩
  · exact ⟨L, pu 3 3 v c', w', Nat.le_refl _, h2, hE, ⟨H1, JJ_e hJ.2 hE⟩, TX_c hT1 e2, TV_c hV⟩
  · exact ⟨q, pu 3 3 v c', w', h2, h3, hE, ⟨H1, JJ_e hJ.2 hE⟩, TX_c hT1 e2, TV_c hV⟩
theorem D_obey {B L : Nat} {T : Nat → Nat} {v w : xSt} (hJ : J B v w) (hB : B + 7000 < 16000000) (hT : TX T L w) (hV : TV T L v) : (∃ v' w', m_L_obey v = some (-102, v') ∧ EQ w w' ∧ J B v' w' ∧ v' 0 7 = nI L) ∨ ∃ c v' w', 0 < L ∧ ¬ T (L - 1) = 59 ∧ c ≤ 1 + cu T (L - 1) ∧ m_L_obey v = some (nI c, v') ∧ SV w w' ∧ J (B + 6000) v' w' ∧ v' 0 7 = 0 := by
  have H := hJ.1
  have hL := hT.1
  have hT1 : TX T L (st2 w 0 8 0) := ⟨hT.1, by rw [q_ss, va_up_ne _ _ (by omega)]; exact hT.2.1, fun i hi => by rw [q_sn (by omega)]; exact hT.2.2 i hi⟩
  obtain ⟨r, w', c', e1, e2, e2b, e3⟩ := s_fe hT1 hV
  have hE : EQ w w' := EQ_t (EQ_8 w 0) (EQ_FRM e2)
  have H1 := RBC_F (RBC_p3 (c := c') (RBC_1 (x := 0) H)) e2
  have hV1 := TV_c (c := c') hV
  rcases e3 with ⟨h1, h2, h3, h4⟩ | ⟨h1, q, h2, h3, h4, h5⟩
  · right
    rw [h1] at e1 e2b
    have ctl : tl3 (sh 3 v) c' := fun j hj => by rw [rn_tl _ _ _ _ h4 j hj, q_sn (by omega)]
    have hs3 : sh 3 (pu 3 3 v c') = c' := sh_p3 ctl
    obtain ⟨v1, w1, x1, x2, HR, f1, f2, f3, f4⟩ := s_save H1
    obtain ⟨w1', y1, hSV, y3, -⟩ := sv_e H (w0 := w') hE.2.2.2.1 hE.2.2.2.2 hE.1 hE.2.1 hE.2.2.1
    obtain rfl : w1 = w1' := Option.some.inj (x2.symm.trans y1)
    have L0 : 0 < L := by
      by_cases x : 0 < L
      · exact x
      · exfalso
        have e : L = 0 := by omega
        rw [e] at h4
        cases h4
        rw [e_c0 (by rw [q_ss, va_up_self]; rfl)] at h3
        cases h3
    obtain ⟨s0, hs0⟩ : ∃ s0, s0 = st2 (sh 3 v1) 0 0 0 := ⟨_, rfl⟩
    obtain ⟨V0, hV0⟩ : ∃ V0, V0 = pu 3 3 v1 s0 := ⟨_, rfl⟩
    obtain ⟨W0, hW0⟩ : ∃ W0, W0 = st2 w1 0 9 0 := ⟨_, rfl⟩
    have TV0 : TV T L V0 := by
      rw [hV0]
      exact TV_c ⟨hL, by rw [f2 7 (by omega)]; exact hV1.2.1, fun i hi => by rw [f1 2 (by omega) (by omega)]; exact hV1.2.2 i hi⟩
    have frW : FRM w1 W0 := by rw [hW0]; exact FRM_0 (by omega)
    have TW0 : TX T L W0 := by
      have a := TX_c hT1 e2
      refine TX_c ⟨hL, by rw [f4 7 (by omega)]; exact a.2.1, fun i hi => by rw [f3 5 (by omega) (by omega)]; exact a.2.2 i hi⟩ frW
    have F0 : FS W0 0 1 (W0 0 11) (W0 0 12) (W0 0 13) (W0 0 14) := ⟨by rw [hW0, q_ss, va_up_self]; rfl, by rw [hW0, q_ss, va_up_ne _ _ (by omega), f4 10 (by omega), e2b]; rfl, rfl, rfl, rfl, rfl⟩
    have sV0 : (sh 3 V0) 0 0 = nI 0 := by
      rw [sh_e, hV0, pu_i (by omega) (by omega), hs0]
      show st2 _ 0 0 0 0 0 = _
      rw [q_ss, va_up_self]
      rfl
    have val : VAL T L 0 := VAL_of TW0 F0 (by omega) (c0 := st2 (sh 3 v) 0 0 0) (by rw [q_ss, va_up_self]; rfl) (by rw [Nat.sub_zero]; exact h4) h3
    have H0 : RBC B V0 W0 := by rw [hV0]; exact RBC_F (RBC_p3 HR) frW
    have hI0 : IV B (W0 1) := by rw [frW.1 1 (by omega) (by omega), y3]; exact hJ.2.1
    obtain ⟨c, V', W', z0, z1, z2, z3, z4, z5, z6, z7, z8⟩ := I_obey L 0 B 0 V0 W0 _ _ _ _ L0 (by omega) TV0 TW0 F0 sV0 val H0 hI0 (by omega)
    rw [Nat.zero_add] at z1
    have hSV' : SV w W' := SV_c hSV (z4.trans (frW.2 3 (by omega))) (z5.trans (frW.2 5 (by omega))) (z3.trans (frW.1 4 (by omega) (by omega))) (z2.trans (frW.1 3 (by omega) (by omega)))
    have hm : m_X8_obey_n v = some (nI c, V') := by
      unfold m_X8_obey_n
      rw [h2, q_ob, q_lt]
      dsimp only
      rw [if_neg (show ¬ nI L < pu 3 3 v c' 0 7 by rw [hV1.2.1]; exact nI_nlt (by omega) (by omega)), hs3, h3, q_ob, if_neg (by decide), x1, q_ob, show m_X5_start (sh 3 v1) = some s0 by rw [hs0]; rfl, q_ob, q_lt, ← hV0]
      exact z1 xF (xFg (by omega))
    exact ⟨c, V', W', L0, VAL_last L 0 W0 _ _ _ _ L0 (by omega) TW0 F0 val, z0, by unfold m_L_obey m_L_obey_n; exact L_n hm, hSV', ⟨RBC_b z7 (by omega), JJ_p hJ.2 (by omega) hSV' (IV_b z8 (by omega))⟩, z6⟩
  · left
    have hm : m_X8_obey_t v = some (xIAE, pu 3 3 v c') := by
      unfold m_X8_obey_t
      rw [h3, q_ob, q_lt]
      dsimp only
      by_cases x : q = L
      · have ic : m_X5_isComplete (sh 3 (pu 3 3 v c')) = some 0 := by
          have a := h5 x
          unfold m_X5_isComplete at a ⊢
          rw [sh_e, pu_i (by omega) (by omega)]
          exact a
        rw [if_neg (show ¬ nI q < pu 3 3 v c' 0 7 by rw [hV1.2.1]; exact nI_nlt (by omega) (by omega)), ic, q_ob, if_pos rfl]
      · rw [if_pos (show nI q < pu 3 3 v c' 0 7 by rw [hV1.2.1]; exact nI_lt (by omega) (by omega))]
    exact ⟨pu 3 3 v c', w', by unfold m_L_obey m_L_obey_n; exact L_t1 (XN_obey hm) hm, hE, ⟨H1, JJ_e hJ.2 hE⟩, hV1.2.1⟩
/-- the text alone is another -/
theorem J_tx {B L : Nat} {T : Nat → Nat} {v w v' : xSt} (hJ : J B v w) (hL : L ≤ 60) (gv : ∀ j, j ≠ 0 → j ≠ 2 → v' j = v j) (g0 : ∀ k, k ≠ 7 → v' 0 k = v 0 k) (h7 : v' 0 7 = nI L) (h2 : ∀ i, i < L → 33 ≤ T i ∧ T i ≤ 126 ∧ v' 2 i = nI (T i)) : ∃ w', EQ w w' ∧ J B v' w' ∧ TX T L w' ∧ TV T L v' := by
  obtain ⟨w', hw'⟩ : ∃ w', w' = va_up (st2 w 0 7 (nI L)) 5 (fun i => nI (T i)) := ⟨_, rfl⟩
  have w5 : ∀ i, w' 5 i = nI (T i) := fun i => by rw [hw', va_up_self]
  have w07 : w' 0 7 = nI L := by rw [hw', va_up_ne _ _ (by omega), q_ss, va_up_self]
  have w0k : ∀ k, k ≠ 7 → w' 0 k = w 0 k := fun k hk => by rw [hw', va_up_ne _ _ (by omega), q_ss, va_up_ne _ _ hk]
  have wj : ∀ j, j ≠ 0 → j ≠ 5 → w' j = w j := fun j a b => by rw [hw', va_up_ne _ _ b, q_sn a]
  have hE : EQ w w' := ⟨wj 1 (by omega) (by omega), wj 3 (by omega) (by omega), wj 4 (by omega) (by omega), w0k 3 (by omega), w0k 5 (by omega)⟩
  have H : RBC B v' w' := by
    obtain ⟨h1, h2', h3, ⟨n, n1, n2, n3, h4⟩, h5⟩ := hJ.1
    refine ⟨?_, SH_c h2' (by rw [sh_e, sh_e, gv _ (by omega) (by omega)]), RSn_c h3 (Nat.le_refl _) (fun j j1 j2 => gv j (by omega) (by omega)) (g0 3 (by omega)) (wj 4 (by omega) (by omega)) (w0k 5 (by omega)), ⟨n, n1, by rw [g0 5 (by omega)]; exact n2, by rw [w0k 3 (by omega)]; exact n3, RSv_c h4 n1 (Nat.le_refl _) (fun j j1 j2 => gv j (by omega) (by omega)) (gv 1 (by omega) (by omega)) (wj 3 (by omega) (by omega))⟩, L, hL, h7, w07, fun i hi => ?_⟩
    · rw [wj 1 (by omega) (by omega)]
      exact RR_v h1 (fun j hj => by rw [sh_e, sh_e, gv _ (by omega) (by omega)])
    · obtain ⟨a, b, c⟩ := h2 i hi
      exact ⟨by rw [c, w5], T i, a, b, w5 i⟩
  exact ⟨w', hE, ⟨H, JJ_e hJ.2 hE⟩, ⟨hL, w07, fun i hi => ⟨w5 i, (h2 i hi).1, by have := (h2 i hi).2.1; omega⟩⟩, hL, h7, fun i hi => (h2 i hi).2.2⟩
def TT (v0 v : xSt) (L C : Nat) : Prop := (∀ j, j ≠ 0 → j ≠ 2 → v j = v0 j) ∧ (∀ k, k ≠ 7 → v 0 k = v0 0 k) ∧ v 0 7 = nI L ∧ ∃ T : Nat → Nat, (∀ i, i < L → 33 ≤ T i ∧ T i ≤ 126 ∧ v 2 i = nI (T i)) ∧ cu T L = C
theorem cu_c {T T' : Nat → Nat} : ∀ n, (∀ i, i < n → T' i = T i) → cu T' n = cu T n := by
  intro n
  induction n with
  | zero => exact fun _ => rfl
  | succ n ih =>
    intro h
    show cu T' n + (if T' n = 59 then 1 else 0) = cu T n + (if T n = 59 then 1 else 0)
    rw [ih (fun i hi => h i (by omega)), h n (by omega)]
theorem ap_1 : ∀ c, c < 127 → 33 ≤ c → ¬ xwi (nI c) 33 126 = 0 ∧ ((nI c).toUInt32 % 65536).toInt32 = nI c ∧ 0 ≤ nI c ∧ nI c < 65536 := by decide +kernel
theorem ap_2 : ∀ L, L < 60 → ¬ xwi (nI L) 0 ((60 : Int32) - 1) = 0 := by decide +kernel
theorem TT_a {v0 v : xSt} {L C c : Nat} (h : TT v0 v L C) (hL : L < 60) (h1 : 33 ≤ c) (h2 : c ≤ 126) : ∃ v', m_L_append_q v (nI c) = some (nI (L + 1), v') ∧ TT v0 v' (L + 1) (C + (if c = 59 then 1 else 0)) ∧ v' 2 L = nI c := by
  obtain ⟨g1, g2, g3, T, g4, g5⟩ := h
  obtain ⟨a1, a2, a3, a4⟩ := ap_1 c (by omega) h1
  obtain ⟨v', hv⟩ : ∃ v', v' = st2 (st2 v 2 L (nI c)) 0 7 (nI L + 1) := ⟨_, rfl⟩
  have k2 : v' 2 = va_up (v 2) L (nI c) := by rw [hv, q_sn (by omega), q_ss]
  refine ⟨v', ?_, ⟨fun j a b => by rw [hv, q_sn a, q_sn b]; exact g1 j a b, fun k hk => by rw [hv, q_ss, va_up_ne _ _ hk, q_sn (by omega)]; exact g2 k hk, by rw [hv, q_ss, va_up_self, nI_1], fun i => if i = L then c else T i, fun i hi => ?_, ?_⟩, by rw [k2, va_up_self]⟩
  · unfold m_L_append_q m_X8_append_n
    rw [if_neg a1, g3, if_neg (ap_2 L hL), q_cl (by omega), q_ck (by rw [show (0 : Int32) = nI 0 from rfl, q_lts (by omega) (by omega)]; omega), a2, q_ck ⟨a3, a4⟩, q_lt, q_lt, show (st2 v 2 L (nI c)) 0 = v 0 from q_sn (by omega), g3, ← hv, q_ob, q_lt]
    dsimp only
    rw [hv, q_ss, va_up_self, nI_1]
  · dsimp only
    by_cases e : i = L
    · rw [if_pos e, k2, e, va_up_self]
      exact ⟨h1, h2, rfl⟩
    · rw [if_neg e, k2, va_up_ne _ _ e]
      exact g4 i (by omega)
  · show cu _ L + (if (if L = L then c else T L) = 59 then 1 else 0) = _
    rw [if_pos rfl, cu_c (T := T) L (fun i hi => if_neg (by omega)), g5]
/-! what goes on with a call of the loop -/
def RQ {σ ρ : Type} (rec : σ → Option ρ) (I : σ → Prop) (m : Option ρ) : Prop := ∃ s, I s ∧ m = rec s
theorem RQ_n {σ ρ β : Type} {rec : σ → Option ρ} {I : σ → Prop} {x : β} {f : β → Option ρ} (h : ∀ y, y = x → RQ rec I (f y)) : RQ rec I (lt x f) := h x rfl
theorem RQ_i {σ ρ : Type} {rec : σ → Option ρ} {I : σ → Prop} {c : Prop} {i : Decidable c} {x y : Option ρ} (h1 : c → RQ rec I x) (h2 : ¬ c → RQ rec I y) : RQ rec I (@ite _ c i x y) := by
  by_cases h : c
  · rw [if_pos h]; exact h1 h
  · rw [if_neg h]; exact h2 h
theorem RQ_o {σ ρ β : Type} {rec : σ → Option ρ} {I : σ → Prop} {m : Option β} {a : β} {f : β → Option ρ} (e : m = some a) (h : RQ rec I (f a)) : RQ rec I (ob m f) := by
  rw [e]
  exact h
theorem RQ_a {σ ρ : Type} {rec : σ → Option ρ} {I : σ → Prop} {v0 v : xSt} {L C c : Nat} {z : Int32} {f : Int32 × xSt → Option ρ} {g k : xSt → Option ρ} (hz : z = nI c) (h : TT v0 v L C) (hL : L < 60) (h1 : 33 ≤ c) (h2 : c ≤ 126) (hf : ∀ r, f r = lt r.2 (fun v' => if r.1 ≤ 0 then g v' else k v')) (hk : ∀ v', TT v0 v' (L + 1) (C + (if c = 59 then 1 else 0)) → v' 2 L = nI c → RQ rec I (k v')) : RQ rec I (ob (m_L_append_q v z) f) := by
  obtain ⟨v', e1, e2, e3⟩ := TT_a h hL h1 h2
  rw [hz, e1, q_ob, hf, q_lt]
  dsimp only
  rw [if_neg (nI_nle (by omega) (by omega))]
  exact hk v' e2 e3
theorem RQ_lp {σ σ' ρ : Type} {rec : σ → Option ρ} {I : σ → Prop} {Bd : (σ' → Option ρ) → σ' → Option ρ} (I2 : Nat → σ' → Prop) (n : Nat) (hs : ∀ m s r2, m < n → I2 m s → RQ r2 (I2 (m + 1)) (Bd r2 s)) (he : ∀ s r2, I2 n s → RQ rec I (Bd r2 s)) : ∀ d m F s, m + d = n → d < F → I2 m s → RQ rec I (lp Bd F s) := by
  intro d
  induction d with
  | zero =>
    intro m F s hm hF h
    obtain ⟨F, rfl⟩ : ∃ t, F = t + 1 := ⟨F - 1, by omega⟩
    obtain rfl : m = n := by omega
    rw [lp]
    exact he s _ h
  | succ d ih =>
    intro m F s hm hF h
    obtain ⟨F, rfl⟩ : ∃ t, F = t + 1 := ⟨F - 1, by omega⟩
    obtain ⟨s', h1, h2⟩ := hs m s (lp Bd F) (by omega) h
    rw [lp, h2]
    exact ih (m + 1) F s' (by omega) (by omega) h1
