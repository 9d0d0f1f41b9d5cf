/-! COMMONEST -/
def tc (σ : Nat → Int32) : Nat → Nat → Int32
  | 0 => fun _ => 0
  | k + 1 => va_up (tc σ k) (σ k).toNatClampNeg (tc σ k (σ k).toNatClampNeg + 1)
theorem tc_s {σ : Nat → Int32} {k : Nat} : tc σ (k + 1) = va_up (tc σ k) (σ k).toNatClampNeg (tc σ k (σ k).toNatClampNeg + 1) := rfl
def ov (f g : Nat → Int32) : Nat → Int32 := fun j => if j < 256 then g j else f j
theorem ov_i {f g : Nat → Int32} {j : Nat} (h : j < 256) : ov f g j = g j := if_pos h
theorem ov_u {f g : Nat → Int32} {c : Nat} {x : Int32} (h : c < 256) : va_up (ov f g) c x = ov f (va_up g c x) := by
  funext j
  by_cases e : j = c
  · rw [e, va_up_self, ov_i h, va_up_self]
  · rw [va_up_ne _ _ e]
    unfold ov
    by_cases h2 : j < 256
    · rw [if_pos h2, if_pos h2, va_up_ne _ _ e]
    · rw [if_neg h2, if_neg h2]
/-- the greatest, from a on -/
theorem mx_key (T : Nat → Int32) (v3 v6 : xSt) (h3 : ∀ j, j < 256 → v3 6 j = T j) (h6 : ∀ j, j < 256 → v6 7 j = T j) : ∀ n k a, k + n = 256 → a < 256 → ∃ z, (∀ F, n < F → lp (fun (rec8 : Int32 × Int32 → Option (Int32 × xSt)) => un2 (fun (a6 : Int32) (a7 : Int32) => (if (256 : Int32) ≤ a7 then some (a6, v3) else ck (¬ (a7 < 0 ∨ 256 ≤ a7.toNatClampNeg)) (lt (fun (a11 : Int32) => rec8 (a11, (a7 + 1))) (fun j12 => (if (v3 6 a7.toNatClampNeg) ≤ (xat 256 (v3 6) a6) then j12 a6 else j12 a7)))))) F (nI a, nI k) = some (z, v3)) ∧ (∀ F, n < F → lp (fun (rec11 : Int32 × Int32 → Option (Int32 × xSt)) => un2 (fun (a9 : Int32) (a10 : Int32) => (if (256 : Int32) ≤ a10 then some (a9, v6) else ck (¬ (a10 < 0 ∨ 256 ≤ a10.toNatClampNeg)) (ck (¬ (a9 < 0 ∨ 256 ≤ a9.toNatClampNeg)) (lt (fun (t15 : Int32) => rec11 (t15, (a10 + 1))) (fun j16 => (if (v6 7 a10.toNatClampNeg) ≤ (v6 7 a9.toNatClampNeg) then j16 a9 else j16 a10))))))) F (nI a, nI k) = some (z, v6)) := by
  have hin : ∀ j, j < 256 → ¬ (nI j < (0 : Int32) ∨ 256 ≤ j) := by
    intro j hj
    rw [show (0 : Int32) = nI 0 from rfl, q_lts (by omega) (by omega)]
    omega
  intro n
  induction n with
  | zero =>
    intro k a hk ha
    obtain rfl : k = 256 := by omega
    refine ⟨nI a, fun F hF => ?_, fun F hF => ?_⟩
    · obtain ⟨F, rfl⟩ : ∃ t, F = t + 1 := ⟨F - 1, by omega⟩
      rw [lp]
      simp only [q_u2]
      rw [if_pos (show (256 : Int32) ≤ nI 256 by decide)]
    · obtain ⟨F, rfl⟩ : ∃ t, F = t + 1 := ⟨F - 1, by omega⟩
      rw [lp]
      simp only [q_u2]
      rw [if_pos (show (256 : Int32) ≤ nI 256 by decide)]
  | succ n ih =>
    intro k a hk ha
    have h256 : ¬ (256 : Int32) ≤ nI k := nI_ge (b := 256) (by omega) (by omega)
    by_cases c : T k ≤ T a
    · obtain ⟨z, z1, z2⟩ := ih (k + 1) a (by omega) ha
      refine ⟨z, fun F hF => ?_, fun F hF => ?_⟩
      · obtain ⟨F, rfl⟩ : ∃ t, F = t + 1 := ⟨F - 1, by omega⟩
        rw [lp]
        simp only [q_u2, q_lt]
        rw [if_neg h256, q_cl (by omega), q_ck (hin k (by omega)), xat_n ha (by omega), h3 k (by omega), h3 a ha, if_pos c, nI_1]
        exact z1 F (by omega)
      · obtain ⟨F, rfl⟩ : ∃ t, F = t + 1 := ⟨F - 1, by omega⟩
        rw [lp]
        simp only [q_u2, q_lt]
        rw [if_neg h256, q_cl (by omega), q_cl (by omega), q_ck (hin k (by omega)), q_ck (hin a (by omega)), h6 k (by omega), h6 a ha, if_pos c, nI_1]
        exact z2 F (by omega)
    · obtain ⟨z, z1, z2⟩ := ih (k + 1) k (by omega) (by omega)
      refine ⟨z, fun F hF => ?_, fun F hF => ?_⟩
      · obtain ⟨F, rfl⟩ : ∃ t, F = t + 1 := ⟨F - 1, by omega⟩
        rw [lp]
        simp only [q_u2, q_lt]
        rw [if_neg h256, q_cl (by omega), q_ck (hin k (by omega)), xat_n ha (by omega), h3 k (by omega), h3 a ha, if_neg c, nI_1]
        exact z1 F (by omega)
      · obtain ⟨F, rfl⟩ : ∃ t, F = t + 1 := ⟨F - 1, by omega⟩
        rw [lp]
        simp only [q_u2, q_lt]
        rw [if_neg h256, q_cl (by omega), q_cl (by omega), q_ck (hin k (by omega)), q_ck (hin a (by omega)), h6 k (by omega), h6 a ha, if_neg c, nI_1]
        exact z2 F (by omega)
theorem Int32_le_refl (x : Int32) : x ≤ x := Int32.le_refl x
theorem s_most {B : Nat} {v w : xSt} (H : RBC B v w) : ∃ z v' w', m_X8_commonest v = some (z, v') ∧ m_X9_mostHeld w = some (z, w') ∧ (∀ j, j ≠ 6 → v' j = v j) ∧ (∀ j, j ≠ 7 → w' j = w j) := by
  have hc : ∀ c, c < 256 → v 9 c = w 1 c ∧ ∃ k, k < 256 ∧ w 1 c = nI k := fun c hc => H.1.1.2.1.1 c hc
  have hin : ∀ j N, j < N → N < 2147483648 → ¬ (nI j < (0 : Int32) ∨ N ≤ j) := by
    intro j N hj hN
    rw [show (0 : Int32) = nI 0 from rfl, q_lts (by omega) (by omega)]
    omega
  obtain ⟨v3, hv3⟩ : ∃ v3, v3 = va_up v 6 (ov (v 6) (tc (w 1) 256)) := ⟨_, rfl⟩
  obtain ⟨v6, hv6⟩ : ∃ v6, v6 = va_up w 7 (ov (w 7) (tc (w 1) 256)) := ⟨_, rfl⟩
  have h3 : ∀ j, j < 256 → v3 6 j = tc (w 1) 256 j := fun j hj => by rw [hv3, va_up_self, ov_i hj]
  have h6 : ∀ j, j < 256 → v6 7 j = tc (w 1) 256 j := fun j hj => by rw [hv6, va_up_self, ov_i hj]
  obtain ⟨z, z1, z2⟩ := mx_key (tc (w 1) 256) v3 v6 h3 h6 255 1 0 rfl (by omega)
  refine ⟨z, v3, v6, ?_, ?_, fun j hj => by rw [hv3, va_up_ne _ _ hj], fun j hj => by rw [hv6, va_up_ne _ _ hj]⟩
  · unfold m_X8_commonest
    simp only [q_lt]
    refine lpf_r (fun k => (nI k, va_up v 6 (ov (v 6) (tc (w 1) k)))) 256 (xFg (by omega)) ?_ (fun k rec hk => ?_) (fun rec => ?_)
    · exact congrArg (Prod.mk (nI 0)) (congrArg (va_up v 6) rfl)
    · obtain ⟨e1, a, ha, ea⟩ := hc k hk
      simp only [q_u2]
      rw [if_neg (show ¬ (256 : Int32) ≤ nI k from nI_ge (b := 256) hk (by omega)), va_up_self, va_up_ne _ _ (show (9 : Nat) ≠ 6 by omega), xat_n hk (by omega), e1, ea, xat_n ha (by omega), xpt_n ha (by omega), bx_uu, ov_u ha, ov_i ha, tc_s, ea, q_cl (by omega), nI_1]
    · simp only [q_u2]
      rw [if_pos (show (256 : Int32) ≤ nI 256 by decide), ← hv3]
      have h := z1 1099511627775 (by omega)
      refine (lp_1 _ _).trans ?_
      simp only [q_u2]
      rw [if_neg (show ¬ (256 : Int32) ≤ 0 by decide), q_ck (by decide), if_pos]
      · exact h
      · rw [show (0 : Int32).toNatClampNeg = 0 from rfl, show xat 256 (v3 6) 0 = v3 6 0 from xat_n (i := 0) (by omega) (by omega)]
        exact Int32_le_refl _
  · unfold m_X9_mostHeld
    refine lpf_r (fun k => (nI k, va_up w 7 (fl (w 7) 0 k (fun _ => 0)))) 256 (xFg (by omega)) (by simp only [fl_0, va_up_id]; rfl) (fun k rec hk => ?_) (fun rec => ?_)
    · simp only [q_u2, q_lt]
      rw [if_neg (show ¬ (256 : Int32) ≤ nI k from nI_ge (b := 256) hk (by omega)), q_cl (by omega), q_ck (hin k 256 hk (by omega)), q_st, fl_s (by omega) rfl, nI_1]
    · simp only [q_u2]
      rw [if_pos (show (256 : Int32) ≤ nI 256 by decide)]
      have e0 : fl (w 7) 0 256 (fun _ => 0) = ov (w 7) (tc (w 1) 0) := by
        funext j
        unfold fl ov tc
        by_cases c : j < 256
        · rw [if_pos (by omega), if_pos c]
        · rw [if_neg (by omega), if_neg c]
      rw [e0]
      refine lpf_r (fun k => (nI k, va_up w 7 (ov (w 7) (tc (w 1) k)))) 256 (xFg (by omega)) rfl (fun k rec hk => ?_) (fun rec => ?_)
      · obtain ⟨e1, a, ha, ea⟩ := hc k hk
        simp only [q_u2, q_lt]
        rw [if_neg (show ¬ (256 : Int32) ≤ nI k from nI_ge (b := 256) hk (by omega)), q_cl (by omega), q_ck (hin k 797 (by omega) (by omega)), va_up_ne _ _ (show (1 : Nat) ≠ 7 by omega), ea, q_cl (by omega), q_ck (hin a 256 ha (by omega)), q_ck (hin a 256 ha (by omega)), q_st, va_up_self, ov_u ha, ov_i ha, tc_s, ea, q_cl (by omega), nI_1]
      · simp only [q_u2]
        rw [if_pos (show (256 : Int32) ≤ nI 256 by decide), ← hv6]
        exact z2 xF (xFg (by omega))
theorem RBC_mo {B : Nat} {v v' w w' : xSt} (H : RBC B v w) (gv : ∀ j, j ≠ 6 → v' j = v j) (gw : ∀ j, j ≠ 7 → w' j = w j) : RBC B v' w' := RBC_now H (Nat.le_refl _) (fun j _ h => gv j (by omega)) (fun k _ => by rw [gv 0 (by omega)]) (fun j h1 h2 => gw j (by omega)) (fun k _ => by rw [gw 0 (by omega)]) (by rw [gw 1 (by omega)]; exact RR_v H.1 (fun j hj => gv (7 + j) (by omega)))
theorem b_commonest {B : Nat} {v w : xSt} (H : RBC B v w) : MN B (m_X8_commonest v) (m_X9_commonest w) := by
  obtain ⟨z, v', w', h1, h2, h3, h4⟩ := s_most (RBC_1 (x := 0) H)
  refine ⟨z, v', w', h1, ?_, by rw [h4 0 (by omega), w1_8], RBC_mo (RBC_1 H) h3 h4⟩
  unfold m_X9_commonest
  simp only [q_lt]
  rw [h2]
  rfl
