/-! THE BEGINNING -/
def v0s : Nat → Int32 := fun k => if k < 256 then 255 else if k = 555 then 1 else if k = 556 then 2 else if k = 557 then 20 else if k = 558 then 30 else if k = 559 then 5 else if k = 560 then 3 else 0
def v0Mod : xSt := va_up (fun _ _ => 0) 1 v0s
theorem xb_0 : ∀ p, p < 32 → xb 0 p = 0 := by decide
theorem i_zero {k : Nat} (h : 256 ≤ k) (h2 : k < 555 ∨ 561 ≤ k) : v0s k = 0 := by
  unfold v0s
  rw [if_neg (by omega), if_neg (by omega), if_neg (by omega), if_neg (by omega), if_neg (by omega), if_neg (by omega), if_neg (by omega)]
theorem i_PM : PM 10 (fun r => r) (v0State 15) := ⟨fun r hr => ⟨hr, if_pos hr⟩, fun r r' _ _ e => e⟩
theorem i_R0 : RR 0 v0State v0s := by
  refine ⟨⟨⟨rfl, Or.inl rfl, rfl, rfl, rfl, rfl⟩, ⟨fun c hc => ?_, fun c hc => ?_, fun p hp => ?_, fun _ => 0, fun s hs => ?_, by decide⟩, ⟨⟨0, by omega, rfl, rfl⟩, rfl, rfl, Or.inl rfl⟩, ⟨0, ⟨rfl, by omega, fun i hi => absurd hi (by omega)⟩, rfl⟩, ⟨⟨0, by omega, rfl, rfl⟩, Or.inl ⟨rfl, rfl, rfl, rfl, rfl, rfl, rfl, rfl, rfl⟩⟩, ⟨⟨0, by omega, rfl, rfl⟩, Or.inl ⟨rfl, rfl, rfl, rfl, rfl, rfl, rfl, rfl, rfl⟩⟩, ⟨0, 0, fun r => r, by omega, by omega, rfl, rfl, rfl, rfl, i_PM, fun r hr => absurd hr (by omega), fun r r' hr => absurd hr (by omega)⟩, fun j hj => ?_⟩, rfl⟩
  · have e1 : v0State 2 c = 255 := if_pos hc
    have e2 : v0s c = 255 := if_pos hc
    exact ⟨e1.trans e2.symm, 255, by omega, e2⟩
  · have e2 : v0s (256 + c) = 0 := i_zero (by omega) (by omega)
    rw [e2]
    exact ⟨rfl, 0, by omega, rfl⟩
  · rw [i_zero (by omega) (by omega)]
    exact (xb_0 p hp).symm
  · rw [i_zero (by omega) (by omega)]
    exact ⟨rfl, rfl⟩
  · rcases (show j = 0 ∨ j = 1 ∨ j = 2 ∨ j = 3 ∨ j = 4 by omega) with rfl | rfl | rfl | rfl | rfl
    · exact ⟨rfl, 2, by omega, by omega, rfl⟩
    · exact ⟨rfl, 20, by omega, by omega, rfl⟩
    · exact ⟨rfl, 30, by omega, by omega, rfl⟩
    · exact ⟨rfl, 5, by omega, by omega, rfl⟩
    · exact ⟨rfl, 3, by omega, by omega, rfl⟩
theorem i_st {j : Nat} (hj : j < 47) : v0BC (7 + j) = v0State j := by
  unfold v0BC
  simp (disch := omega) only [ct_ge, ct_lo]
  exact congrArg v0State (by omega)
theorem i_RBC : RBC 0 v0BC v0Mod := by
  refine ⟨RR_v (show RR 0 v0State (v0Mod 1) from i_R0) (fun j hj => by rw [sh_e, i_st hj]), ⟨_, i_PM⟩, ⟨0, by omega, rfl, rfl, ⟨_, i_PM⟩, fun h => absurd h (by omega)⟩, ⟨0, by omega, rfl, rfl, fun r => r, ⟨fun r hr => ⟨hr, if_pos hr⟩, fun r r' _ _ e => e⟩, fun i hi => ⟨fun r => r, ?_⟩, fun i hi => absurd hi (by omega)⟩, ⟨0, by omega, rfl, rfl, fun i hi => absurd hi (by omega)⟩⟩
  rcases (show i = 0 ∨ i = 1 ∨ i = 2 ∨ i = 3 ∨ i = 4 ∨ i = 5 by omega) with rfl | rfl | rfl | rfl | rfl | rfl <;> exact i_PM
theorem i_J : J 0 v0BC v0Mod := by
  refine ⟨i_RBC, ?_, fun n hn hn1 i hi => ?_, fun h => ?_⟩
  · show IV 0 v0s
    refine ⟨fun c hc => ?_, fun n hn hn1 r hr => ?_, ⟨0, 0, by omega, by omega, i_zero (by omega) (by omega), i_zero (by omega) (by omega), by omega⟩, ⟨0, 0, by omega, by omega, i_zero (by omega) (by omega), i_zero (by omega) (by omega)⟩, fun j hj => i_zero (by omega) (by omega)⟩
    · rw [i_zero (k := 256 + c) (by omega) (by omega)]
      exact Int32.and_zero
    · have := (nI_eq (a := 0) (b := n) (by omega) (by omega)).mp ((i_zero (k := 580) (by omega) (by omega)).symm.trans hn)
      omega
  · have := (nI_eq (a := 0) (b := n) (by omega) (by omega)).mp (show nI 0 = nI n from hn)
    omega
  · exact absurd (show (0 : Int32) = 1 from h) (by decide)
