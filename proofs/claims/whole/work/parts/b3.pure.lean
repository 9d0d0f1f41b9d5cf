/-! THE BEGINNING, as the law has it -/
theorem i_RRL : RRL 0 v0LW := by
  refine RBC_c i_RBC (fun j hj => ?_) (fun j hj => ?_)
  · unfold v0LW
    rw [ct_lo (by omega), ct_lo (by omega)]
  · rw [sh_e]
    unfold v0LW
    rw [ct_ge (by omega)]
    exact congrArg v0Mod (by omega)
theorem i_mono {k : Nat} {v : xSt} (H : RRL k v) : RRL (k + 1) v := RBC_b H (by omega)
