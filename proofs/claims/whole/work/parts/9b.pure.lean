/-! WHAT THE LAW'S CALLS REST ON -/
def RRL (k : Nat) (v : xSt) : Prop := RBC (10000 * k) v (sh 431 v)
theorem stp_0 {R : Nat → xSt → Prop} {k : Nat} {a : Option xSt} {l : List (Option xSt)} (h : ∃ z, a = some z ∧ R (k + 1) z) : stp R k (a :: l) := by
  obtain ⟨z, e, r⟩ := h
  refine ⟨z, ?_, r⟩
  rw [e]
  exact List.Mem.head _
theorem stp_1 {R : Nat → xSt → Prop} {k : Nat} {a : Option xSt} {l : List (Option xSt)} (h : stp R k l) : stp R k (a :: l) := by
  obtain ⟨z, m, r⟩ := h
  exact ⟨z, List.Mem.tail _ m, r⟩
theorem ix_1 {k L : Nat} (hk : 4 * k + 4 ≤ L) (hL : L ≤ 2048) : ¬ ((nI (4 * k) + (1 : Int32)) < 0 ∨ L ≤ (nI (4 * k) + (1 : Int32)).toNatClampNeg) := by
  rw [show nI (4 * k) + (1 : Int32) = nI (4 * k + 1) from nI_add (4 * k) 1]
  exact nI_in (by omega) (by omega)
theorem ix_2 {k L : Nat} (hk : 4 * k + 4 ≤ L) (hL : L ≤ 2048) : ¬ ((nI (4 * k) + (2 : Int32)) < 0 ∨ L ≤ (nI (4 * k) + (2 : Int32)).toNatClampNeg) := by
  rw [show nI (4 * k) + (2 : Int32) = nI (4 * k + 2) from nI_add (4 * k) 2]
  exact nI_in (by omega) (by omega)
theorem ix_3 {k L : Nat} (hk : 4 * k + 4 ≤ L) (hL : L ≤ 2048) : ¬ ((nI (4 * k) + (3 : Int32)) < 0 ∨ L ≤ (nI (4 * k) + (3 : Int32)).toNatClampNeg) := by
  rw [show nI (4 * k) + (3 : Int32) = nI (4 * k + 3) from nI_add (4 * k) 3]
  exact nI_in (by omega) (by omega)
theorem gl_sh {v x : xSt} : sh 431 (pu 0 431 v x) = sh 431 v := by
  funext j
  rw [sh_e, sh_e, pu_o (by omega)]
theorem gl_sh2 {v x : xSt} : sh 431 (pu 0 430 v x) = sh 431 v := by
  funext j
  rw [sh_e, sh_e, pu_o (by omega)]
theorem gl_R {B k : Nat} {v3 v' w' : xSt} (h : RBC B v' w') (hB : B ≤ 10000 * (k + 1)) (hv : ∀ j, j < 430 → v3 j = v' j) : RRL (k + 1) (pu 431 8 v3 w') := by
  refine RBC_b (RBC_c h (fun j hj => by rw [pu_o (by omega), hv j hj]) (fun j hj => ?_)) hB
  rw [sh_e, pu_i (by omega) (by omega)]
  exact congrArg w' (by omega)
theorem gl_t {v3 w' : xSt} : m_X9_thrown (sh 431 (pu 431 8 v3 w')) = some (w' 0 8) := by
  unfold m_X9_thrown
  rw [sh_e, pu_i (by omega) (by omega)]
theorem gl_o {v y w' : xSt} : (pu 431 8 (pu 0 431 v y) w') 430 = y 430 := by
  rw [pu_o (by omega), pu_i (by omega) (by omega)]
theorem gl_l {x : Int64} {α : Type} {a b : Option α} : (if lg_cmp x x = 0 then a else b) = a := if_pos ((lg_cmp_eq x x).mpr rfl)
theorem gl_N {B k : Nat} {v : xSt} {a : Option (Int32 × xSt)} {b : xSt → Option (Int32 × xSt)} (hB : B ≤ 10000 * (k + 1)) (h : MN B a (b (sh 431 v))) : ∃ z, ob (ob a (fun r2 => lt (pu 0 430 v r2.2) (fun v3 => lt (st2 v3 430 0 r2.1) (fun v4 => some ((0 : Int32), v4))))) (fun r1 => lt (pu 0 431 v r1.2) (fun v3 => ob (b (sh 431 v3)) (fun r5 => lt (pu 431 8 v3 r5.2) (fun v6 => ob (m_X9_thrown (sh 431 v6)) (fun r8 => (if r8 = r1.1 then (if r1.1 = 0 then (if (lg_cmp ((v6 430 0).toInt64) ((r5.1).toInt64)) = 0 then some v6 else none) else some v6) else none)))))) = some z ∧ RRL (k + 1) z := by
  obtain ⟨z, v', w', e1, e2, e3, e4⟩ := h
  refine ⟨pu 431 8 (pu 0 431 v (st2 (pu 0 430 v v') 430 0 z)) w', ?_, gl_R e4 hB (fun j hj => ?_)⟩
  · rw [e1, q_ob, q_lt, q_lt, q_ob, q_lt]
    dsimp only
    rw [gl_sh, e2, q_ob, q_lt]
    dsimp only
    rw [gl_t, q_ob, e3, if_pos rfl, if_pos rfl, gl_o, q_ss, va_up_self, gl_l]
  · rw [pu_i (by omega) (by omega), Nat.sub_zero, q_sn (by omega), pu_i (by omega) (by omega), Nat.sub_zero]
theorem gl_O {B k : Nat} {v : xSt} {a : Option Int32} {b : xSt → Option (Int32 × xSt)} (hB : B ≤ 10000 * (k + 1)) (h : MO B v a (b (sh 431 v))) : ∃ z, ob (ob a (fun r2 => lt (st2 v 430 0 r2) (fun v3 => some ((0 : Int32), v3)))) (fun r1 => lt (pu 0 431 v r1.2) (fun v3 => ob (b (sh 431 v3)) (fun r5 => lt (pu 431 8 v3 r5.2) (fun v6 => ob (m_X9_thrown (sh 431 v6)) (fun r8 => (if r8 = r1.1 then (if r1.1 = 0 then (if (lg_cmp ((v6 430 0).toInt64) ((r5.1).toInt64)) = 0 then some v6 else none) else some v6) else none)))))) = some z ∧ RRL (k + 1) z := by
  obtain ⟨z, w', e1, e2, e3, e4⟩ := h
  refine ⟨pu 431 8 (pu 0 431 v (st2 v 430 0 z)) w', ?_, gl_R e4 hB (fun j hj => ?_)⟩
  · rw [e1, q_ob, q_lt, q_ob, q_lt]
    dsimp only
    rw [gl_sh, e2, q_ob, q_lt]
    dsimp only
    rw [gl_t, q_ob, e3, if_pos rfl, if_pos rfl, gl_o, q_ss, va_up_self, gl_l]
  · rw [pu_i (by omega) (by omega), Nat.sub_zero, q_sn (by omega)]
theorem gl_T {B k : Nat} {v : xSt} {E : String} {c : Int32} {a : Option (String × xSt)} {b : xSt → Option (Int32 × xSt)} (hc : ¬ c = 0) (hB : B ≤ 10000 * (k + 1)) (h : MT B a E c (b (sh 431 v))) : ∃ z, ob (xthE E a) (fun r1 => lt (pu 0 431 v (pu 0 430 v r1)) (fun v3 => ob (b (sh 431 v3)) (fun r5 => lt (pu 431 8 v3 r5.2) (fun v6 => ob (m_X9_thrown (sh 431 v6)) (fun r8 => (if r8 = c then (if c = 0 then (if (lg_cmp ((v6 430 0).toInt64) ((r5.1).toInt64)) = 0 then some v6 else none) else some v6) else none)))))) = some z ∧ RRL (k + 1) z := by
  obtain ⟨v', z, w', e1, e2, e3, e4⟩ := h
  refine ⟨pu 431 8 (pu 0 431 v (pu 0 430 v v')) w', ?_, gl_R e4 hB (fun j hj => ?_)⟩
  · rw [e1, show xthE E (some (E, v')) = some v' from if_pos rfl, q_ob, q_lt]
    rw [gl_sh, e2, q_ob, q_lt]
    dsimp only
    rw [gl_t, q_ob, e3, if_pos rfl, if_neg hc]
  · rw [pu_i (by omega) (by omega), Nat.sub_zero, pu_i (by omega) (by omega), Nat.sub_zero]
theorem gl_DN {B k : Nat} {v : xSt} {a : Option (Int32 × xSt)} {b : xSt → Option (Int32 × xSt)} (hB : B ≤ 10000 * (k + 1)) (h : MN B a (b (sh 431 v))) : ∃ z, ob a (fun r2 => lt (pu 0 430 v r2.2) (fun v3 => ob (b (sh 431 v3)) (fun r5 => lt (pu 431 8 v3 r5.2) (fun v6 => (if r2.1 = r5.1 then some v6 else none))))) = some z ∧ RRL (k + 1) z := by
  obtain ⟨z, v', w', e1, e2, e3, e4⟩ := h
  refine ⟨pu 431 8 (pu 0 430 v v') w', ?_, gl_R e4 hB (fun j hj => ?_)⟩
  · rw [e1, q_ob, q_lt]
    dsimp only
    rw [gl_sh2, e2, q_ob, q_lt]
    dsimp only
    rw [if_pos rfl]
  · rw [pu_i (by omega) (by omega), Nat.sub_zero]
theorem gl_DO {B k : Nat} {v : xSt} {a : Option Int32} {b : xSt → Option (Int32 × xSt)} (hB : B ≤ 10000 * (k + 1)) (h : MO B v a (b (sh 431 v))) : ∃ z, ob a (fun r2 => ob (b (sh 431 v)) (fun r4 => lt (pu 431 8 v r4.2) (fun v5 => (if r2 = r4.1 then some v5 else none)))) = some z ∧ RRL (k + 1) z := by
  obtain ⟨z, w', e1, e2, e3, e4⟩ := h
  refine ⟨pu 431 8 v w', ?_, gl_R e4 hB (fun j hj => rfl)⟩
  rw [e1, q_ob, e2, q_ob, q_lt]
  dsimp only
  rw [if_pos rfl]
/-! doubles -/
theorem xn64_n {r : UInt64} (h : xn64 r) : FP.Core.decode FP.Core.b64 r.toNat ≠ FP.Core.Datum.nan := by
  obtain ⟨t1, t2, t3, t4, t5⟩ := wf_2
  have h' : r.toNat % 9223372036854775808 ≤ 9218868437227405312 := by
    have g := h
    unfold xn64 at g
    rw [UInt64.le_iff_toNat_le, UInt64.toNat_and, show (0x7fffffffffffffff : UInt64).toNat = 2 ^ 63 - 1 by decide, Nat.and_two_pow_sub_one_eq_mod, show (0x7ff0000000000000 : UInt64).toNat = 9218868437227405312 by decide] at g
    exact g
  unfold FP.Core.decode
  by_cases c1 : FP.Core.fieldE FP.Core.b64 r.toNat = FP.Core.b64.exps - 1
  · rw [if_pos c1]
    by_cases c2 : FP.Core.fieldT FP.Core.b64 r.toNat = 0
    · rw [if_pos c2]
      intro c
      cases c
    · exfalso
      unfold FP.Core.fieldE at c1
      unfold FP.Core.fieldT at c2
      rw [t1, t2] at c1
      rw [t1] at c2
      omega
  · rw [if_neg c1]
    by_cases c3 : FP.Core.fieldE FP.Core.b64 r.toNat = 0
    · rw [if_pos c3]
      intro c
      cases c
    · rw [if_neg c3]
      intro c
      cases c
theorem xn64_c {r : UInt64} (h : xn64 r) : Op.cmpValue (FP.dcmp r r) .l = 0 := by
  rw [show FP.dcmp r r = some Ordering.eq from od_s (xn64_n h)]
  rfl
