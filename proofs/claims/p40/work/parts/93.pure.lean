/-! OBEY -/
theorem RBC_t0 {B : Nat} {v w : xSt} (H : RBC B v w) : RBC B (st2 v 0 7 0) (st2 w 0 7 0) := by
  obtain ⟨h1, h2, h3, ⟨n, n1, n2, n3, h4⟩, h5⟩ := H
  refine ⟨?_, SH_c h2 (by rw [sh_e, sh_e, q_sn (by omega)]), RSn_c h3 (Nat.le_refl _) (fun j j1 j2 => q_sn (by omega)) (by rw [q_ss, va_up_ne _ _ (by omega)]) (q_sn (by omega)) (by rw [q_ss, va_up_ne _ _ (by omega)]), ⟨n, n1, by rw [q_ss, va_up_ne _ _ (by omega)]; exact n2, by rw [q_ss, va_up_ne _ _ (by omega)]; exact n3, RSv_c h4 n1 (Nat.le_refl _) (fun j j1 j2 => q_sn (by omega)) (q_sn (by omega)) (q_sn (by omega))⟩, 0, by omega, by rw [q_ss, va_up_self]; rfl, by rw [q_ss, va_up_self]; rfl, fun i hi => by omega⟩
  rw [q_sn (by omega)]
  exact RR_v h1 (fun j hj => by rw [sh_e, sh_e, q_sn (by omega)])
def OBL (rec18 : Int32 × Int32 × Int32 × xSt → Option (Int32 × xSt)) : Int32 × Int32 × Int32 × xSt → Option (Int32 × xSt) := un4 (fun (a14 : Int32) (a15 : Int32) (a16 : Int32) (v17 : xSt) => lt (fun (_ : Unit) => lt (st2 v17 0 7 (0 : Int32)) (fun v20 => some (a14, v20))) (fun j19 => (if (v17 0 7) < a16 then j19 () else (if a15 = 0 then j19 () else lt (fun (t23 : Int32) => lt (fun (a25 : Int32) (a26 : Int32) (v27 : xSt) => ob (m_X5_goesOnWith (sh 3 v27) t23) (fun r30 => lt (pu 3 3 v27 r30.2) (fun v32 => rec18 (a25, a26, (a16 + 1), v32)))) (fun j28 => (if t23 = (59 : Int32) then ob (m_X8_doPart v17) (fun r35 => lt (r35.2) (fun v37 => lt (fun (t38 : Int32) (t39 : Int32) => j28 (t38 + t39) r35.1 v37) (fun j40 => (if r35.1 = 0 then j40 a14 (0 : Int32) else j40 a14 (1 : Int32))))) else j28 a14 a15 v17))) (fun j24 => lt (fun (_ : Unit) => j24 (59 : Int32)) (fun j42 => (if (v17 0 7) ≤ a16 then j42 () else (if (60 : Int32) ≤ a16 then j42 () else ck (¬ (a16 < 0 ∨ 60 ≤ a16.toNatClampNeg)) (j24 (v17 2 a16.toNatClampNeg))))))))))
theorem OBL_e (rec18 : Int32 × Int32 × Int32 × xSt → Option (Int32 × xSt)) (a14 a15 a16 : Int32) (v17 : xSt) : OBL rec18 (a14, a15, a16, v17) = lt (fun (_ : Unit) => lt (st2 v17 0 7 (0 : Int32)) (fun v20 => some (a14, v20))) (fun j19 => (if (v17 0 7) < a16 then j19 () else (if a15 = 0 then j19 () else lt (fun (t23 : Int32) => lt (fun (a25 : Int32) (a26 : Int32) (v27 : xSt) => ob (m_X5_goesOnWith (sh 3 v27) t23) (fun r30 => lt (pu 3 3 v27 r30.2) (fun v32 => rec18 (a25, a26, (a16 + 1), v32)))) (fun j28 => (if t23 = (59 : Int32) then ob (m_X8_doPart v17) (fun r35 => lt (r35.2) (fun v37 => lt (fun (t38 : Int32) (t39 : Int32) => j28 (t38 + t39) r35.1 v37) (fun j40 => (if r35.1 = 0 then j40 a14 (0 : Int32) else j40 a14 (1 : Int32))))) else j28 a14 a15 v17))) (fun j24 => lt (fun (_ : Unit) => j24 (59 : Int32)) (fun j42 => (if (v17 0 7) ≤ a16 then j42 () else (if (60 : Int32) ≤ a16 then j42 () else ck (¬ (a16 < 0 ∨ 60 ≤ a16.toNatClampNeg)) (j24 (v17 2 a16.toNatClampNeg))))))))) := Eq.trans rfl rfl
def OBR (rec13 : Int32 × Int32 × xSt → Option (Int32 × xSt)) : Int32 × Int32 × xSt → Option (Int32 × xSt) := un3 (fun (a10 : Int32) (a11 : Int32) (v12 : xSt) => lt (fun (_ : Unit) => lt (st2 v12 0 7 (0 : Int32)) (fun v15 => some (a10, v15))) (fun j14 => (if a11 = 0 then j14 () else (if (v12 0 7) ≤ (v12 0 9) then j14 () else ob (m_X9_takesPart v12) (fun r19 => lt (st2 r19 0 9 ((r19 0 9) + (1 : Int32))) (fun v20 => ob (m_X9_doesPart v20) (fun r22 => lt (r22.2) (fun v24 => lt (fun (t25 : Int32) (t26 : Int32) => rec13 ((t25 + t26), r22.1, v24)) (fun j27 => (if r22.1 = 0 then j27 a10 (0 : Int32) else j27 a10 (1 : Int32)))))))))))
theorem OBR_e (rec13 : Int32 × Int32 × xSt → Option (Int32 × xSt)) (a10 a11 : Int32) (v12 : xSt) : OBR rec13 (a10, a11, v12) = lt (fun (_ : Unit) => lt (st2 v12 0 7 (0 : Int32)) (fun v15 => some (a10, v15))) (fun j14 => (if a11 = 0 then j14 () else (if (v12 0 7) ≤ (v12 0 9) then j14 () else ob (m_X9_takesPart v12) (fun r19 => lt (st2 r19 0 9 ((r19 0 9) + (1 : Int32))) (fun v20 => ob (m_X9_doesPart v20) (fun r22 => lt (r22.2) (fun v24 => lt (fun (t25 : Int32) (t26 : Int32) => rec13 ((t25 + t26), r22.1, v24)) (fun j27 => (if r22.1 = 0 then j27 a10 (0 : Int32) else j27 a10 (1 : Int32)))))))))) := Eq.trans rfl rfl
theorem O_char {T : Nat → Nat} {L p : Nat} {v c1 : xSt} {a : Int32} (h : TV T L v) (hp : p < L) (h127 : T p < 127) (h59 : ¬ T p = 59) (hg : m_X5_goesOnWith (sh 3 v) (nI (T p)) = some (1, c1)) (F : Nat) : lp OBL (F + 1) (a, 1, nI p, v) = lp OBL F (a, 1, nI (p + 1), pu 3 3 v c1) := by
  obtain ⟨h1, h2, h3⟩ := h
  rw [lp, OBL_e, q_lt, h2, if_neg (nI_nlt (by omega) (by omega)), if_neg (by decide), q_lt, q_lt, if_neg (nI_ge hp (by omega)), if_neg (show ¬ (60 : Int32) ≤ nI p from nI_ge (b := 60) (by omega) (by omega)), q_cl (by omega), q_ck (by rw [show (0 : Int32) = nI 0 from rfl, q_lts (by omega) (by omega)]; omega), h3 p hp]
  dsimp only
  rw [q_lt, if_neg (show ¬ nI (T p) = (59 : Int32) from chn (k := 59) h127 (by omega) h59)]
  dsimp only
  rw [hg, q_ob, q_lt, show nI p + 1 = nI (p + 1) from nI_1 p]
theorem O_run {T : Nat → Nat} {L : Nat} {a : Int32} : ∀ n p (v c' : xSt), TV T L v → (∀ i, i < L → T i < 127) → p + n ≤ L → N59 T p n → rn T (sh 3 v) p n = some c' → ∀ F, lp OBL (F + n) (a, 1, nI p, v) = lp OBL F (a, 1, nI (p + n), pu 3 3 v c') := by
  intro n
  induction n with
  | zero =>
    intro p v c' h hc hp h9 hr F
    cases hr
    rw [pu_s3]
    rfl
  | succ n ih =>
    intro p v c' h hc hp h9 hr F
    rw [rn] at hr
    cases hg : m_X5_goesOnWith (sh 3 v) (nI (T p)) with
    | none => rw [hg] at hr; cases hr
    | some x =>
      obtain ⟨r, c1⟩ := x
      rw [hg] at hr
      by_cases hr1 : r = 1
      · simp only [if_pos hr1] at hr
        rw [hr1] at hg
        rw [show F + (n + 1) = F + n + 1 by omega, O_char h (by omega) (hc _ (by omega)) (h9 p (by omega) (by omega)) hg]
        have e := sh_p3 (k_go _ _ hg)
        have := ih (p + 1) (pu 3 3 v c1) c' (TV_c h) hc (by omega) (fun i a b => h9 i (by omega) (by omega)) (by rw [e]; exact hr) F
        rw [this, pu_p3, show p + 1 + n = p + (n + 1) by omega]
      · simp only [if_neg hr1] at hr
        cases hr
theorem O_end {T : Nat → Nat} {L q : Nat} {v v2 c2 : xSt} {a r x : Int32} (h : TV T L v) (hq : q ≤ L) (h59 : q < L → T q = 59) (hd : m_X8_doPart v = some (r, v2)) (hg : m_X5_goesOnWith (sh 3 v2) (nI 59) = some (x, c2)) (hr : r = 0 ∨ r = 1) (F : Nat) : lp OBL (F + 1) (a, 1, nI q, v) = lp OBL F (a + r, r, nI (q + 1), pu 3 3 v2 c2) := by
  obtain ⟨h1, h2, h3⟩ := h
  have key : (if (59 : Int32) = (59 : Int32) then ob (m_X8_doPart v) (fun r35 => lt (r35.2) (fun v37 => lt (fun (t38 : Int32) (t39 : Int32) => (fun (a25 : Int32) (a26 : Int32) (v27 : xSt) => ob (m_X5_goesOnWith (sh 3 v27) 59) (fun r30 => lt (pu 3 3 v27 r30.2) (fun v32 => lp OBL F (a25, a26, (nI q + 1), v32)))) (t38 + t39) r35.1 v37) (fun j40 => (if r35.1 = 0 then j40 a (0 : Int32) else j40 a (1 : Int32))))) else (fun (a25 : Int32) (a26 : Int32) (v27 : xSt) => ob (m_X5_goesOnWith (sh 3 v27) 59) (fun r30 => lt (pu 3 3 v27 r30.2) (fun v32 => lp OBL F (a25, a26, (nI q + 1), v32)))) a 1 v) = lp OBL F (a + r, r, nI (q + 1), pu 3 3 v2 c2) := by
    rw [if_pos rfl, hd, q_ob]
    simp only [q_lt]
    have hg' : m_X5_goesOnWith (sh 3 v2) 59 = some (x, c2) := hg
    rcases hr with rfl | rfl
    · rw [if_pos rfl, hg', q_ob, show nI q + 1 = nI (q + 1) from nI_1 q]
    · rw [if_neg (by decide), hg', q_ob, show nI q + 1 = nI (q + 1) from nI_1 q]
  rw [lp, OBL_e, q_lt, h2, if_neg (nI_nlt (by omega) (by omega)), if_neg (by decide), q_lt, q_lt]
  by_cases hqL : q < L
  · rw [if_neg (nI_ge hqL (by omega)), if_neg (show ¬ (60 : Int32) ≤ nI q from nI_ge (b := 60) (by omega) (by omega)), q_cl (by omega), q_ck (by rw [show (0 : Int32) = nI 0 from rfl, q_lts (by omega) (by omega)]; omega), h3 q hqL, h59 hqL]
    exact key
  · rw [if_pos (nI_le (by omega) (by omega))]
    exact key
