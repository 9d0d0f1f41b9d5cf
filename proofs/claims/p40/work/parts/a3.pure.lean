/-! RETURNS OR THROWS, never both -/
theorem XN_arm {v : xSt} {r : String × xSt} (h : m_X8_arm_t v = some r) : m_X8_arm_n v = none := by
  unfold m_X8_arm_t at h
  unfold m_X8_arm_n
  obtain ⟨a, ha, h⟩ := ob_e h
  rw [ha, q_ob]
  by_cases c : a = 0
  · rw [if_pos c] at h; cases h
  · rw [if_neg c]
theorem XN_freeze {v : xSt} {r : String × xSt} (h : m_X8_freeze_t v = some r) : m_X8_freeze_n v = none := by
  unfold m_X8_freeze_t at h
  unfold m_X8_freeze_n
  obtain ⟨a, ha, h⟩ := ob_e h
  rw [ha, q_ob]
  by_cases c : a = 0
  · rw [if_pos c] at h; cases h
  · rw [if_neg c]
theorem XN_load {v : xSt} {p : Int32} {r : String × xSt} (h : m_X8_load_t v p = some r) : m_X8_load_n v p = none := by
  unfold m_X8_load_t at h
  unfold m_X8_load_n
  by_cases c : xwi p 0 255 = 0
  · rw [if_pos c]
  rw [if_neg c] at h ⊢
  by_cases c2 : v 13 1 < 12
  · rw [if_pos c2] at h; cases h
  · rw [if_neg c2]
theorem XN_write {v : xSt} {p : Int32} {r : String × xSt} (h : m_X8_write_t v p = some r) : m_X8_write_n v p = none := by
  unfold m_X8_write_t at h
  unfold m_X8_write_n
  by_cases c : xwi p 0 255 = 0
  · rw [if_pos c]
  rw [if_neg c] at h ⊢
  obtain ⟨a, ha, h⟩ := ob_e h
  rw [ha, q_ob]
  by_cases c : a = 0
  · rw [if_pos c] at h; cases h
  · rw [if_neg c]
theorem XN_erase {v : xSt} {p : Int32} {r : String × xSt} (h : m_X8_erase_t v p = some r) : m_X8_erase_n v p = none := by
  unfold m_X8_erase_t at h
  unfold m_X8_erase_n
  by_cases c : xwi p 0 7 = 0
  · rw [if_pos c]
  rw [if_neg c] at h ⊢
  obtain ⟨a, ha, h⟩ := ob_e h
  rw [ha, q_ob]
  by_cases c : a = 0
  · rw [if_pos c] at h; cases h
  · rw [if_neg c]
theorem XN_lock {v : xSt} {p s : Int32} {r : String × xSt} (h : m_X8_lock_t v p s = some r) : m_X8_lock_n v p s = none := by
  unfold m_X8_lock_t at h
  unfold m_X8_lock_n
  by_cases c : xwi p 0 4 = 0
  · rw [if_pos c]
  rw [if_neg c] at h ⊢
  by_cases c2 : xwi s 0 1 = 0
  · rw [if_pos c2]
  rw [if_neg c2] at h ⊢
  obtain ⟨a, ha, h⟩ := ob_e h
  rw [ha, q_ob]
  by_cases c : a = 0
  · rw [if_pos c] at h; cases h
  · rw [if_neg c]
theorem XN_suspend {v : xSt} {r : String × xSt} (h : m_X8_suspend_t v = some r) : m_X8_suspend_n v = none := by
  unfold m_X8_suspend_t at h
  unfold m_X8_suspend_n
  simp only [q_lt] at h ⊢
  have n1 : ¬ (1 : Int32) = 0 := by decide
  by_cases c0 : v 18 0 = 0
  · rw [if_neg n1, if_pos c0, if_pos trivial] at h
    rw [if_pos trivial]
    by_cases c1 : v 15 0 = 1
    · rw [if_pos c1] at h; cases h
    · rw [if_neg c1] at h ⊢
      by_cases c2 : v 15 0 = 2
      · rw [if_pos c2] at h; cases h
      · rw [if_neg c2]
  · rw [if_neg n1, if_neg c0, if_pos trivial]
    by_cases c1 : v 15 0 = 1
    · rw [if_pos c1]
    · rw [if_neg c1]
      by_cases c2 : v 15 0 = 2
      · rw [if_pos c2]
      · rw [if_neg c2]
theorem XN_resume {v : xSt} {r : String × xSt} (h : m_X8_resume_t v = some r) : m_X8_resume_n v = none := by
  unfold m_X8_resume_t at h
  unfold m_X8_resume_n
  by_cases c : v 18 0 = 0
  · rw [if_pos c]
  rw [if_neg c] at h ⊢
  obtain ⟨a, ha, h⟩ := ob_e h
  rw [ha, q_ob]
  by_cases c : a = 0
  · rw [if_pos c] at h; cases h
  · rw [if_neg c]
theorem XN_post {v : xSt} {p q u : Int32} {r : String × xSt} (h : m_X8_post_t v p q u = some r) : m_X8_post_n v p q u = none := by
  unfold m_X8_post_t at h
  unfold m_X8_post_n
  by_cases c : xwi p 0 1 = 0
  · rw [if_pos c]
  rw [if_neg c] at h ⊢
  by_cases c2 : xwi u 0 9 = 0
  · rw [if_pos c2]
  rw [if_neg c2] at h ⊢
  simp only [q_lt] at h ⊢
  by_cases c3 : p = 0
  · rw [if_pos c3] at h ⊢
    by_cases c4 : xwi q 0 255 = 0
    · rw [if_pos c4]
    rw [if_neg c4] at h ⊢
    obtain ⟨a, ha, h⟩ := ob_e h
    rw [ha, q_ob]
    by_cases c5 : a = 0
    · rw [if_pos c5, if_pos c3] at h
      rw [if_pos c5, if_pos c3]
      by_cases c6 : v 13 1 = 0
      · rw [if_pos c6]
      · rw [if_neg c6] at h; cases h
    · rw [if_neg c5]
  · rw [if_neg c3] at h ⊢
    by_cases c4 : xwi q 0 7 = 0
    · rw [if_pos c4]
    rw [if_neg c4] at h ⊢
    obtain ⟨a, ha, h⟩ := ob_e h
    rw [ha, q_ob]
    by_cases c5 : a = 0
    · rw [if_pos c5, if_neg c3] at h; cases h
    · rw [if_neg c5]
theorem XN_withdraw {v : xSt} {p : Int32} {r : String × xSt} (h : m_X8_withdraw_t v p = some r) : m_X8_withdraw_n v p = none := by
  unfold m_X8_withdraw_t at h
  unfold m_X8_withdraw_n
  obtain ⟨a, ha, h⟩ := ob_e h
  rw [ha, q_ob]
  by_cases c : a = -1
  · rw [if_pos c]
  · rw [if_neg c] at h; cases h
theorem XN_pass {v : xSt} {p : Int32} {r : String × xSt} (h : m_X8_pass_t v p = some r) : m_X8_pass_n v p = none := by
  unfold m_X8_pass_t at h
  unfold m_X8_pass_n
  by_cases c : xwi p 1 200 = 0
  · rw [if_pos c]
  · rw [if_neg c] at h; cases h
theorem XN_set {v : xSt} {p s : Int32} {r : String × xSt} (h : m_X8_set_t v p s = some r) : m_X8_set_n v p s = none := by
  unfold m_X8_set_t at h
  unfold m_X8_set_n
  by_cases c : xwi p 0 4 = 0
  · rw [if_pos c]
  rw [if_neg c] at h ⊢
  by_cases c2 : xwi s (xat 5 (xsv 1) p) (xat 5 (xsv 2) p) = 0
  · rw [if_pos c2]
  · rw [if_neg c2] at h; cases h
theorem XN_append {v : xSt} {p : Int32} {r : String × xSt} (h : m_X8_append_t v p = some r) : m_X8_append_n v p = none := by
  unfold m_X8_append_t at h
  unfold m_X8_append_n
  by_cases c : xwi p 33 126 = 0
  · rw [if_pos c]
  rw [if_neg c] at h ⊢
  by_cases c2 : xwi (v 0 7) 0 (60 - 1) = 0
  · rw [if_pos c2]
  · rw [if_neg c2] at h; cases h
theorem XN_obey {v : xSt} {r : String × xSt} (h : m_X8_obey_t v = some r) : m_X8_obey_n v = none := by
  unfold m_X8_obey_t at h
  unfold m_X8_obey_n
  obtain ⟨a, ha, h⟩ := ob_e h
  rw [ha, q_ob]
  simp only [q_lt] at h ⊢
  by_cases c : a.1 < a.2 0 7
  · rw [if_pos c]
  rw [if_neg c] at h ⊢
  obtain ⟨b, hb, h⟩ := ob_e h
  rw [hb, q_ob]
  by_cases c2 : b = 0
  · rw [if_pos c2]
  · rw [if_neg c2] at h; cases h
theorem XN_goBack {v : xSt} {r : String × xSt} (h : m_X8_goBack_t v = some r) : m_X8_goBack_n v = none := by
  unfold m_X8_goBack_t at h
  unfold m_X8_goBack_n
  by_cases c : v 0 3 = 0
  · rw [if_pos c]
  · rw [if_neg c] at h; cases h
theorem XN_undo {v : xSt} {r : String × xSt} (h : m_X8_undo_t v = some r) : m_X8_undo_n v = none := by
  unfold m_X8_undo_t at h
  unfold m_X8_undo_n
  by_cases c : 0 < v 0 5
  · rw [if_pos c] at h; cases h
  · rw [if_neg c]
theorem XN_read {v : xSt} {p : Int32} {r : String × xSt} (h : m_X8_read_t v p = some r) : m_X8_read_n v p = none := by
  unfold m_X8_read_t at h
  unfold m_X8_read_n
  by_cases c : xwi p 0 255 = 0
  · rw [if_pos c]
  rw [if_neg c] at h ⊢
  obtain ⟨a, ha, h⟩ := ob_e h
  rw [ha, q_ob]
  by_cases c2 : a = 0
  · rw [if_pos c2] at h ⊢
    obtain ⟨b, hb, h⟩ := ob_e h
    rw [hb, q_ob]
    by_cases c3 : b = 0
    · rw [if_pos c3] at h; cases h
    · rw [if_neg c3]
  · rw [if_neg c2]
/-! the law's wrappers -/
theorem L_n {mn y : Option (Int32 × xSt)} {z : Int32} {v' : xSt} (h : mn = some (z, v')) : oe (ob mn (fun r2 => lt (r2.2) (fun v3 => some (r2.1, v3)))) y = some (z, v') := by rw [h]; rfl
theorem L_t1 {mn : Option (Int32 × xSt)} {mt : Option (String × xSt)} {E : String} {c : Int32} {v' : xSt} {y : String × xSt → Option (Int32 × xSt)} (h0 : mn = none) (h : mt = some (E, v')) : oe (ob mn (fun r2 => lt (r2.2) (fun v3 => some (r2.1, v3)))) (ob mt (fun z => (if z.1 = E then some (c, z.2) else y z))) = some (c, v') := by
  rw [h0, h]
  exact if_pos rfl
theorem L_t2 {mn : Option (Int32 × xSt)} {mt : Option (String × xSt)} {E1 E : String} {c1 c : Int32} {v' : xSt} {y : String × xSt → Option (Int32 × xSt)} (hn : ¬ E = E1) (h0 : mn = none) (h : mt = some (E, v')) : oe (ob mn (fun r2 => lt (r2.2) (fun v3 => some (r2.1, v3)))) (ob mt (fun z => (if z.1 = E1 then some (c1, z.2) else (if z.1 = E then some (c, z.2) else y z)))) = some (c, v') := by
  rw [h0, h]
  exact (if_neg hn).trans (if_pos rfl)
theorem L_t3 {mn : Option (Int32 × xSt)} {mt : Option (String × xSt)} {E1 E2 E : String} {c1 c2 c : Int32} {v' : xSt} {y : String × xSt → Option (Int32 × xSt)} (hn : ¬ E = E1) (hn2 : ¬ E = E2) (h0 : mn = none) (h : mt = some (E, v')) : oe (ob mn (fun r2 => lt (r2.2) (fun v3 => some (r2.1, v3)))) (ob mt (fun z => (if z.1 = E1 then some (c1, z.2) else (if z.1 = E2 then some (c2, z.2) else (if z.1 = E then some (c, z.2) else y z))))) = some (c, v') := by
  rw [h0, h]
  exact (if_neg hn).trans ((if_neg hn2).trans (if_pos rfl))
theorem xs_1 : ¬ xISE = xIAE := by decide
theorem xs_2 : ¬ xISE = xIOB := by decide
theorem xs_3 : ¬ xIOB = xIAE := by decide
theorem xs_4 : ¬ xIAE = xIOB := by decide
def e8 (w : xSt) (k : Int32) : xSt := st2 (st2 w 0 8 0) 0 8 k
theorem EQ_f (w : xSt) (k : Int32) : EQ w (e8 w k) := EQ_t (EQ_8 w 0) (EQ_8 _ k)
theorem e8_8 (w : xSt) (k : Int32) : (e8 w k) 0 8 = k := w1_8 _ _
theorem fl8 {w1 : xSt} {τ : Nat → Int32} (h : w1 0 8 = 0) : (va_up w1 1 τ) 0 8 = 0 := by rw [va_up_ne _ _ (by omega)]; exact h
