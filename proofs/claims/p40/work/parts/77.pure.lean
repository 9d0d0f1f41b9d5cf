/-! TEXTS: the class's reader, step by step -/
abbrev isD (ch : Nat) : Prop := 48 ≤ ch ∧ ch ≤ 57
abbrev isH (ch : Nat) : Prop := (48 ≤ ch ∧ ch ≤ 57) ∨ (97 ≤ ch ∧ ch ≤ 102)
def hvl (ch : Nat) : Nat := if ch ≤ 57 then ch - 48 else ch - 87
theorem fg10 : ∀ ch, ch < 127 → m_X5_figure (nI ch) 10 = some (if 48 ≤ ch ∧ ch ≤ 57 then nI (ch - 48) else -1) := by decide +kernel
theorem fg16 : ∀ ch, ch < 127 → m_X5_figure (nI ch) 16 = some (if (48 ≤ ch ∧ ch ≤ 57) ∨ (97 ≤ ch ∧ ch ≤ 102) then nI (hvl ch) else -1) := by decide +kernel
theorem fgR : ∀ ch, ch < 127 → m_X9_figure (nI ch) = some (if (48 ≤ ch ∧ ch ≤ 57) ∨ (97 ≤ ch ∧ ch ≤ 102) then nI (hvl ch) else -1) := by decide +kernel
theorem hvl_b {ch : Nat} (h : isH ch) : hvl ch < 16 := by
  unfold isH at h
  unfold hvl
  split <;> omega
/-- the greatest number behind a letter, and the least -/
def mostN (l : Nat) : Nat := if l = 119 then 255 else if l = 101 then 7 else 99
def leastN (l : Nat) : Nat := if l = 116 then 1 else 0
theorem chn {ch k : Nat} (hc : ch < 127) (hk : k < 127) (h : ¬ ch = k) : ¬ nI ch = nI k := fun e => h ((nI_eq (by omega) (by omega)).mp e)
theorem e_most {c : xSt} {l : Nat} (h : c 0 1 = nI l) (hl : l = 119 ∨ l = 101 ∨ l = 116) : m_X5_mostNumber c = some (nI (mostN l)) := by
  unfold m_X5_mostNumber
  rw [h]
  rcases hl with rfl | rfl | rfl <;> rfl
/-- what a step keeps -/
def tl3 (c c' : xSt) : Prop := ∀ j, 3 ≤ j → c' j = c j
theorem S0a {c : xSt} {ch : Nat} (h : c 0 0 = nI 0) (hch : ch = 119 ∨ ch = 101 ∨ ch = 116) : ∃ c', m_X5_goesOnWith c (nI ch) = some (1, c') ∧ c' 0 0 = nI 1 ∧ c' 0 1 = nI ch ∧ c' 0 2 = nI 0 ∧ c' 0 3 = nI 5 ∧ c' 1 1 = nI 0 ∧ tl3 c c' := by
  have e : m_X5_opensPart c (nI ch) = some (1, st2 (st2 (st2 (st2 (st2 c 0 1 (nI ch)) 0 2 0) 0 3 5) 1 1 0) 0 0 1) := by
    unfold m_X5_opensPart
    simp only [q_lt]
    have hb : (0 : Int32) ≤ nI ch ∧ nI ch < 65536 := ⟨nI_pos' (by omega), nI_lt (b := 65536) (by omega) (by omega)⟩
    rw [q_ck hb]
    rcases hch with rfl | rfl | rfl <;> repeat first | rw [if_neg (by decide)] | rw [if_pos (by decide)]
  refine ⟨st2 (st2 (st2 (st2 (st2 c 0 1 (nI ch)) 0 2 0) 0 3 5) 1 1 0) 0 0 1, ?_, rfl, rfl, rfl, rfl, rfl, fun j hj => ?_⟩
  · unfold m_X5_goesOnWith
    rw [h, if_pos (by decide), e]
    rfl
  · rw [q_sn (by omega), q_sn (by omega), q_sn (by omega), q_sn (by omega), q_sn (by omega)]
theorem S0b {c : xSt} {ch : Nat} (h : c 0 0 = nI 0) (hch : ¬ (ch = 119 ∨ ch = 101 ∨ ch = 116)) (h127 : ch < 127) : m_X5_goesOnWith c (nI ch) = some (0, c) := by
  have e : m_X5_opensPart c (nI ch) = some (0, c) := by
    unfold m_X5_opensPart
    simp only [q_lt]
    rw [if_neg (show ¬ nI ch = (119 : Int32) from chn (k := 119) h127 (by omega) (by omega)), if_neg (show ¬ nI ch = (101 : Int32) from chn (k := 101) h127 (by omega) (by omega)), if_neg (show ¬ nI ch = (116 : Int32) from chn (k := 116) h127 (by omega) (by omega))]
  unfold m_X5_goesOnWith
  rw [h, if_pos (by decide), e]
  rfl
theorem S1a {c : xSt} {ch l : Nat} (h : c 0 0 = nI 1) (hl : c 0 1 = nI l) (hl3 : l = 119 ∨ l = 101 ∨ l = 116) (hd : isD ch) (h1 : leastN l ≤ ch - 48) (h2 : ch - 48 ≤ mostN l) : ∃ c', m_X5_goesOnWith c (nI ch) = some (1, c') ∧ c' 0 0 = nI 2 ∧ c' 0 1 = nI l ∧ c' 0 2 = nI (ch - 48) ∧ c' 0 3 = c 0 3 ∧ c' 1 = c 1 ∧ c' 2 = c 2 ∧ tl3 c c' := by
  unfold isD at hd
  have hm : mostN l ≤ 255 := by unfold mostN; split; omega; split <;> omega
  have e : m_X5_opensNumber c (nI ch) = some (1, st2 (st2 c 0 2 (nI (ch - 48))) 0 0 2) := by
    have key : ∀ least, least = nI (leastN l) → (if nI (ch - 48) < least then some ((0 : Int32), c) else ob (m_X5_mostNumber c) (fun r7 => (if nI (ch - 48) ≤ r7 then lt (st2 c 0 2 (nI (ch - 48))) (fun v9 => lt (st2 v9 0 0 (2 : Int32)) (fun v10 => some ((1 : Int32), v10))) else some ((0 : Int32), c)))) = some (1, st2 (st2 c 0 2 (nI (ch - 48))) 0 0 2) := by
      intro least hle
      rw [hle, if_neg (nI_nlt h1 (by omega)), e_most hl hl3]
      simp only [q_ob, q_lt]
      rw [if_pos (nI_le h2 (by omega))]
    unfold m_X5_opensNumber
    rw [fg10 ch (by omega), if_pos hd]
    simp only [q_ob, q_lt] at key ⊢
    rcases hl3 with rfl | rfl | rfl
    · rw [if_neg (by rw [hl]; decide)]
      exact key 0 rfl
    · rw [if_neg (by rw [hl]; decide)]
      exact key 0 rfl
    · rw [if_pos (by rw [hl]; decide)]
      exact key 1 rfl
  refine ⟨st2 (st2 c 0 2 (nI (ch - 48))) 0 0 2, ?_, rfl, ?_, rfl, rfl, ?_, ?_, fun j hj => by rw [q_sn (by omega), q_sn (by omega)]⟩
  · unfold m_X5_goesOnWith
    rw [h, if_neg (by decide), if_pos (by decide), e]
    rfl
  · rw [q_ss, va_up_ne _ _ (by omega), q_ss, va_up_ne _ _ (by omega)]; exact hl
  · rw [q_sn (by omega), q_sn (by omega)]
  · rw [q_sn (by omega), q_sn (by omega)]
theorem S1b {c : xSt} {ch l : Nat} (h : c 0 0 = nI 1) (hl : c 0 1 = nI l) (hl3 : l = 119 ∨ l = 101 ∨ l = 116) (h127 : ch < 127) (hn : ¬ (isD ch ∧ leastN l ≤ ch - 48 ∧ ch - 48 ≤ mostN l)) : m_X5_goesOnWith c (nI ch) = some (0, c) := by
  have hm : mostN l ≤ 255 := by unfold mostN; split; omega; split <;> omega
  have e : m_X5_opensNumber c (nI ch) = some (0, c) := by
    unfold m_X5_opensNumber
    rw [fg10 ch h127]
    by_cases hd : 48 ≤ ch ∧ ch ≤ 57
    · have key : ∀ least, least = nI (leastN l) → (if nI (ch - 48) < least then some ((0 : Int32), c) else ob (m_X5_mostNumber c) (fun r7 => (if nI (ch - 48) ≤ r7 then some ((1 : Int32), st2 (st2 c 0 2 (nI (ch - 48))) 0 0 2) else some ((0 : Int32), c)))) = some (0, c) := by
        intro least hle
        by_cases h1 : leastN l ≤ ch - 48
        · rw [hle, if_neg (nI_nlt h1 (by omega)), e_most hl hl3]
          simp only [q_ob]
          rw [if_neg (nI_ge (by unfold isD at hn; omega) (by omega))]
        · have hl2 : leastN l ≤ 1 := by unfold leastN; split <;> omega
          rw [hle, if_pos (nI_lt (by omega) (by omega))]
      rw [if_pos hd]
      simp only [q_ob, q_lt]
      rcases hl3 with rfl | rfl | rfl
      · rw [if_neg (by rw [hl]; decide)]
        exact key 0 rfl
      · rw [if_neg (by rw [hl]; decide)]
        exact key 0 rfl
      · rw [if_pos (by rw [hl]; decide)]
        exact key 1 rfl
    · rw [if_neg hd]
      simp only [q_ob, q_lt]
      rcases hl3 with rfl | rfl | rfl
      · rw [if_neg (by rw [hl]; decide), if_pos (by decide)]
      · rw [if_neg (by rw [hl]; decide), if_pos (by decide)]
      · rw [if_pos (by rw [hl]; decide), if_pos (by decide)]
  unfold m_X5_goesOnWith
  rw [h, if_neg (by decide), if_pos (by decide), e]
  rfl
/-- behind a digit: one more digit -/
theorem S2a {c : xSt} {ch l t : Nat} (h : c 0 0 = nI 2) (hl : c 0 1 = nI l) (hl3 : l = 119 ∨ l = 101 ∨ l = 116) (ht : c 0 2 = nI t) (ht1 : t < 1000) (hd : isD ch) (h0 : 0 < t) (h1 : 10 * t + (ch - 48) ≤ mostN l) : ∃ c', m_X5_goesOnWith c (nI ch) = some (1, c') ∧ c' 0 0 = nI 2 ∧ c' 0 1 = nI l ∧ c' 0 2 = nI (10 * t + (ch - 48)) ∧ c' 0 3 = c 0 3 ∧ c' 1 = c 1 ∧ c' 2 = c 2 ∧ tl3 c c' := by
  unfold isD at hd
  have hm : mostN l ≤ 255 := by unfold mostN; split; omega; split <;> omega
  have e10 : nI t * 10 + nI (ch - 48) = nI (10 * t + (ch - 48)) := by
    rw [show (10 : Int32) = nI 10 from rfl, pk_mul, nI_add, Nat.mul_comm]
  refine ⟨st2 c 0 2 (nI (10 * t + (ch - 48))), ?_, ?_, ?_, rfl, rfl, ?_, ?_, fun j hj => by rw [q_sn (by omega)]⟩
  · unfold m_X5_goesOnWith
    rw [h, if_neg (by decide), if_neg (by decide), if_pos (by decide)]
    unfold m_X5_goesOnBehindDigit
    rw [fg10 ch (by omega), if_pos hd]
    simp only [q_ob]
    rw [if_neg (by rw [q_ne1 (by omega)]; exact id)]
    unfold m_X5_lengthensNumber
    rw [ht, if_neg (nI_ne0 h0 (by omega)), e_most hl hl3]
    simp only [q_ob, q_lt, e10]
    rw [if_pos (nI_le h1 (by omega))]
    rfl
  · rw [q_ss, va_up_ne _ _ (by omega)]; exact h
  · rw [q_ss, va_up_ne _ _ (by omega)]; exact hl
  · rw [q_sn (by omega)]
  · rw [q_sn (by omega)]
theorem S2b {c : xSt} {ch l t : Nat} (h : c 0 0 = nI 2) (hl : c 0 1 = nI l) (hl3 : l = 119 ∨ l = 101 ∨ l = 116) (ht : c 0 2 = nI t) (ht1 : t < 1000) (hd : isD ch) (h1 : ¬ (0 < t ∧ 10 * t + (ch - 48) ≤ mostN l)) : m_X5_goesOnWith c (nI ch) = some (0, c) := by
  unfold isD at hd
  have hm : mostN l ≤ 255 := by unfold mostN; split; omega; split <;> omega
  have e10 : nI t * 10 + nI (ch - 48) = nI (10 * t + (ch - 48)) := by
    rw [show (10 : Int32) = nI 10 from rfl, pk_mul, nI_add, Nat.mul_comm]
  unfold m_X5_goesOnWith
  rw [h, if_neg (by decide), if_neg (by decide), if_pos (by decide)]
  unfold m_X5_goesOnBehindDigit
  rw [fg10 ch (by omega), if_pos hd]
  simp only [q_ob]
  rw [if_neg (by rw [q_ne1 (by omega)]; exact id)]
  unfold m_X5_lengthensNumber
  rw [ht]
  by_cases h0 : 0 < t
  · rw [if_neg (nI_ne0 h0 (by omega)), e_most hl hl3]
    simp only [q_ob, q_lt, e10]
    rw [if_neg (nI_ge (by omega) (by omega))]
    rfl
  · rw [if_pos (by rw [show t = 0 by omega]; rfl)]
    rfl
theorem e_ends {c : xSt} {ch : Nat} {m : Int32} (h127 : ch < 127) : m_X5_endsPart c (nI ch) m = if ch = 33 ∧ ¬ m = 0 then some (1, st2 c 0 0 6) else if ch = 59 then some (1, st2 c 0 0 0) else some (0, st2 c 0 0 0) := by
  unfold m_X5_endsPart
  simp only [q_lt]
  by_cases h : ch = 33
  · rw [if_pos (show nI ch = (33 : Int32) by rw [h]; rfl)]
    by_cases hm : m = 0
    · rw [if_pos hm, if_neg (show ¬ nI ch = (59 : Int32) by rw [h]; decide), if_neg (show ¬ (ch = 33 ∧ ¬ m = 0) from fun x => x.2 hm), if_neg (by omega)]
    · rw [if_neg hm, if_pos ⟨h, hm⟩]
  · rw [if_neg (show ¬ nI ch = (33 : Int32) from chn (k := 33) h127 (by omega) h)]
    by_cases h2 : ch = 59
    · rw [if_pos (show nI ch = (59 : Int32) by rw [h2]; rfl), if_neg (show ¬ (ch = 33 ∧ ¬ m = 0) from fun x => h x.1), if_pos h2]
    · rw [if_neg (show ¬ nI ch = (59 : Int32) from chn (k := 59) h127 (by omega) h2), if_neg (show ¬ (ch = 33 ∧ ¬ m = 0) from fun x => h x.1), if_neg h2]
/-- behind a digit: something else -/
theorem S2c {c : xSt} {ch l : Nat} (h : c 0 0 = nI 2) (hl : c 0 1 = nI l) (hl3 : l = 119 ∨ l = 101 ∨ l = 116) (h127 : ch < 127) (hd : ¬ isD ch) : m_X5_goesOnWith c (nI ch) = if l = 119 then (if ch = 58 then some (1, st2 c 0 0 3) else some (0, st2 c 0 0 3)) else m_X5_endsPart c (nI ch) (if l = 101 then 1 else 0) := by
  unfold isD at hd
  unfold m_X5_goesOnWith
  rw [h, if_neg (by decide), if_neg (by decide), if_pos (by decide)]
  unfold m_X5_goesOnBehindDigit
  rw [fg10 ch h127, if_neg hd]
  simp only [q_ob, q_lt]
  rw [if_pos (by decide), hl]
  rcases hl3 with rfl | rfl | rfl
  · rw [if_pos (by decide), if_pos rfl]
    by_cases c1 : ch = 58
    · rw [if_pos (show nI ch = (58 : Int32) by rw [c1]; rfl), if_pos c1]
      rfl
    · rw [if_neg (show ¬ nI ch = (58 : Int32) from chn (k := 58) h127 (by omega) c1), if_neg c1]
      rfl
  · rw [if_neg (by decide), if_pos (by decide), if_neg (by decide), if_pos rfl]
    cases m_X5_endsPart c (nI ch) 1 <;> rfl
  · rw [if_neg (by decide), if_neg (by decide), if_neg (by decide), if_neg (by decide)]
    cases m_X5_endsPart c (nI ch) 0 <;> rfl
/-- values -/
theorem e_opV {c : xSt} {ch : Nat} (h127 : ch < 127) : m_X5_opensValue c (nI ch) = if (48 ≤ ch ∧ ch ≤ 57) ∨ (97 ≤ ch ∧ ch ≤ 102) then some (1, st2 (st2 c 0 5 (nI (hvl ch))) 0 0 4) else some (0, st2 (st2 c 0 5 (-1)) 0 0 4) := by
  unfold m_X5_opensValue
  rw [fg16 ch h127]
  by_cases h : (48 ≤ ch ∧ ch ≤ 57) ∨ (97 ≤ ch ∧ ch ≤ 102)
  · have hb := hvl_b (ch := ch) h
    rw [if_pos h, if_pos h]
    simp only [q_ob, q_lt]
    rw [q_ss, va_up_ne _ _ (show (5 : Nat) ≠ 0 by omega), q_ss, va_up_self, if_neg (by rw [q_ne1 (by omega)]; exact id)]
  · rw [if_neg h, if_neg h]
    simp only [q_ob, q_lt]
    rw [q_ss, va_up_ne _ _ (show (5 : Nat) ≠ 0 by omega), q_ss, va_up_self, if_pos rfl]
theorem S3 {c : xSt} {ch : Nat} (h : c 0 0 = nI 3) : m_X5_goesOnWith c (nI ch) = m_X5_opensValue c (nI ch) := by
  unfold m_X5_goesOnWith
  rw [h, if_neg (by decide), if_neg (by decide), if_neg (by decide), if_pos (by decide)]
  cases m_X5_opensValue c (nI ch) <;> rfl
theorem S4a {c : xSt} {ch m u : Nat} (h : c 0 0 = nI 4) (hu : c 0 5 = nI u) (hm : c 1 1 = nI m) (hm8 : m < 12) (hh : isH ch) : ∃ c', m_X5_goesOnWith c (nI ch) = some (1, c') ∧ c' 0 0 = nI 5 ∧ c' 0 1 = c 0 1 ∧ c' 0 2 = c 0 2 ∧ c' 0 3 = c 0 3 ∧ c' 1 1 = nI (m + 1) ∧ c' 2 = va_up (c 2) m (nI (16 * u + hvl ch)) ∧ tl3 c c' := by
  have h127 : ch < 127 := by unfold isH at hh; omega
  have hb := hvl_b hh
  have ea := e_add (c := sh 1 c) (m := m) (p := nI (16 * u + hvl ch)) hm hm8
  have e16 : nI u * 16 + nI (hvl ch) = nI (16 * u + hvl ch) := by
    rw [show (16 : Int32) = nI 16 from rfl, pk_mul, nI_add, Nat.mul_comm]
  obtain ⟨r, hr⟩ : ∃ r, r = st2 (st2 (sh 1 c) 1 m (nI (16 * u + hvl ch))) 0 1 (nI (m + 1)) := ⟨_, rfl⟩
  rw [← hr] at ea
  refine ⟨st2 (pu 1 2 c r) 0 0 5, ?_, rfl, ?_, ?_, ?_, ?_, ?_, fun j hj => ?_⟩
  · unfold m_X5_goesOnWith
    rw [h, if_neg (by decide), if_neg (by decide), if_neg (by decide), if_neg (by decide), if_pos (by decide)]
    unfold m_X5_endsValue
    rw [fg16 ch h127, if_pos (show ((48 ≤ ch ∧ ch ≤ 57) ∨ (97 ≤ ch ∧ ch ≤ 102)) from hh)]
    simp only [q_ob]
    rw [if_neg (by rw [q_ne1 (by omega)]; exact id), hu, e16, ea]
    rfl
  · rw [q_ss, va_up_ne _ _ (by omega), pu_o (by omega)]
  · rw [q_ss, va_up_ne _ _ (by omega), pu_o (by omega)]
  · rw [q_ss, va_up_ne _ _ (by omega), pu_o (by omega)]
  · rw [q_sn (by omega), pu_i (by omega) (by omega), hr]
    show st2 _ 0 1 (nI (m + 1)) 0 1 = _
    rw [q_ss, va_up_self]
  · rw [q_sn (by omega), pu_i (by omega) (by omega), hr]
    show st2 _ 0 1 (nI (m + 1)) 1 = _
    rw [q_sn (by omega), q_ss]
    rfl
  · rw [q_sn (by omega), pu_o (by omega)]
theorem S4b {c : xSt} {ch : Nat} (h : c 0 0 = nI 4) (h127 : ch < 127) (hh : ¬ isH ch) : m_X5_goesOnWith c (nI ch) = some (0, c) := by
  unfold m_X5_goesOnWith
  rw [h, if_neg (by decide), if_neg (by decide), if_neg (by decide), if_neg (by decide), if_pos (by decide)]
  unfold m_X5_endsValue
  rw [fg16 ch h127, if_neg (show ¬ ((48 ≤ ch ∧ ch ≤ 57) ∨ (97 ≤ ch ∧ ch ≤ 102)) from hh)]
  rfl
theorem S5a {c : xSt} {ch m : Nat} (h : c 0 0 = nI 5) (hm : c 1 1 = nI m) (hm8 : m < 8) (hh : isH ch) : m_X5_goesOnWith c (nI ch) = some (1, st2 (st2 c 0 5 (nI (hvl ch))) 0 0 4) := by
  have h127 : ch < 127 := by unfold isH at hh; omega
  have hb := hvl_b hh
  unfold m_X5_goesOnWith
  rw [h, if_neg (by decide), if_neg (by decide), if_neg (by decide), if_neg (by decide), if_neg (by decide), if_pos (by decide)]
  unfold m_X5_goesOnBehindValue
  simp only [q_lt]
  rw [hm, if_neg (show ¬ (8 : Int32) ≤ nI m from nI_ge (b := 8) hm8 (by omega)), fg16 ch h127, if_pos (show ((48 ≤ ch ∧ ch ≤ 57) ∨ (97 ≤ ch ∧ ch ≤ 102)) from hh)]
  simp only [q_ob]
  rw [if_neg (by rw [q_ne1 (by omega)]; exact id), e_opV h127, if_pos (show ((48 ≤ ch ∧ ch ≤ 57) ∨ (97 ≤ ch ∧ ch ≤ 102)) from hh)]
  rfl
theorem S5b {c : xSt} {ch m : Nat} (h : c 0 0 = nI 5) (hm : c 1 1 = nI m) (hm8 : m ≤ 8) (h127 : ch < 127) (hh : ¬ (m < 8 ∧ isH ch)) : m_X5_goesOnWith c (nI ch) = m_X5_endsPart c (nI ch) 1 := by
  unfold m_X5_goesOnWith
  rw [h, if_neg (by decide), if_neg (by decide), if_neg (by decide), if_neg (by decide), if_neg (by decide), if_pos (by decide)]
  unfold m_X5_goesOnBehindValue
  simp only [q_lt]
  by_cases h8 : m < 8
  · rw [hm, if_neg (show ¬ (8 : Int32) ≤ nI m from nI_ge (b := 8) h8 (by omega)), fg16 ch h127, if_neg (show ¬ ((48 ≤ ch ∧ ch ≤ 57) ∨ (97 ≤ ch ∧ ch ≤ 102)) from fun x => hh ⟨h8, x⟩)]
    simp only [q_ob]
    rw [if_pos (by decide)]
    cases m_X5_endsPart c (nI ch) 1 <;> rfl
  · rw [hm, if_pos (show (8 : Int32) ≤ nI m from nI_le (a := 8) (by omega) (by omega))]
    cases m_X5_endsPart c (nI ch) 1 <;> rfl
theorem S6a {c : xSt} {ch : Nat} (h : c 0 0 = nI 6) (hd : isD ch) : m_X5_goesOnWith c (nI ch) = some (1, st2 (st2 c 0 3 (nI (ch - 48))) 0 0 7) := by
  unfold isD at hd
  unfold m_X5_goesOnWith
  rw [h, if_neg (by decide), if_neg (by decide), if_neg (by decide), if_neg (by decide), if_neg (by decide), if_neg (by decide), if_pos (by decide)]
  unfold m_X5_tellsUrgency
  rw [fg10 ch (by omega), if_pos hd]
  simp only [q_ob, q_lt]
  rw [q_ss, va_up_ne _ _ (show (3 : Nat) ≠ 0 by omega), q_ss, va_up_self, if_neg (by rw [q_ne1 (by omega)]; exact id)]
  rfl
theorem S6b {c : xSt} {ch : Nat} (h : c 0 0 = nI 6) (h127 : ch < 127) (hd : ¬ isD ch) : m_X5_goesOnWith c (nI ch) = some (0, st2 (st2 c 0 3 (-1)) 0 0 7) := by
  unfold isD at hd
  unfold m_X5_goesOnWith
  rw [h, if_neg (by decide), if_neg (by decide), if_neg (by decide), if_neg (by decide), if_neg (by decide), if_neg (by decide), if_pos (by decide)]
  unfold m_X5_tellsUrgency
  rw [fg10 ch h127, if_neg hd]
  simp only [q_ob, q_lt]
  rw [q_ss, va_up_ne _ _ (show (3 : Nat) ≠ 0 by omega), q_ss, va_up_self, if_pos rfl]
  rfl
theorem S7 {c : xSt} {ch : Nat} (h : c 0 0 = nI 7) : m_X5_goesOnWith c (nI ch) = m_X5_endsPart c (nI ch) 0 := by
  unfold m_X5_goesOnWith
  rw [h, if_neg (by decide), if_neg (by decide), if_neg (by decide), if_neg (by decide), if_neg (by decide), if_neg (by decide), if_neg (by decide)]
  cases m_X5_endsPart c (nI ch) 0 <;> rfl
theorem e_compl {c : xSt} {p l : Nat} (h : c 0 0 = nI p) (hp : p < 8) (hl : c 0 1 = nI l) (hl1 : l < 127) : m_X5_isComplete c = some (if p = 5 ∨ p = 7 ∨ (p = 2 ∧ ¬ l = 119) then 1 else 0) := by
  unfold m_X5_isComplete
  simp only [q_lt]
  rw [h, hl]
  have e : ∀ a b, a < 127 → b < 127 → (nI a = nI b) = (a = b) := fun a b ha hb => q_eq (by omega) (by omega)
  rw [show (5 : Int32) = nI 5 from rfl, show (7 : Int32) = nI 7 from rfl, show (2 : Int32) = nI 2 from rfl, show (119 : Int32) = nI 119 from rfl]
  by_cases c5 : p = 5
  · rw [if_pos (by rw [c5]), if_pos (Or.inl c5)]
  · rw [if_neg (by rw [e p 5 (by omega) (by omega)]; exact c5)]
    by_cases c7 : p = 7
    · rw [if_pos (by rw [c7]), if_pos (Or.inr (Or.inl c7))]
    · rw [if_neg (by rw [e p 7 (by omega) (by omega)]; exact c7)]
      by_cases c2 : p = 2
      · rw [if_pos (by rw [c2])]
        by_cases cl : l = 119
        · rw [if_pos (by rw [cl]), if_neg (by omega)]
        · rw [if_neg (by rw [e l 119 (by omega) (by omega)]; exact cl), if_pos (by omega)]
      · rw [if_neg (by rw [e p 2 (by omega) (by omega)]; exact c2), if_neg (by omega)]
