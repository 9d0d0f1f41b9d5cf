/-! TEXTS: the whole text, firstError -/
def KT (c : xSt) (o : Option (Int32 × xSt)) : Prop := ∀ r c', o = some (r, c') → tl3 c c'
theorem KT_s {c c' : xSt} {r : Int32} (h : tl3 c c') : KT c (some (r, c')) := fun r2 c2 e => by
  cases e
  exact h
theorem KT_n {c : xSt} : KT c none := fun _ _ e => by cases e
theorem KT_i {c : xSt} {p : Prop} [Decidable p] {a b : Option (Int32 × xSt)} (h : KT c a) (g : KT c b) : KT c (if p then a else b) := by
  split
  · exact h
  · exact g
theorem KT_c {c : xSt} {p : Prop} [Decidable p] {a : Option (Int32 × xSt)} (h : KT c a) : KT c (ck p a) := by
  unfold ck
  split
  · exact h
  · intro r c' e; cases e
theorem KT_o {α : Type} {c : xSt} {m : Option α} {f : α → Option (Int32 × xSt)} (h : ∀ x, KT c (f x)) : KT c (ob m f) := by
  cases m with
  | none => intro r c' e; cases e
  | some x => exact h x
theorem KT_m {c : xSt} {m : Option (Int32 × xSt)} (h : KT c m) : KT c (ob m (fun r => some (r.1, r.2))) := by
  cases m with
  | none => intro r c' e; cases e
  | some x =>
    intro r c' e
    cases e
    exact h _ _ rfl
set_option maxHeartbeats 200000 in
theorem k_ends {c : xSt} {x m : Int32} : KT c (m_X5_endsPart c x m) := by
  unfold m_X5_endsPart
  simp only [q_lt]
  repeat' first | (apply KT_s; intro j hj; first | exact Eq.refl (c j) | (rw [q_sn (by omega)]; repeat rw [q_sn (by omega)])) | apply KT_c | apply KT_i | exact KT_n
set_option maxHeartbeats 200000 in
theorem k_opP {c : xSt} {x : Int32} : KT c (m_X5_opensPart c x) := by
  unfold m_X5_opensPart
  simp only [q_lt]
  repeat' first | (apply KT_s; intro j hj; first | exact Eq.refl (c j) | (rw [q_sn (by omega)]; repeat rw [q_sn (by omega)])) | apply KT_c | apply KT_i | exact KT_n | (apply KT_o; intro _)
set_option maxHeartbeats 200000 in
theorem k_opN {c : xSt} {x : Int32} : KT c (m_X5_opensNumber c x) := by
  unfold m_X5_opensNumber
  simp only [q_lt]
  repeat' first | (apply KT_s; intro j hj; first | exact Eq.refl (c j) | (rw [q_sn (by omega)]; repeat rw [q_sn (by omega)])) | apply KT_c | apply KT_i | exact KT_n | (apply KT_o; intro _)
set_option maxHeartbeats 200000 in
theorem k_len {c : xSt} {x : Int32} : KT c (m_X5_lengthensNumber c x) := by
  unfold m_X5_lengthensNumber
  simp only [q_lt]
  repeat' first | (apply KT_s; intro j hj; first | exact Eq.refl (c j) | (rw [q_sn (by omega)]; repeat rw [q_sn (by omega)])) | apply KT_c | apply KT_i | exact KT_n | (apply KT_o; intro _)
set_option maxHeartbeats 200000 in
theorem k_opV {c : xSt} {x : Int32} : KT c (m_X5_opensValue c x) := by
  unfold m_X5_opensValue
  simp only [q_lt]
  repeat' first | (apply KT_s; intro j hj; first | exact Eq.refl (c j) | (rw [q_sn (by omega)]; repeat rw [q_sn (by omega)])) | apply KT_c | apply KT_i | exact KT_n | (apply KT_o; intro _)
set_option maxHeartbeats 200000 in
theorem k_bD {c : xSt} {x : Int32} : KT c (m_X5_goesOnBehindDigit c x) := by
  unfold m_X5_goesOnBehindDigit
  simp only [q_lt]
  repeat' first | (apply KT_s; intro j hj; first | exact Eq.refl (c j) | (rw [q_sn (by omega)]; repeat rw [q_sn (by omega)])) | (apply KT_m; first | exact k_ends | exact k_len | exact k_opV) | apply KT_c | apply KT_i | exact KT_n | (apply KT_o; intro _)
set_option maxHeartbeats 200000 in
theorem k_eV {c : xSt} {x : Int32} : KT c (m_X5_endsValue c x) := by
  unfold m_X5_endsValue
  simp only [q_lt]
  repeat' first | (apply KT_s; intro j hj; first | exact Eq.refl (c j) | (rw [q_sn (by omega), pu_o (by omega)])) | apply KT_c | apply KT_i | exact KT_n | (apply KT_o; intro _)
set_option maxHeartbeats 200000 in
theorem k_bV {c : xSt} {x : Int32} : KT c (m_X5_goesOnBehindValue c x) := by
  unfold m_X5_goesOnBehindValue
  simp only [q_lt]
  repeat' first | (apply KT_s; intro j hj; first | exact Eq.refl (c j) | (rw [q_sn (by omega)]; repeat rw [q_sn (by omega)])) | (apply KT_m; first | exact k_ends | exact k_len | exact k_opV) | apply KT_c | apply KT_i | exact KT_n | (apply KT_o; intro _)
set_option maxHeartbeats 200000 in
theorem k_tU {c : xSt} {x : Int32} : KT c (m_X5_tellsUrgency c x) := by
  unfold m_X5_tellsUrgency
  simp only [q_lt]
  repeat' first | (apply KT_s; intro j hj; first | exact Eq.refl (c j) | (rw [q_sn (by omega)]; repeat rw [q_sn (by omega)])) | apply KT_c | apply KT_i | exact KT_n | (apply KT_o; intro _)
set_option maxHeartbeats 200000 in
theorem k_go {c : xSt} {x : Int32} : KT c (m_X5_goesOnWith c x) := by
  unfold m_X5_goesOnWith
  simp only [q_lt]
  repeat' first | (apply KT_m; first | exact k_ends | exact k_opP | exact k_opN | exact k_bD | exact k_opV | exact k_eV | exact k_bV | exact k_tU) | apply KT_i
