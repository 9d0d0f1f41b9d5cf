/-! LOAD, PASS, the chip's calls -/
theorem AC_b {B B' : Nat} {w : xSt} {m : Option (Int32 × xSt)} (h : AC B w m) (hB : B ≤ B') : AC B' w m := by
  obtain ⟨v', w', h1, h2, h3⟩ := h
  exact ⟨v', w', h1, h2, J_b h3 hB⟩
theorem t_a0 {B k : Nat} {v w : xSt} {p1 : Int32} (hJ : J B v w) (p2 : Int32) (hk : m_L_low p1 (24 : Int32) = some (nI k)) (h : k < 5) : AC B w (m_L_acts v p1 p2) := by
  have H := hJ.1
  obtain ⟨c, c1, c2⟩ := lo (n := 258) p2 (by omega) (by omega)
  have key : ∃ z v' w', m_L_load v (nI c - 1) = some (z, v') ∧ (EQ w w' ∨ SV w w') ∧ J B v' w' ∧ (((c = 0 ∨ c = 257) ∧ z = -102) ∨ ∃ c', c = c' + 1 ∧ c' < 256 ∧ ∃ m, w 1 567 = nI m ∧ m ≤ 12 ∧ ((m = 12 ∧ z = -103) ∨ (m < 12 ∧ z = nI (m + 1)))) := by
    rcases D_load hJ (p := nI c - 1) with ⟨h, v', w', h1, h2, h3⟩ | ⟨a, m, a1, a2, a3, a4, a5⟩
    · refine ⟨_, v', w', h1, Or.inl h2, h3, Or.inl ⟨?_, rfl⟩⟩
      rcases Nat.eq_zero_or_pos c with c0 | c0
      · exact Or.inl c0
      · obtain ⟨c', rfl⟩ : ∃ c', c = c' + 1 := ⟨c - 1, by omega⟩
        rw [nI_pred] at h
        by_cases c6 : c' < 256
        · rw [xw255 c' c6] at h
          exact absurd h (by decide)
        · omega
    · obtain ⟨c', rfl⟩ : ∃ c', c = c' + 1 := by
        rcases Nat.eq_zero_or_pos c with c0 | c0
        · subst c0
          have := (q_ne1 (a := a) (by omega)).mp (show nI a = -1 from a2.symm.trans (by decide))
          exact this.elim
        · exact ⟨c - 1, by omega⟩
      rw [nI_pred] at a2
      have := (nI_eq (by omega) (by omega)).mp a2
      rcases a5 with ⟨a5, v', w', h1, h2, h3⟩ | ⟨a5, v', w', h1, h2, h4, h3⟩
      · exact ⟨_, v', w', h1, Or.inl h2, h3, Or.inr ⟨c', rfl, by omega, m, a3, a4, Or.inl ⟨a5, rfl⟩⟩⟩
      · exact ⟨_, v', w', h1, Or.inr h2, h3, Or.inr ⟨c', rfl, by omega, m, a3, a4, Or.inr ⟨a5, rfl⟩⟩⟩
  obtain ⟨z, v', w', h1, h2, h3, h4⟩ := key
  refine ⟨v', w', ?_, h2, h3⟩
  unfold m_L_acts
  rw [hk, q_ob, if_neg (show ¬ (5 : Int32) ≤ nI k from nI_ge (b := 5) h (by omega)), show m_L_low p2 (258 : Int32) = some (nI c) from c2, q_ob]
  refine l_n (fun j53 e53 => ?_)
  refine l_n (fun j65 e65 => ?_)
  rcases h4 with ⟨h4, hz⟩ | ⟨c', rfl, c6, m, m1, m2, hz⟩
  · have h65 : (if nI c - 1 < 0 then j65 () else (if nI c - 1 = (256 : Int32) then j65 () else j53 (0 : Int32))) = j53 1 := by
      rw [e65]
      rcases h4 with rfl | rfl
      · rw [if_pos (by decide)]
      · rw [if_neg (by decide), if_pos (by decide)]
    rw [h65, e53]
    dsimp only
    clear h65 e65 e53
    rw [c_11 H, q_ob, h1, q_ob]
    dsimp only
    rw [q_lt]
    refine l_n (fun j61 e61 => ?_)
    rw [if_neg (by decide), e61]
    dsimp only
    rw [if_pos hz]
  · rw [nI_pred] at h1 ⊢
    rw [if_neg (show ¬ nI c' < 0 from nI_nlt (b := 0) (by omega) (by omega)), if_neg (show ¬ nI c' = (256 : Int32) from fun e => by have := (nI_eq (by omega) (by omega)).mp (show nI c' = nI 256 from e); omega), e53]
    dsimp only
    clear e65 e53
    rw [c_11 H, q_ob, nI_pred, h1, q_ob]
    dsimp only
    rw [q_lt]
    refine l_n (fun j61 e61 => ?_)
    rw [if_pos rfl, m1]
    rcases hz with ⟨rfl, hz⟩ | ⟨m3, hz⟩
    · rw [if_pos (by decide), e61]
      dsimp only
      rw [if_pos hz]
    · rw [if_neg (show ¬ nI m = (12 : Int32) from fun e => by have := (nI_eq (by omega) (by omega)).mp (show nI m = nI 12 from e); omega), e61]
      dsimp only
      rw [if_pos (show z = nI m + 1 by rw [hz, nI_1])]
theorem t_a4 {B k : Nat} {v w : xSt} {p1 : Int32} (hJ : J B v w) (hB : B + 200 < 16000000) (p2 : Int32) (hk : m_L_low p1 (24 : Int32) = some (nI k)) (h : 12 ≤ k) (h' : k < 17) : AC (B + 200) w (m_L_acts v p1 p2) := by
  have H := hJ.1
  obtain ⟨d, d1, d2⟩ := lo (n := 3) (p2 >>> ((9 : Int32) &&& 31)) (by omega) (by omega)
  obtain ⟨c, c1, c2⟩ : ∃ c, c < 60 ∧ ∀ f : Int32 → Int32 → Option (Int32 × xSt), (∀ x y, f x y = ob (m_L_low x y) (f 0)) → True := ⟨0, by omega, fun _ _ => trivial⟩
  clear c2 c1 c
  have key : ∀ c, c < 60 → ∃ z v' w', m_L_pass v (nI c) = some (z, v') ∧ (EQ w w' ∨ SV w w') ∧ J (B + 200) v' w' ∧ ((c = 0 ∧ z = -102) ∨ (¬ c = 0 ∧ ¬ z < 0 ∧ ¬ nI c < z ∧ w' 1 561 = w 1 561 + nI c ∧ ¬ w' 1 563 < w 1 563)) := by
    intro c c1
    rcases D_pass hJ hB (p := nI c) with ⟨x, v', w', h1, h2, h3⟩ | ⟨a, z, τ, a1, a2, a3, a4, ⟨v', w', h1, h2, h5, h3⟩, a6, a7⟩
    · refine ⟨_, v', w', h1, Or.inl h2, J_b h3 (by omega), Or.inl ⟨?_, rfl⟩⟩
      have : ∀ c, c < 60 → xwi (nI c) 1 200 = 0 → c = 0 := by decide +kernel
      exact this c c1 x
    · obtain rfl : c = a := (nI_eq (by omega) (by omega)).mp a3
      obtain ⟨t, f, t1, t2, t3, t4⟩ := hJ.2.1.2.2.2.1
      obtain ⟨y, y1, y2⟩ := a7 f t4
      refine ⟨_, v', w', h1, Or.inr h2, h3, Or.inr ⟨by omega, nI_nlt (b := 0) (by omega) (by omega), nI_nlt (by omega) (by omega), by rw [h5, a6], ?_⟩⟩
      rw [h5, y2, t4]
      exact nI_nlt (by omega) (by omega)
  have low : ∃ c, c < 60 ∧ ∀ f : Int32 → Option (Int32 × xSt), (if nI d = 0 then ob (m_L_low p2 (60 : Int32)) f else ob (m_L_low p2 (9 : Int32)) f) = f (nI c) := by
    by_cases d0 : nI d = 0
    · obtain ⟨c, c1, c2⟩ := lo (n := 60) p2 (by omega) (by omega)
      exact ⟨c, c1, fun f => by rw [if_pos d0, show m_L_low p2 (60 : Int32) = some (nI c) from c2, q_ob]⟩
    · obtain ⟨c, c1, c2⟩ := lo (n := 9) p2 (by omega) (by omega)
      exact ⟨c, by omega, fun f => by rw [if_neg d0, show m_L_low p2 (9 : Int32) = some (nI c) from c2, q_ob]⟩
  obtain ⟨c, c1, c2⟩ := low
  obtain ⟨z, v', w', h1, h2, h3, h4⟩ := key c c1
  have G := h3.1
  refine ⟨v', w', ?_, h2, h3⟩
  unfold m_L_acts
  rw [hk, q_ob, if_pos (show (5 : Int32) ≤ nI k from nI_le (a := 5) (by omega) (by omega)), if_pos (show (8 : Int32) ≤ nI k from nI_le (a := 8) (by omega) (by omega)), if_pos (show (12 : Int32) ≤ nI k from nI_le (a := 12) (by omega) (by omega)), if_neg (show ¬ (17 : Int32) ≤ nI k from nI_ge (b := 17) (by omega) (by omega)), show m_L_low (p2 >>> ((9 : Int32) &&& 31)) (3 : Int32) = some (nI d) from d2, q_ob]
  refine l_n (fun j20 e20 => ?_)
  rw [e20]
  dsimp only
  rw [c2]
  clear e20
  rw [c_0 H, q_ob, c_8 H, q_ob, h1, q_ob]
  dsimp only
  rw [q_lt]
  rcases h4 with ⟨rfl, hz⟩ | ⟨c0, y1, y2, y3, y4⟩
  · rw [if_pos (by decide), if_pos hz]
  · rw [if_neg (nI_ne0 (by omega) (by omega))]
    refine l_n (fun j31 e31 => ?_)
    clear e31
    rw [if_neg y1, if_neg y2, c_0 G, q_ob, if_pos y3, c_8 G, q_ob, if_neg y4]
theorem ch_x {B : Nat} {v w : xSt} (H : RBC B v w) : ∃ x : Int32, ((w 1 581 = 0 ∧ x = 0) ∨ (¬ w 1 581 = 0 ∧ x = 1)) ∧ ∀ f : Int32 → Option (Int32 × xSt), (if w 1 581 ≤ 0 then f 0 else f 1) = f x := by
  rcases und_le H with ⟨a, b⟩ | ⟨a, b⟩
  · exact ⟨0, Or.inl ⟨a, rfl⟩, fun f => if_pos b⟩
  · exact ⟨1, Or.inr ⟨a, rfl⟩, fun f => if_neg b⟩
set_option maxHeartbeats 1000000 in
theorem t_ch0 {B : Nat} {v w : xSt} (hJ : J B v w) (p : Int32) : AC B w (m_L_chip v (0 : Int32) p) := by
  have H := hJ.1
  obtain ⟨x, hx, hx2⟩ := ch_x H
  have key : ∃ z v' w', m_L_arm v = some (z, v') ∧ (EQ w w' ∨ SV w w') ∧ J B v' w' ∧ ((x = 0 ∧ z = w 1 552 ∧ w' 1 552 = 1) ∨ (¬ x = 0 ∧ z = -103)) := by
    rcases D_arm hJ with ⟨a, v', w', h1, h2, h4, h3⟩ | ⟨⟨k, k1, k2, k3⟩, v', w', h1, h2, h3⟩
    · rcases hx with ⟨b, c⟩ | ⟨b, c⟩
      · exact ⟨_, v', w', h1, Or.inr h2, h3, Or.inl ⟨c, rfl, by rw [h4, va_up_self]⟩⟩
      · exact absurd a b
    · rcases hx with ⟨b, c⟩ | ⟨b, c⟩
      · exact absurd (k3.symm.trans b) (nI_ne0 (by omega) (by omega))
      · exact ⟨_, v', w', h1, Or.inl h2, h3, Or.inr ⟨by rw [c]; decide, rfl⟩⟩
  obtain ⟨z, v', w', h1, h2, h3, h4⟩ := key
  have G := h3.1
  refine ⟨v', w', ?_, h2, h3⟩
  unfold m_L_chip
  rw [k_00 H, q_ob]
  refine l_n (fun j4 e4 => ?_)
  rw [hx2, e4]
  dsimp only
  clear e4
  rw [k_10 H, k_02 H, k_12 H, q_ob, q_ob, q_ob, q_ob, if_pos rfl]
  rw [c_1 H, q_ob, h1, q_ob]
  dsimp only
  rw [q_lt]
  refine l_n (fun j166 e166 => ?_)
  rcases h4 with ⟨rfl, z1, z2⟩ | ⟨x0, z1⟩
  · rw [if_pos rfl, e166]
    dsimp only
    clear e166
    refine l_n (fun j167 e167 => ?_)
    clear e167
    rw [if_pos z1]
    refine l_n (fun j169 e169 => ?_)
    rw [if_pos rfl, c_1 G, q_ob, if_pos z2, e169]
  · rw [if_neg x0, e166]
    dsimp only
    clear e166
    refine l_n (fun j167 e167 => ?_)
    clear e167
    rw [if_pos z1]
    refine l_n (fun j169 e169 => ?_)
    rw [if_neg x0, e169]
set_option maxHeartbeats 1000000 in
theorem t_ch1 {B : Nat} {v w : xSt} (hJ : J B v w) (p : Int32) : AC B w (m_L_chip v (1 : Int32) p) := by
  have H := hJ.1
  obtain ⟨x, hx, hx2⟩ := ch_x H
  have key : ∃ z v' w', m_L_freeze v = some (z, v') ∧ (EQ w w' ∨ SV w w') ∧ J B v' w' ∧ ((x = 0 ∧ z = w 1 553 ∧ w' 1 553 = 1) ∨ (¬ x = 0 ∧ z = -103)) := by
    rcases D_freeze hJ with ⟨a, v', w', h1, h2, h4, h3⟩ | ⟨⟨k, k1, k2, k3⟩, v', w', h1, h2, h3⟩
    · rcases hx with ⟨b, c⟩ | ⟨b, c⟩
      · exact ⟨_, v', w', h1, Or.inr h2, h3, Or.inl ⟨c, rfl, by rw [h4, va_up_self]⟩⟩
      · exact absurd a b
    · rcases hx with ⟨b, c⟩ | ⟨b, c⟩
      · exact absurd (k3.symm.trans b) (nI_ne0 (by omega) (by omega))
      · exact ⟨_, v', w', h1, Or.inl h2, h3, Or.inr ⟨by rw [c]; decide, rfl⟩⟩
  obtain ⟨z, v', w', h1, h2, h3, h4⟩ := key
  have G := h3.1
  refine ⟨v', w', ?_, h2, h3⟩
  unfold m_L_chip
  rw [k_00 H, q_ob]
  refine l_n (fun j4 e4 => ?_)
  rw [hx2, e4]
  dsimp only
  clear e4
  rw [k_10 H, k_02 H, k_12 H, q_ob, q_ob, q_ob, q_ob, if_neg (by decide), if_pos rfl]
  rw [c_2 H, q_ob, h1, q_ob]
  dsimp only
  rw [q_lt]
  refine l_n (fun j166 e166 => ?_)
  rcases h4 with ⟨rfl, z1, z2⟩ | ⟨x0, z1⟩
  · rw [if_pos rfl, e166]
    dsimp only
    clear e166
    refine l_n (fun j167 e167 => ?_)
    clear e167
    rw [if_pos z1]
    refine l_n (fun j169 e169 => ?_)
    rw [if_pos rfl, c_2 G, q_ob, if_pos z2, e169]
  · rw [if_neg x0, e166]
    dsimp only
    clear e166
    refine l_n (fun j167 e167 => ?_)
    clear e167
    rw [if_pos z1]
    refine l_n (fun j169 e169 => ?_)
    rw [if_neg x0, e169]
set_option maxHeartbeats 1000000 in
theorem t_ch2 {B : Nat} {v w : xSt} (hJ : J B v w) (p : Int32) : AC B w (m_L_chip v (2 : Int32) p) := by
  have H := hJ.1
  obtain ⟨x, hx, hx2⟩ := ch_x H
  have key : ∃ (y z : Int32) (v' w' : xSt), m_L_suspend v = some (z, v') ∧ (EQ w w' ∨ SV w w') ∧ J B v' w' ∧ (((w 1 581 = 1 ∨ w 1 581 = 2) ∧ w 1 599 = 0 ∧ y = 1) ∨ (¬ ((w 1 581 = 1 ∨ w 1 581 = 2) ∧ w 1 599 = 0) ∧ y = 0)) ∧ ((¬ y = 0 ∧ z = w 1 584 - w 1 583 ∧ w' 1 565 = w 1 565 + 1 ∧ w' 1 599 = w 1 581 ∧ w' 1 605 = 0 ∧ w' 1 581 = 0) ∨ (y = 0 ∧ z = -103 ∧ w' 1 565 = w 1 565 + 0)) := by
    rcases D_suspend hJ with ⟨a, v', w', h1, h2, h4, h3⟩ | ⟨a, v', w', h1, h2, h3⟩
    · refine ⟨1, _, v', w', h1, Or.inr h2, h3, Or.inl ⟨a.1, a.2, rfl⟩, Or.inl ⟨by decide, rfl, ?_⟩⟩
      rw [h4]
      unfold sA
      refine ⟨?_, ?_, ?_, ?_⟩
      · rw [va_up_self]
        rfl
      · rw [va_up_ne _ _ (by omega), fl_o (by omega), va_up_ne _ _ (by omega), fl_i (by omega) (by omega)]
      · rw [va_up_ne _ _ (by omega), fl_o (by omega), va_up_self]
        rfl
      · rw [va_up_ne _ _ (by omega), fl_i (by omega) (by omega)]
        rfl
    · exact ⟨0, _, v', w', h1, Or.inl h2, h3, Or.inr ⟨a, rfl⟩, Or.inr ⟨rfl, rfl, by rw [h2.1, Int32.add_zero]⟩⟩
  obtain ⟨y, z, v', w', h1, h2, h3, hy, h4⟩ := key
  have G := h3.1
  refine ⟨v', w', ?_, h2, h3⟩
  unfold m_L_chip
  rw [k_00 H, q_ob]
  refine l_n (fun j4 e4 => ?_)
  rw [hx2, e4]
  dsimp only
  clear e4
  rw [k_10 H, k_02 H, k_12 H, q_ob, q_ob, q_ob, q_ob, if_neg (by decide), if_neg (by decide), if_pos rfl]
  refine l_n (fun j107 e107 => ?_)
  refine l_n (fun j138 e138 => ?_)
  refine l_n (fun j139 e139 => ?_)
  have hs : (if w 1 581 = (1 : Int32) then j139 () else (if w 1 581 = (2 : Int32) then j139 () else j138 ())) = j107 y := by
    rw [e139, e138]
    rcases hy with ⟨a, b, c⟩ | ⟨a, b⟩
    · by_cases q : w 1 581 = 1
      · rw [if_pos q, if_pos b, c]
      · rw [if_neg q, if_pos (a.resolve_left q), if_pos b, c]
    · by_cases q : w 1 581 = 1
      · rw [if_pos q, if_neg (fun e => a ⟨Or.inl q, e⟩), b]
      · rw [if_neg q]
        by_cases q2 : w 1 581 = 2
        · rw [if_pos q2, if_neg (fun e => a ⟨Or.inr q2, e⟩), b]
        · rw [if_neg q2, b]
  rw [hs, e107]
  dsimp only
  clear hs e107 e138 e139
  rw [c_14 H, q_ob, h1, q_ob]
  dsimp only
  rw [q_lt]
  refine l_n (fun j115 e115 => ?_)
  rcases h4 with ⟨y0, z1, z2, z3, z4, z5⟩ | ⟨y0, z1, z2⟩
  · rw [if_neg y0, e115]
    dsimp only
    clear e115
    refine l_n (fun j116 e116 => ?_)
    clear e116
    rw [if_pos z1, c_14 G, q_ob]
    refine l_n (fun j123 e123 => ?_)
    rw [if_neg y0, e123]
    dsimp only
    clear e123
    rw [if_pos z2]
    refine l_n (fun j125 e125 => ?_)
    rw [if_neg y0, k_10 G, q_ob, if_pos z3, k_14 G, q_ob, if_pos z4, k_00 G, q_ob, if_pos z5, e125]
  · rw [if_pos y0, e115]
    dsimp only
    clear e115
    refine l_n (fun j116 e116 => ?_)
    clear e116
    rw [if_pos z1, c_14 G, q_ob]
    refine l_n (fun j123 e123 => ?_)
    rw [if_pos y0, e123]
    dsimp only
    clear e123
    rw [if_pos z2]
    refine l_n (fun j125 e125 => ?_)
    rw [if_pos y0, e125]
set_option maxHeartbeats 1000000 in
theorem t_ch3 {B : Nat} {v w : xSt} (hJ : J B v w) (p : Int32) : AC B w (m_L_chip v (3 : Int32) p) := by
  have H := hJ.1
  obtain ⟨x, hx, hx2⟩ := ch_x H
  have key : ∃ (y z : Int32) (v' w' : xSt), m_L_resume v = some (z, v') ∧ (EQ w w' ∨ SV w w') ∧ J B v' w' ∧ ((¬ w 1 599 = 0 ∧ w 1 581 = 0 ∧ y = 1) ∨ (¬ (¬ w 1 599 = 0 ∧ w 1 581 = 0) ∧ y = 0)) ∧ ((¬ y = 0 ∧ z = w 1 602 - w 1 601 ∧ w' 1 581 = w 1 599 ∧ w' 1 599 = 0) ∨ (y = 0 ∧ z = -103)) := by
    rcases D_resume hJ with ⟨a, v', w', h1, h2, h4, h3⟩ | ⟨a, v', w', h1, h2, h3⟩
    · refine ⟨1, _, v', w', h1, Or.inr h2, h3, Or.inl ⟨a.1, a.2, rfl⟩, Or.inl ⟨by decide, rfl, ?_⟩⟩
      rw [h4]
      unfold tB
      refine ⟨?_, ?_⟩
      · rw [fl_o (by omega), va_up_ne _ _ (by omega), fl_i (by omega) (by omega)]
      · rw [fl_i (by omega) (by omega)]
        rfl
    · exact ⟨0, _, v', w', h1, Or.inl h2, h3, Or.inr ⟨a, rfl⟩, Or.inr ⟨rfl, rfl⟩⟩
  obtain ⟨y, z, v', w', h1, h2, h3, hy, h4⟩ := key
  have G := h3.1
  refine ⟨v', w', ?_, h2, h3⟩
  unfold m_L_chip
  rw [k_00 H, q_ob]
  refine l_n (fun j4 e4 => ?_)
  rw [hx2, e4]
  dsimp only
  clear e4
  rw [k_10 H, k_02 H, k_12 H, q_ob, q_ob, q_ob, q_ob, if_neg (by decide), if_neg (by decide), if_neg (by decide), if_pos rfl]
  refine l_n (fun j85 e85 => ?_)
  refine l_n (fun j103 e103 => ?_)
  have hs : (if w 1 599 ≤ 0 then j103 () else (if x = 0 then j85 (1 : Int32) else j103 ())) = j85 y := by
    rw [e103]
    rcases asd_le H with ⟨a, a'⟩ | ⟨a, a'⟩
    · rw [if_pos a']
      rcases hy with ⟨c, -, -⟩ | ⟨-, c⟩
      · exact absurd a c
      · rw [c]
    · rw [if_neg a']
      rcases hx with ⟨b, c⟩ | ⟨b, c⟩
      · rw [if_pos c]
        rcases hy with ⟨-, -, d⟩ | ⟨d, -⟩
        · rw [d]
        · exact absurd ⟨a, b⟩ d
      · rw [if_neg (by rw [c]; decide)]
        rcases hy with ⟨-, d, -⟩ | ⟨-, d⟩
        · exact absurd d b
        · rw [d]
  rw [hs, e85]
  dsimp only
  clear hs e85 e103
  rw [h1, q_ob]
  dsimp only
  rw [q_lt]
  refine l_n (fun j91 e91 => ?_)
  rcases h4 with ⟨y0, z1, z2, z3⟩ | ⟨y0, z1⟩
  · rw [if_neg y0, e91]
    dsimp only
    clear e91
    refine l_n (fun j92 e92 => ?_)
    clear e92
    rw [if_pos z1]
    refine l_n (fun j94 e94 => ?_)
    rw [if_neg y0, k_00 G, q_ob, if_pos z2, k_10 G, q_ob, if_pos z3, e94]
  · rw [if_pos y0, e91]
    dsimp only
    clear e91
    refine l_n (fun j92 e92 => ?_)
    clear e92
    rw [if_pos z1]
    refine l_n (fun j94 e94 => ?_)
    rw [if_pos y0, e94]
set_option maxHeartbeats 1000000 in
theorem t_ch4 {B : Nat} {v w : xSt} (hJ : J B v w) (p : Int32) : AC B w (m_L_chip v (4 : Int32) p) := by
  have H := hJ.1
  obtain ⟨x, hx, hx2⟩ := ch_x H
  obtain ⟨ρ, ⟨v', w', h1, h2, h4, h3⟩, r1, r2, r3, r4, r5, r6⟩ := D_cut hJ
  have G := h3.1
  refine ⟨v', w', ?_, Or.inr h2, h3⟩
  unfold m_L_chip
  rw [k_00 H, q_ob]
  refine l_n (fun j4 e4 => ?_)
  rw [hx2, e4]
  dsimp only
  clear e4
  rw [k_10 H, k_02 H, k_12 H, q_ob, q_ob, q_ob, q_ob, if_neg (by decide), if_neg (by decide), if_neg (by decide), if_neg (by decide), if_pos rfl]
  refine l_n (fun j57 e57 => ?_)
  have hs : (if x = 0 then j57 (0 : Int32) else j57 (1 : Int32)) = j57 (if w 1 581 = 0 then 0 else 1) := by
    rcases hx with ⟨b, c⟩ | ⟨b, c⟩
    · rw [if_pos c, if_pos b]
    · rw [if_neg (by rw [c]; decide), if_neg b]
  rw [hs, e57]
  dsimp only
  clear hs e57
  refine l_n (fun j60 e60 => ?_)
  obtain ⟨u, hu⟩ : ∃ u : Int32, u = (if w 1 581 = 0 then 0 else 1) := ⟨_, rfl⟩
  rw [← hu]
  have hs : (if w 1 599 ≤ 0 then j60 u (0 : Int32) else j60 u (1 : Int32)) = j60 u (if w 1 599 = 0 then 0 else 1) := by
    rcases asd_le H with ⟨a, a'⟩ | ⟨a, a'⟩
    · rw [if_pos a', if_pos a]
    · rw [if_neg a', if_neg a]
  rw [hs, e60]
  dsimp only
  clear hs e60
  have hc : u + (if w 1 599 = 0 then 0 else 1) = cutn (w 1) := by rw [hu]; rfl
  rw [hc, c_9 H, q_ob, h1, q_ob]
  dsimp only
  rw [q_lt]
  refine l_n (fun j66 e66 => ?_)
  clear e66
  rw [if_pos rfl, c_9 G, q_ob, if_pos (show w' 1 564 = w 1 564 + cutn (w 1) by rw [h4]; exact r1), c_1 G, q_ob, c_2 G, q_ob, c_11 G, q_ob, k_00 G, q_ob, k_10 G, q_ob, h4, r2, r3, r4, r5, r6, if_pos (by decide)]
set_option maxHeartbeats 1000000 in
theorem t_ch5 {B : Nat} {v w : xSt} (hJ : J B v w) (p : Int32) : AC B w (m_L_chip v (5 : Int32) p) := by
  have H := hJ.1
  obtain ⟨x, hx, hx2⟩ := ch_x H
  obtain ⟨c, c1, c2⟩ := lo (n := 6) p (by omega) (by omega)
  obtain ⟨d, d1, d2⟩ := lo (n := 11) (p >>> ((3 : Int32) &&& 31)) (by omega) (by omega)
  have key : ∃ z v' w', m_L_set v (nI c) (nI d) = some (z, v') ∧ (EQ w w' ∨ SV w w') ∧ J B v' w' ∧ ((c = 5 ∧ z = -101) ∨ (c < 5 ∧ (d = 0 ∨ (d = 10 ∧ (c = 0 ∨ c = 4))) ∧ z = -102) ∨ (c < 5 ∧ ¬ (d = 0 ∨ (d = 10 ∧ (c = 0 ∨ c = 4))) ∧ z = w 1 (556 + c) ∧ w' 1 (556 + c) = nI d)) := by
    rcases D_set hJ (p := nI c) (s := nI d) with ⟨h, v', w', h1, h2, h3⟩ | ⟨a, M, a1, a2, a3, h⟩
    · refine ⟨_, v', w', h1, Or.inl h2, h3, Or.inl ⟨?_, rfl⟩⟩
      by_cases q : c < 5
      · exact absurd h (xw4 c q)
      · omega
    · obtain rfl : c = a := (nI_eq (by omega) (by omega)).mp a2
      have hM : M = 9 ∧ (c = 0 ∨ c = 4) ∨ 20 ≤ M ∧ M ≤ 99 ∧ ¬ (c = 0 ∨ c = 4) := by
        rw [a3]
        split
        · omega
        · split
          · omega
          · split <;> omega
      rcases h with ⟨h, v', w', h1, h2, h3⟩ | ⟨b, b1, b2, b3, v', w', h1, h2, h4, h3⟩
      · refine ⟨_, v', w', h1, Or.inl h2, h3, Or.inr (Or.inl ⟨a1, ?_, rfl⟩)⟩
        rcases xwi_r (nI d) 1 M (by omega) (by omega) with hx | ⟨hx, -⟩
        · by_cases q : 1 ≤ d ∧ d ≤ M
          · exfalso
            have h' : xwi (nI d) (nI 1) (nI M) = 0 := h
            unfold xwi at h'
            rw [if_neg (show ¬ nI d < nI 1 from nI_nlt (by omega) (by omega)), if_neg (show ¬ nI M < nI d from nI_nlt (by omega) (by omega))] at h'
            exact absurd h' (by decide)
          · omega
        · exact absurd (hx.symm.trans h) (by decide)
      · obtain rfl : d = b := (nI_eq (by omega) (by omega)).mp b3
        refine ⟨_, v', w', h1, Or.inr h2, h3, Or.inr (Or.inr ⟨a1, by omega, rfl, by rw [h4, va_up_self]⟩)⟩
  obtain ⟨z, v', w', h1, h2, h3, h4⟩ := key
  have G := h3.1
  refine ⟨v', w', ?_, h2, h3⟩
  unfold m_L_chip
  rw [k_00 H, q_ob]
  refine l_n (fun j4 e4 => ?_)
  rw [hx2, e4]
  dsimp only
  clear e4
  rw [k_10 H, k_02 H, k_12 H, q_ob, q_ob, q_ob, q_ob, if_neg (by decide), if_neg (by decide), if_neg (by decide), if_neg (by decide), if_neg (by decide)]
  rw [show m_L_low p (6 : Int32) = some (nI c) from c2, q_ob, show m_L_low (p >>> ((3 : Int32) &&& 31)) (11 : Int32) = some (nI d) from d2, q_ob]
  refine l_n (fun j23 e23 => ?_)
  refine l_n (fun j50 e50 => ?_)
  obtain ⟨y, hy⟩ : ∃ y : Int32, ((d = 0 ∨ (d = 10 ∧ (c = 0 ∨ c = 4))) ∧ y = 1) ∨ (¬ (d = 0 ∨ (d = 10 ∧ (c = 0 ∨ c = 4))) ∧ y = 0) := by
    by_cases q : d = 0 ∨ (d = 10 ∧ (c = 0 ∨ c = 4))
    · exact ⟨1, Or.inl ⟨q, rfl⟩⟩
    · exact ⟨0, Or.inr ⟨q, rfl⟩⟩
  have nn : ∀ a b, a < 100 → b < 100 → ¬ a = b → ¬ nI a = nI b := fun a b ha hb h e => h ((nI_eq (by omega) (by omega)).mp e)
  have hs : (if nI d = 0 then j50 () else lt (fun (_ : Unit) => j23 (0 : Int32)) (fun j52 => (if nI d = (10 : Int32) then (if nI c = 0 then j50 () else (if nI c = (4 : Int32) then j50 () else j52 ())) else j52 ()))) = j23 y := by
    rw [e50]
    by_cases q0 : d = 0
    · rw [if_pos (show nI d = 0 by rw [q0]; rfl), (hy.resolve_right (fun h => h.1 (Or.inl q0))).2]
    · rw [if_neg (show ¬ nI d = 0 from nn d 0 (by omega) (by omega) q0), q_lt]
      by_cases q1 : d = 10
      · rw [if_pos (show nI d = (10 : Int32) by rw [q1]; rfl)]
        by_cases q2 : c = 0
        · rw [if_pos (show nI c = 0 by rw [q2]; rfl), (hy.resolve_right (fun h => h.1 (Or.inr ⟨q1, Or.inl q2⟩))).2]
        · rw [if_neg (show ¬ nI c = 0 from nn c 0 (by omega) (by omega) q2)]
          by_cases q3 : c = 4
          · rw [if_pos (show nI c = (4 : Int32) by rw [q3]; rfl), (hy.resolve_right (fun h => h.1 (Or.inr ⟨q1, Or.inr q3⟩))).2]
          · rw [if_neg (show ¬ nI c = (4 : Int32) from nn c 4 (by omega) (by omega) q3), (hy.resolve_left (fun h => by omega)).2]
      · rw [if_neg (show ¬ nI d = (10 : Int32) from nn d 10 (by omega) (by omega) q1), (hy.resolve_left (fun h => by omega)).2]
  rw [hs, e23]
  dsimp only
  clear hs e23 e50
  refine l_n (fun j26 e26 => ?_)
  rcases h4 with ⟨c5, hz⟩ | ⟨c5, q, hz⟩ | ⟨c5, q, hz, hz2⟩
  · rw [if_pos (show nI c = (5 : Int32) by rw [c5]; rfl), e26]
    dsimp only
    clear e26
    rw [h1, q_ob]
    dsimp only
    rw [q_lt]
    refine l_n (fun j32 e32 => ?_)
    rw [if_pos (show nI c = (5 : Int32) by rw [c5]; rfl), e32]
    dsimp only
    clear e32
    refine l_n (fun j34 e34 => ?_)
    clear e34
    rw [if_pos hz]
    refine l_n (fun j37 e37 => ?_)
    rw [if_pos (show nI c = (5 : Int32) by rw [c5]; rfl), e37]
  · have n5 : ¬ nI c = (5 : Int32) := nn c 5 (by omega) (by omega) (by omega)
    have y1 : ¬ y = 0 := by
      rcases hy with ⟨-, e⟩ | ⟨e, -⟩
      · rw [e]; decide
      · exact absurd q e
    rw [if_neg n5, s_F H c5, q_ob]
    dsimp only
    rw [q_lt, e26]
    dsimp only
    clear e26
    rw [h1, q_ob]
    dsimp only
    rw [q_lt]
    refine l_n (fun j32 e32 => ?_)
    rw [if_neg n5, if_neg y1, e32]
    dsimp only
    clear e32
    refine l_n (fun j34 e34 => ?_)
    clear e34
    rw [if_pos hz]
    refine l_n (fun j37 e37 => ?_)
    rw [if_neg n5, if_neg y1, e37]
  · have n5 : ¬ nI c = (5 : Int32) := nn c 5 (by omega) (by omega) (by omega)
    have y1 : y = 0 := by
      rcases hy with ⟨e, -⟩ | ⟨-, e⟩
      · exact absurd e q
      · exact e
    rw [if_neg n5, s_F H c5, q_ob]
    dsimp only
    rw [q_lt, e26]
    dsimp only
    clear e26
    rw [h1, q_ob]
    dsimp only
    rw [q_lt]
    refine l_n (fun j32 e32 => ?_)
    rw [if_neg n5, if_pos y1, e32]
    dsimp only
    clear e32
    refine l_n (fun j34 e34 => ?_)
    clear e34
    rw [if_pos hz]
    refine l_n (fun j37 e37 => ?_)
    rw [if_neg n5, if_pos y1, s_F G c5, q_ob]
    dsimp only
    rw [q_lt, if_pos hz2, e37]
