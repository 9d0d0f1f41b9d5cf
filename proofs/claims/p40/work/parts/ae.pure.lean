/-! ORDERS: post, withdraw -/
theorem nI_dn (k : Nat) : nI (k + 1) + (-1) = nI k := by
  rw [← nI_pred k, Int32.sub_eq_add_neg]
theorem nn {a b : Nat} (ha : a < 1000) (hb : b < 1000) (h : ¬ a = b) : ¬ nI a = nI b := fun e => h ((nI_eq (by omega) (by omega)).mp e)
theorem t_ordW {B c0 : Nat} {v w : xSt} (hJ : J B v w) (hB : B + 1 < 16000000) (p : Int32) (h0 : m_L_low p (5 : Int32) = some (nI c0)) (hc : c0 = 0) : AC B w (m_L_orders v p) := by
  have H := hJ.1
  obtain ⟨n, n1, n2⟩ := n_580 H
  obtain ⟨c, c1, c2⟩ := lo (n := n + 1) (p >>> ((3 : Int32) &&& 31)) (by omega) (by omega)
  obtain ⟨t, ht⟩ : ∃ t, t = (if c = n then (-1 : Int32) else w 1 (617 + 18 * c)) := ⟨_, rfl⟩
  have key : ∃ z v' w', m_L_withdraw v t = some (z, v') ∧ (EQ w w' ∨ SV w w') ∧ J B v' w' ∧ ((c = n ∧ z = -101) ∨ (c < n ∧ z = nI (n - 1))) := by
    rcases D_withdraw hJ n2 n1 (p := t) with ⟨h, v', w', h1, h2, h3⟩ | ⟨r, r1, r2, v', w', h1, h2, h4, h3⟩
    · by_cases q : c = n
      · exact ⟨_, v', w', h1, Or.inl h2, h3, Or.inl ⟨q, rfl⟩⟩
      · rw [if_neg q] at ht
        exact absurd ht.symm (h c (by omega))
    · by_cases q : c = n
      · rw [if_pos q] at ht
        obtain ⟨n', q', a1, a2, a3, a4, a5⟩ := LF_of H.1.1
        obtain rfl : n = n' := (nI_eq (by omega) (by omega)).mp (n2.symm.trans a3)
        obtain ⟨a, g, b1, b2, b3, b4⟩ := a5 r r1
        exact ((q_ne1 (show a < 2147483648 by omega)).mp (b3.symm.trans (r2.trans ht))).elim
      · exact ⟨_, v', w', h1, Or.inr h2, h3, Or.inr ⟨by omega, rfl⟩⟩
  obtain ⟨z, v', w', h1, h2, h3, h4⟩ := key
  refine ⟨v', w', ?_, h2, h3⟩
  unfold m_L_orders
  rw [c_10 H, q_ob, h0, q_ob, if_pos (show nI c0 = 0 by rw [hc]; rfl), n2, show nI n + (1 : Int32) = nI (n + 1) from nI_1 n, c2, q_ob]
  refine l_n (fun j103 e103 => ?_)
  have hs : (if nI c = nI n then j103 (-1 : Int32) else ob (m_X8_order_n v (nI c) (0 : Int32)) (fun r114 => j103 r114)) = j103 t := by
    by_cases q : c = n
    · rw [if_pos (congrArg nI q), ht, if_pos q]
    · rw [if_neg (nn (by omega) (by omega) q), o_0 H n2 n1 (show c < n by omega), q_ob, ht, if_neg q]
  rw [hs, e103]
  dsimp only
  rw [h1, q_ob]
  dsimp only
  rw [q_lt]
  refine l_n (fun j109 e109 => ?_)
  rcases h4 with ⟨q, hz⟩ | ⟨q, hz⟩
  · rw [if_pos (congrArg nI q), e109]
    dsimp only
    rw [if_pos hz]
  · rw [if_neg (nn (by omega) (by omega) (by omega)), e109]
    dsimp only
    obtain ⟨n', rfl⟩ : ∃ n', n = n' + 1 := ⟨n - 1, by omega⟩
    rw [if_pos (show z = nI (n' + 1) - 1 by rw [hz, nI_pred]; rfl)]
set_option maxHeartbeats 2000000 in
theorem t_ordP {B c0 : Nat} {v w : xSt} (hJ : J B v w) (hB : B + 1 < 16000000) (p : Int32) (h0 : m_L_low p (5 : Int32) = some (nI c0)) (hc : ¬ c0 = 0) (hc5 : c0 < 5) : AC (B + 1) w (m_L_orders v p) := by
  have H := hJ.1
  obtain ⟨n, n1, n2⟩ := n_580 H
  obtain ⟨M, M1, M2, M4, M5⟩ := RLd_f H.1.1.2.2.2.1
  replace M4 : w 1 567 = nI M := M4
  obtain ⟨a, a1, a2⟩ := lo (n := 9) (p >>> ((3 : Int32) &&& 31)) (by omega) (by omega)
  obtain ⟨u, u1, u2⟩ := lo (n := 11) (p >>> ((14 : Int32) &&& 31)) (by omega) (by omega)
  obtain ⟨k, hk, hks⟩ : ∃ k, k ≤ 2 ∧ ∀ f : Int32 → Option (Int32 × xSt), (if nI a = 0 then f 2 else (if (3 : Int32) ≤ nI a then f 0 else f 1)) = f (nI k) := by
    by_cases q : nI a = 0
    · exact ⟨2, by omega, fun f => if_pos q⟩
    · by_cases q2 : (3 : Int32) ≤ nI a
      · exact ⟨0, by omega, fun f => by rw [if_neg q, if_pos q2]; rfl⟩
      · exact ⟨1, by omega, fun f => by rw [if_neg q, if_neg q2]; rfl⟩
  obtain ⟨d, d1, d2, d3⟩ : ∃ d, (k = 0 → d < 257) ∧ (¬ k = 0 → d < 9) ∧ ∀ f : Int32 → Option (Int32 × xSt), (if nI k = 0 then ob (m_L_low (p >>> ((6 : Int32) &&& 31)) (257 : Int32)) f else ob (m_L_low (p >>> ((6 : Int32) &&& 31)) (9 : Int32)) f) = f (nI d) := by
    by_cases q : k = 0
    · obtain ⟨d, x1, x2⟩ := lo (n := 257) (p >>> ((6 : Int32) &&& 31)) (by omega) (by omega)
      exact ⟨d, fun _ => x1, fun h => absurd q h, fun f => by rw [if_pos (show nI k = 0 by rw [q]; rfl), show m_L_low (p >>> ((6 : Int32) &&& 31)) (257 : Int32) = some (nI d) from x2, q_ob]⟩
    · obtain ⟨d, x1, x2⟩ := lo (n := 9) (p >>> ((6 : Int32) &&& 31)) (by omega) (by omega)
      exact ⟨d, fun h => absurd h q, fun _ => x1, fun f => by rw [if_neg (show ¬ nI k = 0 from nn (b := 0) (by omega) (by omega) q), show m_L_low (p >>> ((6 : Int32) &&& 31)) (9 : Int32) = some (nI d) from x2, q_ob]⟩
  have x9 : ∀ c, c < 10 → ¬ xwi (nI c) 0 9 = 0 := by decide
  have x01 : ∀ c, c < 2 → ¬ xwi (nI c) 0 1 = 0 := by decide
  have key : ∃ z v' w', m_L_post v (nI k) (nI d) (nI u) = some (z, v') ∧ (EQ w w' ∨ SV w w') ∧ J (B + 1) v' w' ∧ (((k = 2 ∨ u = 10) ∧ z = -102) ∨ (¬ (k = 2 ∨ u = 10) ∧ ((((k = 0 ∧ d = 256) ∨ (k = 1 ∧ d = 8)) ∧ z = -101) ∨ (¬ ((k = 0 ∧ d = 256) ∨ (k = 1 ∧ d = 8)) ∧ (((n = 10 ∨ (k = 0 ∧ M = 0)) ∧ z = -103) ∨ (¬ (n = 10 ∨ (k = 0 ∧ M = 0)) ∧ ∃ i q, n ≤ q ∧ q ≤ B ∧ z = nI q ∧ PO (w 1) (w' 1) n i q k d u M)))))) := by
    rcases D_post hJ hB (p1 := nI k) (p2 := nI d) (p3 := nI u) with ⟨h, v', w', h1, h2, h3⟩ | ⟨k', u', e1, e2, e3, e4, h⟩
    · refine ⟨_, v', w', h1, Or.inl h2, J_b h3 (by omega), Or.inl ⟨?_, rfl⟩⟩
      rcases h with h | h
      · by_cases q : k < 2
        · exact absurd h (x01 k q)
        · exact Or.inl (by omega)
      · by_cases q : u < 10
        · exact absurd h (x9 u q)
        · exact Or.inr (by omega)
    · obtain rfl : k = k' := (nI_eq (by omega) (by omega)).mp e2
      obtain rfl : u = u' := (nI_eq (by omega) (by omega)).mp e4
      have nb : ¬ (k = 2 ∨ u = 10) := by omega
      rcases h with ⟨h, v', w', h1, h2, h3⟩ | ⟨p', n', m', q, b1, b2, b3, b4, b5, b6, b7, b8, b9, h⟩
      · refine ⟨_, v', w', h1, Or.inl h2, J_b h3 (by omega), Or.inr ⟨nb, Or.inl ⟨?_, rfl⟩⟩⟩
        rcases h with ⟨h, h'⟩ | ⟨h, h'⟩
        · have := d1 h
          by_cases q : d < 256
          · rw [xw255 d q] at h'
            exact absurd h' (by decide)
          · exact Or.inl ⟨h, by omega⟩
        · have := d2 (by omega)
          by_cases q : d < 8
          · exact absurd h' (xw7 d q)
          · exact Or.inr ⟨h, by omega⟩
      · have hp' : p' < 1000 := by
          rcases (show k = 0 ∨ k = 1 by omega) with e | e
          · have := b2 e; omega
          · have := b3 e; omega
        have hd : d < 1000 := by
          rcases (show k = 0 ∨ k = 1 by omega) with e | e
          · have := d1 e; omega
          · have := d2 (by omega); omega
        obtain rfl : d = p' := (nI_eq (by omega) (by omega)).mp b1
        obtain rfl : n = n' := (nI_eq (by omega) (by omega)).mp (n2.symm.trans b8)
        obtain rfl : M = m' := (nI_eq (by omega) (by omega)).mp (M4.symm.trans b9)
        have nb2 : ¬ ((k = 0 ∧ d = 256) ∨ (k = 1 ∧ d = 8)) := by
          rintro (⟨e, e'⟩ | ⟨e, e'⟩)
          · have := b2 e; omega
          · have := b3 e; omega
        rcases h with ⟨h, v', w', h1, h2, h3⟩ | ⟨h4, h5, i, τ, h6, v', w', h1, h2, h7, h3⟩
        · exact ⟨_, v', w', h1, Or.inl h2, J_b h3 (by omega), Or.inr ⟨nb, Or.inr ⟨nb2, Or.inl ⟨h, rfl⟩⟩⟩⟩
        · refine ⟨_, v', w', h1, Or.inr h2, h3, Or.inr ⟨nb, Or.inr ⟨nb2, Or.inr ⟨?_, i, q, b7, b6, rfl, by rw [h7]; exact h6⟩⟩⟩⟩
          rintro (e | ⟨e, e'⟩)
          · omega
          · have := h5 e; omega
  have hd : d < 1000 := by
    by_cases e : k = 0
    · have := d1 e; omega
    · have := d2 e; omega
  obtain ⟨z, v', w', h1, h2, h3, h4⟩ := key
  have G := h3.1
  refine ⟨v', w', ?_, h2, h3⟩
  unfold m_L_orders
  rw [c_10 H, q_ob, h0, q_ob, if_neg (show ¬ nI c0 = 0 from nn (b := 0) (by omega) (by omega) hc), show m_L_low (p >>> ((3 : Int32) &&& 31)) (9 : Int32) = some (nI a) from a2, q_ob]
  refine l_n (fun j9 e9 => ?_)
  rw [q_ob, hks, e9]
  dsimp only
  clear e9
  refine l_n (fun j12 e12 => ?_)
  rw [e12]
  dsimp only
  clear e12
  rw [d3, show m_L_low (p >>> ((14 : Int32) &&& 31)) (11 : Int32) = some (nI u) from u2, q_ob, c_11 H, q_ob, n2, M4]
  refine l_n (fun j20 e20 => ?_)
  refine l_n (fun j92 e92 => ?_)
  obtain ⟨x, hx⟩ : ∃ x : Int32, ((k = 2 ∨ u = 10) ∧ x = 1) ∨ (¬ (k = 2 ∨ u = 10) ∧ x = 0) := by
    by_cases q : k = 2 ∨ u = 10
    · exact ⟨1, Or.inl ⟨q, rfl⟩⟩
    · exact ⟨0, Or.inr ⟨q, rfl⟩⟩
  have hs : (if nI k = (2 : Int32) then j92 () else (if nI u = (10 : Int32) then j92 () else j20 (0 : Int32))) = j20 x := by
    rw [e92]
    by_cases q : k = 2
    · rw [if_pos (show nI k = (2 : Int32) by rw [q]; rfl), (hx.resolve_right (fun h => h.1 (Or.inl q))).2]
    · rw [if_neg (show ¬ nI k = (2 : Int32) from nn (b := 2) (by omega) (by omega) q)]
      by_cases q2 : u = 10
      · rw [if_pos (show nI u = (10 : Int32) by rw [q2]; rfl), (hx.resolve_right (fun h => h.1 (Or.inr q2))).2]
      · rw [if_neg (show ¬ nI u = (10 : Int32) from nn (b := 10) (by omega) (by omega) q2), (hx.resolve_left (fun h => by omega)).2]
  rw [hs, e20]
  dsimp only
  clear hs e20 e92
  refine l_n (fun j23 e23 => ?_)
  obtain ⟨b, hb⟩ : ∃ b : Nat, b = (if k = 0 then 256 else 8) := ⟨_, rfl⟩
  have hb' : b < 1000 := by rw [hb]; split <;> omega
  have hs : (if nI k = 0 then j23 (nI d) (256 : Int32) else j23 (nI d) (8 : Int32)) = j23 (nI d) (nI b) := by
    by_cases q : k = 0
    · rw [if_pos (show nI k = 0 by rw [q]; rfl), hb, if_pos q]
      rfl
    · rw [if_neg (show ¬ nI k = 0 from nn (b := 0) (by omega) (by omega) q), hb, if_neg q]
      rfl
  rw [hs, e23]
  dsimp only
  clear hs e23
  refine l_n (fun j25 e25 => ?_)
  obtain ⟨y, hy⟩ : ∃ y : Int32, (d = b ∧ y = 1) ∨ (¬ d = b ∧ y = 0) := by
    by_cases q : d = b
    · exact ⟨1, Or.inl ⟨q, rfl⟩⟩
    · exact ⟨0, Or.inr ⟨q, rfl⟩⟩
  have hs : (if nI d = nI b then j25 (1 : Int32) else j25 (0 : Int32)) = j25 y := by
    rcases hy with ⟨q, e⟩ | ⟨q, e⟩
    · rw [if_pos (congrArg nI q), e]
    · rw [if_neg (nn hd hb' q), e]
  rw [hs, e25]
  dsimp only
  clear hs e25
  refine l_n (fun j27 e27 => ?_)
  refine l_n (fun j85 e85 => ?_)
  obtain ⟨s, hs0⟩ : ∃ s : Int32, ((n = 10 ∨ (k = 0 ∧ M = 0)) ∧ s = 1) ∨ (¬ (n = 10 ∨ (k = 0 ∧ M = 0)) ∧ s = 0) := by
    by_cases q : n = 10 ∨ (k = 0 ∧ M = 0)
    · exact ⟨1, Or.inl ⟨q, rfl⟩⟩
    · exact ⟨0, Or.inr ⟨q, rfl⟩⟩
  have hs : (if nI n = (10 : Int32) then j85 () else lt (fun (_ : Unit) => j27 (0 : Int32)) (fun j87 => (if nI k = 0 then (if nI M = 0 then j85 () else j87 ()) else j87 ()))) = j27 s := by
    rw [e85]
    by_cases q : n = 10
    · rw [if_pos (show nI n = (10 : Int32) by rw [q]; rfl), (hs0.resolve_right (fun h => h.1 (Or.inl q))).2]
    · rw [if_neg (show ¬ nI n = (10 : Int32) from nn (b := 10) (by omega) (by omega) q), q_lt]
      by_cases q2 : k = 0
      · rw [if_pos (show nI k = 0 by rw [q2]; rfl)]
        by_cases q3 : M = 0
        · rw [if_pos (show nI M = 0 by rw [q3]; rfl), (hs0.resolve_right (fun h => h.1 (Or.inr ⟨q2, q3⟩))).2]
        · rw [if_neg (show ¬ nI M = 0 from nn (b := 0) (by omega) (by omega) q3), (hs0.resolve_left (fun h => by omega)).2]
      · rw [if_neg (show ¬ nI k = 0 from nn (b := 0) (by omega) (by omega) q2), (hs0.resolve_left (fun h => by omega)).2]
  rw [hs, e27]
  dsimp only
  clear hs e27 e85
  rw [h1, q_ob]
  dsimp only
  rw [q_lt]
  refine l_n (fun j31 e31 => ?_)
  have n1' : ¬ (1 : Int32) = 0 := by decide
  have hdb : d = b ↔ ((k = 0 ∧ d = 256) ∨ (¬ k = 0 ∧ d = 8)) := by
    rw [hb]
    split <;> omega
  rcases h4 with ⟨q, hz⟩ | ⟨q, h4⟩
  · have ex := (hx.resolve_right (fun h => h.1 q)).2
    rw [ex] at e31
    rw [ex, if_neg n1', e31]
    dsimp only
    refine l_n (fun j34 e34 => ?_)
    rw [if_neg n1', e34]
    dsimp only
    rw [if_pos hz]
  · rw [(hx.resolve_left (fun h => q h.1)).2]
    rw [(hx.resolve_left (fun h => q h.1)).2] at e31
    rcases h4 with ⟨q2, hz⟩ | ⟨q2, h4⟩
    · have ey := (hy.resolve_right (fun h => h.1 (hdb.mpr (by omega)))).2
      rw [ey, if_pos rfl, if_neg n1', e31, ey]
      dsimp only
      refine l_n (fun j34 e34 => ?_)
      rw [if_pos rfl, if_neg n1', e34]
      dsimp only
      rw [if_pos hz]
    · have ey := (hy.resolve_left (fun h => q2 (by clear h4; have := hdb.mp h.1; omega))).2
      rw [ey, if_pos rfl, if_pos rfl]
      rw [ey] at e31
      rcases h4 with ⟨q3, hz⟩ | ⟨q3, i, Q, hnQ, hQB, hz, hPO⟩
      · rw [(hs0.resolve_right (fun h => h.1 q3)).2, if_neg n1', e31]
        dsimp only
        refine l_n (fun j34 e34 => ?_)
        rw [if_pos rfl, if_pos rfl, e34]
        dsimp only
        rw [if_pos hz]
      · rw [(hs0.resolve_left (fun h => q3 h.1)).2, if_pos rfl]
        clear e31
        obtain ⟨g0, g1, g2, g3, g4, g5, g6, g7, g8, g9, g10, g11⟩ := hPO
        have n1'' : n + 1 ≤ 10 := by omega
        refine lpf_r (fun s => nI (n - s)) (n - i) (xFg (by omega)) rfl (fun s rec hs => ?_) (fun rec => ?_)
        · simp only [q_u1]
          refine l_n (fun j43 e43 => ?_)
          clear e43
          obtain ⟨o, o1, o2⟩ := g11 (n - s) (by omega) (by omega)
          rw [if_neg (show ¬ nI (n - s) < 0 from nI_nlt (b := 0) (by omega) (by omega)), o_0 G g1 n1'' (show n - s < n + 1 by omega), q_ob, o2, hz, if_neg (fun e => by have := (nI_eq (by omega) (by omega)).mp e; omega)]
          obtain ⟨r, hr⟩ : ∃ r, n - s = r + 1 := ⟨n - s - 1, by omega⟩
          rw [hr, nI_dn]
          exact congrArg (fun x => rec (nI x)) (by omega)
        · simp only [q_u1]
          rw [show n - (n - i) = i by omega]
          refine l_n (fun j43 e43 => ?_)
          rw [if_neg (show ¬ nI i < 0 from nI_nlt (b := 0) (by omega) (by omega)), o_0 G g1 n1'' (show i < n + 1 by omega), q_ob, if_pos (g2.trans hz.symm), e43]
          dsimp only
          clear e43
          refine l_n (fun j44 e44 => ?_)
          clear e44
          rw [if_neg (show ¬ nI i < 0 from nI_nlt (b := 0) (by omega) (by omega)), hz, if_neg (show ¬ nI Q < nI n from nI_nlt (by omega) (by omega)), c_10 G, q_ob, if_pos (show w' 1 580 = nI n + 1 by rw [g1, nI_1]), o_1 G g1 n1'' (show i < n + 1 by omega), q_ob, if_pos g3, o_2 G g1 n1'' (show i < n + 1 by omega), q_ob, if_pos g4, o_3 G g1 n1'' (show i < n + 1 by omega), q_ob, if_pos g5, o_4 G g1 n1'' (show i < n + 1 by omega), q_ob, if_pos (show w' 1 561 - w' 1 (617 + 18 * i + 4) = 0 by rw [g6, g7, Int32.sub_self]), o_5 G g1 n1'' (show i < n + 1 by omega), q_ob]
          refine l_n (fun j66 e66 => ?_)
          have hs : (if nI k = 0 then j66 (w' 1 (617 + 18 * i + 5)) (nI M) else j66 (w' 1 (617 + 18 * i + 5)) (0 : Int32)) = j66 (w' 1 (617 + 18 * i + 5)) (w' 1 (617 + 18 * i + 5)) := by
            rw [g8]
            by_cases q2 : k = 0
            · rw [if_pos (show nI k = 0 by rw [q2]; rfl), if_pos q2]
            · rw [if_neg (show ¬ nI k = 0 from nn (b := 0) (by omega) (by omega) q2), if_neg q2]
              rfl
          rw [hs, e66]
          dsimp only
          clear hs e66
          rw [if_pos rfl]
          refine l_n (fun j68 e68 => ?_)
          have h68 : j68 () = some (1, v') := by
            rw [e68]
            dsimp only
            rw [c_11 G, q_ob]
            refine l_n (fun j73 e73 => ?_)
            have hs : (if nI k = 0 then j73 (w' 1 567) (0 : Int32) else j73 (w' 1 567) (nI M)) = j73 (w' 1 567) (w' 1 567) := by
              rw [g9]
              by_cases q2 : k = 0
              · rw [if_pos (show nI k = 0 by rw [q2]; rfl), if_pos q2]
                rfl
              · rw [if_neg (show ¬ nI k = 0 from nn (b := 0) (by omega) (by omega) q2), if_neg q2]
            rw [hs, e73]
            dsimp only
            rw [if_pos rfl]
          by_cases q4 : i = n
          · rw [if_pos (congrArg nI q4)]
            exact h68
          · obtain ⟨g, hg1, hg2⟩ := g10 (by omega)
            rw [if_neg (nn (by omega) (by omega) q4), nI_1, o_3 G g1 n1'' (show i + 1 < n + 1 by omega), q_ob, hg2, if_neg (nI_ge hg1 (by omega))]
            exact h68
theorem t_ord {B : Nat} {v w : xSt} (hJ : J B v w) (hB : B + 1 < 16000000) (p : Int32) : AC (B + 1) w (m_L_orders v p) := by
  obtain ⟨c0, c1, c2⟩ := lo (n := 5) p (by omega) (by omega)
  by_cases h : c0 = 0
  · exact AC_b (t_ordW hJ hB p c2 h) (by omega)
  · exact t_ordP hJ hB p c2 h c1
