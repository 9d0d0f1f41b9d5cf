def eInt (G : xGl) (N : Nat) : xLay := fun _ _ s => .inl (G.2 0, N, .inl s)
def eChr (G : xGl) (N : Nat) : xLay := fun _ _ s => .inl (G.2 1, N, .inl s)
def eRow (G : xGl) : xLay := fun q j s => if j < 1 then .inr (4, [.ref (q 1), .int (s 1)]) else eInt G 12 (sh 1 q) (j - 1) s
def eOrder (G : xGl) : xLay := fun q j s => if j < 1 then .inr (3, [.int (s 0), .int (s 1), .int (s 2), .int (s 3), .int (s 4), .ref (q 1)]) else eRow G (sh 1 q) (j - 1) s
def eWork (G : xGl) : xLay := fun q j s => if j < 1 then .inr (7, [.int (s 0), .int (s 1), .int (s 2), .int (s 3), .int (s 4), .int (s 5), .int (s 6), .int (s 7), .ref (q 1)]) else eRow G (sh 1 q) (j - 1) s
def eLocks (G : xGl) : xLay := fun q j s => .inr (2, [.int (s 0), .int (s 1), .int (s 2)])
def eCells (G : xGl) : xLay := fun q j s => if j < 1 then .inr (0, [.ref (q 1), .ref (q 2), .ref (q 3), .int (s 3)]) else if j < 2 then eInt G 256 (sh 1 q) (j - 1) s else if j < 3 then eInt G 256 (sh 2 q) (j - 2) s else eInt G 8 (sh 3 q) (j - 3) s
def eScribe (G : xGl) : xLay := fun q j s => if j < 1 then .inr (5, [.int (s 0), .int (s 1), .int (s 2), .int (s 3), .ref (q 1), .int (s 5)]) else eRow G (sh 1 q) (j - 1) s
def eOrd (G : xGl) : xLay := fun q _ s => .inl (G.2 2, 10, .inr (.inr (.inr (.inr (fun r => if (s r).toNatClampNeg < 10 then some (q (2 + 3 * (s r).toNatClampNeg)) else none)))))
def eLine (G : xGl) : xLay := fun q j s => if j < 1 then .inr (1, [.ref (q 1), .int (s 1), .int (s 2)]) else if j < 2 then eOrd G q 0 s else eOrder G (sh (2 + 3 * ((j - 2) / 3)) q) ((j - 2) % 3) s
def eState (G : xGl) : xLay := fun q j s => if j < 1 then .inr (6, [.ref (q 1), .ref (q 5), .ref (q 6), .ref (q 8), .ref (q 11), .ref (q 14), .ref (q 46), .int (s 7), .int (s 8), .int (s 9), .int (s 10), .int (s 11), .int (s 12)]) else if j < 5 then eCells G (sh 1 q) (j - 1) s else if j < 6 then eLocks G (sh 5 q) (j - 5) s else if j < 8 then eRow G (sh 6 q) (j - 6) s else if j < 11 then eWork G (sh 8 q) (j - 8) s else if j < 14 then eWork G (sh 11 q) (j - 11) s else if j < 46 then eLine G (sh 14 q) (j - 14) s else eInt G 5 (sh 46 q) (j - 46) s
def eSts (G : xGl) : xLay := fun q _ s => .inl (G.2 3, 6, .inr (.inr (.inr (.inr (fun r => if (s r).toNatClampNeg < 6 then some (q (148 + 47 * (s r).toNatClampNeg)) else none)))))
def eBC (G : xGl) : xLay := fun q j s => if j < 1 then .inr (8, [.ref (q 7), .ref (q 54), .ref (q 101), .int (s 3), .ref (q 1), .int (s 5), .ref (q 2), .int (s 7), .ref (q 3), .ref (q 6)]) else if j < 2 then eSts G q 0 s else if j < 3 then eChr G 60 (sh 2 q) 0 s else if j < 6 then eScribe G (sh 3 q) (j - 3) s else if j < 7 then eInt G 256 (sh 6 q) 0 s else if j < 54 then eState G (sh 7 q) (j - 7) s else if j < 101 then eState G (sh 54 q) (j - 54) s else if j < 148 then eState G (sh 101 q) (j - 101) s else eState G (sh (148 + 47 * ((j - 148) / 47)) q) ((j - 148) % 47) s
def eMod (G : xGl) : xLay := fun q j s => if j < 1 then .inr (9, [.ref (q 1), .ref (q 2), .ref (q 3), .int (s 3), .ref (q 4), .int (s 5), .ref (q 5), .int (s 7), .int (s 8), .int (s 9), .int (s 10), .int (s 11), .int (s 12), .int (s 13), .int (s 14), .ref (q 6), .ref (q 7)]) else if j < 2 then eInt G 797 (sh 1 q) (j - 1) s else if j < 3 then eInt G 797 (sh 2 q) (j - 2) s else if j < 4 then eInt G 4782 (sh 3 q) (j - 3) s else if j < 5 then eInt G 797 (sh 4 q) (j - 4) s else if j < 6 then eInt G 60 (sh 5 q) (j - 5) s else if j < 7 then eInt G 8 (sh 6 q) (j - 6) s else eInt G 256 (sh 7 q) (j - 7) s
theorem sh_0 {α : Type} {q : Nat → α} : sh 0 q = q := funext fun j => congrArg q (Nat.zero_add j)
theorem x2a {n1 : Nat} {E1 E2 : xLay} {q : Nat → Nat} : ∀ i, i < n1 → ∀ z, e2 n1 E1 E2 q (0 + i) z = E1 (sh 0 q) i z := by
  intro i hi z
  rw [Nat.zero_add, sh_0]
  simp only [e2]
  rw [if_pos hi]
theorem x2b {n1 n2 : Nat} {E1 E2 : xLay} {q : Nat → Nat} : ∀ i, i < n2 → ∀ z, e2 n1 E1 E2 q (n1 + i) z = E2 (sh n1 q) i z := by
  intro i hi z
  simp only [e2]
  rw [if_neg (show ¬ n1 + i < n1 by omega), Nat.add_sub_cancel_left]
theorem x2E1 {E E1 E2 : xLay} {q : Nat → Nat} {n1 b1 b2 : Nat} (hs : ∀ i, i < n1 → ∀ z, E q (b1 + i) z = E1 (sh b1 q) i z) (hl : ∀ (q q' : Nat → Nat), (∀ j, j < n1 → q j = q' j) → ∀ i, i < n1 → ∀ z, E1 q i z = E1 q' i z) : ∀ i, i < n1 → ∀ z, E q (b1 + i) z = e2 n1 E1 E2 (ct n1 (sh b1 q) (sh b2 q)) i z := by
  intro i hi z
  rw [hs i hi z]
  simp only [e2]
  rw [if_pos hi]
  exact hl _ _ (fun j hj => (ct_lo hj).symm) i hi z
theorem x2E2 {E E1 E2 : xLay} {q : Nat → Nat} {n1 n2 b1 b2 : Nat} (hs : ∀ i, i < n2 → ∀ z, E q (b2 + i) z = E2 (sh b2 q) i z) : ∀ i, i < n2 → ∀ z, E q (b2 + i) z = e2 n1 E1 E2 (ct n1 (sh b1 q) (sh b2 q)) (n1 + i) z := by
  intro i hi z
  rw [hs i hi z, x2b (n2 := n2) i hi z, sh_ct]
theorem eCells_0 {G : xGl} {q : Nat → Nat} {s : Nat → Int32} : eCells G q 0 s = .inr (0, [.ref (q 1), .ref (q 2), .ref (q 3), .int (s 3)]) := rfl
theorem eCells_1 {G : xGl} {q : Nat → Nat} {s : Nat → Int32} : eCells G q 1 s = .inl (G.2 0, 256, .inl s) := rfl
theorem eCells_2 {G : xGl} {q : Nat → Nat} {s : Nat → Int32} : eCells G q 2 s = .inl (G.2 0, 256, .inl s) := rfl
theorem eCells_3 {G : xGl} {q : Nat → Nat} {s : Nat → Int32} : eCells G q 3 s = .inl (G.2 0, 8, .inl s) := rfl
theorem sCells_1 {G : xGl} {q : Nat → Nat} : ∀ i, i < 1 → ∀ z, eCells G q (1 + i) z = eInt G 256 (sh 1 q) i z := by
  intro i hi z
  match i, hi with
  | 0, _ => rfl
theorem sCells_2 {G : xGl} {q : Nat → Nat} : ∀ i, i < 1 → ∀ z, eCells G q (2 + i) z = eInt G 256 (sh 2 q) i z := by
  intro i hi z
  match i, hi with
  | 0, _ => rfl
theorem sCells_3 {G : xGl} {q : Nat → Nat} : ∀ i, i < 1 → ∀ z, eCells G q (3 + i) z = eInt G 8 (sh 3 q) i z := by
  intro i hi z
  match i, hi with
  | 0, _ => rfl
theorem eLine_0 {G : xGl} {q : Nat → Nat} {s : Nat → Int32} : eLine G q 0 s = .inr (1, [.ref (q 1), .int (s 1), .int (s 2)]) := rfl
theorem eLine_1 {G : xGl} {q : Nat → Nat} {s : Nat → Int32} : eLine G q 1 s = .inl (G.2 2, 10, .inr (.inr (.inr (.inr (fun r => if (s r).toNatClampNeg < 10 then some (q (2 + 3 * (s r).toNatClampNeg)) else none))))) := rfl
theorem sLine_ord {G : xGl} {q : Nat → Nat} {k : Nat} (hk : k < 10) : ∀ i, i < 3 → ∀ z, eLine G q ((2 + 3 * k) + i) z = eOrder G (sh (2 + 3 * k) q) i z := by
  intro i hi z
  simp only [eLine]
  rw [if_neg (show ¬ 2 + 3 * k + i < 1 by omega), if_neg (show ¬ 2 + 3 * k + i < 2 by omega), show (2 + 3 * k + i - 2) / 3 = k by omega, show (2 + 3 * k + i - 2) % 3 = i by omega]
theorem eLine_ord {G : xGl} {q : Nat → Nat} {s : Nat → Int32} {k : Nat} (hk : k < 10) : eLine G q (2 + 3 * k) s = .inr (3, [.int (s 0), .int (s 1), .int (s 2), .int (s 3), .int (s 4), .ref (q ((2 + 3 * k) + 1))]) := sLine_ord hk 0 (by omega) s
theorem eLine_ordr {G : xGl} {q : Nat → Nat} {s : Nat → Int32} {k : Nat} (hk : k < 10) : eLine G q ((2 + 3 * k) + 1) s = .inr (4, [.ref (q ((2 + 3 * k) + 1 + 1)), .int (s 1)]) := sLine_ord hk 1 (by omega) s
theorem sLine_ordr {G : xGl} {q : Nat → Nat} {k : Nat} (hk : k < 10) : ∀ i, i < 2 → ∀ z, eLine G q ((2 + 3 * k) + 1 + i) z = eRow G (sh ((2 + 3 * k) + 1) q) i z := by
  intro i hi z
  match i, hi with
  | 0, _ => exact sLine_ord hk 1 (by omega) z
  | 1, _ => exact sLine_ord hk 2 (by omega) z
theorem eLocks_0 {G : xGl} {q : Nat → Nat} {s : Nat → Int32} : eLocks G q 0 s = .inr (2, [.int (s 0), .int (s 1), .int (s 2)]) := rfl
theorem eOrder_0 {G : xGl} {q : Nat → Nat} {s : Nat → Int32} : eOrder G q 0 s = .inr (3, [.int (s 0), .int (s 1), .int (s 2), .int (s 3), .int (s 4), .ref (q 1)]) := rfl
theorem eOrder_1 {G : xGl} {q : Nat → Nat} {s : Nat → Int32} : eOrder G q 1 s = .inr (4, [.ref (q 2), .int (s 1)]) := rfl
theorem eOrder_2 {G : xGl} {q : Nat → Nat} {s : Nat → Int32} : eOrder G q 2 s = .inl (G.2 0, 12, .inl s) := rfl
theorem sOrder_1 {G : xGl} {q : Nat → Nat} : ∀ i, i < 2 → ∀ z, eOrder G q (1 + i) z = eRow G (sh 1 q) i z := by
  intro i hi z
  match i, hi with
  | 0, _ => rfl
  | 1, _ => rfl
theorem sOrder_2 {G : xGl} {q : Nat → Nat} : ∀ i, i < 1 → ∀ z, eOrder G q (2 + i) z = eInt G 12 (sh 2 q) i z := by
  intro i hi z
  match i, hi with
  | 0, _ => rfl
theorem eRow_0 {G : xGl} {q : Nat → Nat} {s : Nat → Int32} : eRow G q 0 s = .inr (4, [.ref (q 1), .int (s 1)]) := rfl
theorem eRow_1 {G : xGl} {q : Nat → Nat} {s : Nat → Int32} : eRow G q 1 s = .inl (G.2 0, 12, .inl s) := rfl
theorem sRow_1 {G : xGl} {q : Nat → Nat} : ∀ i, i < 1 → ∀ z, eRow G q (1 + i) z = eInt G 12 (sh 1 q) i z := by
  intro i hi z
  match i, hi with
  | 0, _ => rfl
theorem eScribe_0 {G : xGl} {q : Nat → Nat} {s : Nat → Int32} : eScribe G q 0 s = .inr (5, [.int (s 0), .int (s 1), .int (s 2), .int (s 3), .ref (q 1), .int (s 5)]) := rfl
theorem eScribe_1 {G : xGl} {q : Nat → Nat} {s : Nat → Int32} : eScribe G q 1 s = .inr (4, [.ref (q 2), .int (s 1)]) := rfl
theorem eScribe_2 {G : xGl} {q : Nat → Nat} {s : Nat → Int32} : eScribe G q 2 s = .inl (G.2 0, 12, .inl s) := rfl
theorem sScribe_1 {G : xGl} {q : Nat → Nat} : ∀ i, i < 2 → ∀ z, eScribe G q (1 + i) z = eRow G (sh 1 q) i z := by
  intro i hi z
  match i, hi with
  | 0, _ => rfl
  | 1, _ => rfl
theorem sScribe_2 {G : xGl} {q : Nat → Nat} : ∀ i, i < 1 → ∀ z, eScribe G q (2 + i) z = eInt G 12 (sh 2 q) i z := by
  intro i hi z
  match i, hi with
  | 0, _ => rfl
theorem eState_0 {G : xGl} {q : Nat → Nat} {s : Nat → Int32} : eState G q 0 s = .inr (6, [.ref (q 1), .ref (q 5), .ref (q 6), .ref (q 8), .ref (q 11), .ref (q 14), .ref (q 46), .int (s 7), .int (s 8), .int (s 9), .int (s 10), .int (s 11), .int (s 12)]) := rfl
theorem eState_1 {G : xGl} {q : Nat → Nat} {s : Nat → Int32} : eState G q 1 s = .inr (0, [.ref (q 2), .ref (q 3), .ref (q 4), .int (s 3)]) := rfl
theorem eState_2 {G : xGl} {q : Nat → Nat} {s : Nat → Int32} : eState G q 2 s = .inl (G.2 0, 256, .inl s) := rfl
theorem eState_3 {G : xGl} {q : Nat → Nat} {s : Nat → Int32} : eState G q 3 s = .inl (G.2 0, 256, .inl s) := rfl
theorem eState_4 {G : xGl} {q : Nat → Nat} {s : Nat → Int32} : eState G q 4 s = .inl (G.2 0, 8, .inl s) := rfl
theorem eState_5 {G : xGl} {q : Nat → Nat} {s : Nat → Int32} : eState G q 5 s = .inr (2, [.int (s 0), .int (s 1), .int (s 2)]) := rfl
theorem eState_6 {G : xGl} {q : Nat → Nat} {s : Nat → Int32} : eState G q 6 s = .inr (4, [.ref (q 7), .int (s 1)]) := rfl
theorem eState_7 {G : xGl} {q : Nat → Nat} {s : Nat → Int32} : eState G q 7 s = .inl (G.2 0, 12, .inl s) := rfl
theorem eState_8 {G : xGl} {q : Nat → Nat} {s : Nat → Int32} : eState G q 8 s = .inr (7, [.int (s 0), .int (s 1), .int (s 2), .int (s 3), .int (s 4), .int (s 5), .int (s 6), .int (s 7), .ref (q 9)]) := rfl
theorem eState_9 {G : xGl} {q : Nat → Nat} {s : Nat → Int32} : eState G q 9 s = .inr (4, [.ref (q 10), .int (s 1)]) := rfl
theorem eState_10 {G : xGl} {q : Nat → Nat} {s : Nat → Int32} : eState G q 10 s = .inl (G.2 0, 12, .inl s) := rfl
theorem eState_11 {G : xGl} {q : Nat → Nat} {s : Nat → Int32} : eState G q 11 s = .inr (7, [.int (s 0), .int (s 1), .int (s 2), .int (s 3), .int (s 4), .int (s 5), .int (s 6), .int (s 7), .ref (q 12)]) := rfl
theorem eState_12 {G : xGl} {q : Nat → Nat} {s : Nat → Int32} : eState G q 12 s = .inr (4, [.ref (q 13), .int (s 1)]) := rfl
theorem eState_13 {G : xGl} {q : Nat → Nat} {s : Nat → Int32} : eState G q 13 s = .inl (G.2 0, 12, .inl s) := rfl
theorem eState_14 {G : xGl} {q : Nat → Nat} {s : Nat → Int32} : eState G q 14 s = .inr (1, [.ref (q 15), .int (s 1), .int (s 2)]) := rfl
theorem eState_15 {G : xGl} {q : Nat → Nat} {s : Nat → Int32} : eState G q 15 s = .inl (G.2 2, 10, .inr (.inr (.inr (.inr (fun r => if (s r).toNatClampNeg < 10 then some (q (14 + (2 + 3 * (s r).toNatClampNeg))) else none))))) := rfl
theorem eState_46 {G : xGl} {q : Nat → Nat} {s : Nat → Int32} : eState G q 46 s = .inl (G.2 0, 5, .inl s) := rfl
theorem sState_1 {G : xGl} {q : Nat → Nat} : ∀ i, i < 4 → ∀ z, eState G q (1 + i) z = eCells G (sh 1 q) i z := by
  intro i hi z
  match i, hi with
  | 0, _ => rfl
  | 1, _ => rfl
  | 2, _ => rfl
  | 3, _ => rfl
theorem sState_2 {G : xGl} {q : Nat → Nat} : ∀ i, i < 1 → ∀ z, eState G q (2 + i) z = eInt G 256 (sh 2 q) i z := by
  intro i hi z
  match i, hi with
  | 0, _ => rfl
theorem sState_3 {G : xGl} {q : Nat → Nat} : ∀ i, i < 1 → ∀ z, eState G q (3 + i) z = eInt G 256 (sh 3 q) i z := by
  intro i hi z
  match i, hi with
  | 0, _ => rfl
theorem sState_4 {G : xGl} {q : Nat → Nat} : ∀ i, i < 1 → ∀ z, eState G q (4 + i) z = eInt G 8 (sh 4 q) i z := by
  intro i hi z
  match i, hi with
  | 0, _ => rfl
theorem sState_5 {G : xGl} {q : Nat → Nat} : ∀ i, i < 1 → ∀ z, eState G q (5 + i) z = eLocks G (sh 5 q) i z := by
  intro i hi z
  match i, hi with
  | 0, _ => rfl
theorem sState_6 {G : xGl} {q : Nat → Nat} : ∀ i, i < 2 → ∀ z, eState G q (6 + i) z = eRow G (sh 6 q) i z := by
  intro i hi z
  match i, hi with
  | 0, _ => rfl
  | 1, _ => rfl
theorem sState_7 {G : xGl} {q : Nat → Nat} : ∀ i, i < 1 → ∀ z, eState G q (7 + i) z = eInt G 12 (sh 7 q) i z := by
  intro i hi z
  match i, hi with
  | 0, _ => rfl
theorem sState_8 {G : xGl} {q : Nat → Nat} : ∀ i, i < 3 → ∀ z, eState G q (8 + i) z = eWork G (sh 8 q) i z := by
  intro i hi z
  match i, hi with
  | 0, _ => rfl
  | 1, _ => rfl
  | 2, _ => rfl
theorem sState_9 {G : xGl} {q : Nat → Nat} : ∀ i, i < 2 → ∀ z, eState G q (9 + i) z = eRow G (sh 9 q) i z := by
  intro i hi z
  match i, hi with
  | 0, _ => rfl
  | 1, _ => rfl
theorem sState_10 {G : xGl} {q : Nat → Nat} : ∀ i, i < 1 → ∀ z, eState G q (10 + i) z = eInt G 12 (sh 10 q) i z := by
  intro i hi z
  match i, hi with
  | 0, _ => rfl
theorem sState_11 {G : xGl} {q : Nat → Nat} : ∀ i, i < 3 → ∀ z, eState G q (11 + i) z = eWork G (sh 11 q) i z := by
  intro i hi z
  match i, hi with
  | 0, _ => rfl
  | 1, _ => rfl
  | 2, _ => rfl
theorem sState_12 {G : xGl} {q : Nat → Nat} : ∀ i, i < 2 → ∀ z, eState G q (12 + i) z = eRow G (sh 12 q) i z := by
  intro i hi z
  match i, hi with
  | 0, _ => rfl
  | 1, _ => rfl
theorem sState_13 {G : xGl} {q : Nat → Nat} : ∀ i, i < 1 → ∀ z, eState G q (13 + i) z = eInt G 12 (sh 13 q) i z := by
  intro i hi z
  match i, hi with
  | 0, _ => rfl
theorem sState_14 {G : xGl} {q : Nat → Nat} : ∀ i, i < 32 → ∀ z, eState G q (14 + i) z = eLine G (sh 14 q) i z := by
  intro i hi z
  simp only [eState]
  rw [if_neg (show ¬ 14 + i < 1 by omega), if_neg (show ¬ 14 + i < 5 by omega), if_neg (show ¬ 14 + i < 6 by omega), if_neg (show ¬ 14 + i < 8 by omega), if_neg (show ¬ 14 + i < 11 by omega), if_neg (show ¬ 14 + i < 14 by omega), if_pos (show 14 + i < 46 by omega), Nat.add_sub_cancel_left]
theorem sState_46 {G : xGl} {q : Nat → Nat} : ∀ i, i < 1 → ∀ z, eState G q (46 + i) z = eInt G 5 (sh 46 q) i z := by
  intro i hi z
  match i, hi with
  | 0, _ => rfl
theorem sState_ord {G : xGl} {q : Nat → Nat} {k : Nat} (hk : k < 10) : ∀ i, i < 3 → ∀ z, eState G q ((14 + (2 + 3 * k)) + i) z = eOrder G (sh (14 + (2 + 3 * k)) q) i z := by
  intro i hi z
  rw [Nat.add_assoc, sState_14 _ (by omega) z, sLine_ord hk i hi z]
  exact congrArg (fun f => eOrder G f i z) (funext fun j => congrArg q (by omega))
theorem eState_ord {G : xGl} {q : Nat → Nat} {s : Nat → Int32} {k : Nat} (hk : k < 10) : eState G q (14 + (2 + 3 * k)) s = .inr (3, [.int (s 0), .int (s 1), .int (s 2), .int (s 3), .int (s 4), .ref (q ((14 + (2 + 3 * k)) + 1))]) := sState_ord hk 0 (by omega) s
theorem eState_ordr {G : xGl} {q : Nat → Nat} {s : Nat → Int32} {k : Nat} (hk : k < 10) : eState G q ((14 + (2 + 3 * k)) + 1) s = .inr (4, [.ref (q ((14 + (2 + 3 * k)) + 1 + 1)), .int (s 1)]) := sState_ord hk 1 (by omega) s
theorem sState_ordr {G : xGl} {q : Nat → Nat} {k : Nat} (hk : k < 10) : ∀ i, i < 2 → ∀ z, eState G q ((14 + (2 + 3 * k)) + 1 + i) z = eRow G (sh ((14 + (2 + 3 * k)) + 1) q) i z := by
  intro i hi z
  match i, hi with
  | 0, _ => exact sState_ord hk 1 (by omega) z
  | 1, _ => exact sState_ord hk 2 (by omega) z
theorem eWork_0 {G : xGl} {q : Nat → Nat} {s : Nat → Int32} : eWork G q 0 s = .inr (7, [.int (s 0), .int (s 1), .int (s 2), .int (s 3), .int (s 4), .int (s 5), .int (s 6), .int (s 7), .ref (q 1)]) := rfl
theorem eWork_1 {G : xGl} {q : Nat → Nat} {s : Nat → Int32} : eWork G q 1 s = .inr (4, [.ref (q 2), .int (s 1)]) := rfl
theorem eWork_2 {G : xGl} {q : Nat → Nat} {s : Nat → Int32} : eWork G q 2 s = .inl (G.2 0, 12, .inl s) := rfl
theorem sWork_1 {G : xGl} {q : Nat → Nat} : ∀ i, i < 2 → ∀ z, eWork G q (1 + i) z = eRow G (sh 1 q) i z := by
  intro i hi z
  match i, hi with
  | 0, _ => rfl
  | 1, _ => rfl
theorem sWork_2 {G : xGl} {q : Nat → Nat} : ∀ i, i < 1 → ∀ z, eWork G q (2 + i) z = eInt G 12 (sh 2 q) i z := by
  intro i hi z
  match i, hi with
  | 0, _ => rfl
theorem eBC_0 {G : xGl} {q : Nat → Nat} {s : Nat → Int32} : eBC G q 0 s = .inr (8, [.ref (q 7), .ref (q 54), .ref (q 101), .int (s 3), .ref (q 1), .int (s 5), .ref (q 2), .int (s 7), .ref (q 3), .ref (q 6)]) := rfl
theorem eBC_1 {G : xGl} {q : Nat → Nat} {s : Nat → Int32} : eBC G q 1 s = .inl (G.2 3, 6, .inr (.inr (.inr (.inr (fun r => if (s r).toNatClampNeg < 6 then some (q (148 + 47 * (s r).toNatClampNeg)) else none))))) := rfl
theorem eBC_2 {G : xGl} {q : Nat → Nat} {s : Nat → Int32} : eBC G q 2 s = .inl (G.2 1, 60, .inl s) := rfl
theorem eBC_3 {G : xGl} {q : Nat → Nat} {s : Nat → Int32} : eBC G q 3 s = .inr (5, [.int (s 0), .int (s 1), .int (s 2), .int (s 3), .ref (q 4), .int (s 5)]) := rfl
theorem eBC_4 {G : xGl} {q : Nat → Nat} {s : Nat → Int32} : eBC G q 4 s = .inr (4, [.ref (q 5), .int (s 1)]) := rfl
theorem eBC_5 {G : xGl} {q : Nat → Nat} {s : Nat → Int32} : eBC G q 5 s = .inl (G.2 0, 12, .inl s) := rfl
theorem eBC_6 {G : xGl} {q : Nat → Nat} {s : Nat → Int32} : eBC G q 6 s = .inl (G.2 0, 256, .inl s) := rfl
theorem eBC_7 {G : xGl} {q : Nat → Nat} {s : Nat → Int32} : eBC G q 7 s = .inr (6, [.ref (q 8), .ref (q 12), .ref (q 13), .ref (q 15), .ref (q 18), .ref (q 21), .ref (q 53), .int (s 7), .int (s 8), .int (s 9), .int (s 10), .int (s 11), .int (s 12)]) := rfl
theorem eBC_8 {G : xGl} {q : Nat → Nat} {s : Nat → Int32} : eBC G q 8 s = .inr (0, [.ref (q 9), .ref (q 10), .ref (q 11), .int (s 3)]) := rfl
theorem eBC_9 {G : xGl} {q : Nat → Nat} {s : Nat → Int32} : eBC G q 9 s = .inl (G.2 0, 256, .inl s) := rfl
theorem eBC_10 {G : xGl} {q : Nat → Nat} {s : Nat → Int32} : eBC G q 10 s = .inl (G.2 0, 256, .inl s) := rfl
theorem eBC_11 {G : xGl} {q : Nat → Nat} {s : Nat → Int32} : eBC G q 11 s = .inl (G.2 0, 8, .inl s) := rfl
theorem eBC_12 {G : xGl} {q : Nat → Nat} {s : Nat → Int32} : eBC G q 12 s = .inr (2, [.int (s 0), .int (s 1), .int (s 2)]) := rfl
theorem eBC_13 {G : xGl} {q : Nat → Nat} {s : Nat → Int32} : eBC G q 13 s = .inr (4, [.ref (q 14), .int (s 1)]) := rfl
theorem eBC_14 {G : xGl} {q : Nat → Nat} {s : Nat → Int32} : eBC G q 14 s = .inl (G.2 0, 12, .inl s) := rfl
theorem eBC_15 {G : xGl} {q : Nat → Nat} {s : Nat → Int32} : eBC G q 15 s = .inr (7, [.int (s 0), .int (s 1), .int (s 2), .int (s 3), .int (s 4), .int (s 5), .int (s 6), .int (s 7), .ref (q 16)]) := rfl
theorem eBC_16 {G : xGl} {q : Nat → Nat} {s : Nat → Int32} : eBC G q 16 s = .inr (4, [.ref (q 17), .int (s 1)]) := rfl
theorem eBC_17 {G : xGl} {q : Nat → Nat} {s : Nat → Int32} : eBC G q 17 s = .inl (G.2 0, 12, .inl s) := rfl
theorem eBC_18 {G : xGl} {q : Nat → Nat} {s : Nat → Int32} : eBC G q 18 s = .inr (7, [.int (s 0), .int (s 1), .int (s 2), .int (s 3), .int (s 4), .int (s 5), .int (s 6), .int (s 7), .ref (q 19)]) := rfl
theorem eBC_19 {G : xGl} {q : Nat → Nat} {s : Nat → Int32} : eBC G q 19 s = .inr (4, [.ref (q 20), .int (s 1)]) := rfl
theorem eBC_20 {G : xGl} {q : Nat → Nat} {s : Nat → Int32} : eBC G q 20 s = .inl (G.2 0, 12, .inl s) := rfl
theorem eBC_21 {G : xGl} {q : Nat → Nat} {s : Nat → Int32} : eBC G q 21 s = .inr (1, [.ref (q 22), .int (s 1), .int (s 2)]) := rfl
theorem eBC_22 {G : xGl} {q : Nat → Nat} {s : Nat → Int32} : eBC G q 22 s = .inl (G.2 2, 10, .inr (.inr (.inr (.inr (fun r => if (s r).toNatClampNeg < 10 then some (q (7 + (14 + (2 + 3 * (s r).toNatClampNeg)))) else none))))) := rfl
theorem eBC_53 {G : xGl} {q : Nat → Nat} {s : Nat → Int32} : eBC G q 53 s = .inl (G.2 0, 5, .inl s) := rfl
theorem eBC_54 {G : xGl} {q : Nat → Nat} {s : Nat → Int32} : eBC G q 54 s = .inr (6, [.ref (q 55), .ref (q 59), .ref (q 60), .ref (q 62), .ref (q 65), .ref (q 68), .ref (q 100), .int (s 7), .int (s 8), .int (s 9), .int (s 10), .int (s 11), .int (s 12)]) := rfl
theorem eBC_101 {G : xGl} {q : Nat → Nat} {s : Nat → Int32} : eBC G q 101 s = .inr (6, [.ref (q 102), .ref (q 106), .ref (q 107), .ref (q 109), .ref (q 112), .ref (q 115), .ref (q 147), .int (s 7), .int (s 8), .int (s 9), .int (s 10), .int (s 11), .int (s 12)]) := rfl
theorem sBC_3 {G : xGl} {q : Nat → Nat} : ∀ i, i < 3 → ∀ z, eBC G q (3 + i) z = eScribe G (sh 3 q) i z := by
  intro i hi z
  match i, hi with
  | 0, _ => rfl
  | 1, _ => rfl
  | 2, _ => rfl
theorem sBC_4 {G : xGl} {q : Nat → Nat} : ∀ i, i < 2 → ∀ z, eBC G q (4 + i) z = eRow G (sh 4 q) i z := by
  intro i hi z
  match i, hi with
  | 0, _ => rfl
  | 1, _ => rfl
theorem sBC_5 {G : xGl} {q : Nat → Nat} : ∀ i, i < 1 → ∀ z, eBC G q (5 + i) z = eInt G 12 (sh 5 q) i z := by
  intro i hi z
  match i, hi with
  | 0, _ => rfl
theorem sBC_6 {G : xGl} {q : Nat → Nat} : ∀ i, i < 1 → ∀ z, eBC G q (6 + i) z = eInt G 256 (sh 6 q) i z := by
  intro i hi z
  match i, hi with
  | 0, _ => rfl
theorem sBC_7 {G : xGl} {q : Nat → Nat} : ∀ i, i < 47 → ∀ z, eBC G q (7 + i) z = eState G (sh 7 q) i z := by
  intro i hi z
  simp only [eBC]
  rw [if_neg (show ¬ 7 + i < 1 by omega), if_neg (show ¬ 7 + i < 2 by omega), if_neg (show ¬ 7 + i < 3 by omega), if_neg (show ¬ 7 + i < 6 by omega), if_neg (show ¬ 7 + i < 7 by omega), if_pos (show 7 + i < 54 by omega), Nat.add_sub_cancel_left]
theorem sBC_8 {G : xGl} {q : Nat → Nat} : ∀ i, i < 4 → ∀ z, eBC G q (8 + i) z = eCells G (sh 8 q) i z := by
  intro i hi z
  match i, hi with
  | 0, _ => rfl
  | 1, _ => rfl
  | 2, _ => rfl
  | 3, _ => rfl
theorem sBC_9 {G : xGl} {q : Nat → Nat} : ∀ i, i < 1 → ∀ z, eBC G q (9 + i) z = eInt G 256 (sh 9 q) i z := by
  intro i hi z
  match i, hi with
  | 0, _ => rfl
theorem sBC_10 {G : xGl} {q : Nat → Nat} : ∀ i, i < 1 → ∀ z, eBC G q (10 + i) z = eInt G 256 (sh 10 q) i z := by
  intro i hi z
  match i, hi with
  | 0, _ => rfl
theorem sBC_11 {G : xGl} {q : Nat → Nat} : ∀ i, i < 1 → ∀ z, eBC G q (11 + i) z = eInt G 8 (sh 11 q) i z := by
  intro i hi z
  match i, hi with
  | 0, _ => rfl
theorem sBC_12 {G : xGl} {q : Nat → Nat} : ∀ i, i < 1 → ∀ z, eBC G q (12 + i) z = eLocks G (sh 12 q) i z := by
  intro i hi z
  match i, hi with
  | 0, _ => rfl
theorem sBC_13 {G : xGl} {q : Nat → Nat} : ∀ i, i < 2 → ∀ z, eBC G q (13 + i) z = eRow G (sh 13 q) i z := by
  intro i hi z
  match i, hi with
  | 0, _ => rfl
  | 1, _ => rfl
theorem sBC_14 {G : xGl} {q : Nat → Nat} : ∀ i, i < 1 → ∀ z, eBC G q (14 + i) z = eInt G 12 (sh 14 q) i z := by
  intro i hi z
  match i, hi with
  | 0, _ => rfl
theorem sBC_15 {G : xGl} {q : Nat → Nat} : ∀ i, i < 3 → ∀ z, eBC G q (15 + i) z = eWork G (sh 15 q) i z := by
  intro i hi z
  match i, hi with
  | 0, _ => rfl
  | 1, _ => rfl
  | 2, _ => rfl
theorem sBC_16 {G : xGl} {q : Nat → Nat} : ∀ i, i < 2 → ∀ z, eBC G q (16 + i) z = eRow G (sh 16 q) i z := by
  intro i hi z
  match i, hi with
  | 0, _ => rfl
  | 1, _ => rfl
theorem sBC_17 {G : xGl} {q : Nat → Nat} : ∀ i, i < 1 → ∀ z, eBC G q (17 + i) z = eInt G 12 (sh 17 q) i z := by
  intro i hi z
  match i, hi with
  | 0, _ => rfl
theorem sBC_18 {G : xGl} {q : Nat → Nat} : ∀ i, i < 3 → ∀ z, eBC G q (18 + i) z = eWork G (sh 18 q) i z := by
  intro i hi z
  match i, hi with
  | 0, _ => rfl
  | 1, _ => rfl
  | 2, _ => rfl
theorem sBC_19 {G : xGl} {q : Nat → Nat} : ∀ i, i < 2 → ∀ z, eBC G q (19 + i) z = eRow G (sh 19 q) i z := by
  intro i hi z
  match i, hi with
  | 0, _ => rfl
  | 1, _ => rfl
theorem sBC_20 {G : xGl} {q : Nat → Nat} : ∀ i, i < 1 → ∀ z, eBC G q (20 + i) z = eInt G 12 (sh 20 q) i z := by
  intro i hi z
  match i, hi with
  | 0, _ => rfl
theorem sBC_21 {G : xGl} {q : Nat → Nat} : ∀ i, i < 32 → ∀ z, eBC G q (21 + i) z = eLine G (sh 21 q) i z := by
  intro i hi z
  have h1 := sBC_7 (G := G) (q := q) (14 + i) (by omega) z
  rw [show 21 + i = 7 + (14 + i) by omega, h1, sState_14 i hi z]
  exact congrArg (fun f => eLine G f i z) (funext fun j => congrArg q (by omega))
theorem sBC_53 {G : xGl} {q : Nat → Nat} : ∀ i, i < 1 → ∀ z, eBC G q (53 + i) z = eInt G 5 (sh 53 q) i z := by
  intro i hi z
  match i, hi with
  | 0, _ => rfl
theorem sBC_54 {G : xGl} {q : Nat → Nat} : ∀ i, i < 47 → ∀ z, eBC G q (54 + i) z = eState G (sh 54 q) i z := by
  intro i hi z
  simp only [eBC]
  rw [if_neg (show ¬ 54 + i < 1 by omega), if_neg (show ¬ 54 + i < 2 by omega), if_neg (show ¬ 54 + i < 3 by omega), if_neg (show ¬ 54 + i < 6 by omega), if_neg (show ¬ 54 + i < 7 by omega), if_neg (show ¬ 54 + i < 54 by omega), if_pos (show 54 + i < 101 by omega), Nat.add_sub_cancel_left]
theorem sBC_101 {G : xGl} {q : Nat → Nat} : ∀ i, i < 47 → ∀ z, eBC G q (101 + i) z = eState G (sh 101 q) i z := by
  intro i hi z
  simp only [eBC]
  rw [if_neg (show ¬ 101 + i < 1 by omega), if_neg (show ¬ 101 + i < 2 by omega), if_neg (show ¬ 101 + i < 3 by omega), if_neg (show ¬ 101 + i < 6 by omega), if_neg (show ¬ 101 + i < 7 by omega), if_neg (show ¬ 101 + i < 54 by omega), if_neg (show ¬ 101 + i < 101 by omega), if_pos (show 101 + i < 148 by omega), Nat.add_sub_cancel_left]
theorem sBC_ord {G : xGl} {q : Nat → Nat} {k : Nat} (hk : k < 10) : ∀ i, i < 3 → ∀ z, eBC G q ((7 + (14 + (2 + 3 * k))) + i) z = eOrder G (sh (7 + (14 + (2 + 3 * k))) q) i z := by
  intro i hi z
  rw [Nat.add_assoc, sBC_7 _ (by omega) z, sState_ord hk i hi z]
  exact congrArg (fun f => eOrder G f i z) (funext fun j => congrArg q (by omega))
theorem eBC_ord {G : xGl} {q : Nat → Nat} {s : Nat → Int32} {k : Nat} (hk : k < 10) : eBC G q (7 + (14 + (2 + 3 * k))) s = .inr (3, [.int (s 0), .int (s 1), .int (s 2), .int (s 3), .int (s 4), .ref (q ((7 + (14 + (2 + 3 * k))) + 1))]) := sBC_ord hk 0 (by omega) s
theorem eBC_ordr {G : xGl} {q : Nat → Nat} {s : Nat → Int32} {k : Nat} (hk : k < 10) : eBC G q ((7 + (14 + (2 + 3 * k))) + 1) s = .inr (4, [.ref (q ((7 + (14 + (2 + 3 * k))) + 1 + 1)), .int (s 1)]) := sBC_ord hk 1 (by omega) s
theorem sBC_ordr {G : xGl} {q : Nat → Nat} {k : Nat} (hk : k < 10) : ∀ i, i < 2 → ∀ z, eBC G q ((7 + (14 + (2 + 3 * k))) + 1 + i) z = eRow G (sh ((7 + (14 + (2 + 3 * k))) + 1) q) i z := by
  intro i hi z
  match i, hi with
  | 0, _ => exact sBC_ord hk 1 (by omega) z
  | 1, _ => exact sBC_ord hk 2 (by omega) z
theorem eMod_0 {G : xGl} {q : Nat → Nat} {s : Nat → Int32} : eMod G q 0 s = .inr (9, [.ref (q 1), .ref (q 2), .ref (q 3), .int (s 3), .ref (q 4), .int (s 5), .ref (q 5), .int (s 7), .int (s 8), .int (s 9), .int (s 10), .int (s 11), .int (s 12), .int (s 13), .int (s 14), .ref (q 6), .ref (q 7)]) := rfl
theorem eMod_1 {G : xGl} {q : Nat → Nat} {s : Nat → Int32} : eMod G q 1 s = .inl (G.2 0, 797, .inl s) := rfl
theorem eMod_2 {G : xGl} {q : Nat → Nat} {s : Nat → Int32} : eMod G q 2 s = .inl (G.2 0, 797, .inl s) := rfl
theorem eMod_3 {G : xGl} {q : Nat → Nat} {s : Nat → Int32} : eMod G q 3 s = .inl (G.2 0, 4782, .inl s) := rfl
theorem eMod_4 {G : xGl} {q : Nat → Nat} {s : Nat → Int32} : eMod G q 4 s = .inl (G.2 0, 797, .inl s) := rfl
theorem eMod_5 {G : xGl} {q : Nat → Nat} {s : Nat → Int32} : eMod G q 5 s = .inl (G.2 0, 60, .inl s) := rfl
theorem eMod_6 {G : xGl} {q : Nat → Nat} {s : Nat → Int32} : eMod G q 6 s = .inl (G.2 0, 8, .inl s) := rfl
theorem eMod_7 {G : xGl} {q : Nat → Nat} {s : Nat → Int32} : eMod G q 7 s = .inl (G.2 0, 256, .inl s) := rfl
theorem sMod_1 {G : xGl} {q : Nat → Nat} : ∀ i, i < 1 → ∀ z, eMod G q (1 + i) z = eInt G 797 (sh 1 q) i z := by
  intro i hi z
  match i, hi with
  | 0, _ => rfl
theorem sMod_2 {G : xGl} {q : Nat → Nat} : ∀ i, i < 1 → ∀ z, eMod G q (2 + i) z = eInt G 797 (sh 2 q) i z := by
  intro i hi z
  match i, hi with
  | 0, _ => rfl
theorem sMod_3 {G : xGl} {q : Nat → Nat} : ∀ i, i < 1 → ∀ z, eMod G q (3 + i) z = eInt G 4782 (sh 3 q) i z := by
  intro i hi z
  match i, hi with
  | 0, _ => rfl
theorem sMod_4 {G : xGl} {q : Nat → Nat} : ∀ i, i < 1 → ∀ z, eMod G q (4 + i) z = eInt G 797 (sh 4 q) i z := by
  intro i hi z
  match i, hi with
  | 0, _ => rfl
theorem sMod_5 {G : xGl} {q : Nat → Nat} : ∀ i, i < 1 → ∀ z, eMod G q (5 + i) z = eInt G 60 (sh 5 q) i z := by
  intro i hi z
  match i, hi with
  | 0, _ => rfl
theorem sMod_6 {G : xGl} {q : Nat → Nat} : ∀ i, i < 1 → ∀ z, eMod G q (6 + i) z = eInt G 8 (sh 6 q) i z := by
  intro i hi z
  match i, hi with
  | 0, _ => rfl
theorem sMod_7 {G : xGl} {q : Nat → Nat} : ∀ i, i < 1 → ∀ z, eMod G q (7 + i) z = eInt G 256 (sh 7 q) i z := by
  intro i hi z
  match i, hi with
  | 0, _ => rfl
theorem eRowRow_0 {G : xGl} {q : Nat → Nat} {s : Nat → Int32} : (e2 2 (eRow G) (eRow G)) q 0 s = .inr (4, [.ref (q 1), .int (s 1)]) := rfl
theorem eRowRow_1 {G : xGl} {q : Nat → Nat} {s : Nat → Int32} : (e2 2 (eRow G) (eRow G)) q 1 s = .inl (G.2 0, 12, .inl s) := rfl
theorem eRowRow_2 {G : xGl} {q : Nat → Nat} {s : Nat → Int32} : (e2 2 (eRow G) (eRow G)) q 2 s = .inr (4, [.ref (q 3), .int (s 1)]) := rfl
theorem eRowRow_3 {G : xGl} {q : Nat → Nat} {s : Nat → Int32} : (e2 2 (eRow G) (eRow G)) q 3 s = .inl (G.2 0, 12, .inl s) := rfl
theorem sRowRow_1 {G : xGl} {q : Nat → Nat} : ∀ i, i < 1 → ∀ z, (e2 2 (eRow G) (eRow G)) q (1 + i) z = eInt G 12 (sh 1 q) i z := by
  intro i hi z
  match i, hi with
  | 0, _ => rfl
theorem sRowRow_3 {G : xGl} {q : Nat → Nat} : ∀ i, i < 1 → ∀ z, (e2 2 (eRow G) (eRow G)) q (3 + i) z = eInt G 12 (sh 3 q) i z := by
  intro i hi z
  match i, hi with
  | 0, _ => rfl
theorem sRowRow_2 {G : xGl} {q : Nat → Nat} : ∀ i, i < 2 → ∀ z, (e2 2 (eRow G) (eRow G)) q (2 + i) z = eRow G (sh 2 q) i z := x2b
theorem sRowRow_0 {G : xGl} {q : Nat → Nat} : ∀ i, i < 2 → ∀ z, (e2 2 (eRow G) (eRow G)) q (0 + i) z = eRow G (sh 0 q) i z := x2a
theorem eOrderOrder_0 {G : xGl} {q : Nat → Nat} {s : Nat → Int32} : (e2 3 (eOrder G) (eOrder G)) q 0 s = .inr (3, [.int (s 0), .int (s 1), .int (s 2), .int (s 3), .int (s 4), .ref (q 1)]) := rfl
theorem eOrderOrder_1 {G : xGl} {q : Nat → Nat} {s : Nat → Int32} : (e2 3 (eOrder G) (eOrder G)) q 1 s = .inr (4, [.ref (q 2), .int (s 1)]) := rfl
theorem eOrderOrder_2 {G : xGl} {q : Nat → Nat} {s : Nat → Int32} : (e2 3 (eOrder G) (eOrder G)) q 2 s = .inl (G.2 0, 12, .inl s) := rfl
theorem eOrderOrder_3 {G : xGl} {q : Nat → Nat} {s : Nat → Int32} : (e2 3 (eOrder G) (eOrder G)) q 3 s = .inr (3, [.int (s 0), .int (s 1), .int (s 2), .int (s 3), .int (s 4), .ref (q 4)]) := rfl
theorem eOrderOrder_4 {G : xGl} {q : Nat → Nat} {s : Nat → Int32} : (e2 3 (eOrder G) (eOrder G)) q 4 s = .inr (4, [.ref (q 5), .int (s 1)]) := rfl
theorem eOrderOrder_5 {G : xGl} {q : Nat → Nat} {s : Nat → Int32} : (e2 3 (eOrder G) (eOrder G)) q 5 s = .inl (G.2 0, 12, .inl s) := rfl
theorem sOrderOrder_1 {G : xGl} {q : Nat → Nat} : ∀ i, i < 2 → ∀ z, (e2 3 (eOrder G) (eOrder G)) q (1 + i) z = eRow G (sh 1 q) i z := by
  intro i hi z
  match i, hi with
  | 0, _ => rfl
  | 1, _ => rfl
theorem sOrderOrder_2 {G : xGl} {q : Nat → Nat} : ∀ i, i < 1 → ∀ z, (e2 3 (eOrder G) (eOrder G)) q (2 + i) z = eInt G 12 (sh 2 q) i z := by
  intro i hi z
  match i, hi with
  | 0, _ => rfl
theorem sOrderOrder_4 {G : xGl} {q : Nat → Nat} : ∀ i, i < 2 → ∀ z, (e2 3 (eOrder G) (eOrder G)) q (4 + i) z = eRow G (sh 4 q) i z := by
  intro i hi z
  match i, hi with
  | 0, _ => rfl
  | 1, _ => rfl
theorem sOrderOrder_5 {G : xGl} {q : Nat → Nat} : ∀ i, i < 1 → ∀ z, (e2 3 (eOrder G) (eOrder G)) q (5 + i) z = eInt G 12 (sh 5 q) i z := by
  intro i hi z
  match i, hi with
  | 0, _ => rfl
theorem sOrderOrder_3 {G : xGl} {q : Nat → Nat} : ∀ i, i < 3 → ∀ z, (e2 3 (eOrder G) (eOrder G)) q (3 + i) z = eOrder G (sh 3 q) i z := x2b
theorem sOrderOrder_0 {G : xGl} {q : Nat → Nat} : ∀ i, i < 3 → ∀ z, (e2 3 (eOrder G) (eOrder G)) q (0 + i) z = eOrder G (sh 0 q) i z := x2a
theorem eWorkWork_0 {G : xGl} {q : Nat → Nat} {s : Nat → Int32} : (e2 3 (eWork G) (eWork G)) q 0 s = .inr (7, [.int (s 0), .int (s 1), .int (s 2), .int (s 3), .int (s 4), .int (s 5), .int (s 6), .int (s 7), .ref (q 1)]) := rfl
theorem eWorkWork_1 {G : xGl} {q : Nat → Nat} {s : Nat → Int32} : (e2 3 (eWork G) (eWork G)) q 1 s = .inr (4, [.ref (q 2), .int (s 1)]) := rfl
theorem eWorkWork_2 {G : xGl} {q : Nat → Nat} {s : Nat → Int32} : (e2 3 (eWork G) (eWork G)) q 2 s = .inl (G.2 0, 12, .inl s) := rfl
theorem eWorkWork_3 {G : xGl} {q : Nat → Nat} {s : Nat → Int32} : (e2 3 (eWork G) (eWork G)) q 3 s = .inr (7, [.int (s 0), .int (s 1), .int (s 2), .int (s 3), .int (s 4), .int (s 5), .int (s 6), .int (s 7), .ref (q 4)]) := rfl
theorem eWorkWork_4 {G : xGl} {q : Nat → Nat} {s : Nat → Int32} : (e2 3 (eWork G) (eWork G)) q 4 s = .inr (4, [.ref (q 5), .int (s 1)]) := rfl
theorem eWorkWork_5 {G : xGl} {q : Nat → Nat} {s : Nat → Int32} : (e2 3 (eWork G) (eWork G)) q 5 s = .inl (G.2 0, 12, .inl s) := rfl
theorem sWorkWork_1 {G : xGl} {q : Nat → Nat} : ∀ i, i < 2 → ∀ z, (e2 3 (eWork G) (eWork G)) q (1 + i) z = eRow G (sh 1 q) i z := by
  intro i hi z
  match i, hi with
  | 0, _ => rfl
  | 1, _ => rfl
theorem sWorkWork_2 {G : xGl} {q : Nat → Nat} : ∀ i, i < 1 → ∀ z, (e2 3 (eWork G) (eWork G)) q (2 + i) z = eInt G 12 (sh 2 q) i z := by
  intro i hi z
  match i, hi with
  | 0, _ => rfl
theorem sWorkWork_4 {G : xGl} {q : Nat → Nat} : ∀ i, i < 2 → ∀ z, (e2 3 (eWork G) (eWork G)) q (4 + i) z = eRow G (sh 4 q) i z := by
  intro i hi z
  match i, hi with
  | 0, _ => rfl
  | 1, _ => rfl
theorem sWorkWork_5 {G : xGl} {q : Nat → Nat} : ∀ i, i < 1 → ∀ z, (e2 3 (eWork G) (eWork G)) q (5 + i) z = eInt G 12 (sh 5 q) i z := by
  intro i hi z
  match i, hi with
  | 0, _ => rfl
theorem sWorkWork_3 {G : xGl} {q : Nat → Nat} : ∀ i, i < 3 → ∀ z, (e2 3 (eWork G) (eWork G)) q (3 + i) z = eWork G (sh 3 q) i z := x2b
theorem sWorkWork_0 {G : xGl} {q : Nat → Nat} : ∀ i, i < 3 → ∀ z, (e2 3 (eWork G) (eWork G)) q (0 + i) z = eWork G (sh 0 q) i z := x2a
theorem eWorkRow_0 {G : xGl} {q : Nat → Nat} {s : Nat → Int32} : (e2 3 (eWork G) (eRow G)) q 0 s = .inr (7, [.int (s 0), .int (s 1), .int (s 2), .int (s 3), .int (s 4), .int (s 5), .int (s 6), .int (s 7), .ref (q 1)]) := rfl
theorem eWorkRow_1 {G : xGl} {q : Nat → Nat} {s : Nat → Int32} : (e2 3 (eWork G) (eRow G)) q 1 s = .inr (4, [.ref (q 2), .int (s 1)]) := rfl
theorem eWorkRow_2 {G : xGl} {q : Nat → Nat} {s : Nat → Int32} : (e2 3 (eWork G) (eRow G)) q 2 s = .inl (G.2 0, 12, .inl s) := rfl
theorem eWorkRow_3 {G : xGl} {q : Nat → Nat} {s : Nat → Int32} : (e2 3 (eWork G) (eRow G)) q 3 s = .inr (4, [.ref (q 4), .int (s 1)]) := rfl
theorem eWorkRow_4 {G : xGl} {q : Nat → Nat} {s : Nat → Int32} : (e2 3 (eWork G) (eRow G)) q 4 s = .inl (G.2 0, 12, .inl s) := rfl
theorem sWorkRow_1 {G : xGl} {q : Nat → Nat} : ∀ i, i < 2 → ∀ z, (e2 3 (eWork G) (eRow G)) q (1 + i) z = eRow G (sh 1 q) i z := by
  intro i hi z
  match i, hi with
  | 0, _ => rfl
  | 1, _ => rfl
theorem sWorkRow_2 {G : xGl} {q : Nat → Nat} : ∀ i, i < 1 → ∀ z, (e2 3 (eWork G) (eRow G)) q (2 + i) z = eInt G 12 (sh 2 q) i z := by
  intro i hi z
  match i, hi with
  | 0, _ => rfl
theorem sWorkRow_4 {G : xGl} {q : Nat → Nat} : ∀ i, i < 1 → ∀ z, (e2 3 (eWork G) (eRow G)) q (4 + i) z = eInt G 12 (sh 4 q) i z := by
  intro i hi z
  match i, hi with
  | 0, _ => rfl
theorem sWorkRow_3 {G : xGl} {q : Nat → Nat} : ∀ i, i < 2 → ∀ z, (e2 3 (eWork G) (eRow G)) q (3 + i) z = eRow G (sh 3 q) i z := x2b
theorem sWorkRow_0 {G : xGl} {q : Nat → Nat} : ∀ i, i < 3 → ∀ z, (e2 3 (eWork G) (eRow G)) q (0 + i) z = eWork G (sh 0 q) i z := x2a
theorem eLineLine_0 {G : xGl} {q : Nat → Nat} {s : Nat → Int32} : (e2 32 (eLine G) (eLine G)) q 0 s = .inr (1, [.ref (q 1), .int (s 1), .int (s 2)]) := rfl
theorem eLineLine_1 {G : xGl} {q : Nat → Nat} {s : Nat → Int32} : (e2 32 (eLine G) (eLine G)) q 1 s = .inl (G.2 2, 10, .inr (.inr (.inr (.inr (fun r => if (s r).toNatClampNeg < 10 then some (q (2 + 3 * (s r).toNatClampNeg)) else none))))) := rfl
theorem eLineLine_32 {G : xGl} {q : Nat → Nat} {s : Nat → Int32} : (e2 32 (eLine G) (eLine G)) q 32 s = .inr (1, [.ref (q 33), .int (s 1), .int (s 2)]) := rfl
theorem eLineLine_33 {G : xGl} {q : Nat → Nat} {s : Nat → Int32} : (e2 32 (eLine G) (eLine G)) q 33 s = .inl (G.2 2, 10, .inr (.inr (.inr (.inr (fun r => if (s r).toNatClampNeg < 10 then some (q (32 + (2 + 3 * (s r).toNatClampNeg))) else none))))) := rfl
theorem sLineLine_32 {G : xGl} {q : Nat → Nat} : ∀ i, i < 32 → ∀ z, (e2 32 (eLine G) (eLine G)) q (32 + i) z = eLine G (sh 32 q) i z := x2b
theorem sLineLine_0 {G : xGl} {q : Nat → Nat} : ∀ i, i < 32 → ∀ z, (e2 32 (eLine G) (eLine G)) q (0 + i) z = eLine G (sh 0 q) i z := x2a
theorem sLineLine_ord {G : xGl} {q : Nat → Nat} {k : Nat} (hk : k < 10) : ∀ i, i < 3 → ∀ z, (e2 32 (eLine G) (eLine G)) q ((2 + 3 * k) + i) z = eOrder G (sh (2 + 3 * k) q) i z := by
  intro i hi z
  have h1 := sLineLine_0 (G := G) (q := q) (2 + 3 * k + i) (by omega) z
  rw [Nat.zero_add, sh_0] at h1
  rw [h1, sLine_ord hk i hi z]
theorem eLineLine_ord {G : xGl} {q : Nat → Nat} {s : Nat → Int32} {k : Nat} (hk : k < 10) : (e2 32 (eLine G) (eLine G)) q (2 + 3 * k) s = .inr (3, [.int (s 0), .int (s 1), .int (s 2), .int (s 3), .int (s 4), .ref (q ((2 + 3 * k) + 1))]) := sLineLine_ord hk 0 (by omega) s
theorem eLineLine_ordr {G : xGl} {q : Nat → Nat} {s : Nat → Int32} {k : Nat} (hk : k < 10) : (e2 32 (eLine G) (eLine G)) q ((2 + 3 * k) + 1) s = .inr (4, [.ref (q ((2 + 3 * k) + 1 + 1)), .int (s 1)]) := sLineLine_ord hk 1 (by omega) s
theorem sLineLine_ordr {G : xGl} {q : Nat → Nat} {k : Nat} (hk : k < 10) : ∀ i, i < 2 → ∀ z, (e2 32 (eLine G) (eLine G)) q ((2 + 3 * k) + 1 + i) z = eRow G (sh ((2 + 3 * k) + 1) q) i z := by
  intro i hi z
  match i, hi with
  | 0, _ => exact sLineLine_ord hk 1 (by omega) z
  | 1, _ => exact sLineLine_ord hk 2 (by omega) z
theorem sLineLine_ordb {G : xGl} {q : Nat → Nat} {k : Nat} (hk : k < 10) : ∀ i, i < 3 → ∀ z, (e2 32 (eLine G) (eLine G)) q ((32 + (2 + 3 * k)) + i) z = eOrder G (sh (32 + (2 + 3 * k)) q) i z := by
  intro i hi z
  rw [Nat.add_assoc, sLineLine_32 _ (by omega) z, sLine_ord hk i hi z]
  exact congrArg (fun f => eOrder G f i z) (funext fun j => congrArg q (by omega))
theorem eLineLine_ordb {G : xGl} {q : Nat → Nat} {s : Nat → Int32} {k : Nat} (hk : k < 10) : (e2 32 (eLine G) (eLine G)) q (32 + (2 + 3 * k)) s = .inr (3, [.int (s 0), .int (s 1), .int (s 2), .int (s 3), .int (s 4), .ref (q ((32 + (2 + 3 * k)) + 1))]) := sLineLine_ordb hk 0 (by omega) s
theorem eLineLine_ordrb {G : xGl} {q : Nat → Nat} {s : Nat → Int32} {k : Nat} (hk : k < 10) : (e2 32 (eLine G) (eLine G)) q ((32 + (2 + 3 * k)) + 1) s = .inr (4, [.ref (q ((32 + (2 + 3 * k)) + 1 + 1)), .int (s 1)]) := sLineLine_ordb hk 1 (by omega) s
theorem sLineLine_ordrb {G : xGl} {q : Nat → Nat} {k : Nat} (hk : k < 10) : ∀ i, i < 2 → ∀ z, (e2 32 (eLine G) (eLine G)) q ((32 + (2 + 3 * k)) + 1 + i) z = eRow G (sh ((32 + (2 + 3 * k)) + 1) q) i z := by
  intro i hi z
  match i, hi with
  | 0, _ => exact sLineLine_ordb hk 1 (by omega) z
  | 1, _ => exact sLineLine_ordb hk 2 (by omega) z
theorem eLineRow_0 {G : xGl} {q : Nat → Nat} {s : Nat → Int32} : (e2 32 (eLine G) (eRow G)) q 0 s = .inr (1, [.ref (q 1), .int (s 1), .int (s 2)]) := rfl
theorem eLineRow_1 {G : xGl} {q : Nat → Nat} {s : Nat → Int32} : (e2 32 (eLine G) (eRow G)) q 1 s = .inl (G.2 2, 10, .inr (.inr (.inr (.inr (fun r => if (s r).toNatClampNeg < 10 then some (q (2 + 3 * (s r).toNatClampNeg)) else none))))) := rfl
theorem eLineRow_32 {G : xGl} {q : Nat → Nat} {s : Nat → Int32} : (e2 32 (eLine G) (eRow G)) q 32 s = .inr (4, [.ref (q 33), .int (s 1)]) := rfl
theorem eLineRow_33 {G : xGl} {q : Nat → Nat} {s : Nat → Int32} : (e2 32 (eLine G) (eRow G)) q 33 s = .inl (G.2 0, 12, .inl s) := rfl
theorem sLineRow_33 {G : xGl} {q : Nat → Nat} : ∀ i, i < 1 → ∀ z, (e2 32 (eLine G) (eRow G)) q (33 + i) z = eInt G 12 (sh 33 q) i z := by
  intro i hi z
  match i, hi with
  | 0, _ => rfl
theorem sLineRow_32 {G : xGl} {q : Nat → Nat} : ∀ i, i < 2 → ∀ z, (e2 32 (eLine G) (eRow G)) q (32 + i) z = eRow G (sh 32 q) i z := x2b
theorem sLineRow_0 {G : xGl} {q : Nat → Nat} : ∀ i, i < 32 → ∀ z, (e2 32 (eLine G) (eRow G)) q (0 + i) z = eLine G (sh 0 q) i z := x2a
theorem sLineRow_ord {G : xGl} {q : Nat → Nat} {k : Nat} (hk : k < 10) : ∀ i, i < 3 → ∀ z, (e2 32 (eLine G) (eRow G)) q ((2 + 3 * k) + i) z = eOrder G (sh (2 + 3 * k) q) i z := by
  intro i hi z
  have h1 := sLineRow_0 (G := G) (q := q) (2 + 3 * k + i) (by omega) z
  rw [Nat.zero_add, sh_0] at h1
  rw [h1, sLine_ord hk i hi z]
theorem eLineRow_ord {G : xGl} {q : Nat → Nat} {s : Nat → Int32} {k : Nat} (hk : k < 10) : (e2 32 (eLine G) (eRow G)) q (2 + 3 * k) s = .inr (3, [.int (s 0), .int (s 1), .int (s 2), .int (s 3), .int (s 4), .ref (q ((2 + 3 * k) + 1))]) := sLineRow_ord hk 0 (by omega) s
theorem eLineRow_ordr {G : xGl} {q : Nat → Nat} {s : Nat → Int32} {k : Nat} (hk : k < 10) : (e2 32 (eLine G) (eRow G)) q ((2 + 3 * k) + 1) s = .inr (4, [.ref (q ((2 + 3 * k) + 1 + 1)), .int (s 1)]) := sLineRow_ord hk 1 (by omega) s
theorem sLineRow_ordr {G : xGl} {q : Nat → Nat} {k : Nat} (hk : k < 10) : ∀ i, i < 2 → ∀ z, (e2 32 (eLine G) (eRow G)) q ((2 + 3 * k) + 1 + i) z = eRow G (sh ((2 + 3 * k) + 1) q) i z := by
  intro i hi z
  match i, hi with
  | 0, _ => exact sLineRow_ord hk 1 (by omega) z
  | 1, _ => exact sLineRow_ord hk 2 (by omega) z
theorem eLocksLocks_0 {G : xGl} {q : Nat → Nat} {s : Nat → Int32} : (e2 1 (eLocks G) (eLocks G)) q 0 s = .inr (2, [.int (s 0), .int (s 1), .int (s 2)]) := rfl
theorem eLocksLocks_1 {G : xGl} {q : Nat → Nat} {s : Nat → Int32} : (e2 1 (eLocks G) (eLocks G)) q 1 s = .inr (2, [.int (s 0), .int (s 1), .int (s 2)]) := rfl
theorem sLocksLocks_1 {G : xGl} {q : Nat → Nat} : ∀ i, i < 1 → ∀ z, (e2 1 (eLocks G) (eLocks G)) q (1 + i) z = eLocks G (sh 1 q) i z := x2b
theorem sLocksLocks_0 {G : xGl} {q : Nat → Nat} : ∀ i, i < 1 → ∀ z, (e2 1 (eLocks G) (eLocks G)) q (0 + i) z = eLocks G (sh 0 q) i z := x2a
theorem eCellsCells_0 {G : xGl} {q : Nat → Nat} {s : Nat → Int32} : (e2 4 (eCells G) (eCells G)) q 0 s = .inr (0, [.ref (q 1), .ref (q 2), .ref (q 3), .int (s 3)]) := rfl
theorem eCellsCells_1 {G : xGl} {q : Nat → Nat} {s : Nat → Int32} : (e2 4 (eCells G) (eCells G)) q 1 s = .inl (G.2 0, 256, .inl s) := rfl
theorem eCellsCells_2 {G : xGl} {q : Nat → Nat} {s : Nat → Int32} : (e2 4 (eCells G) (eCells G)) q 2 s = .inl (G.2 0, 256, .inl s) := rfl
theorem eCellsCells_3 {G : xGl} {q : Nat → Nat} {s : Nat → Int32} : (e2 4 (eCells G) (eCells G)) q 3 s = .inl (G.2 0, 8, .inl s) := rfl
theorem eCellsCells_4 {G : xGl} {q : Nat → Nat} {s : Nat → Int32} : (e2 4 (eCells G) (eCells G)) q 4 s = .inr (0, [.ref (q 5), .ref (q 6), .ref (q 7), .int (s 3)]) := rfl
theorem eCellsCells_5 {G : xGl} {q : Nat → Nat} {s : Nat → Int32} : (e2 4 (eCells G) (eCells G)) q 5 s = .inl (G.2 0, 256, .inl s) := rfl
theorem eCellsCells_6 {G : xGl} {q : Nat → Nat} {s : Nat → Int32} : (e2 4 (eCells G) (eCells G)) q 6 s = .inl (G.2 0, 256, .inl s) := rfl
theorem eCellsCells_7 {G : xGl} {q : Nat → Nat} {s : Nat → Int32} : (e2 4 (eCells G) (eCells G)) q 7 s = .inl (G.2 0, 8, .inl s) := rfl
theorem sCellsCells_1 {G : xGl} {q : Nat → Nat} : ∀ i, i < 1 → ∀ z, (e2 4 (eCells G) (eCells G)) q (1 + i) z = eInt G 256 (sh 1 q) i z := by
  intro i hi z
  match i, hi with
  | 0, _ => rfl
theorem sCellsCells_2 {G : xGl} {q : Nat → Nat} : ∀ i, i < 1 → ∀ z, (e2 4 (eCells G) (eCells G)) q (2 + i) z = eInt G 256 (sh 2 q) i z := by
  intro i hi z
  match i, hi with
  | 0, _ => rfl
theorem sCellsCells_3 {G : xGl} {q : Nat → Nat} : ∀ i, i < 1 → ∀ z, (e2 4 (eCells G) (eCells G)) q (3 + i) z = eInt G 8 (sh 3 q) i z := by
  intro i hi z
  match i, hi with
  | 0, _ => rfl
theorem sCellsCells_5 {G : xGl} {q : Nat → Nat} : ∀ i, i < 1 → ∀ z, (e2 4 (eCells G) (eCells G)) q (5 + i) z = eInt G 256 (sh 5 q) i z := by
  intro i hi z
  match i, hi with
  | 0, _ => rfl
theorem sCellsCells_6 {G : xGl} {q : Nat → Nat} : ∀ i, i < 1 → ∀ z, (e2 4 (eCells G) (eCells G)) q (6 + i) z = eInt G 256 (sh 6 q) i z := by
  intro i hi z
  match i, hi with
  | 0, _ => rfl
theorem sCellsCells_7 {G : xGl} {q : Nat → Nat} : ∀ i, i < 1 → ∀ z, (e2 4 (eCells G) (eCells G)) q (7 + i) z = eInt G 8 (sh 7 q) i z := by
  intro i hi z
  match i, hi with
  | 0, _ => rfl
theorem sCellsCells_4 {G : xGl} {q : Nat → Nat} : ∀ i, i < 4 → ∀ z, (e2 4 (eCells G) (eCells G)) q (4 + i) z = eCells G (sh 4 q) i z := x2b
theorem sCellsCells_0 {G : xGl} {q : Nat → Nat} : ∀ i, i < 4 → ∀ z, (e2 4 (eCells G) (eCells G)) q (0 + i) z = eCells G (sh 0 q) i z := x2a
theorem eStateState_0 {G : xGl} {q : Nat → Nat} {s : Nat → Int32} : (e2 47 (eState G) (eState G)) q 0 s = .inr (6, [.ref (q 1), .ref (q 5), .ref (q 6), .ref (q 8), .ref (q 11), .ref (q 14), .ref (q 46), .int (s 7), .int (s 8), .int (s 9), .int (s 10), .int (s 11), .int (s 12)]) := rfl
theorem eStateState_1 {G : xGl} {q : Nat → Nat} {s : Nat → Int32} : (e2 47 (eState G) (eState G)) q 1 s = .inr (0, [.ref (q 2), .ref (q 3), .ref (q 4), .int (s 3)]) := rfl
theorem eStateState_2 {G : xGl} {q : Nat → Nat} {s : Nat → Int32} : (e2 47 (eState G) (eState G)) q 2 s = .inl (G.2 0, 256, .inl s) := rfl
theorem eStateState_3 {G : xGl} {q : Nat → Nat} {s : Nat → Int32} : (e2 47 (eState G) (eState G)) q 3 s = .inl (G.2 0, 256, .inl s) := rfl
theorem eStateState_4 {G : xGl} {q : Nat → Nat} {s : Nat → Int32} : (e2 47 (eState G) (eState G)) q 4 s = .inl (G.2 0, 8, .inl s) := rfl
theorem eStateState_5 {G : xGl} {q : Nat → Nat} {s : Nat → Int32} : (e2 47 (eState G) (eState G)) q 5 s = .inr (2, [.int (s 0), .int (s 1), .int (s 2)]) := rfl
theorem eStateState_6 {G : xGl} {q : Nat → Nat} {s : Nat → Int32} : (e2 47 (eState G) (eState G)) q 6 s = .inr (4, [.ref (q 7), .int (s 1)]) := rfl
theorem eStateState_7 {G : xGl} {q : Nat → Nat} {s : Nat → Int32} : (e2 47 (eState G) (eState G)) q 7 s = .inl (G.2 0, 12, .inl s) := rfl
theorem eStateState_8 {G : xGl} {q : Nat → Nat} {s : Nat → Int32} : (e2 47 (eState G) (eState G)) q 8 s = .inr (7, [.int (s 0), .int (s 1), .int (s 2), .int (s 3), .int (s 4), .int (s 5), .int (s 6), .int (s 7), .ref (q 9)]) := rfl
theorem eStateState_9 {G : xGl} {q : Nat → Nat} {s : Nat → Int32} : (e2 47 (eState G) (eState G)) q 9 s = .inr (4, [.ref (q 10), .int (s 1)]) := rfl
theorem eStateState_10 {G : xGl} {q : Nat → Nat} {s : Nat → Int32} : (e2 47 (eState G) (eState G)) q 10 s = .inl (G.2 0, 12, .inl s) := rfl
theorem eStateState_11 {G : xGl} {q : Nat → Nat} {s : Nat → Int32} : (e2 47 (eState G) (eState G)) q 11 s = .inr (7, [.int (s 0), .int (s 1), .int (s 2), .int (s 3), .int (s 4), .int (s 5), .int (s 6), .int (s 7), .ref (q 12)]) := rfl
theorem eStateState_12 {G : xGl} {q : Nat → Nat} {s : Nat → Int32} : (e2 47 (eState G) (eState G)) q 12 s = .inr (4, [.ref (q 13), .int (s 1)]) := rfl
theorem eStateState_13 {G : xGl} {q : Nat → Nat} {s : Nat → Int32} : (e2 47 (eState G) (eState G)) q 13 s = .inl (G.2 0, 12, .inl s) := rfl
theorem eStateState_14 {G : xGl} {q : Nat → Nat} {s : Nat → Int32} : (e2 47 (eState G) (eState G)) q 14 s = .inr (1, [.ref (q 15), .int (s 1), .int (s 2)]) := rfl
theorem eStateState_15 {G : xGl} {q : Nat → Nat} {s : Nat → Int32} : (e2 47 (eState G) (eState G)) q 15 s = .inl (G.2 2, 10, .inr (.inr (.inr (.inr (fun r => if (s r).toNatClampNeg < 10 then some (q (14 + (2 + 3 * (s r).toNatClampNeg))) else none))))) := rfl
theorem eStateState_46 {G : xGl} {q : Nat → Nat} {s : Nat → Int32} : (e2 47 (eState G) (eState G)) q 46 s = .inl (G.2 0, 5, .inl s) := rfl
theorem eStateState_47 {G : xGl} {q : Nat → Nat} {s : Nat → Int32} : (e2 47 (eState G) (eState G)) q 47 s = .inr (6, [.ref (q 48), .ref (q 52), .ref (q 53), .ref (q 55), .ref (q 58), .ref (q 61), .ref (q 93), .int (s 7), .int (s 8), .int (s 9), .int (s 10), .int (s 11), .int (s 12)]) := rfl
theorem eStateState_48 {G : xGl} {q : Nat → Nat} {s : Nat → Int32} : (e2 47 (eState G) (eState G)) q 48 s = .inr (0, [.ref (q 49), .ref (q 50), .ref (q 51), .int (s 3)]) := rfl
theorem eStateState_49 {G : xGl} {q : Nat → Nat} {s : Nat → Int32} : (e2 47 (eState G) (eState G)) q 49 s = .inl (G.2 0, 256, .inl s) := rfl
theorem eStateState_50 {G : xGl} {q : Nat → Nat} {s : Nat → Int32} : (e2 47 (eState G) (eState G)) q 50 s = .inl (G.2 0, 256, .inl s) := rfl
theorem eStateState_51 {G : xGl} {q : Nat → Nat} {s : Nat → Int32} : (e2 47 (eState G) (eState G)) q 51 s = .inl (G.2 0, 8, .inl s) := rfl
theorem eStateState_52 {G : xGl} {q : Nat → Nat} {s : Nat → Int32} : (e2 47 (eState G) (eState G)) q 52 s = .inr (2, [.int (s 0), .int (s 1), .int (s 2)]) := rfl
theorem eStateState_53 {G : xGl} {q : Nat → Nat} {s : Nat → Int32} : (e2 47 (eState G) (eState G)) q 53 s = .inr (4, [.ref (q 54), .int (s 1)]) := rfl
theorem eStateState_54 {G : xGl} {q : Nat → Nat} {s : Nat → Int32} : (e2 47 (eState G) (eState G)) q 54 s = .inl (G.2 0, 12, .inl s) := rfl
theorem eStateState_55 {G : xGl} {q : Nat → Nat} {s : Nat → Int32} : (e2 47 (eState G) (eState G)) q 55 s = .inr (7, [.int (s 0), .int (s 1), .int (s 2), .int (s 3), .int (s 4), .int (s 5), .int (s 6), .int (s 7), .ref (q 56)]) := rfl
theorem eStateState_56 {G : xGl} {q : Nat → Nat} {s : Nat → Int32} : (e2 47 (eState G) (eState G)) q 56 s = .inr (4, [.ref (q 57), .int (s 1)]) := rfl
theorem eStateState_57 {G : xGl} {q : Nat → Nat} {s : Nat → Int32} : (e2 47 (eState G) (eState G)) q 57 s = .inl (G.2 0, 12, .inl s) := rfl
theorem eStateState_58 {G : xGl} {q : Nat → Nat} {s : Nat → Int32} : (e2 47 (eState G) (eState G)) q 58 s = .inr (7, [.int (s 0), .int (s 1), .int (s 2), .int (s 3), .int (s 4), .int (s 5), .int (s 6), .int (s 7), .ref (q 59)]) := rfl
theorem eStateState_59 {G : xGl} {q : Nat → Nat} {s : Nat → Int32} : (e2 47 (eState G) (eState G)) q 59 s = .inr (4, [.ref (q 60), .int (s 1)]) := rfl
theorem eStateState_60 {G : xGl} {q : Nat → Nat} {s : Nat → Int32} : (e2 47 (eState G) (eState G)) q 60 s = .inl (G.2 0, 12, .inl s) := rfl
theorem eStateState_61 {G : xGl} {q : Nat → Nat} {s : Nat → Int32} : (e2 47 (eState G) (eState G)) q 61 s = .inr (1, [.ref (q 62), .int (s 1), .int (s 2)]) := rfl
theorem eStateState_62 {G : xGl} {q : Nat → Nat} {s : Nat → Int32} : (e2 47 (eState G) (eState G)) q 62 s = .inl (G.2 2, 10, .inr (.inr (.inr (.inr (fun r => if (s r).toNatClampNeg < 10 then some (q (47 + (14 + (2 + 3 * (s r).toNatClampNeg)))) else none))))) := rfl
theorem eStateState_93 {G : xGl} {q : Nat → Nat} {s : Nat → Int32} : (e2 47 (eState G) (eState G)) q 93 s = .inl (G.2 0, 5, .inl s) := rfl
theorem sStateState_1 {G : xGl} {q : Nat → Nat} : ∀ i, i < 4 → ∀ z, (e2 47 (eState G) (eState G)) q (1 + i) z = eCells G (sh 1 q) i z := by
  intro i hi z
  match i, hi with
  | 0, _ => rfl
  | 1, _ => rfl
  | 2, _ => rfl
  | 3, _ => rfl
theorem sStateState_2 {G : xGl} {q : Nat → Nat} : ∀ i, i < 1 → ∀ z, (e2 47 (eState G) (eState G)) q (2 + i) z = eInt G 256 (sh 2 q) i z := by
  intro i hi z
  match i, hi with
  | 0, _ => rfl
theorem sStateState_3 {G : xGl} {q : Nat → Nat} : ∀ i, i < 1 → ∀ z, (e2 47 (eState G) (eState G)) q (3 + i) z = eInt G 256 (sh 3 q) i z := by
  intro i hi z
  match i, hi with
  | 0, _ => rfl
theorem sStateState_4 {G : xGl} {q : Nat → Nat} : ∀ i, i < 1 → ∀ z, (e2 47 (eState G) (eState G)) q (4 + i) z = eInt G 8 (sh 4 q) i z := by
  intro i hi z
  match i, hi with
  | 0, _ => rfl
theorem sStateState_5 {G : xGl} {q : Nat → Nat} : ∀ i, i < 1 → ∀ z, (e2 47 (eState G) (eState G)) q (5 + i) z = eLocks G (sh 5 q) i z := by
  intro i hi z
  match i, hi with
  | 0, _ => rfl
theorem sStateState_6 {G : xGl} {q : Nat → Nat} : ∀ i, i < 2 → ∀ z, (e2 47 (eState G) (eState G)) q (6 + i) z = eRow G (sh 6 q) i z := by
  intro i hi z
  match i, hi with
  | 0, _ => rfl
  | 1, _ => rfl
theorem sStateState_7 {G : xGl} {q : Nat → Nat} : ∀ i, i < 1 → ∀ z, (e2 47 (eState G) (eState G)) q (7 + i) z = eInt G 12 (sh 7 q) i z := by
  intro i hi z
  match i, hi with
  | 0, _ => rfl
theorem sStateState_8 {G : xGl} {q : Nat → Nat} : ∀ i, i < 3 → ∀ z, (e2 47 (eState G) (eState G)) q (8 + i) z = eWork G (sh 8 q) i z := by
  intro i hi z
  match i, hi with
  | 0, _ => rfl
  | 1, _ => rfl
  | 2, _ => rfl
theorem sStateState_9 {G : xGl} {q : Nat → Nat} : ∀ i, i < 2 → ∀ z, (e2 47 (eState G) (eState G)) q (9 + i) z = eRow G (sh 9 q) i z := by
  intro i hi z
  match i, hi with
  | 0, _ => rfl
  | 1, _ => rfl
theorem sStateState_10 {G : xGl} {q : Nat → Nat} : ∀ i, i < 1 → ∀ z, (e2 47 (eState G) (eState G)) q (10 + i) z = eInt G 12 (sh 10 q) i z := by
  intro i hi z
  match i, hi with
  | 0, _ => rfl
theorem sStateState_11 {G : xGl} {q : Nat → Nat} : ∀ i, i < 3 → ∀ z, (e2 47 (eState G) (eState G)) q (11 + i) z = eWork G (sh 11 q) i z := by
  intro i hi z
  match i, hi with
  | 0, _ => rfl
  | 1, _ => rfl
  | 2, _ => rfl
theorem sStateState_12 {G : xGl} {q : Nat → Nat} : ∀ i, i < 2 → ∀ z, (e2 47 (eState G) (eState G)) q (12 + i) z = eRow G (sh 12 q) i z := by
  intro i hi z
  match i, hi with
  | 0, _ => rfl
  | 1, _ => rfl
theorem sStateState_13 {G : xGl} {q : Nat → Nat} : ∀ i, i < 1 → ∀ z, (e2 47 (eState G) (eState G)) q (13 + i) z = eInt G 12 (sh 13 q) i z := by
  intro i hi z
  match i, hi with
  | 0, _ => rfl
theorem sStateState_14 {G : xGl} {q : Nat → Nat} : ∀ i, i < 32 → ∀ z, (e2 47 (eState G) (eState G)) q (14 + i) z = eLine G (sh 14 q) i z := by
  intro i hi z
  simp only [e2]
  rw [if_pos (show 14 + i < 47 by omega)]
  exact sState_14 i hi z
theorem sStateState_46 {G : xGl} {q : Nat → Nat} : ∀ i, i < 1 → ∀ z, (e2 47 (eState G) (eState G)) q (46 + i) z = eInt G 5 (sh 46 q) i z := by
  intro i hi z
  match i, hi with
  | 0, _ => rfl
theorem sStateState_48 {G : xGl} {q : Nat → Nat} : ∀ i, i < 4 → ∀ z, (e2 47 (eState G) (eState G)) q (48 + i) z = eCells G (sh 48 q) i z := by
  intro i hi z
  match i, hi with
  | 0, _ => rfl
  | 1, _ => rfl
  | 2, _ => rfl
  | 3, _ => rfl
theorem sStateState_49 {G : xGl} {q : Nat → Nat} : ∀ i, i < 1 → ∀ z, (e2 47 (eState G) (eState G)) q (49 + i) z = eInt G 256 (sh 49 q) i z := by
  intro i hi z
  match i, hi with
  | 0, _ => rfl
theorem sStateState_50 {G : xGl} {q : Nat → Nat} : ∀ i, i < 1 → ∀ z, (e2 47 (eState G) (eState G)) q (50 + i) z = eInt G 256 (sh 50 q) i z := by
  intro i hi z
  match i, hi with
  | 0, _ => rfl
theorem sStateState_51 {G : xGl} {q : Nat → Nat} : ∀ i, i < 1 → ∀ z, (e2 47 (eState G) (eState G)) q (51 + i) z = eInt G 8 (sh 51 q) i z := by
  intro i hi z
  match i, hi with
  | 0, _ => rfl
theorem sStateState_52 {G : xGl} {q : Nat → Nat} : ∀ i, i < 1 → ∀ z, (e2 47 (eState G) (eState G)) q (52 + i) z = eLocks G (sh 52 q) i z := by
  intro i hi z
  match i, hi with
  | 0, _ => rfl
theorem sStateState_53 {G : xGl} {q : Nat → Nat} : ∀ i, i < 2 → ∀ z, (e2 47 (eState G) (eState G)) q (53 + i) z = eRow G (sh 53 q) i z := by
  intro i hi z
  match i, hi with
  | 0, _ => rfl
  | 1, _ => rfl
theorem sStateState_54 {G : xGl} {q : Nat → Nat} : ∀ i, i < 1 → ∀ z, (e2 47 (eState G) (eState G)) q (54 + i) z = eInt G 12 (sh 54 q) i z := by
  intro i hi z
  match i, hi with
  | 0, _ => rfl
theorem sStateState_55 {G : xGl} {q : Nat → Nat} : ∀ i, i < 3 → ∀ z, (e2 47 (eState G) (eState G)) q (55 + i) z = eWork G (sh 55 q) i z := by
  intro i hi z
  match i, hi with
  | 0, _ => rfl
  | 1, _ => rfl
  | 2, _ => rfl
theorem sStateState_56 {G : xGl} {q : Nat → Nat} : ∀ i, i < 2 → ∀ z, (e2 47 (eState G) (eState G)) q (56 + i) z = eRow G (sh 56 q) i z := by
  intro i hi z
  match i, hi with
  | 0, _ => rfl
  | 1, _ => rfl
theorem sStateState_57 {G : xGl} {q : Nat → Nat} : ∀ i, i < 1 → ∀ z, (e2 47 (eState G) (eState G)) q (57 + i) z = eInt G 12 (sh 57 q) i z := by
  intro i hi z
  match i, hi with
  | 0, _ => rfl
theorem sStateState_58 {G : xGl} {q : Nat → Nat} : ∀ i, i < 3 → ∀ z, (e2 47 (eState G) (eState G)) q (58 + i) z = eWork G (sh 58 q) i z := by
  intro i hi z
  match i, hi with
  | 0, _ => rfl
  | 1, _ => rfl
  | 2, _ => rfl
theorem sStateState_59 {G : xGl} {q : Nat → Nat} : ∀ i, i < 2 → ∀ z, (e2 47 (eState G) (eState G)) q (59 + i) z = eRow G (sh 59 q) i z := by
  intro i hi z
  match i, hi with
  | 0, _ => rfl
  | 1, _ => rfl
theorem sStateState_60 {G : xGl} {q : Nat → Nat} : ∀ i, i < 1 → ∀ z, (e2 47 (eState G) (eState G)) q (60 + i) z = eInt G 12 (sh 60 q) i z := by
  intro i hi z
  match i, hi with
  | 0, _ => rfl
theorem sStateState_61 {G : xGl} {q : Nat → Nat} : ∀ i, i < 32 → ∀ z, (e2 47 (eState G) (eState G)) q (61 + i) z = eLine G (sh 61 q) i z := by
  intro i hi z
  simp only [e2]
  rw [if_neg (show ¬ 61 + i < 47 by omega), show 61 + i - 47 = 14 + i by omega, sState_14 i hi z]
  exact congrArg (fun f => eLine G f i z) (funext fun j => congrArg q (by omega))
theorem sStateState_93 {G : xGl} {q : Nat → Nat} : ∀ i, i < 1 → ∀ z, (e2 47 (eState G) (eState G)) q (93 + i) z = eInt G 5 (sh 93 q) i z := by
  intro i hi z
  match i, hi with
  | 0, _ => rfl
theorem sStateState_47 {G : xGl} {q : Nat → Nat} : ∀ i, i < 47 → ∀ z, (e2 47 (eState G) (eState G)) q (47 + i) z = eState G (sh 47 q) i z := x2b
theorem sStateState_0 {G : xGl} {q : Nat → Nat} : ∀ i, i < 47 → ∀ z, (e2 47 (eState G) (eState G)) q (0 + i) z = eState G (sh 0 q) i z := x2a
theorem sBC_sav {G : xGl} {q : Nat → Nat} {k : Nat} (hk : k < 6) : ∀ i, i < 47 → ∀ z, eBC G q (148 + 47 * k + i) z = eState G (sh (148 + 47 * k) q) i z := by
  intro i hi z
  simp only [eBC]
  rw [if_neg (show ¬ 148 + 47 * k + i < 1 by omega), if_neg (show ¬ 148 + 47 * k + i < 2 by omega), if_neg (show ¬ 148 + 47 * k + i < 3 by omega), if_neg (show ¬ 148 + 47 * k + i < 6 by omega), if_neg (show ¬ 148 + 47 * k + i < 7 by omega), if_neg (show ¬ 148 + 47 * k + i < 54 by omega), if_neg (show ¬ 148 + 47 * k + i < 101 by omega), if_neg (show ¬ 148 + 47 * k + i < 148 by omega), show (148 + 47 * k + i - 148) / 47 = k by omega, show (148 + 47 * k + i - 148) % 47 = i by omega]
theorem eBC_sav {G : xGl} {q : Nat → Nat} {s : Nat → Int32} {k : Nat} (hk : k < 6) : eBC G q (148 + 47 * k) s = .inr (6, [.ref (q (148 + 47 * k + 1)), .ref (q (148 + 47 * k + 5)), .ref (q (148 + 47 * k + 6)), .ref (q (148 + 47 * k + 8)), .ref (q (148 + 47 * k + 11)), .ref (q (148 + 47 * k + 14)), .ref (q (148 + 47 * k + 46)), .int (s 7), .int (s 8), .int (s 9), .int (s 10), .int (s 11), .int (s 12)]) := sBC_sav hk 0 (by omega) s
theorem locRow {G : xGl} : ∀ (q q' : Nat → Nat), (∀ j, j < 2 → q j = q' j) → ∀ i, i < 2 → ∀ z, eRow G q i z = eRow G q' i z := by
  intro q q' h i hi z
  match i, hi with
  | 0, _ => simp [eRow, eRow, eInt, sh, h 1 (by omega)]
  | 1, _ => rfl
theorem locOrder {G : xGl} : ∀ (q q' : Nat → Nat), (∀ j, j < 3 → q j = q' j) → ∀ i, i < 3 → ∀ z, eOrder G q i z = eOrder G q' i z := by
  intro q q' h i hi z
  match i, hi with
  | 0, _ => simp [eOrder, eRow, eInt, sh, h 1 (by omega), h 2 (by omega)]
  | 1, _ => simp [eOrder, eRow, eInt, sh, h 1 (by omega), h 2 (by omega)]
  | 2, _ => rfl
theorem locWork {G : xGl} : ∀ (q q' : Nat → Nat), (∀ j, j < 3 → q j = q' j) → ∀ i, i < 3 → ∀ z, eWork G q i z = eWork G q' i z := by
  intro q q' h i hi z
  match i, hi with
  | 0, _ => simp [eWork, eRow, eInt, sh, h 1 (by omega), h 2 (by omega)]
  | 1, _ => simp [eWork, eRow, eInt, sh, h 1 (by omega), h 2 (by omega)]
  | 2, _ => rfl
theorem locLocks {G : xGl} : ∀ (q q' : Nat → Nat), (∀ j, j < 1 → q j = q' j) → ∀ i, i < 1 → ∀ z, eLocks G q i z = eLocks G q' i z := by
  intro q q' h i hi z
  match i, hi with
  | 0, _ => rfl
theorem locCells {G : xGl} : ∀ (q q' : Nat → Nat), (∀ j, j < 4 → q j = q' j) → ∀ i, i < 4 → ∀ z, eCells G q i z = eCells G q' i z := by
  intro q q' h i hi z
  match i, hi with
  | 0, _ => simp [eCells, eRow, eInt, sh, h 1 (by omega), h 2 (by omega), h 3 (by omega)]
  | 1, _ => simp [eCells, eRow, eInt, sh, h 1 (by omega), h 2 (by omega), h 3 (by omega)]
  | 2, _ => simp [eCells, eRow, eInt, sh, h 1 (by omega), h 2 (by omega), h 3 (by omega)]
  | 3, _ => rfl
theorem locLine {G : xGl} : ∀ (q q' : Nat → Nat), (∀ j, j < 32 → q j = q' j) → ∀ i, i < 32 → ∀ z, eLine G q i z = eLine G q' i z := by
  intro q q' h i hi z
  simp only [eLine]
  by_cases h1 : i < 1
  · rw [if_pos h1, if_pos h1, h 1 (by omega)]
  · rw [if_neg h1, if_neg h1]
    by_cases h2 : i < 2
    · rw [if_pos h2, if_pos h2]
      have e1 : (fun r => if (z r).toNatClampNeg < 10 then some (q (2 + 3 * (z r).toNatClampNeg)) else none) = (fun r => if (z r).toNatClampNeg < 10 then some (q' (2 + 3 * (z r).toNatClampNeg)) else none) := by
        funext r
        by_cases hr : (z r).toNatClampNeg < 10
        · rw [if_pos hr, if_pos hr, h _ (by omega)]
        · rw [if_neg hr, if_neg hr]
      simp only [eOrd]
      rw [e1]
    · rw [if_neg h2, if_neg h2]
      exact locOrder _ _ (fun j hj => h _ (by omega)) _ (Nat.mod_lt _ (by omega)) z
theorem locState {G : xGl} : ∀ (q q' : Nat → Nat), (∀ j, j < 47 → q j = q' j) → ∀ i, i < 47 → ∀ z, eState G q i z = eState G q' i z := by
  intro q q' h i hi z
  simp only [eState]
  by_cases h1 : i < 1
  · rw [if_pos h1, if_pos h1, h 1 (by omega), h 5 (by omega), h 6 (by omega), h 8 (by omega), h 11 (by omega), h 14 (by omega), h 46 (by omega)]
  rw [if_neg h1, if_neg h1]
  by_cases h5 : i < 5
  · rw [if_pos h5, if_pos h5]
    exact locCells _ _ (fun j hj => h _ (by omega)) _ (by omega) z
  rw [if_neg h5, if_neg h5]
  by_cases h6 : i < 6
  · rw [if_pos h6, if_pos h6]
    exact locLocks _ _ (fun j hj => h _ (by omega)) _ (by omega) z
  rw [if_neg h6, if_neg h6]
  by_cases h8 : i < 8
  · rw [if_pos h8, if_pos h8]
    exact locRow _ _ (fun j hj => h _ (by omega)) _ (by omega) z
  rw [if_neg h8, if_neg h8]
  by_cases h11 : i < 11
  · rw [if_pos h11, if_pos h11]
    exact locWork _ _ (fun j hj => h _ (by omega)) _ (by omega) z
  rw [if_neg h11, if_neg h11]
  by_cases h14 : i < 14
  · rw [if_pos h14, if_pos h14]
    exact locWork _ _ (fun j hj => h _ (by omega)) _ (by omega) z
  rw [if_neg h14, if_neg h14]
  by_cases h46 : i < 46
  · rw [if_pos h46, if_pos h46]
    exact locLine _ _ (fun j hj => h _ (by omega)) _ (by omega) z
  rw [if_neg h46, if_neg h46]
  rfl
