/-! THE RICH WORLD: what throws and static rows need besides the world's cells -/
def xISE : String := "java/lang/IllegalStateException"
def xIAE : String := "java/lang/IllegalArgumentException"
def xIOB : String := "java/lang/IndexOutOfBoundsException"
def xEx : List String := [xISE, xIAE, xIOB]
def xEN : List String := ["java/lang/RuntimeException", "java/lang/Exception"]
def xDN : List String := ["java/lang/RuntimeException", "java/lang/Exception", Bundle.tN]
def xSL : List (Nat × String) := [(350, "what is 0 to 15"), (129, "no such sector"), (297, "what is 0 to 6"), (317, "aside is 0 or 1, what 0 to 4"), (332, "no such rank"), (334, "what is 0 to 5"), (58, "the chip is busy"), (75, "a value is 0 to 255"), (87, "12 values are loaded"), (99, "no such cell"), (106, "the write can not be begun"), (131, "the erase can not be begun"), (140, "a level is 0 to 4, a side 0 or 1"), (142, "the change of the locks can not be begun"), (162, "nothing can be set aside"), (168, "nothing can go on"), (176, "a kind is 0 or 1, an urgency 0 to 9"), (178, "no such cell or sector"), (189, "10 orders wait, or nothing is loaded"), (205, "no order with this number waits"), (211, "ticks are 1 to 200"), (219, "no such setting"), (231, "the value is out of range"), (240, "a code is 33 to 126"), (242, "the buffer has 60 characters"), (256, "the buffer is not complete orders as a text"), (265, "there is no snapshot"), (267, "there is no saved state"), (275, "the cell can not be read"), (286, "what is 0 to 3"), (382, "a kind is 1 to 3"), (388, "no such cell, sector or level")]
def xs0 : Nat → Int32 := fun k => if k = 0 then 2 else if k = 1 then 20 else if k = 2 then 30 else if k = 3 then 5 else if k = 4 then 3 else 0
def xs1 : Nat → Int32 := fun _ => 1
def xs2 : Nat → Int32 := fun k => if k = 0 then 9 else if k = 1 then 99 else if k = 2 then 99 else if k = 3 then 20 else if k = 4 then 9 else 0
def xsv : Nat → Nat → Int32 := fun j => if j = 0 then xs0 else if j = 1 then xs1 else xs2
def xSn (k : Nat) : String := if k = 0 then "FIRST_SETTINGS" else if k = 1 then "LEAST_SETTINGS" else "MOST_SETTINGS"
/-- the first settings' row as a cell, to be copied -/
def xCl (G : xGl) (t : Nat) (H : Heap) : Prop := ∃ cell : Cell, H[t]? = some cell ∧ cell.cls = G.2 0 ∧ (∀ k, cell.vm ≠ .statics k) ∧ cell.vm ≠ .unknown ∧ cell.slots = (arrV (G.2 0) 5 (fun j => .int (xs0 j))).slots
def xT (G : xGl) (sa : Nat → Nat) (A : Nat → Prop) (U : State) (H : Heap) : Prop :=
  vx_Zq Bundle.tN "UNASSIGNED_STACK" Bundle.steD A U H ∧ vx_Zq Bundle.tN "SUPPRESSED_SENTINEL" Bundle.listD A U H ∧
  (∀ w ∈ xSL, ∃ a, vk_R RX8 w.1 w.2 a U) ∧ ((∀ E ∈ xEx, va_Nw (.castable E E) U) ∧ (∀ Y ∈ xDN, va_Nw (.declares (Bundle.initS Y)) U) ∧ va_Nw (.fieldLinkNest RX6 49 RX8 "FIRST_SETTINGS" "[I" "BusyChip") U ∧ va_AO RX3 U ∧ va_AO RX6 U ∧ va_Nw (.castable "[I" "java/lang/Cloneable") U) ∧ (∀ E ∈ xEx, ∀ F ∈ xEx, E ≠ F → va_Nc E F U) ∧
  (∀ k, k < 3 → va_Z RX8 (xSn k) "[I" (.ref (sa k)) A U H ∧ ¬ A (sa k)) ∧ (∀ k, k < 3 → va_T .int (sa k) 5 (fun j => .int (xsv k j)) A U H) ∧ xCl G (sa 0) H
theorem xT.kept {G : xGl} {sa : Nat → Nat} {A : Nat → Prop} {U : State} {H H1 : Heap} (h : xT G sa A U H) (hq : ∀ a : Nat, a < H.size → ¬ A a → H1[a]? = H[a]?) : xT G sa A U H1 := by
  obtain ⟨h1, h2, h3, h4, h5, h6, h7, cell, e1, e2⟩ := h
  exact ⟨h1.kept hq, h2.kept hq, h3, h4, h5, fun k hk => ⟨(h6 k hk).1.kept hq, (h6 k hk).2⟩, fun k hk => (h7 k hk).kept hq, cell, by rw [hq _ (Array.getElem?_eq_some_iff.mp e1).1 (h6 0 (by decide)).2]; exact e1, e2⟩
theorem xT.narrow {G : xGl} {sa : Nat → Nat} {A B : Nat → Prop} {U : State} {H : Heap} (h : xT G sa A U H) (hAB : ∀ q, B q → A q) : xT G sa B U H := by
  obtain ⟨h1, h2, h3, h4, h5, h6, h7, h8⟩ := h
  exact ⟨h1.narrow hAB, h2.narrow hAB, h3, h4, h5, fun k hk => ⟨(h6 k hk).1.narrow hAB, fun z => (h6 k hk).2 (hAB _ z)⟩, fun k hk => (h7 k hk).narrow hAB, h8⟩
theorem xT.warm {G : xGl} {sa : Nat → Nat} {A : Nat → Prop} {u U : State} {H : Heap} (hW : u.WarmedH U.vm) (h : xT G sa A u H) : xT G sa A U H := by
  obtain ⟨h1, h2, h3, h4, h5, h6, h7, h8⟩ := h
  exact ⟨h1.moved hW.alike, h2.moved hW.alike, fun w hw => by obtain ⟨a, ha⟩ := h3 w hw; exact ⟨a, vk_R.warm hW ha⟩, ⟨fun E hE => va_Nw.warmC hW (h4.1 E hE), fun Y hY => va_Nw.warmD hW (h4.2.1 Y hY), va_Nw.warmF hW h4.2.2.1, h4.2.2.2.1.moved hW.alike, h4.2.2.2.2.1.moved hW.alike, va_Nw.warmC hW h4.2.2.2.2.2⟩, fun E hE F hF n => (h5 E hE F hF n).moved hW.alike, fun k hk => ⟨(h6 k hk).1.moved hW.alike, (h6 k hk).2⟩, fun k hk => (h7 k hk).moved hW.alike, h8⟩
theorem xT.same {G : xGl} {sa : Nat → Nat} {A : Nat → Prop} {u U : State} {H : Heap} (hv : u.vm = U.vm) (h : xT G sa A u H) : xT G sa A U H := by
  obtain ⟨h1, h2, h3, h4, h5, h6, h7, h8⟩ := h
  have hA : u.vm.Alike U.vm := by rw [hv]; exact Vm.Alike.refl U.vm
  exact ⟨h1.moved hA, h2.moved hA, fun w hw => by obtain ⟨a, ha⟩ := h3 w hw; exact ⟨a, vk_R.same hv.symm ha⟩, ⟨fun E hE => va_Nw.same rfl hv (h4.1 E hE), fun Y hY => va_Nw.same rfl hv (h4.2.1 Y hY), va_Nw.same rfl hv h4.2.2.1, h4.2.2.2.1.moved hA, h4.2.2.2.2.1.moved hA, va_Nw.same rfl hv h4.2.2.2.2.2⟩, fun E hE F hF n => (h5 E hE F hF n).moved hA, fun k hk => ⟨(h6 k hk).1.moved hA, (h6 k hk).2⟩, fun k hk => (h7 k hk).moved hA, h8⟩
/-- contracts with the rich world: returns (mRS), throws Ex (mTH) -/
def cPT (G : xGl) (sa : Nat → Nat) (E : xLay) (n : Nat) (q : Nat → Nat) (v : xSt) (sz : Nat) : State → Prop := fun U => cP G E n q v sz U ∧ xT G sa (cA E n q v sz) U U.heap
theorem blindT {G : xGl} {sa : Nat → Nat} {E : xLay} {n : Nat} {q : Nat → Nat} {v : xSt} {sz : Nat} {av : List Value} : FrameBlind (va_Pc av (cPT G sa E n q v sz)) := fun a U g mk h => by
  obtain ⟨q0, ⟨q1, qP, qK, qD⟩, qT⟩ := h
  exact ⟨q0, ⟨q1, qP, xK.same (u := U) (U := U.calling g mk a) rfl qK, qD⟩, xT.same (u := U) (U := U.calling g mk a) rfl qT⟩
def mRS (l : Launch) (y : MethodName) (ws : List Cond) (rm : Room) (G : xGl) (sa : Nat → Nat) (E : xLay) (n : Nat) (q : Nat → Nat) (v : xSt) (av : List Value) (Qc : (State → Prop) → (Nat → Prop) → Array Value → State → Outcome → State → Prop) (v' : xSt) (mc ms : Nat) : Prop :=
  ∀ sz, Met l y ws rm (va_Pc av (cPT G sa E n q v sz)) (Qc (cB G E n q v' (cA E n q v sz)) (cA E n q v sz)) mc ms (cA E n q v sz)
abbrev xQF (A : Nat → Prop) := va_Qi (fun (_ : Int32) (_ : Unit) => False) (fun _ _ => True) A
abbrev xXC (G : xGl) (E : xLay) (n : Nat) (q : Nat → Nat) (v' : xSt) (A : Nat → Prop) (Ex : String) : String → State → State → Prop := vx_X (fun (_ : Unit) => True) (fun E' _ t => E' = Ex ∧ cB G E n q v' A t) A
def mTH (l : Launch) (y : MethodName) (ws : List Cond) (rm : Room) (G : xGl) (sa : Nat → Nat) (E : xLay) (n : Nat) (q : Nat → Nat) (v : xSt) (av : List Value) (v' : xSt) (Ex : String) : Prop :=
  ∀ sz, vx_Met l y ws rm (va_Pc av (cPT G sa E n q v sz)) (xQF (cA E n q v sz)) (xXC G E n q v' (cA E n q v sz) Ex) 1 6 (cA E n q v sz)
abbrev xMT (below : List Frame) (G : xGl) (E : xLay) (n : Nat) (q : Nat → Nat) (v' : xSt) (A : Nat → Prop) (Ex : String) (a : Array Value) (s : State) : State → Prop := vx_MQ below (xQF A) (xXC G E n q v' A Ex) a s 1 6 A
/-- a helper that reads a table -/
def cT (G : xGl) (t : Nat) (f : Nat → Int32) (sz : Nat) : State → Prop := fun U => U.heap.size = sz ∧ va_T .int t 5 (fun j => .int (f j)) (cN sz) U U.heap ∧ xK G U
theorem blindTb {G : xGl} {t sz : Nat} {f : Nat → Int32} {av : List Value} : FrameBlind (va_Pc av (cT G t f sz)) := fun a U g mk h => by
  obtain ⟨q0, q1, qT, qK⟩ := h
  exact ⟨q0, q1, va_T.moved (u := U) (U := U.calling g mk a) (Vm.Alike.refl U.vm) qT, xK.same (u := U) (U := U.calling g mk a) rfl qK⟩
def mRT (l : Launch) (y : MethodName) (ws : List Cond) (rm : Room) (G : xGl) (t : Nat) (f : Nat → Int32) (av : List Value) (Qc : (State → Prop) → (Nat → Prop) → Array Value → State → Outcome → State → Prop) : Prop :=
  ∀ sz, Met l y ws rm (va_Pc av (cT G t f sz)) (Qc (fun _ => True) (cN sz)) 0 0 (cN sz)
section XF
variable {p : Program} {l : Launch} {e : Env} {R : Room} {s : State} {m : MethodId} {args : Array Value} {below : List Frame} {meth : Method} {c : Code} {H : Heap} {locs : List Loc} {cells slots : Nat} {Q : State → Prop}
variable {cc : ByteArray} {nL pcc : Nat} {ls : Array Slot} {rest st0 : List Value} {Ts : List Cond} {own : String} {G : xGl} {sa : Nat → Nat} {E E' : xLay} {n n' : Nat} {q : Nat → Nat} {v w : xSt} {A : Nat → Prop}
theorem xTH {y : MethodName} {ws ws' : List Cond} {rm : Room} {av : List Value} {v' : xSt} {Ex : String} {maxL : Nat} {ret : Option FieldType} (hy : plainName y.cls = true) (hw : ws = Cond.code y cc maxL ret :: ws') (hlen : (lg_sl av).length ≤ maxL)
    (body : ∀ (p : Program) (e : Env) (s : State) (m : MethodId) (below : List Frame) (meth : Method) (c : Code) (ls : Array Slot) (A : Nat → Prop), CallFix p m c cc maxL s av.toArray ws y.cls → (∀ x ∈ c.exceptionTable.toList, False) → meth.locks = false → hg G E n q v A s s.heap [] → xT G sa A s s.heap → lv_has ls maxL (lv_args 0 av) → W p l e rm s m av.toArray below meth c s.heap [] 0 0 (xMT below G E n q v' A Ex av.toArray s) (F0 m 0 ls [])) : mTH l y ws rm G sa E n q v av v' Ex := by
  intro sz
  refine vx_ofW (cc := cc) (maxL := maxL) (ret := ret) hy hw ?_
  intro p e s m args below meth c s₁ B hml ht hv
  obtain ⟨rfl, ⟨hsz, hP, hK, hD⟩, hT⟩ := hv
  subst hsz
  have hl := lv_entry av (n := maxL) hlen
  rw [lg_entry_eq]
  generalize (lg_sl av ++ List.replicate (maxL - (lg_sl av).length) Slot.unset).toArray = ls at hl ⊢
  exact body p e s m below meth c ls (cA E n q v s.heap.size) ⟨B.exec, B.bytes, hml, findClass_of_methodNamed B.named, atoms_spec (ws := ws) B.pre⟩ ht B.notSynchronized ⟨⟨hP, hK.1, va_S.rf, hK.2, fun a ha => Or.inr ha⟩, hD.self⟩ hT hl
theorem xRS {y : MethodName} {ws ws' : List Cond} {rm : Room} {av : List Value} {Qc : (State → Prop) → (Nat → Prop) → Array Value → State → Outcome → State → Prop} {v' : xSt} {maxL : Nat} {ret : Option FieldType} (hy : plainName y.cls = true) (hw : ws = Cond.code y cc maxL ret :: ws') (hlen : (lg_sl av).length ≤ maxL)
    (body : ∀ (p : Program) (e : Env) (s : State) (m : MethodId) (below : List Frame) (meth : Method) (c : Code) (ls : Array Slot) (A : Nat → Prop), CallFix p m c cc maxL s av.toArray ws y.cls → meth.sig.returnType = ret → meth.locks = false → hg G E n q v A s s.heap [] → xT G sa A s s.heap → lv_has ls maxL (lv_args 0 av) → W p l e rm s m av.toArray below meth c s.heap [] 0 0 (MQ below (Qc (cB G E n q v' A) A) av.toArray s 0 0 A) (F0 m 0 ls [])) : mRS l y ws rm G sa E n q v av Qc v' 0 0 := by
  intro sz
  refine Met.ofW (cc := cc) (maxL := maxL) (ret := ret) hy hw ?_
  intro p e s m args below meth c s₁ B hml hv
  obtain ⟨rfl, ⟨hsz, hP, hK, hD⟩, hT⟩ := hv
  subst hsz
  have hl := lv_entry av (n := maxL) hlen
  rw [lg_entry_eq]
  generalize (lg_sl av ++ List.replicate (maxL - (lg_sl av).length) Slot.unset).toArray = ls at hl ⊢
  exact body p e s m below meth c ls (cA E n q v s.heap.size) ⟨B.exec, B.bytes, hml, findClass_of_methodNamed B.named, atoms_spec (ws := ws) B.pre⟩ B.returns B.notSynchronized ⟨⟨hP, hK.1, va_S.rf, hK.2, fun a ha => Or.inr ha⟩, hD.self⟩ hT hl
theorem xTs (h : hg G E n q v A s H locs) (hT : xT G sa A s s.heap) : xT G sa A s H := hT.kept h.1.2.2.1.2.1
theorem vx_otc {own : String} {ik : Nat} {cls : String} {L : List Cond} (h : ∀ w ∈ L, vx_ot w = true) : ∀ w ∈ Cond.classLink own ik cls :: Cond.initialized cls :: L, vx_ot w = true := by
  intro w hw
  rcases List.mem_cons.mp hw with rfl | hw
  · rfl
  · rcases List.mem_cons.mp hw with rfl | hw
    · rfl
    · exact h w hw
/-- throw new E("text") -/
theorem xthr (hC : CallFix p m c cc nL s args Ts RX8) (hst : l.stackTraces = false) (hnt : ∀ x ∈ c.exceptionTable.toList, False) (hlocks : meth.locks = false) (h : hg G E n q v A s H locs) (hT : xT G sa A s s.heap) (hml : ls.size = nL) {ik is ic : Nat} {cls text : String} (hE : cls ∈ xEx) (htx : (is, text) ∈ xSL)
    (hk : Cond.classLink RX8 ik cls ∈ Ts) (hini : Cond.initialized cls ∈ Ts) (hat : ∀ w ∈ (vx_atS RX8 ic cls xEN).filter goodWord, w ∈ Ts) (hng : ∀ w ∈ (vx_atS RX8 ic cls xEN).filter (fun w => !goodWord w), w = Cond.castable cls cls ∨ ∃ Y ∈ xDN, w = Cond.declares (Bundle.initS Y)) (hot : ∀ w ∈ vx_atS RX8 ic cls xEN, vx_ot w = true) (hfit : Bundle.fit cls = true)
    (d0 : decode cc pcc = .ok (.new ik, 3)) (d3 : decode cc (pcc + 3) = .ok (.dup, 1)) (d4 : decode cc (pcc + 4) = .ok (.ldc is, 2)) (d6 : decode cc (pcc + 6) = .ok (.invokespecial ic, 3)) (d9 : decode cc (pcc + 9) = .ok (.athrow, 1))
    (hR : 6 ≤ R.frames ∧ (rest.map fun v => v.category).sum + 82 ≤ R.locals ∧ 1 ≤ R.cells ∧ 6 ≤ R.slots) : W p l e R s m args below meth c H locs 0 0 (xMT below G E n q v A cls args s) (F0 m pcc ls rest) := by
  obtain ⟨sa1, hstr⟩ := hT.2.2.1 _ htx
  refine vx_throwS (A := A) (names := xEN) (ic := ic) (sa := sa1) hC.1 hC.2.1 hst hC.2.2.2.1 hfit (by decide +kernel) (hC.2.2.2.2 _ hk) (hC.2.2.2.2 _ hini) hstr ?_ (vx_otc hot) hT.1 hT.2.1 h.1.2.2.1 (hml.trans hC.2.2.1.symm) d0 d3 d4 d6 d9 (fun x hx => absurd (hnt x hx) id) (show 2 + 3 < R.frames from hR.1) (show _ + (13 * (2 + 1) + 43) ≤ R.locals from hR.2.1) hR.2.2.1 hR.2.2.2 hlocks ?_ h.1.2.2.1.2.2 (Nat.le_refl _) (Nat.le_refl _)
  · refine vx_hat (B := (vx_atS RX8 ic cls xEN).filter (fun w => !goodWord w)) (fun w hw => hC.2.2.2.2 _ (hat w hw)) (fun w hw => hw) (fun w hw => ?_)
    rcases hng w hw with rfl | ⟨Y, hY, rfl⟩
    · exact va_Nw.use rfl (hT.2.2.2.1.1 cls hE)
    · exact va_Nw.use rfl (hT.2.2.2.1.2.1 Y hY)
  · intro t hal hz hk1
    refine ⟨(), trivial, ⟨rfl, h.1.1.kept (fun k x hx => hk1 _ ?_), h.2⟩, Nat.le_trans h.1.2.2.1.1 hz, fun b hb hAb => ?_⟩
    · exact (h.1.1 k x hx).lt
    · rw [hk1 b (Nat.lt_of_lt_of_le hb h.1.2.2.1.1)]
      exact h.1.2.2.1.2.1 b hb hAb
/-- .. the text by a wide index -/
theorem xthrW (hC : CallFix p m c cc nL s args Ts RX8) (hst : l.stackTraces = false) (hnt : ∀ x ∈ c.exceptionTable.toList, False) (hlocks : meth.locks = false) (h : hg G E n q v A s H locs) (hT : xT G sa A s s.heap) (hml : ls.size = nL) {ik is ic : Nat} {cls text : String} (hE : cls ∈ xEx) (htx : (is, text) ∈ xSL)
    (hk : Cond.classLink RX8 ik cls ∈ Ts) (hini : Cond.initialized cls ∈ Ts) (hat : ∀ w ∈ (vx_atS RX8 ic cls xEN).filter goodWord, w ∈ Ts) (hng : ∀ w ∈ (vx_atS RX8 ic cls xEN).filter (fun w => !goodWord w), w = Cond.castable cls cls ∨ ∃ Y ∈ xDN, w = Cond.declares (Bundle.initS Y)) (hot : ∀ w ∈ vx_atS RX8 ic cls xEN, vx_ot w = true) (hfit : Bundle.fit cls = true)
    (d0 : decode cc pcc = .ok (.new ik, 3)) (d3 : decode cc (pcc + 3) = .ok (.dup, 1)) (d4 : decode cc (pcc + 4) = .ok (.ldc_w is, 3)) (d6 : decode cc (pcc + 7) = .ok (.invokespecial ic, 3)) (d9 : decode cc (pcc + 10) = .ok (.athrow, 1))
    (hR : 6 ≤ R.frames ∧ (rest.map fun v => v.category).sum + 82 ≤ R.locals ∧ 1 ≤ R.cells ∧ 6 ≤ R.slots) : W p l e R s m args below meth c H locs 0 0 (xMT below G E n q v A cls args s) (F0 m pcc ls rest) := by
  obtain ⟨sa1, hstr⟩ := hT.2.2.1 _ htx
  refine vx_throwSW (A := A) (names := xEN) (ic := ic) (sa := sa1) hC.1 hC.2.1 hst hC.2.2.2.1 hfit (by decide +kernel) (hC.2.2.2.2 _ hk) (hC.2.2.2.2 _ hini) hstr ?_ (vx_otc hot) hT.1 hT.2.1 h.1.2.2.1 (hml.trans hC.2.2.1.symm) d0 d3 d4 d6 d9 (fun x hx => absurd (hnt x hx) id) (show 2 + 3 < R.frames from hR.1) (show _ + (13 * (2 + 1) + 43) ≤ R.locals from hR.2.1) hR.2.2.1 hR.2.2.2 hlocks ?_ h.1.2.2.1.2.2 (Nat.le_refl _) (Nat.le_refl _)
  · refine vx_hat (B := (vx_atS RX8 ic cls xEN).filter (fun w => !goodWord w)) (fun w hw => hC.2.2.2.2 _ (hat w hw)) (fun w hw => hw) (fun w hw => ?_)
    rcases hng w hw with rfl | ⟨Y, hY, rfl⟩
    · exact va_Nw.use rfl (hT.2.2.2.1.1 cls hE)
    · exact va_Nw.use rfl (hT.2.2.2.1.2.1 Y hY)
  · intro t hal hz hk1
    refine ⟨(), trivial, ⟨rfl, h.1.1.kept (fun k x hx => hk1 _ ?_), h.2⟩, Nat.le_trans h.1.2.2.1.1 hz, fun b hb hAb => ?_⟩
    · exact (h.1.1 k x hx).lt
    · rw [hk1 b (Nat.lt_of_lt_of_le hb h.1.2.2.1.1)]
      exact h.1.2.2.1.2.1 b hb hAb
/-- a static row of whole numbers: its reference, its length, one read of it by a helper -/
theorem xgs {index : Nat} (hC : CallFix p m c cc nL s args Ts own) (h : hg G E n q v A s H locs) (hT : xT G sa A s s.heap) (k : Nat) (hk : k < 3) (hlink : Cond.fieldLink own index RX8 (xSn k) "[I" ∈ Ts) (hdg : decode cc pcc = .ok (.getstatic index, 3))
    (kk : W p l e R s m args below meth c H locs cells slots Q (F0 m (pcc + 3) ls (.ref (sa k) :: rest))) : W p l e R s m args below meth c H locs cells slots Q (F0 m pcc ls rest) :=
  va_gets hC.1 hC.2.1 (hT.2.2.2.2.2.1 k hk).1 h.1.2.2.1 hC.2.2.2.1 (hC.2.2.2.2 _ hlink) (fun _ h9 => h9) hdg kk
theorem xgsl (hC : CallFix p m c cc nL s args Ts own) (h : hg G E n q v A s H locs) (hT : xT G sa A s s.heap) (k : Nat) (hk : k < 3) (hdg : decode cc pcc = .ok (.arraylength, 1))
    (kk : W p l e R s m args below meth c H locs cells slots Q (F0 m (pcc + 1) ls (.int 5 :: rest))) : W p l e R s m args below meth c H locs cells slots Q (F0 m pcc ls (.ref (sa k) :: rest)) :=
  va_tlen hC.1 hC.2.1 (hT.2.2.2.2.2.2.1 k hk) h.1.2.2.1 rfl hdg kk
theorem preSA (h : hg G E n q v A s H locs) (hT : xT G sa A s s.heap) (k : Nat) (hk : k < 3) (As : List Value) : PreS s H (va_Pc As (cT G (sa k) (xsv k) H.size)) As :=
  ⟨blindTb, fun U hU hW => ⟨rfl, by rw [hU], by
    rw [hU]
    exact (((xTs h hT).2.2.2.2.2.2.1 k hk).narrow (fun a ha => h.1.2.2.2.2 a (Nat.le_trans h.1.2.2.1.1 ha))).moved hW.alike, xK.warm hW ⟨h.1.2.1, h.1.2.2.2.1⟩⟩⟩
/-- before a call with the rich world: the first n' cells; no cells -/
theorem xTsub (h : hg G E n q v A s H locs) (hT : xT G sa A s s.heap) {B : Nat → Prop} (hB : ∀ a, B a → A a) {U : State} (hU : U.heap = H) (hW : s.WarmedH U.vm) : xT G sa B U U.heap := by
  rw [hU]
  exact ((xTs h hT).narrow hB).warm hW
theorem preVT (h : hg G E n q v A s H locs) (hT : xT G sa A s s.heap) (n' : Nat) {E' : xLay} (hE : ∀ i, i < n' → ∀ z, E q (0 + i) z = E' (sh 0 q) i z) (hb : 0 + n' ≤ n) (hbn : 0 < n) {ci : Nat} {fs : List Value} {C : String} {T : u_T} {N : Nat} (he : E q 0 (v 0) = .inr (ci, fs)) (hc : vwCl[ci]? = some (C, T, N)) (As : List Value) : PreV s H C (q 0) (va_Pc (.ref (q 0) :: As) (cPT G sa E' n' q v H.size)) As := by
  have h1 := preVp h n' hE hb hbn he hc As
  refine ⟨blindT, h1.2.1, fun U hU hW => ?_⟩
  obtain ⟨a1, a2⟩ := h1.2.2 U hU hW
  refine ⟨a1, a2, xTsub h hT (fun a ha => ?_) hU hW⟩
  have := free1 (E' := E') (b := 0) (n' := n') h hb a
  simp only [sh_0] at this
  exact this ha
theorem preST (h : hg G E n q v A s H locs) (hT : xT G sa A s s.heap) (As : List Value) : PreS s H (va_Pc As (cPT G sa e0 0 q v H.size)) As := by
  refine ⟨blindT, fun U hU hW => ⟨rfl, ⟨by rw [hU], fun k x hx => by obtain ⟨hk, -⟩ := wl_inv hx; omega, xK.warm hW ⟨h.1.2.1, h.1.2.2.2.1⟩, ⟨fun i j x y hx => by obtain ⟨hk, -⟩ := wl_inv hx; omega, fun k x hx => by obtain ⟨hk, -⟩ := wl_inv hx; omega⟩⟩, xTsub h hT (fun a ha => ?_) hU hW⟩⟩
  rcases ha with ⟨i, ee, hi⟩ | hge
  · obtain ⟨h2, -⟩ := wl_inv hi
    omega
  · exact h.1.2.2.2.2 a (Nat.le_trans h.1.2.2.1.1 hge)
end XF
theorem xofWF {l : Launch} {y : MethodName} {ws ws' : List Cond} {rm : Room} {Pc : Array Value → State → Prop} {Qc : Array Value → State → Outcome → State → Prop} {mc ms : Nat} {free : Addr → Prop} {cc : ByteArray} {maxL : Nat} {ret : Option FieldType}
    (hy : plainFor y = true) (hw : ws = Cond.code y cc maxL ret :: ws')
    (body : ∀ p e s m args below meth c s₁, BodyLoose p l y (headSpec ws rm) cc maxL ret e s m args below meth c s₁ → c.maxLocals = maxL → Pc args s →
      W p l e (headSpec ws rm).room s m args below meth c s.heap [] 0 0 (MQ below Qc args s mc ms free) (entryFrame m args maxL)) : Met l y ws rm Pc Qc mc ms free := by
  refine MetFree.of_bodySF (code := cc) (maxLocals := maxL) (ret := ret) hy ?_ ?_
  · intro args s m h hn
    obtain ⟨meth, c, h1, h2, h3, h4, h5, h6, -, -⟩ := Cond.code_spec hn (atoms_spec (ws := ws) h _ (by rw [hw]; exact List.mem_cons_self))
    exact ⟨meth, c, h1, h2, h3, h4, h5, h6⟩
  · intro p e s m args below meth c s₁ B hml hP _
    have hh0 : s₁.heap = s.heap := by rw [B.state]; rfl
    obtain ⟨t, a1, o, b1, b2, b3⟩ := body p e s m args below meth c s₁ B hml hP s₁ hh0 (Stand.of_body B)
    exact ⟨t, o, a1, b1, b2, ⟨b3.1, b3.2⟩⟩
abbrev qD (r : UInt64) (B : State → Prop) (A : Nat → Prop) := va_Qd (fun (x : UInt64) (_ : Unit) => x = r) (fun _ t => B t) A
abbrev qF (r : UInt32) (B : State → Prop) (A : Nat → Prop) := va_Qf (fun (x : UInt32) (_ : Unit) => x = r) (fun _ t => B t) A
section XH
variable {p : Program} {l : Launch} {e : Env} {R : Room} {s : State} {m : MethodId} {args : Array Value} {below : List Frame} {meth : Method} {c : Code} {H : Heap} {locs : List Loc} {cells slots : Nat} {Q : State → Prop}
variable {cc : ByteArray} {nL pcc : Nat} {ls : Array Slot} {rest st0 : List Value} {Ts : List Cond} {own : String} {G : xGl} {sa : Nat → Nat} {E E' : xLay} {n n' : Nat} {q : Nat → Nat} {v w : xSt} {A : Nat → Prop}
theorem xdret (hC : CallFix p m c cc nL s args Ts own) (hr : meth.sig.returnType = some .double) (hlocks : meth.locks = false) (h : hg G E n q v A s H locs) {x r : UInt64} {v' : xSt} (hxr : x = r) (hv : v = v') (hdg : decode cc pcc = .ok (.dreturn, 1)) : W p l e R s m args below meth c H locs 0 0 (MQ below (qD r (cB G E n q v' A) A) args s 0 0 A) (F0 m pcc ls [.double x]) := by
  subst hv
  exact W.dret hC.1 hC.2.1 hr (fun t ht hW => ⟨⟨x, (), rfl, hxr, by rw [ht]; exact h.1.1, h.2⟩, h.1.2.2.1.F ht⟩) h.1.2.2.1.2.2 hdg hlocks
theorem odret (hC : CallFix p m c cc nL s args Ts own) (hr : meth.sig.returnType = some .double) (hlocks : meth.locks = false) (h : ho G E n q v A s H locs) {x r : UInt64} (hxr : x = r) (hdg : decode cc pcc = .ok (.dreturn, 1)) : W p l e R s m args below meth c H locs 0 0 (MQ below (qD r (fun _ => True) A) args s 0 0 A) (F0 m pcc ls [.double x]) :=
  W.dret hC.1 hC.2.1 hr (fun t ht hW => ⟨⟨x, (), rfl, hxr, trivial⟩, h.2.2.1.F ht⟩) h.2.2.1.2.2 hdg hlocks
theorem xd1 (h : hg G E n q v A s H locs) (b n' : Nat) {E' : xLay} (hE : ∀ i, i < n' → ∀ z, E q (b + i) z = E' (sh b q) i z) (hb : b + n' ≤ n) {r : UInt64} {a : Array Value} (hr : va_Run p l e R s m args below meth c H locs cells slots 0 0 (F0 m pcc ls st0) rest (qD r (cB G E' n' (sh b q) w (cA E' n' (sh b q) (sh b v) H.size)) (cA E' n' (sh b q) (sh b v) H.size) a) (cA E' n' (sh b q) (sh b v) H.size))
    (kk : ∀ (H1 : Heap) (locs1 : List Loc), hg G E n q (pu b n' v w) A s H1 locs1 → W p l e R s m args below meth c H1 locs1 cells slots Q (F0 m (pcc + 3) ls (.double r :: rest))) : W p l e R s m args below meth c H locs cells slots Q (F0 m pcc ls st0) := by
  refine va_calld hr h.1.2.2.1 (fun a _ ha => free1 h hb a ha) (free1 h hb) (fun r2 u t H1 locs1 ht hvm hw hB hz1 hk1 hS1 => ?_)
  subst hw
  exact kk H1 locs1 (af1 h hE hb ht hB hk1 hS1)
theorem xdO (h : ho G E n q v A s H locs) {r : UInt64} {a : Array Value} (hr : va_Run p l e R s m args below meth c H locs cells slots 0 0 (F0 m pcc ls st0) rest (qD r (fun _ => True) (cN H.size) a) (cN H.size))
    (kk : ∀ (H1 : Heap) (locs1 : List Loc), ho G E n q v A s H1 locs1 → W p l e R s m args below meth c H1 locs1 cells slots Q (F0 m (pcc + 3) ls (.double r :: rest))) : W p l e R s m args below meth c H locs cells slots Q (F0 m pcc ls st0) := by
  refine va_calld hr h.2.2.1 (fun a _ ha => freeO h a ha) (freeO h) (fun r2 u t H1 locs1 ht hvm hw hB hz1 hk1 hS1 => ?_)
  subst hw
  exact kk H1 locs1 (afO h hk1 hS1)
theorem xdG (h : hg G E n q v A s H locs) {r : UInt64} {a : Array Value} (hr : va_Run p l e R s m args below meth c H locs cells slots 0 0 (F0 m pcc ls st0) rest (qD r (fun _ => True) (cN H.size) a) (cN H.size))
    (kk : ∀ (H1 : Heap) (locs1 : List Loc), hg G E n q v A s H1 locs1 → W p l e R s m args below meth c H1 locs1 cells slots Q (F0 m (pcc + 3) ls (.double r :: rest))) : W p l e R s m args below meth c H locs cells slots Q (F0 m pcc ls st0) := by
  refine va_calld hr h.1.2.2.1 (fun a _ ha => freeO h.1 a ha) (freeO h.1) (fun r2 u t H1 locs1 ht hvm hw hB hz1 hk1 hS1 => ?_)
  subst hw
  exact kk H1 locs1 (⟨afO h.1 hk1 hS1, h.2⟩)
theorem xd0 (h : hg G E n q v A s H locs) {r : UInt64} {a : Array Value} (hr : va_Run p l e R s m args below meth c H locs cells slots 0 0 (F0 m pcc ls st0) rest (qD r (cB G E n q w (cA E n q v H.size)) (cA E n q v H.size) a) (cA E n q v H.size))
    (kk : ∀ (H1 : Heap) (locs1 : List Loc), hg G E n q w A s H1 locs1 → W p l e R s m args below meth c H1 locs1 cells slots Q (F0 m (pcc + 3) ls (.double r :: rest))) : W p l e R s m args below meth c H locs cells slots Q (F0 m pcc ls st0) := by
  refine va_calld hr h.1.2.2.1 (fun a _ ha => free0 h a ha) (free0 h) (fun r2 u t H1 locs1 ht hvm hw hB hz1 hk1 hS1 => ?_)
  subst hw
  exact kk H1 locs1 (af0 h ht hB hS1)
theorem xdp (h : hg G E n q v A s H locs) (n' : Nat) {E' : xLay} (hE : ∀ i, i < n' → ∀ z, E q (0 + i) z = E' (sh 0 q) i z) (hb : 0 + n' ≤ n) {r : UInt64} {a : Array Value} (hr : va_Run p l e R s m args below meth c H locs cells slots 0 0 (F0 m pcc ls st0) rest (qD r (cB G E' n' q w (cA E' n' q v H.size)) (cA E' n' q v H.size) a) (cA E' n' q v H.size))
    (kk : ∀ (H1 : Heap) (locs1 : List Loc), hg G E n q (pu 0 n' v w) A s H1 locs1 → W p l e R s m args below meth c H1 locs1 cells slots Q (F0 m (pcc + 3) ls (.double r :: rest))) : W p l e R s m args below meth c H locs cells slots Q (F0 m pcc ls st0) :=
  xd1 h 0 n' hE hb (by simp only [sh_0]; exact hr) kk
theorem xfret (hC : CallFix p m c cc nL s args Ts own) (hr : meth.sig.returnType = some .float) (hlocks : meth.locks = false) (h : hg G E n q v A s H locs) {x r : UInt32} {v' : xSt} (hxr : x = r) (hv : v = v') (hdg : decode cc pcc = .ok (.freturn, 1)) : W p l e R s m args below meth c H locs 0 0 (MQ below (qF r (cB G E n q v' A) A) args s 0 0 A) (F0 m pcc ls [.float x]) := by
  subst hv
  exact W.fret hC.1 hC.2.1 hr (fun t ht hW => ⟨⟨x, (), rfl, hxr, by rw [ht]; exact h.1.1, h.2⟩, h.1.2.2.1.F ht⟩) h.1.2.2.1.2.2 hdg hlocks
theorem ofret (hC : CallFix p m c cc nL s args Ts own) (hr : meth.sig.returnType = some .float) (hlocks : meth.locks = false) (h : ho G E n q v A s H locs) {x r : UInt32} (hxr : x = r) (hdg : decode cc pcc = .ok (.freturn, 1)) : W p l e R s m args below meth c H locs 0 0 (MQ below (qF r (fun _ => True) A) args s 0 0 A) (F0 m pcc ls [.float x]) :=
  W.fret hC.1 hC.2.1 hr (fun t ht hW => ⟨⟨x, (), rfl, hxr, trivial⟩, h.2.2.1.F ht⟩) h.2.2.1.2.2 hdg hlocks
theorem xf1 (h : hg G E n q v A s H locs) (b n' : Nat) {E' : xLay} (hE : ∀ i, i < n' → ∀ z, E q (b + i) z = E' (sh b q) i z) (hb : b + n' ≤ n) {r : UInt32} {a : Array Value} (hr : va_Run p l e R s m args below meth c H locs cells slots 0 0 (F0 m pcc ls st0) rest (qF r (cB G E' n' (sh b q) w (cA E' n' (sh b q) (sh b v) H.size)) (cA E' n' (sh b q) (sh b v) H.size) a) (cA E' n' (sh b q) (sh b v) H.size))
    (kk : ∀ (H1 : Heap) (locs1 : List Loc), hg G E n q (pu b n' v w) A s H1 locs1 → W p l e R s m args below meth c H1 locs1 cells slots Q (F0 m (pcc + 3) ls (.float r :: rest))) : W p l e R s m args below meth c H locs cells slots Q (F0 m pcc ls st0) := by
  refine va_callf hr h.1.2.2.1 (fun a _ ha => free1 h hb a ha) (free1 h hb) (fun r2 u t H1 locs1 ht hvm hw hB hz1 hk1 hS1 => ?_)
  subst hw
  exact kk H1 locs1 (af1 h hE hb ht hB hk1 hS1)
theorem xfO (h : ho G E n q v A s H locs) {r : UInt32} {a : Array Value} (hr : va_Run p l e R s m args below meth c H locs cells slots 0 0 (F0 m pcc ls st0) rest (qF r (fun _ => True) (cN H.size) a) (cN H.size))
    (kk : ∀ (H1 : Heap) (locs1 : List Loc), ho G E n q v A s H1 locs1 → W p l e R s m args below meth c H1 locs1 cells slots Q (F0 m (pcc + 3) ls (.float r :: rest))) : W p l e R s m args below meth c H locs cells slots Q (F0 m pcc ls st0) := by
  refine va_callf hr h.2.2.1 (fun a _ ha => freeO h a ha) (freeO h) (fun r2 u t H1 locs1 ht hvm hw hB hz1 hk1 hS1 => ?_)
  subst hw
  exact kk H1 locs1 (afO h hk1 hS1)
theorem xfG (h : hg G E n q v A s H locs) {r : UInt32} {a : Array Value} (hr : va_Run p l e R s m args below meth c H locs cells slots 0 0 (F0 m pcc ls st0) rest (qF r (fun _ => True) (cN H.size) a) (cN H.size))
    (kk : ∀ (H1 : Heap) (locs1 : List Loc), hg G E n q v A s H1 locs1 → W p l e R s m args below meth c H1 locs1 cells slots Q (F0 m (pcc + 3) ls (.float r :: rest))) : W p l e R s m args below meth c H locs cells slots Q (F0 m pcc ls st0) := by
  refine va_callf hr h.1.2.2.1 (fun a _ ha => freeO h.1 a ha) (freeO h.1) (fun r2 u t H1 locs1 ht hvm hw hB hz1 hk1 hS1 => ?_)
  subst hw
  exact kk H1 locs1 (⟨afO h.1 hk1 hS1, h.2⟩)
theorem xf0 (h : hg G E n q v A s H locs) {r : UInt32} {a : Array Value} (hr : va_Run p l e R s m args below meth c H locs cells slots 0 0 (F0 m pcc ls st0) rest (qF r (cB G E n q w (cA E n q v H.size)) (cA E n q v H.size) a) (cA E n q v H.size))
    (kk : ∀ (H1 : Heap) (locs1 : List Loc), hg G E n q w A s H1 locs1 → W p l e R s m args below meth c H1 locs1 cells slots Q (F0 m (pcc + 3) ls (.float r :: rest))) : W p l e R s m args below meth c H locs cells slots Q (F0 m pcc ls st0) := by
  refine va_callf hr h.1.2.2.1 (fun a _ ha => free0 h a ha) (free0 h) (fun r2 u t H1 locs1 ht hvm hw hB hz1 hk1 hS1 => ?_)
  subst hw
  exact kk H1 locs1 (af0 h ht hB hS1)
theorem xfp (h : hg G E n q v A s H locs) (n' : Nat) {E' : xLay} (hE : ∀ i, i < n' → ∀ z, E q (0 + i) z = E' (sh 0 q) i z) (hb : 0 + n' ≤ n) {r : UInt32} {a : Array Value} (hr : va_Run p l e R s m args below meth c H locs cells slots 0 0 (F0 m pcc ls st0) rest (qF r (cB G E' n' q w (cA E' n' q v H.size)) (cA E' n' q v H.size) a) (cA E' n' q v H.size))
    (kk : ∀ (H1 : Heap) (locs1 : List Loc), hg G E n q (pu 0 n' v w) A s H1 locs1 → W p l e R s m args below meth c H1 locs1 cells slots Q (F0 m (pcc + 3) ls (.float r :: rest))) : W p l e R s m args below meth c H locs cells slots Q (F0 m pcc ls st0) :=
  xf1 h 0 n' hE hb (by simp only [sh_0]; exact hr) kk
theorem xldcf {index : Nat} (hC : CallFix p m c cc nL s args Ts own) {b : UInt32} (hconst : Cond.constantFloat own index b ∈ Ts) (hdg : decode cc pcc = .ok (.ldc_w index, 3)) (k : W p l e R s m args below meth c H locs cells slots Q (F0 m (pcc + 3) ls (.float b :: rest))) : W p l e R s m args below meth c H locs cells slots Q (F0 m pcc ls rest) := by
  intro T hT X
  obtain ⟨t, a, bb⟩ := k T hT X
  obtain ⟨kk, cf, hk, hcf, hcp⟩ := Cond.constantFloat_spec hC.2.2.2.1 (hC.2.2.2.2 _ hconst)
  obtain ⟨k', hk', he⟩ := X.warmed.alike.2.2 _ _ hk
  have hexec := hC.1
  have hdg' : decode c.code pcc = .ok (.ldc_w index, 3) := by rw [hC.2.1]; exact hdg
  refine ⟨t, ?_, bb⟩
  jvm_step X.here [hexec, hdg', ldc_w.wp_float (s := T) (f := F0 m pcc ls rest) X.here.top hk' (by rw [he]; exact hcf) hcp]
  exact a
theorem xROF {y : MethodName} {ws ws' : List Cond} {rm : Room} {av : List Value} {Qc : (State → Prop) → (Nat → Prop) → Array Value → State → Outcome → State → Prop} {maxL : Nat} {ret : Option FieldType} (hy : plainFor y = true) (hw : ws = Cond.code y cc maxL ret :: ws') (hlen : (lg_sl av).length ≤ maxL)
    (body : ∀ (p : Program) (e : Env) (s : State) (m : MethodId) (below : List Frame) (meth : Method) (c : Code) (ls : Array Slot) (A : Nat → Prop), CallFix p m c cc maxL s av.toArray ws y.cls → meth.sig.returnType = ret → meth.locks = false → ho G E n q v A s s.heap [] → lv_has ls maxL (lv_args 0 av) → W p l e rm s m av.toArray below meth c s.heap [] 0 0 (MQ below (Qc (fun _ => True) A) av.toArray s 0 0 A) (F0 m 0 ls [])) : mRO l y ws rm G E n q v av Qc := by
  intro sz
  refine xofWF (cc := cc) (maxL := maxL) (ret := ret) hy hw ?_
  intro p e s m args below meth c s₁ B hml hv
  obtain ⟨rfl, hsz, hP, hK⟩ := hv
  subst hsz
  have hl := lv_entry av (n := maxL) hlen
  rw [lg_entry_eq]
  generalize (lg_sl av ++ List.replicate (maxL - (lg_sl av).length) Slot.unset).toArray = ls at hl ⊢
  exact body p e s m below meth c ls (cN s.heap.size) ⟨B.exec, B.bytes, hml, findClass_of_methodNamed B.named, atoms_spec (ws := ws) B.pre⟩ B.returns B.notSynchronized ⟨hP, hK.1, va_S.rf, hK.2, fun a ha => ha⟩ hl
theorem xqB {o : Option Nat} {f g : Nat → Nat} (hfg : ∀ k, f k = g k) (k : W p l e R s m args below meth c H locs cells slots Q (F0 m pcc ls (va_rf (o.map g) :: rest))) : W p l e R s m args below meth c H locs cells slots Q (F0 m pcc ls (va_rf (o.map f) :: rest)) := by
  rw [show f = g from funext hfg]
  exact k
theorem pu_z {v w : xSt} : pu 0 0 v w = v := by
  funext j
  unfold pu
  rw [if_neg (by omega)]
theorem xzT (h : hg G E n q v A s H locs) {r : Int32} {a : Array Value} (hr : va_Run p l e R s m args below meth c H locs cells slots 0 0 (F0 m pcc ls st0) rest (qZ r (cB G e0 0 q w (cA e0 0 q v H.size)) (cA e0 0 q v H.size) a) (cA e0 0 q v H.size))
    (kk : ∀ (H1 : Heap) (locs1 : List Loc), r = 0 ∨ r = 1 → hg G E n q v A s H1 locs1 → W p l e R s m args below meth c H1 locs1 cells slots Q (F0 m (pcc + 3) ls (.int r :: rest))) : W p l e R s m args below meth c H locs cells slots Q (F0 m pcc ls st0) :=
  xzp h 0 (fun i hi => absurd hi (Nat.not_lt_zero i)) (Nat.zero_le _) hr (fun H1 locs1 hz h1 => kk H1 locs1 hz (by rw [pu_z] at h1; exact h1))
end XH
/-- the law's row of one long: it holds a whole number -/
def eLng (G : xGl) : xLay := fun _ _ s => .inl (G.2 4, 1, .inr (.inl (fun k => (s k).toInt64)))
set_option maxHeartbeats 4000000 in
theorem c_X8_at_tb (l : Launch) (G : xGl) (q : Nat → Nat) (t : Nat) (f : Nat → Int32) (p1 : Int32) {z : Int32} (hf : m_X8_at 5 (fun _ => f) p1 = some z) : mRT l yX8_at (wM yX8_at cX8_at 2 (some .int)) { frames := 0, cells := 0, slots := 0, locals := 0 } G t f [.ref t, .int p1] (qI z) := by
  intro sz
  refine Met.ofW (cc := cX8_at) (maxL := 2) (ret := some .int) (by decide) rfl ?_
  intro p e s m args below meth c s₁ B hml hv
  obtain ⟨rfl, hsz, hTb, hK⟩ := hv
  subst hsz
  have hl := lv_entry [Value.ref t, Value.int p1] (n := 2) (Nat.le_of_ble_eq_true rfl)
  rw [lg_entry_eq]
  generalize (lg_sl [Value.ref t, Value.int p1] ++ List.replicate (2 - (lg_sl [Value.ref t, Value.int p1]).length) Slot.unset).toArray = ls at hl ⊢
  have hC : CallFix p m c cX8_at 2 s [.ref t, .int p1].toArray (wM yX8_at cX8_at 2 (some .int)) yX8_at.cls := ⟨B.exec, B.bytes, hml, findClass_of_methodNamed B.named, atoms_spec (ws := wM yX8_at cX8_at 2 (some .int)) B.pre⟩
  have hr := B.returns
  have hlk := B.notSynchronized
  obtain ⟨A, hAe⟩ : ∃ A, A = cN s.heap.size := ⟨_, rfl⟩
  rw [← hAe] at hTb ⊢
  have h : ho G e0 0 q (fun _ => f) A s s.heap [] := ⟨fun k x hk => by obtain ⟨h1, -⟩ := wl_inv hk; omega, hK.1, va_S.rf, hK.2, fun a ha => by rw [hAe]; exact ha⟩
  have hx := hC.1
  have hb := hC.2.1
  have hl : lv_has ls 2 [(0, .ref t), (1, .int p1)] := hl
  unfold m_X8_at at hf
  obtain ⟨H, hH⟩ : ∃ H, H = s.heap := ⟨_, rfl⟩
  obtain ⟨locs, hlo⟩ : ∃ x : List Loc, x = [] := ⟨_, rfl⟩
  have h : ho G e0 0 q (fun _ => f) A s H locs := by rw [hH, hlo]; exact h
  show W p l e { frames := 0, cells := 0, slots := 0, locals := 0 } s m [.ref t, .int p1].toArray below meth c s.heap [] 0 0 (MQ below (qI z (fun _ => True) A) [.ref t, .int p1].toArray s 0 0 A) (F0 m 0 ls [])
  rw [← hlo]
  rw [← hH]
  clear hH hlo
  refine lv_iload_n hx hb dX8_at_0 rfl (lv_at hl 1 rfl) ?_
  obtain ⟨j1, ej1, hf⟩ := lt_e hf
  have hj1 : ∀ (uu : Unit) (H : Heap) (locs : List Loc), ho G e0 0 q (fun _ => f) A s H locs → ∀ (ls : Array Slot), lv_has ls 2 [] → j1 uu = some z → W p l e { frames := 0, cells := 0, slots := 0, locals := 0 } s m [.ref t, .int p1].toArray below meth c H locs 0 0 (MQ below ((qI z) (fun _ => True) A) [.ref t, .int p1].toArray s 0 0 A) (F0 m 16 ls []) := by
    intro uu H locs h ls hl hf
    rw [ej1] at hf
    refine lv_iconst (v := (0 : Int32)) hx hb dX8_at_16 (by decide) ?_
    have hf := sm_e hf
    exact oiret hC hr hlk h (by rw [← hf]) dX8_at_17
  refine lv_if_lt (tgt := 16) hx hb dX8_at_1 (by decide) (fun c2 => ?_) (fun c2 => ?_)
  · have hf := it_t c2 hf
    exact hj1 () H locs h ls (lv_sub hl [] rfl) hf
  · have hf := it_f c2 hf
    refine lv_iload_n hx hb dX8_at_4 rfl (lv_at hl 1 rfl) ?_
    refine lv_aload_n hx hb dX8_at_5 rfl (lv_at hl 0 rfl) ?_
    refine va_tlen hx hb hTb h.2.2.1 (v := (Int32.ofNat 5)) rfl dX8_at_6 ?_
    refine lv_icmp_ge (tgt := 16) hx hb dX8_at_7 (by decide) (fun c3 => ?_) (fun c3 => ?_)
    · have hf := it_t c3 hf
      exact hj1 () H locs h ls (lv_sub hl [] rfl) hf
    · have hf := it_f c3 hf
      refine lv_aload_n hx hb dX8_at_10 rfl (lv_at hl 0 rfl) ?_
      refine lv_iload_n hx hb dX8_at_11 rfl (lv_at hl 1 rfl) ?_
      obtain ⟨hi4, hf⟩ := ck_e hf
      refine va_ti hx hb hTb h.2.2.1 hi4 rfl dX8_at_12 ?_
      refine lv_goto (tgt := 17) hx hb dX8_at_13 (by decide) ?_
      have hf := sm_e hf
      exact oiret hC hr hlk h (by rw [← hf]) dX8_at_17
theorem k_X8_at_tb (l : Launch) (G : xGl) (q : Nat → Nat) (t : Nat) (f : Nat → Int32) (i : Int32) : mRT l yX8_at (wM yX8_at cX8_at 2 (some .int)) { frames := 0, cells := 0, slots := 0, locals := 0 } G t f [.ref t, .int i] (qI (xat 5 f i)) := c_X8_at_tb l G q t f i (e_X8_at (N := 5) (by decide))
abbrev xn64 (r : UInt64) : Prop := r &&& 0x7fffffffffffffff ≤ 0x7ff0000000000000
abbrev xn32 (r : UInt32) : Prop := r &&& 0x7fffffff ≤ 0x7f800000
theorem at_xISE : ∀ w ∈ (vx_atS RX8 60 xISE xEN).filter goodWord, w ∈ wG := fun w hw => wG_of ((show ∀ w ∈ (vx_atS RX8 60 xISE xEN).filter goodWord, w ∈ lw_tbl by decide +kernel) w hw) (List.mem_filter.mp hw).2
theorem ng_xISE : ∀ w ∈ (vx_atS RX8 60 xISE xEN).filter (fun w => !goodWord w), w = Cond.castable xISE xISE ∨ ∃ Y ∈ xDN, w = Cond.declares (Bundle.initS Y) := by decide +kernel
theorem ot_xISE : ∀ w ∈ vx_atS RX8 60 xISE xEN, vx_ot w = true := by decide +kernel
theorem in_xISE : Cond.initialized xISE ∈ wG := wG_t 19 (by decide +kernel) rfl
theorem at_xIAE : ∀ w ∈ (vx_atS RX8 77 xIAE xEN).filter goodWord, w ∈ wG := fun w hw => wG_of ((show ∀ w ∈ (vx_atS RX8 77 xIAE xEN).filter goodWord, w ∈ lw_tbl by decide +kernel) w hw) (List.mem_filter.mp hw).2
theorem ng_xIAE : ∀ w ∈ (vx_atS RX8 77 xIAE xEN).filter (fun w => !goodWord w), w = Cond.castable xIAE xIAE ∨ ∃ Y ∈ xDN, w = Cond.declares (Bundle.initS Y) := by decide +kernel
theorem ot_xIAE : ∀ w ∈ vx_atS RX8 77 xIAE xEN, vx_ot w = true := by decide +kernel
theorem in_xIAE : Cond.initialized xIAE ∈ wG := wG_t 14 (by decide +kernel) rfl
theorem at_xIOB : ∀ w ∈ (vx_atS RX8 101 xIOB xEN).filter goodWord, w ∈ wG := fun w hw => wG_of ((show ∀ w ∈ (vx_atS RX8 101 xIOB xEN).filter goodWord, w ∈ lw_tbl by decide +kernel) w hw) (List.mem_filter.mp hw).2
theorem ng_xIOB : ∀ w ∈ (vx_atS RX8 101 xIOB xEN).filter (fun w => !goodWord w), w = Cond.castable xIOB xIOB ∨ ∃ Y ∈ xDN, w = Cond.declares (Bundle.initS Y) := by decide +kernel
theorem ot_xIOB : ∀ w ∈ vx_atS RX8 101 xIOB xEN, vx_ot w = true := by decide +kernel
theorem in_xIOB : Cond.initialized xIOB ∈ wG := wG_t 16 (by decide +kernel) rfl
theorem fl_X8_479 : Cond.fieldLink RX8 479 "BusyChip" "FIRST_SETTINGS" "[I" ∈ wG := wG_t 632 (by decide +kernel) rfl
theorem lk_X8_52 : Cond.methodLink RX8 52 yX6_isBusy ∈ wG := wG_t 800 (by decide +kernel) rfl
theorem fl_X8_66 : Cond.fieldLink RX8 66 "BusyChip$State" "armed" "Z" ∈ wG := wG_t 237 (by decide +kernel) rfl
theorem fl_X8_78 : Cond.fieldLink RX8 78 "BusyChip$State" "loaded" "LBusyChip$Row;" ∈ wG := wG_t 227 (by decide +kernel) rfl
theorem fl_X8_82 : Cond.fieldLink RX8 82 "BusyChip$Row" "size" "I" ∈ wG := wG_t 93 (by decide +kernel) rfl
theorem lk_X8_89 : Cond.methodLink RX8 89 yX4_add ∈ wG := wG_t 819 (by decide +kernel) rfl
theorem co_X6_hindrance : Cond.code yX6_hindrance cX6_hindrance 3 (some .int) ∈ wG := wG_t 673 (by decide +kernel) rfl
theorem dd_X6_hindrance : yX6_hindrance.cls ≠ "java/lang/invoke/MethodHandle" ∧ yX6_hindrance.cls ≠ "java/lang/invoke/VarHandle" ∧ (parseMethodDescriptor yX6_hindrance.desc).map (fun d => d.parameters.length) = some 2 := by decide +kernel
theorem lk_X8_102 : Cond.methodLink RX8 102 yX6_hindrance ∈ wG := wG_t 670 (by decide +kernel) rfl
theorem im_X6_hindrance : Cond.instanceMethod yX6_hindrance ∈ wG := wG_t 671 (by decide +kernel) rfl
theorem se_X6_hindrance : Cond.selects RX6 yX6_hindrance yX6_hindrance ∈ wG := wG_t 672 (by decide +kernel) rfl
theorem fl_X8_108 : Cond.fieldLink RX8 108 "BusyChip$State" "under" "LBusyChip$Work;" ∈ wG := wG_t 229 (by decide +kernel) rfl
theorem lk_X8_112 : Cond.methodLink RX8 112 yX6_settingOf ∈ wG := wG_t 634 (by decide +kernel) rfl
theorem lk_X8_116 : Cond.methodLink RX8 116 yX7_startWrite ∈ wG := wG_t 834 (by decide +kernel) rfl
theorem lk_X8_122 : Cond.methodLink RX8 122 yX7_left ∈ wG := wG_t 621 (by decide +kernel) rfl
theorem lk_X8_133 : Cond.methodLink RX8 133 yX6_eraseTicks ∈ wG := wG_t 600 (by decide +kernel) rfl
theorem lk_X8_136 : Cond.methodLink RX8 136 yX7_start ∈ wG := wG_t 843 (by decide +kernel) rfl
theorem fl_X8_144 : Cond.fieldLink RX8 144 "BusyChip$Work" "side" "I" ∈ wG := wG_t 117 (by decide +kernel) rfl
theorem fl_X8_151 : Cond.fieldLink RX8 151 "BusyChip$Locks" "frozen" "Z" ∈ wG := wG_t 77 (by decide +kernel) rfl
theorem fl_X8_156 : Cond.fieldLink RX8 156 "BusyChip$Work" "kind" "I" ∈ wG := wG_t 112 (by decide +kernel) rfl
theorem fl_X8_159 : Cond.fieldLink RX8 159 "BusyChip$State" "aside" "LBusyChip$Work;" ∈ wG := wG_t 231 (by decide +kernel) rfl
theorem lk_X8_164 : Cond.methodLink RX8 164 yX6_setAside ∈ wG := wG_t 932 (by decide +kernel) rfl
theorem lk_X8_170 : Cond.methodLink RX8 170 yX6_letGoOn ∈ wG := wG_t 941 (by decide +kernel) rfl
theorem lk_X8_202 : Cond.methodLink RX8 202 yX1_rankOf ∈ wG := wG_t 863 (by decide +kernel) rfl
theorem lk_X8_207 : Cond.methodLink RX8 207 yX1_leave ∈ wG := wG_t 868 (by decide +kernel) rfl
theorem fl_X8_210 : Cond.fieldLink RX8 210 "BusyChip$Line" "size" "I" ∈ wG := wG_t 203 (by decide +kernel) rfl
theorem co_X8_isSetting : Cond.code yX8_isSetting cX8_isSetting 1 (some .boolean) ∈ wG := wG_t 631 (by decide +kernel) rfl
theorem dd_X8_isSetting : yX8_isSetting.cls ≠ "java/lang/invoke/MethodHandle" ∧ yX8_isSetting.cls ≠ "java/lang/invoke/VarHandle" ∧ (parseMethodDescriptor yX8_isSetting.desc).map (fun d => d.parameters.length) = some 1 := by decide +kernel
theorem st_X8_isSetting : Cond.static yX8_isSetting ∈ wG := wG_t 630 (by decide +kernel) rfl
theorem lk_X8_216 : Cond.methodLink RX8 216 yX8_isSetting ∈ wG := wG_t 629 (by decide +kernel) rfl
theorem fl_X8_221 : Cond.fieldLink RX8 221 "BusyChip" "LEAST_SETTINGS" "[I" ∈ wG := wG_t 969 (by decide +kernel) rfl
theorem fl_X8_228 : Cond.fieldLink RX8 228 "BusyChip" "MOST_SETTINGS" "[I" ∈ wG := wG_t 971 (by decide +kernel) rfl
theorem fl_X8_233 : Cond.fieldLink RX8 233 "BusyChip$State" "settings" "[I" ∈ wG := wG_t 235 (by decide +kernel) rfl
theorem lk_X8_236 : Cond.methodLink RX8 236 yX8_put ∈ wG := wG_t 974 (by decide +kernel) rfl
theorem co_X8_firstError : Cond.code yX8_firstError cX8_firstError 2 (some .int) ∈ wG := wG_t 997 (by decide +kernel) rfl
theorem dd_X8_firstError : yX8_firstError.cls ≠ "java/lang/invoke/MethodHandle" ∧ yX8_firstError.cls ≠ "java/lang/invoke/VarHandle" ∧ (parseMethodDescriptor yX8_firstError.desc).map (fun d => d.parameters.length) = some 0 := by decide +kernel
theorem lk_X8_250 : Cond.methodLink RX8 250 yX8_firstError ∈ wG := wG_t 1057 (by decide +kernel) rfl
theorem im_X8_firstError : Cond.instanceMethod yX8_firstError ∈ wG := wG_t 995 (by decide +kernel) rfl
theorem se_X8_firstError : Cond.selects RX8 yX8_firstError yX8_firstError ∈ wG := wG_t 996 (by decide +kernel) rfl
theorem co_X5_isComplete : Cond.code yX5_isComplete cX5_isComplete 1 (some .boolean) ∈ wG := wG_t 1061 (by decide +kernel) rfl
theorem dd_X5_isComplete : yX5_isComplete.cls ≠ "java/lang/invoke/MethodHandle" ∧ yX5_isComplete.cls ≠ "java/lang/invoke/VarHandle" ∧ (parseMethodDescriptor yX5_isComplete.desc).map (fun d => d.parameters.length) = some 0 := by decide +kernel
theorem lk_X8_253 : Cond.methodLink RX8 253 yX5_isComplete ∈ wG := wG_t 1058 (by decide +kernel) rfl
theorem im_X5_isComplete : Cond.instanceMethod yX5_isComplete ∈ wG := wG_t 1059 (by decide +kernel) rfl
theorem se_X5_isComplete : Cond.selects RX5 yX5_isComplete yX5_isComplete ∈ wG := wG_t 1060 (by decide +kernel) rfl
theorem co_X8_doPart : Cond.code yX8_doPart cX8_doPart 2 (some .boolean) ∈ wG := wG_t 1066 (by decide +kernel) rfl
theorem dd_X8_doPart : yX8_doPart.cls ≠ "java/lang/invoke/MethodHandle" ∧ yX8_doPart.cls ≠ "java/lang/invoke/VarHandle" ∧ (parseMethodDescriptor yX8_doPart.desc).map (fun d => d.parameters.length) = some 0 := by decide +kernel
theorem lk_X8_258 : Cond.methodLink RX8 258 yX8_doPart ∈ wG := wG_t 1063 (by decide +kernel) rfl
theorem im_X8_doPart : Cond.instanceMethod yX8_doPart ∈ wG := wG_t 1065 (by decide +kernel) rfl
theorem se_X8_doPart : Cond.selects RX8 yX8_doPart yX8_doPart ∈ wG := wG_p 24 (by decide +kernel) rfl
theorem co_X8_restore : Cond.code yX8_restore cX8_restore 3 none ∈ wG := wG_t 535 (by decide +kernel) rfl
theorem dd_X8_restore : yX8_restore.cls ≠ "java/lang/invoke/MethodHandle" ∧ yX8_restore.cls ≠ "java/lang/invoke/VarHandle" ∧ (parseMethodDescriptor yX8_restore.desc).map (fun d => d.parameters.length) = some 1 := by decide +kernel
theorem lk_X8_269 : Cond.methodLink RX8 269 yX8_restore ∈ wG := wG_t 532 (by decide +kernel) rfl
theorem im_X8_restore : Cond.instanceMethod yX8_restore ∈ wG := wG_t 534 (by decide +kernel) rfl
theorem se_X8_restore : Cond.selects RX8 yX8_restore yX8_restore ∈ wG := wG_p 3 (by decide +kernel) rfl
theorem co_X7_concerns : Cond.code yX7_concerns cX7_concerns 2 (some .boolean) ∈ wG := wG_t 804 (by decide +kernel) rfl
theorem dd_X7_concerns : yX7_concerns.cls ≠ "java/lang/invoke/MethodHandle" ∧ yX7_concerns.cls ≠ "java/lang/invoke/VarHandle" ∧ (parseMethodDescriptor yX7_concerns.desc).map (fun d => d.parameters.length) = some 1 := by decide +kernel
theorem lk_X8_272 : Cond.methodLink RX8 272 yX7_concerns ∈ wG := wG_t 801 (by decide +kernel) rfl
theorem im_X7_concerns : Cond.instanceMethod yX7_concerns ∈ wG := wG_t 802 (by decide +kernel) rfl
theorem se_X7_concerns : Cond.selects RX7 yX7_concerns yX7_concerns ∈ wG := wG_t 803 (by decide +kernel) rfl
theorem fl_X8_281 : Cond.fieldLink RX8 281 "BusyChip$Cells" "held" "[I" ∈ wG := wG_t 45 (by decide +kernel) rfl
theorem fl_X8_288 : Cond.fieldLink RX8 288 "BusyChip$Cells" "stuck" "[I" ∈ wG := wG_t 47 (by decide +kernel) rfl
theorem co_X0_isUnsure : Cond.code yX0_isUnsure cX0_isUnsure 2 (some .boolean) ∈ wG := wG_t 569 (by decide +kernel) rfl
theorem dd_X0_isUnsure : yX0_isUnsure.cls ≠ "java/lang/invoke/MethodHandle" ∧ yX0_isUnsure.cls ≠ "java/lang/invoke/VarHandle" ∧ (parseMethodDescriptor yX0_isUnsure.desc).map (fun d => d.parameters.length) = some 1 := by decide +kernel
theorem lk_X8_291 : Cond.methodLink RX8 291 yX0_isUnsure ∈ wG := wG_t 566 (by decide +kernel) rfl
theorem im_X0_isUnsure : Cond.instanceMethod yX0_isUnsure ∈ wG := wG_t 567 (by decide +kernel) rfl
theorem se_X0_isUnsure : Cond.selects RX0 yX0_isUnsure yX0_isUnsure ∈ wG := wG_t 568 (by decide +kernel) rfl
theorem lk_X8_294 : Cond.methodLink RX8 294 yX4_valueFor ∈ wG := wG_t 570 (by decide +kernel) rfl
theorem lk_X8_305 : Cond.methodLink RX8 305 yX0_ones ∈ wG := wG_t 462 (by decide +kernel) rfl
theorem co_X0_fallenPages : Cond.code yX0_fallenPages cX0_fallenPages 4 (some .int) ∈ wG := wG_t 591 (by decide +kernel) rfl
theorem dd_X0_fallenPages : yX0_fallenPages.cls ≠ "java/lang/invoke/MethodHandle" ∧ yX0_fallenPages.cls ≠ "java/lang/invoke/VarHandle" ∧ (parseMethodDescriptor yX0_fallenPages.desc).map (fun d => d.parameters.length) = some 1 := by decide +kernel
theorem lk_X8_308 : Cond.methodLink RX8 308 yX0_fallenPages ∈ wG := wG_t 588 (by decide +kernel) rfl
theorem im_X0_fallenPages : Cond.instanceMethod yX0_fallenPages ∈ wG := wG_t 589 (by decide +kernel) rfl
theorem se_X0_fallenPages : Cond.selects RX0 yX0_fallenPages yX0_fallenPages ∈ wG := wG_t 590 (by decide +kernel) rfl
theorem co_X0_unsurePages : Cond.code yX0_unsurePages cX0_unsurePages 2 (some .int) ∈ wG := wG_t 596 (by decide +kernel) rfl
theorem dd_X0_unsurePages : yX0_unsurePages.cls ≠ "java/lang/invoke/MethodHandle" ∧ yX0_unsurePages.cls ≠ "java/lang/invoke/VarHandle" ∧ (parseMethodDescriptor yX0_unsurePages.desc).map (fun d => d.parameters.length) = some 1 := by decide +kernel
theorem lk_X8_311 : Cond.methodLink RX8 311 yX0_unsurePages ∈ wG := wG_t 593 (by decide +kernel) rfl
theorem im_X0_unsurePages : Cond.instanceMethod yX0_unsurePages ∈ wG := wG_t 594 (by decide +kernel) rfl
theorem se_X0_unsurePages : Cond.selects RX0 yX0_unsurePages yX0_unsurePages ∈ wG := wG_t 595 (by decide +kernel) rfl
theorem co_X1_ordersFor : Cond.code yX1_ordersFor cX1_ordersFor 5 (some .int) ∈ wG := wG_t 612 (by decide +kernel) rfl
theorem dd_X1_ordersFor : yX1_ordersFor.cls ≠ "java/lang/invoke/MethodHandle" ∧ yX1_ordersFor.cls ≠ "java/lang/invoke/VarHandle" ∧ (parseMethodDescriptor yX1_ordersFor.desc).map (fun d => d.parameters.length) = some 1 := by decide +kernel
theorem lk_X8_314 : Cond.methodLink RX8 314 yX1_ordersFor ∈ wG := wG_t 609 (by decide +kernel) rfl
theorem im_X1_ordersFor : Cond.instanceMethod yX1_ordersFor ∈ wG := wG_t 610 (by decide +kernel) rfl
theorem se_X1_ordersFor : Cond.selects RX1 yX1_ordersFor yX1_ordersFor ∈ wG := wG_t 611 (by decide +kernel) rfl
theorem fl_X8_319 : Cond.fieldLink RX8 319 "BusyChip$Work" "where" "I" ∈ wG := wG_t 115 (by decide +kernel) rfl
theorem fl_X8_322 : Cond.fieldLink RX8 322 "BusyChip$Work" "urgency" "I" ∈ wG := wG_t 126 (by decide +kernel) rfl
theorem fl_X8_325 : Cond.fieldLink RX8 325 "BusyChip$Work" "asideByClerk" "Z" ∈ wG := wG_t 129 (by decide +kernel) rfl
theorem lk_X8_328 : Cond.methodLink RX8 328 yX1_orderAt ∈ wG := wG_t 639 (by decide +kernel) rfl
theorem fl_X8_336 : Cond.fieldLink RX8 336 "BusyChip$Order" "number" "I" ∈ wG := wG_t 168 (by decide +kernel) rfl
theorem fl_X8_341 : Cond.fieldLink RX8 341 "BusyChip$Order" "kind" "I" ∈ wG := wG_t 172 (by decide +kernel) rfl
theorem fl_X8_342 : Cond.fieldLink RX8 342 "BusyChip$Order" "where" "I" ∈ wG := wG_t 176 (by decide +kernel) rfl
theorem fl_X8_343 : Cond.fieldLink RX8 343 "BusyChip$Order" "urgency" "I" ∈ wG := wG_t 180 (by decide +kernel) rfl
theorem fl_X8_344 : Cond.fieldLink RX8 344 "BusyChip$Order" "postedAt" "I" ∈ wG := wG_t 183 (by decide +kernel) rfl
theorem fl_X8_347 : Cond.fieldLink RX8 347 "BusyChip$Order" "row" "LBusyChip$Row;" ∈ wG := wG_t 187 (by decide +kernel) rfl
theorem fl_X8_352 : Cond.fieldLink RX8 352 "BusyChip$Locks" "level" "I" ∈ wG := wG_t 71 (by decide +kernel) rfl
theorem fl_X8_355 : Cond.fieldLink RX8 355 "BusyChip$Locks" "side" "I" ∈ wG := wG_t 74 (by decide +kernel) rfl
theorem co_X0_allErasures : Cond.code yX0_allErasures cX0_allErasures 3 (some .int) ∈ wG := wG_t 478 (by decide +kernel) rfl
theorem dd_X0_allErasures : yX0_allErasures.cls ≠ "java/lang/invoke/MethodHandle" ∧ yX0_allErasures.cls ≠ "java/lang/invoke/VarHandle" ∧ (parseMethodDescriptor yX0_allErasures.desc).map (fun d => d.parameters.length) = some 0 := by decide +kernel
theorem lk_X8_356 : Cond.methodLink RX8 356 yX0_allErasures ∈ wG := wG_t 475 (by decide +kernel) rfl
theorem im_X0_allErasures : Cond.instanceMethod yX0_allErasures ∈ wG := wG_t 476 (by decide +kernel) rfl
theorem se_X0_allErasures : Cond.selects RX0 yX0_allErasures yX0_allErasures ∈ wG := wG_t 477 (by decide +kernel) rfl
theorem fl_X8_359 : Cond.fieldLink RX8 359 "BusyChip$State" "writesEnded" "I" ∈ wG := wG_t 241 (by decide +kernel) rfl
theorem fl_X8_362 : Cond.fieldLink RX8 362 "BusyChip$State" "bitsFallen" "I" ∈ wG := wG_t 243 (by decide +kernel) rfl
theorem fl_X8_365 : Cond.fieldLink RX8 365 "BusyChip$State" "worksLost" "I" ∈ wG := wG_t 245 (by decide +kernel) rfl
theorem co_X0_stuckBits : Cond.code yX0_stuckBits cX0_stuckBits 3 (some .int) ∈ wG := wG_t 482 (by decide +kernel) rfl
theorem dd_X0_stuckBits : yX0_stuckBits.cls ≠ "java/lang/invoke/MethodHandle" ∧ yX0_stuckBits.cls ≠ "java/lang/invoke/VarHandle" ∧ (parseMethodDescriptor yX0_stuckBits.desc).map (fun d => d.parameters.length) = some 0 := by decide +kernel
theorem lk_X8_368 : Cond.methodLink RX8 368 yX0_stuckBits ∈ wG := wG_t 479 (by decide +kernel) rfl
theorem im_X0_stuckBits : Cond.instanceMethod yX0_stuckBits ∈ wG := wG_t 480 (by decide +kernel) rfl
theorem se_X0_stuckBits : Cond.selects RX0 yX0_stuckBits yX0_stuckBits ∈ wG := wG_t 481 (by decide +kernel) rfl
theorem fl_X8_371 : Cond.fieldLink RX8 371 "BusyChip$Cells" "unsure" "I" ∈ wG := wG_t 52 (by decide +kernel) rfl
theorem lk_X8_374 : Cond.methodLink RX8 374 yJ6_bitCount_0f7a4 ∈ wG := wG_t 483 (by decide +kernel) rfl
theorem fl_X8_379 : Cond.fieldLink RX8 379 "BusyChip$State" "timesAside" "I" ∈ wG := wG_t 247 (by decide +kernel) rfl
theorem co_X8_isPlace : Cond.code yX8_isPlace cX8_isPlace 2 (some .boolean) ∈ wG := wG_t 668 (by decide +kernel) rfl
theorem dd_X8_isPlace : yX8_isPlace.cls ≠ "java/lang/invoke/MethodHandle" ∧ yX8_isPlace.cls ≠ "java/lang/invoke/VarHandle" ∧ (parseMethodDescriptor yX8_isPlace.desc).map (fun d => d.parameters.length) = some 2 := by decide +kernel
theorem st_X8_isPlace : Cond.static yX8_isPlace ∈ wG := wG_t 667 (by decide +kernel) rfl
theorem lk_X8_384 : Cond.methodLink RX8 384 yX8_isPlace ∈ wG := wG_t 666 (by decide +kernel) rfl
theorem ck_56 : Cond.classLink RX8 56 "java/lang/IllegalStateException" ∈ wG := wG_t 500 (by decide +kernel) rfl
theorem ck_73 : Cond.classLink RX8 73 "java/lang/IllegalArgumentException" ∈ wG := wG_t 394 (by decide +kernel) rfl
theorem ck_97 : Cond.classLink RX8 97 "java/lang/IndexOutOfBoundsException" ∈ wG := wG_t 548 (by decide +kernel) rfl
theorem cn_X8_402 : Cond.constantDouble RX8 402 (4656722014701092864 : UInt64) ∈ wG := wG_t 649 (by decide +kernel) rfl
theorem cn_X8_404 : Cond.constantFloat RX8 404 (1090519040 : UInt32) ∈ wG := wG_t 655 (by decide +kernel) rfl
