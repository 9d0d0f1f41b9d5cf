/-! THE LAW'S WRAPPERS: static methods with a table of handlers, over the chip's world and the law's one long -/
noncomputable def wMH (y : MethodName) (b : ByteArray) (n : Nat) (r : Option FieldType) (hh : List (Nat × Nat × Nat × Nat)) : List Cond := .codeWith y b n r hh :: wG
theorem wMH_in {y : MethodName} {b : ByteArray} {n : Nat} {r : Option FieldType} {hh : List (Nat × Nat × Nat × Nat)} : ∀ w ∈ wG, w ∈ wMH y b n r hh := fun _ h => List.mem_cons_of_mem _ h
theorem xofWH {l : Launch} {y : MethodName} {ws ws' : List Cond} {rm : Room} {Pc : Array Value → State → Prop} {Qc : Array Value → State → Outcome → State → Prop} {mc ms : Nat} {free : Addr → Prop} {cc : ByteArray} {maxL : Nat} {ret : Option FieldType} {hh : List (Nat × Nat × Nat × Nat)}
    (hy : plainName y.cls = true) (hw : ws = Cond.codeWith y cc maxL ret hh :: ws')
    (body : ∀ p e s m args below meth c s₁, BodyLoose p l y (headSpec ws rm) cc maxL ret e s m args below meth c s₁ → c.maxLocals = maxL → Pc args s →
      W p l e (headSpec ws rm).room s m args below meth c s.heap [] 0 0 (MQ below Qc args s mc ms free) (entryFrame m args maxL)) : Met l y ws rm Pc Qc mc ms free := by
  refine MetFree.of_bodyS (code := cc) (maxLocals := maxL) (ret := ret) hy ?_ ?_
  · intro args s m h hn
    obtain ⟨m9, meth, c, hn9, h1, h2, h3, h4, -, h5, h6, -⟩ := Cond.codeWith_spec (atoms_spec (ws := ws) h _ (by rw [hw]; exact List.mem_cons_self))
    cases hn.symm.trans hn9
    exact ⟨meth, c, h1, h2, h3, h4, h5, h6⟩
  · intro p e s m args below meth c s₁ B hml hP _
    have hh0 : s₁.heap = s.heap := by rw [B.state]; rfl
    obtain ⟨t, a1, o, b1, b2, b3⟩ := body p e s m args below meth c s₁ B hml hP s₁ hh0 (Stand.of_body B)
    exact ⟨t, o, a1, b1, b2, ⟨b3.1, b3.2⟩⟩
section XG
variable {p : Program} {l : Launch} {e : Env} {R : Room} {s : State} {m : MethodId} {args : Array Value} {below : List Frame} {meth : Method} {c : Code} {H : Heap} {locs : List Loc} {cells slots : Nat} {Q : State → Prop}
variable {cc : ByteArray} {nL pcc : Nat} {ls : Array Slot} {rest st0 : List Value} {Ts : List Cond} {own : String} {G : xGl} {sa : Nat → Nat} {E E' : xLay} {n n' : Nat} {q : Nat → Nat} {v w : xSt} {A : Nat → Prop}
variable {y : MethodName} {bytes : ByteArray} {maxL index na mc ms : Nat} {ret : Option FieldType} {rm : Room} {C : String} {hh : List (Nat × Nat × Nat × Nat)}
theorem xRSH {ws ws' : List Cond} {av : List Value} {Qc : (State → Prop) → (Nat → Prop) → Array Value → State → Outcome → State → Prop} {v' : xSt} (hy : plainName y.cls = true) (hw : ws = Cond.codeWith y cc maxL ret hh :: ws') (hlen : (lg_sl av).length ≤ maxL)
    (body : ∀ (p : Program) (e : Env) (s : State) (m : MethodId) (below : List Frame) (meth : Method) (c : Code) (ls : Array Slot) (A : Nat → Prop), CallFix p m c cc maxL s av.toArray ws y.cls → c.exceptionTable.toList = tableOf hh → meth.sig.returnType = ret → meth.locks = false → hg G E n q v A s s.heap [] → xT G sa A s s.heap → lv_has ls maxL (lv_args 0 av) → W p l e rm s m av.toArray below meth c s.heap [] 0 0 (MQ below (Qc (cB G E n q v' A) A) av.toArray s mc ms A) (F0 m 0 ls [])) : mRS l y ws rm G sa E n q v av Qc v' mc ms := by
  intro sz
  refine xofWH (cc := cc) (maxL := maxL) (ret := ret) (hh := hh) hy hw ?_
  intro p e s m args below meth c s₁ B hml hv
  obtain ⟨rfl, ⟨hsz, hP, hK, hD⟩, hT⟩ := hv
  subst hsz
  have hl := lv_entry av (n := maxL) hlen
  rw [lg_entry_eq]
  generalize (lg_sl av ++ List.replicate (maxL - (lg_sl av).length) Slot.unset).toArray = ls at hl ⊢
  have hht : c.exceptionTable.toList = tableOf hh := vx_table (x := y) B (atoms_spec (ws := ws) B.pre _ (by rw [hw]; exact List.mem_cons_self))
  exact body p e s m below meth c ls (cA E n q v s.heap.size) ⟨B.exec, B.bytes, hml, findClass_of_methodNamed B.named, atoms_spec (ws := ws) B.pre⟩ hht B.returns B.notSynchronized ⟨⟨hP, hK.1, va_S.rf, hK.2, fun a ha => Or.inr ha⟩, hD.self⟩ hT hl
theorem wM_goodT (hin : ∀ w ∈ wG, w ∈ Ts) {b' : ByteArray} {n' : Nat} {r' : Option FieldType} (h : Cond.code y b' n' r' ∈ wG) : GoodIn Ts (wM y b' n' r') := fun w hw =>
  (List.mem_cons.mp hw).elim (fun e => by subst e; exact ⟨hin _ h, good_of_word (wG_good h)⟩) (fun hw => ⟨hin _ hw, good_of_word (wG_good hw)⟩)
theorem wMH_goodT (hin : ∀ w ∈ wG, w ∈ Ts) {b' : ByteArray} {n' : Nat} {r' : Option FieldType} (h : Cond.codeWith y b' n' r' hh ∈ wG) : GoodIn Ts (wMH y b' n' r' hh) := fun w hw =>
  (List.mem_cons.mp hw).elim (fun e => by subst e; exact ⟨hin _ h, good_of_word (wG_good h)⟩) (fun hw => ⟨hin _ hw, good_of_word (wG_good hw)⟩)
theorem xcgV (hC : CallFix p m c cc nL s args Ts own) (hin : ∀ w ∈ wG, w ∈ Ts) (hl : Cond.methodLink own index y ∈ wG) (hi : Cond.initialized y.cls ∈ wG) (hc : Cond.code y bytes maxL ret ∈ wG) (him : Cond.instanceMethod y ∈ wG) (hse : Cond.selects C y y ∈ wG) (hrc : rm.cells = mc) (hrs : rm.slots = ms) (hd : y.cls ≠ "java/lang/invoke/MethodHandle" ∧ y.cls ≠ "java/lang/invoke/VarHandle" ∧ (parseMethodDescriptor y.desc).map (fun d => d.parameters.length) = some na) (hR : rm.frames + 1 ≤ R.frames ∧ 8 + (maxL + 11) + rm.locals ≤ R.locals) : CallW R s args own C index y bytes maxL ret (wM y bytes maxL ret) rm mc ms na :=
  ⟨callB_of na hC.2.2.2.2 (wM_goodT hin hc) rfl hrc hrs (hC.2.2.2.2 _ (hin _ hi)) (hC.2.2.2.2 _ (hin _ hl)) hd hR, hC.2.2.2.2 _ (hin _ him), hC.2.2.2.2 _ (hin _ hse)⟩
theorem xcgSW (hC : CallFix p m c cc nL s args Ts own) (hin : ∀ w ∈ wG, w ∈ Ts) (hl : Cond.methodLink own index y ∈ wG) (hi : Cond.initialized y.cls ∈ wG) (hc : Cond.codeWith y bytes maxL ret hh ∈ wG) (hst : Cond.static y ∈ wG) (hrc : rm.cells = mc) (hrs : rm.slots = ms) (hd : y.cls ≠ "java/lang/invoke/MethodHandle" ∧ y.cls ≠ "java/lang/invoke/VarHandle" ∧ (parseMethodDescriptor y.desc).map (fun d => d.parameters.length) = some na) (hR : rm.frames + 1 ≤ R.frames ∧ 8 + (maxL + 11) + rm.locals ≤ R.locals) : vx_CSW R s args own index y bytes maxL ret hh (wMH y bytes maxL ret hh) rm mc ms na := by
  refine ⟨⟨hrc, hrs, hR.1, hR.2, pay_in hC.2.2.2.2 (wMH_goodT hin hc), List.mem_cons_self⟩, hC.2.2.2.2 _ (hin _ hc), hC.2.2.2.2 _ (hin _ hi), ⟨hd.1, hd.2.1⟩, fun sig h => ?_, hC.2.2.2.2 _ (hin _ hl), hC.2.2.2.2 _ (hin _ hst)⟩
  have h2 := hd.2.2
  rw [h] at h2
  exact (Option.some.inj h2).symm
/-- a callee that throws: its world behind it; caught at pc 0 .. -/
theorem xcth (h : hg G E n q v A s H locs) (n' : Nat) {E' : xLay} (hE : ∀ i, i < n' → ∀ z, E q (0 + i) z = E' (sh 0 q) i z) (hb : 0 + n' ≤ n) {Ex : String} {a : Array Value} (hr : vx_Run p l e R s m args below meth c H locs cells slots 1 6 (F0 m pcc ls st0) rest (xQF (cA E' n' q v H.size) a) (xXC G E' n' q w (cA E' n' q v H.size) Ex) (cA E' n' q v H.size))
    (kx : ∀ (ce : Cell) (q9 : Addr) (H1 : Heap) (locs1 : List Loc), hg G E n q (pu 0 n' v w) A s H1 locs1 → H1[q9]? = some ce → ce.vm = .none → s.vm.findClass Ex = some ce.cls → vx_W p l e R s m args below meth c H1 locs1 (cells + 1) (slots + 6) Q (F0 m pcc ls rest) q9) : W p l e R s m args below meth c H locs cells slots Q (F0 m pcc ls st0) := by
  have hfr := free1 (E' := E') (b := 0) (n' := n') h hb
  simp only [sh_0] at hfr
  refine vx_calli hr h.1.2.2.1 (fun a _ ha => hfr a ha) hfr (fun a _ ha => hfr a ha) (fun E0 ce q9 u t H1 locs1 ht hal _ hB hz hk hS hce hv hcl => ?_) (fun r u t H1 locs1 _ _ hF => absurd hF id)
  obtain ⟨rfl, hB⟩ := hB
  exact kx ce q9 H1 locs1 (af1 (E' := E') (b := 0) (n' := n') h hE hb ht (by simp only [sh_0]; exact hB) (by simp only [sh_0]; exact hk) hS) hce hv hcl
theorem xiretc (hC : CallFix p m c cc nL s args Ts own) (hr : meth.sig.returnType = some .int) (hlocks : meth.locks = false) (h : hg G E n q v A s H locs) {x r : Int32} {v' : xSt} (hxr : x = r) (hv : v = v') (hdg : decode cc pcc = .ok (.ireturn, 1)) : W p l e R s m args below meth c H locs cells slots (MQ below (qI r (cB G E n q v' A) A) args s cells slots A) (F0 m pcc ls [.int x]) := by
  subst hv
  exact W.iret hC.1 hC.2.1 hr (fun t ht hW => ⟨⟨x, (), rfl, hxr, by rw [ht]; exact h.1.1, h.2⟩, h.1.2.2.1.F ht⟩) h.1.2.2.1.2.2 hdg hlocks
/-- a static call with the rich world, over the first n' cells -/
theorem preSP (h : hg G E n q v A s H locs) (hT : xT G sa A s s.heap) (n' : Nat) {E' : xLay} (hE : ∀ i, i < n' → ∀ z, E q (0 + i) z = E' (sh 0 q) i z) (hb : 0 + n' ≤ n) (As : List Value) : PreS s H (va_Pc As (cPT G sa E' n' q v H.size)) As := by
  have h1 := preS1 h 0 n' hE hb As
  simp only [sh_0] at h1
  refine ⟨blindT, fun U hU hW => ?_⟩
  obtain ⟨a1, a2⟩ := h1.2 U hU hW
  refine ⟨a1, a2, xTsub h hT (fun a ha => ?_) hU hW⟩
  have := free1 (E' := E') (b := 0) (n' := n') h hb a
  simp only [sh_0] at this
  exact this ha
/-- behind a call that made cells of its own -/
theorem xipc (h : hg G E n q v A s H locs) (n' : Nat) {E' : xLay} (hE : ∀ i, i < n' → ∀ z, E q (0 + i) z = E' (sh 0 q) i z) (hb : 0 + n' ≤ n) {r : Int32} {a : Array Value} (hr : va_Run p l e R s m args below meth c H locs cells slots mc ms (F0 m pcc ls st0) rest (qI r (cB G E' n' q w (cA E' n' q v H.size)) (cA E' n' q v H.size) a) (cA E' n' q v H.size))
    (kk : ∀ (H1 : Heap) (locs1 : List Loc), hg G E n q (pu 0 n' v w) A s H1 locs1 → W p l e R s m args below meth c H1 locs1 (cells + mc) (slots + ms) Q (F0 m (pcc + 3) ls (.int r :: rest))) : W p l e R s m args below meth c H locs cells slots Q (F0 m pcc ls st0) := by
  have hfr := free1 (E' := E') (b := 0) (n' := n') h hb
  simp only [sh_0] at hfr
  refine va_calli hr h.1.2.2.1 (fun a _ ha => hfr a ha) hfr (fun r2 u t H1 locs1 ht hvm hw hB hz1 hk1 hS1 => ?_)
  subst hw
  exact kk H1 locs1 (af1 (E' := E') (b := 0) (n' := n') h hE hb ht (by simp only [sh_0]; exact hB) (by simp only [sh_0]; exact hk1) hS1)
theorem xvc (h : hg G E n q v A s H locs) (b n' : Nat) {E' : xLay} (hE : ∀ i, i < n' → ∀ z, E q (b + i) z = E' (sh b q) i z) (hb : b + n' ≤ n) {a : Array Value} (hr : va_Run p l e R s m args below meth c H locs cells slots 0 0 (F0 m pcc ls st0) rest (qV (cB G E' n' (sh b q) w (cA E' n' (sh b q) (sh b v) H.size)) (cA E' n' (sh b q) (sh b v) H.size) a) (cA E' n' (sh b q) (sh b v) H.size))
    (kk : ∀ (H1 : Heap) (locs1 : List Loc), hg G E n q (pu b n' v w) A s H1 locs1 → W p l e R s m args below meth c H1 locs1 cells slots Q (F0 m (pcc + 3) ls rest)) : W p l e R s m args below meth c H locs cells slots Q (F0 m pcc ls st0) :=
  xv1 h b n' hE hb hr kk
end XG
section XQ
variable {p : Program} {l : Launch} {e : Env} {R : Room} {s : State} {m : MethodId} {args : Array Value} {below : List Frame} {meth : Method} {c : Code} {H : Heap} {locs : List Loc} {cells slots : Nat} {Q : State → Prop}
variable {cc : ByteArray} {nL pcc : Nat} {ls : Array Slot} {rest st0 : List Value} {Ts : List Cond} {own : String} {G : xGl} {sa : Nat → Nat} {E E' : xLay} {n n' : Nat} {q : Nat → Nat} {v w : xSt} {A : Nat → Prop}
variable {y : MethodName} {bytes : ByteArray} {maxL index na mc ms : Nat} {ret : Option FieldType} {rm : Room} {C : String} {hh : List (Nat × Nat × Nat × Nat)}
theorem preV0T (h : hg G E n q v A s H locs) (hT : xT G sa A s s.heap) (hbn : 0 < n) {ci : Nat} {fs : List Value} {T : u_T} {N : Nat} (he : E q 0 (v 0) = .inr (ci, fs)) (hc : vwCl[ci]? = some (C, T, N)) (As : List Value) : PreV s H C (q 0) (va_Pc (.ref (q 0) :: As) (cPT G sa E n q v H.size)) As := by
  have h1 := preV0 h hbn he hc As
  refine ⟨blindT, h1.2.1, fun U hU hW => ?_⟩
  obtain ⟨a1, a2⟩ := h1.2.2 U hU hW
  exact ⟨a1, a2, xTsub h hT (free0 h) hU hW⟩
theorem preS0 (h : hg G E n q v A s H locs) (As : List Value) : PreS s H (va_Pc As (cP G E n q v H.size)) As := by
  have h1 := preS1 (E' := E) h 0 n (fun i _ z => by rw [Nat.zero_add, sh_0]) (by omega) As
  simp only [sh_0] at h1
  exact h1
theorem preS0T (h : hg G E n q v A s H locs) (hT : xT G sa A s s.heap) (As : List Value) : PreS s H (va_Pc As (cPT G sa E n q v H.size)) As := by
  have h1 := preS0 h As
  refine ⟨blindT, fun U hU hW => ?_⟩
  obtain ⟨a1, a2⟩ := h1.2 U hU hW
  exact ⟨a1, a2, xTsub h hT (free0 h) hU hW⟩
theorem xi0c (h : hg G E n q v A s H locs) {r : Int32} {a : Array Value} (hr : va_Run p l e R s m args below meth c H locs cells slots mc ms (F0 m pcc ls st0) rest (qI r (cB G E n q w (cA E n q v H.size)) (cA E n q v H.size) a) (cA E n q v H.size))
    (kk : ∀ (H1 : Heap) (locs1 : List Loc), hg G E n q w A s H1 locs1 → W p l e R s m args below meth c H1 locs1 (cells + mc) (slots + ms) Q (F0 m (pcc + 3) ls (.int r :: rest))) : W p l e R s m args below meth c H locs cells slots Q (F0 m pcc ls st0) := by
  refine va_calli hr h.1.2.2.1 (fun a _ ha => free0 h a ha) (free0 h) (fun r2 u t H1 locs1 ht hvm hw hB hz1 hk1 hS1 => ?_)
  subst hw
  exact kk H1 locs1 (af0 h ht hB hS1)
theorem xz0c (h : hg G E n q v A s H locs) {r : Int32} {a : Array Value} (hr : va_Run p l e R s m args below meth c H locs cells slots mc ms (F0 m pcc ls st0) rest (qZ r (cB G E n q w (cA E n q v H.size)) (cA E n q v H.size) a) (cA E n q v H.size))
    (kk : ∀ (H1 : Heap) (locs1 : List Loc), r = 0 ∨ r = 1 → hg G E n q w A s H1 locs1 → W p l e R s m args below meth c H1 locs1 (cells + mc) (slots + ms) Q (F0 m (pcc + 3) ls (.int r :: rest))) : W p l e R s m args below meth c H locs cells slots Q (F0 m pcc ls st0) := by
  refine va_calli hr h.1.2.2.1 (fun a _ ha => free0 h a ha) (free0 h) (fun r2 u t H1 locs1 ht hvm hw hB hz1 hk1 hS1 => ?_)
  obtain ⟨rfl, hz⟩ := hw
  exact kk H1 locs1 hz (af0 h ht hB hS1)
theorem xl0c (h : hg G E n q v A s H locs) {r : Int64} {a : Array Value} (hr : va_Run p l e R s m args below meth c H locs cells slots mc ms (F0 m pcc ls st0) rest (qL r (cB G E n q w (cA E n q v H.size)) (cA E n q v H.size) a) (cA E n q v H.size))
    (kk : ∀ (H1 : Heap) (locs1 : List Loc), hg G E n q w A s H1 locs1 → W p l e R s m args below meth c H1 locs1 (cells + mc) (slots + ms) Q (F0 m (pcc + 3) ls (.long r :: rest))) : W p l e R s m args below meth c H locs cells slots Q (F0 m pcc ls st0) := by
  refine va_calll hr h.1.2.2.1 (fun a _ ha => free0 h a ha) (free0 h) (fun r2 u t H1 locs1 ht hvm hw hB hz1 hk1 hS1 => ?_)
  subst hw
  exact kk H1 locs1 (af0 h ht hB hS1)
theorem xzretc (hC : CallFix p m c cc nL s args Ts own) (hr : meth.sig.returnType = some .boolean) (hlocks : meth.locks = false) (h : hg G E n q v A s H locs) {x r : Int32} {v' : xSt} (hxr : x = r) (hz : x = 0 ∨ x = 1) (hv : v = v') (hdg : decode cc pcc = .ok (.ireturn, 1)) : W p l e R s m args below meth c H locs cells slots (MQ below (qZ r (cB G E n q v' A) A) args s cells slots A) (F0 m pcc ls [.int x]) := by
  subst hv; subst hxr
  exact W.zret hC.1 hC.2.1 hr (xbit hz) (fun t ht hW => ⟨⟨x, (), rfl, ⟨rfl, hz⟩, by rw [ht]; exact h.1.1, h.2⟩, h.1.2.2.1.F ht⟩) h.1.2.2.1.2.2 hdg hlocks
theorem xlretc (hC : CallFix p m c cc nL s args Ts own) (hr : meth.sig.returnType = some .long) (hlocks : meth.locks = false) (h : hg G E n q v A s H locs) {x r : Int64} {v' : xSt} (hxr : x = r) (hv : v = v') (hdg : decode cc pcc = .ok (.lreturn, 1)) : W p l e R s m args below meth c H locs cells slots (MQ below (qL r (cB G E n q v' A) A) args s cells slots A) (F0 m pcc ls [.long x]) := by
  subst hv
  exact W.lret hC.1 hC.2.1 hr (fun t ht hW => ⟨⟨x, (), rfl, hxr, by rw [ht]; exact h.1.1, h.2⟩, h.1.2.2.1.F ht⟩) h.1.2.2.1.2.2 hdg hlocks
theorem xRSg {ws ws' : List Cond} {av : List Value} {Qc : (State → Prop) → (Nat → Prop) → Array Value → State → Outcome → State → Prop} {v' : xSt} (hy : plainName y.cls = true) (hw : ws = Cond.code y cc maxL ret :: ws') (hlen : (lg_sl av).length ≤ maxL)
    (body : ∀ (p : Program) (e : Env) (s : State) (m : MethodId) (below : List Frame) (meth : Method) (c : Code) (ls : Array Slot) (A : Nat → Prop), CallFix p m c cc maxL s av.toArray ws y.cls → meth.sig.returnType = ret → meth.locks = false → hg G E n q v A s s.heap [] → xT G sa A s s.heap → lv_has ls maxL (lv_args 0 av) → W p l e rm s m av.toArray below meth c s.heap [] 0 0 (MQ below (Qc (cB G E n q v' A) A) av.toArray s mc ms A) (F0 m 0 ls [])) : mRS l y ws rm G sa E n q v av Qc v' mc ms := by
  intro sz
  refine Met.ofW (cc := cc) (maxL := maxL) (ret := ret) hy hw ?_
  intro p e s m args below meth c s₁ B hml hv
  obtain ⟨rfl, ⟨hsz, hP, hK, hD⟩, hT⟩ := hv
  subst hsz
  have hl := lv_entry av (n := maxL) hlen
  rw [lg_entry_eq]
  generalize (lg_sl av ++ List.replicate (maxL - (lg_sl av).length) Slot.unset).toArray = ls at hl ⊢
  exact body p e s m below meth c ls (cA E n q v s.heap.size) ⟨B.exec, B.bytes, hml, findClass_of_methodNamed B.named, atoms_spec (ws := ws) B.pre⟩ B.returns B.notSynchronized ⟨⟨hP, hK.1, va_S.rf, hK.2, fun a ha => Or.inr ha⟩, hD.self⟩ hT hl
theorem xcgS (hC : CallFix p m c cc nL s args Ts own) (hin : ∀ w ∈ wG, w ∈ Ts) (hl : Cond.methodLink own index y ∈ wG) (hi : Cond.initialized y.cls ∈ wG) (hc : Cond.code y bytes maxL ret ∈ wG) (hst : Cond.static y ∈ wG) (hrc : rm.cells = mc) (hrs : rm.slots = ms) (hd : y.cls ≠ "java/lang/invoke/MethodHandle" ∧ y.cls ≠ "java/lang/invoke/VarHandle" ∧ (parseMethodDescriptor y.desc).map (fun d => d.parameters.length) = some na) (hR : rm.frames + 1 ≤ R.frames ∧ 8 + (maxL + 11) + rm.locals ≤ R.locals) : CallB R s args own index y bytes maxL ret (wM y bytes maxL ret) rm mc ms na ∧ (Cond.static y).before args s = true :=
  ⟨callB_of na hC.2.2.2.2 (wM_goodT hin hc) rfl hrc hrs (hC.2.2.2.2 _ (hin _ hi)) (hC.2.2.2.2 _ (hin _ hl)) hd hR, hC.2.2.2.2 _ (hin _ hst)⟩
theorem xcth0 (h : hg G E n q v A s H locs) {Ex : String} {a : Array Value} (hr : vx_Run p l e R s m args below meth c H locs cells slots 1 6 (F0 m pcc ls st0) rest (xQF (cA E n q v H.size) a) (xXC G E n q w (cA E n q v H.size) Ex) (cA E n q v H.size))
    (kx : ∀ (ce : Cell) (q9 : Addr) (H1 : Heap) (locs1 : List Loc), hg G E n q w A s H1 locs1 → H1[q9]? = some ce → ce.vm = .none → s.vm.findClass Ex = some ce.cls → vx_W p l e R s m args below meth c H1 locs1 (cells + 1) (slots + 6) Q (F0 m pcc ls rest) q9) : W p l e R s m args below meth c H locs cells slots Q (F0 m pcc ls st0) := by
  refine vx_calli hr h.1.2.2.1 (fun a _ ha => free0 h a ha) (free0 h) (fun a _ ha => free0 h a ha) (fun E0 ce q9 u t H1 locs1 ht hal _ hB hz hk hS hce hv hcl => ?_) (fun r u t H1 locs1 _ _ hF => absurd hF id)
  obtain ⟨rfl, hB⟩ := hB
  exact kx ce q9 H1 locs1 (af0 h ht hB hS) hce hv hcl
theorem xldcf1 {index : Nat} (hC : CallFix p m c cc nL s args Ts own) {b : UInt32} (hconst : Cond.constantFloat own index b ∈ Ts) (hdg : decode cc pcc = .ok (.ldc index, 2)) (k : W p l e R s m args below meth c H locs cells slots Q (F0 m (pcc + 2) ls (.float b :: rest))) : W p l e R s m args below meth c H locs cells slots Q (F0 m pcc ls rest) := by
  intro T hT X
  obtain ⟨t, a, bb⟩ := k T hT X
  obtain ⟨kk, cf, hk, hcf, hcp⟩ := Cond.constantFloat_spec hC.2.2.2.1 (hC.2.2.2.2 _ hconst)
  obtain ⟨k', hk', he⟩ := X.warmed.alike.2.2 _ _ hk
  have hexec := hC.1
  have hdg' : decode c.code pcc = .ok (.ldc index, 2) := by rw [hC.2.1]; exact hdg
  refine ⟨t, ?_, bb⟩
  jvm_step X.here [hexec, hdg', ldc.wp_float (s := T) (f := F0 m pcc ls rest) X.here.top hk' (by rw [he]; exact hcf) hcp]
  exact a
end XQ
/-! the script, read by a helper -/
def lotv (L : Nat) (xs : Nat → Int32) (k : Int32) : Int32 := if Int32.ofNat L ≤ k then (-572463765 : Int32) * (k + 4229) + 4001 else xs k.toNatClampNeg
def cX (G : xGl) (b L : Nat) (xs : Nat → Int32) (sz : Nat) : State → Prop := fun U => U.heap.size = sz ∧ va_X b L xs U U.heap ∧ b < sz ∧ xK G U
theorem blindX {G : xGl} {b L sz : Nat} {xs : Nat → Int32} {av : List Value} : FrameBlind (va_Pc av (cX G b L xs sz)) := fun a U g mk h => by
  obtain ⟨q0, q1, qX, qb, qK⟩ := h
  exact ⟨q0, q1, va_X.moved (u := U) (U := U.calling g mk a) (Vm.Alike.refl U.vm) qX, qb, xK.same (u := U) (U := U.calling g mk a) rfl qK⟩
theorem preSX {s : State} {H : Heap} {locs : List Loc} {G : xGl} {E : xLay} {n : Nat} {q : Nat → Nat} {v : xSt} {A : Nat → Prop} {b L : Nat} {xs : Nat → Int32} (h : hg G E n q v A s H locs) (hX : va_X b L xs s s.heap) (hbl : b < s.heap.size) (hbA : ¬ A b) (As : List Value) : PreS s H (va_Pc As (cX G b L xs H.size)) As :=
  ⟨blindX, fun U hU hW => ⟨rfl, by rw [hU], by
    rw [hU]
    exact (hX.kept (h.1.2.2.1.2.1 b hbl hbA)).moved hW.alike, Nat.lt_of_lt_of_le hbl h.1.2.2.1.1, xK.warm hW ⟨h.1.2.1, h.1.2.2.2.1⟩⟩⟩
/-- a first answer, or else another one -/
def oe {α : Type} (x y : Option α) : Option α := match x with | some a => some a | none => y
theorem oe_e {α : Type} {x y : Option α} {z : α} (h : oe x y = some z) : x = some z ∨ y = some z := by
  cases x with
  | none => exact Or.inr h
  | some a => exact Or.inl h
theorem co_X8_arm : Cond.code yX8_arm cX8_arm 2 (some .int) ∈ wG := wG_t 915 (by decide +kernel) rfl
theorem dd_X8_arm : yX8_arm.cls ≠ "java/lang/invoke/MethodHandle" ∧ yX8_arm.cls ≠ "java/lang/invoke/VarHandle" ∧ (parseMethodDescriptor yX8_arm.desc).map (fun d => d.parameters.length) = some 0 := by decide +kernel
theorem lk_L_9 : Cond.methodLink RL 9 yX8_arm ∈ wG := wG_t 912 (by decide +kernel) rfl
theorem im_X8_arm : Cond.instanceMethod yX8_arm ∈ wG := wG_t 913 (by decide +kernel) rfl
theorem se_X8_arm : Cond.selects RX8 yX8_arm yX8_arm ∈ wG := wG_t 914 (by decide +kernel) rfl
theorem ck_L_15 : Cond.classLink RL 15 "java/lang/IllegalStateException" ∈ wG := wG_t 495 (by decide +kernel) rfl
theorem co_X8_load : Cond.code yX8_load cX8_load 2 (some .int) ∈ wG := wG_t 816 (by decide +kernel) rfl
theorem dd_X8_load : yX8_load.cls ≠ "java/lang/invoke/MethodHandle" ∧ yX8_load.cls ≠ "java/lang/invoke/VarHandle" ∧ (parseMethodDescriptor yX8_load.desc).map (fun d => d.parameters.length) = some 1 := by decide +kernel
theorem lk_L_17 : Cond.methodLink RL 17 yX8_load ∈ wG := wG_t 813 (by decide +kernel) rfl
theorem im_X8_load : Cond.instanceMethod yX8_load ∈ wG := wG_t 814 (by decide +kernel) rfl
theorem se_X8_load : Cond.selects RX8 yX8_load yX8_load ∈ wG := wG_t 815 (by decide +kernel) rfl
theorem ck_L_21 : Cond.classLink RL 21 "java/lang/IllegalArgumentException" ∈ wG := wG_t 812 (by decide +kernel) rfl
theorem co_X8_write : Cond.code yX8_write cX8_write 2 (some .int) ∈ wG := wG_t 832 (by decide +kernel) rfl
theorem dd_X8_write : yX8_write.cls ≠ "java/lang/invoke/MethodHandle" ∧ yX8_write.cls ≠ "java/lang/invoke/VarHandle" ∧ (parseMethodDescriptor yX8_write.desc).map (fun d => d.parameters.length) = some 1 := by decide +kernel
theorem lk_L_23 : Cond.methodLink RL 23 yX8_write ∈ wG := wG_t 829 (by decide +kernel) rfl
theorem im_X8_write : Cond.instanceMethod yX8_write ∈ wG := wG_t 830 (by decide +kernel) rfl
theorem se_X8_write : Cond.selects RX8 yX8_write yX8_write ∈ wG := wG_t 831 (by decide +kernel) rfl
theorem ck_L_26 : Cond.classLink RL 26 "java/lang/IndexOutOfBoundsException" ∈ wG := wG_t 795 (by decide +kernel) rfl
theorem co_X8_erase : Cond.code yX8_erase cX8_erase 2 (some .int) ∈ wG := wG_t 841 (by decide +kernel) rfl
theorem dd_X8_erase : yX8_erase.cls ≠ "java/lang/invoke/MethodHandle" ∧ yX8_erase.cls ≠ "java/lang/invoke/VarHandle" ∧ (parseMethodDescriptor yX8_erase.desc).map (fun d => d.parameters.length) = some 1 := by decide +kernel
theorem lk_L_28 : Cond.methodLink RL 28 yX8_erase ∈ wG := wG_t 838 (by decide +kernel) rfl
theorem im_X8_erase : Cond.instanceMethod yX8_erase ∈ wG := wG_t 839 (by decide +kernel) rfl
theorem se_X8_erase : Cond.selects RX8 yX8_erase yX8_erase ∈ wG := wG_t 840 (by decide +kernel) rfl
theorem co_X8_lock : Cond.code yX8_lock cX8_lock 3 (some .int) ∈ wG := wG_t 850 (by decide +kernel) rfl
theorem dd_X8_lock : yX8_lock.cls ≠ "java/lang/invoke/MethodHandle" ∧ yX8_lock.cls ≠ "java/lang/invoke/VarHandle" ∧ (parseMethodDescriptor yX8_lock.desc).map (fun d => d.parameters.length) = some 2 := by decide +kernel
theorem lk_L_31 : Cond.methodLink RL 31 yX8_lock ∈ wG := wG_t 847 (by decide +kernel) rfl
theorem im_X8_lock : Cond.instanceMethod yX8_lock ∈ wG := wG_t 848 (by decide +kernel) rfl
theorem se_X8_lock : Cond.selects RX8 yX8_lock yX8_lock ∈ wG := wG_t 849 (by decide +kernel) rfl
theorem co_X8_freeze : Cond.code yX8_freeze cX8_freeze 2 (some .int) ∈ wG := wG_t 923 (by decide +kernel) rfl
theorem dd_X8_freeze : yX8_freeze.cls ≠ "java/lang/invoke/MethodHandle" ∧ yX8_freeze.cls ≠ "java/lang/invoke/VarHandle" ∧ (parseMethodDescriptor yX8_freeze.desc).map (fun d => d.parameters.length) = some 0 := by decide +kernel
theorem lk_L_35 : Cond.methodLink RL 35 yX8_freeze ∈ wG := wG_t 920 (by decide +kernel) rfl
theorem im_X8_freeze : Cond.instanceMethod yX8_freeze ∈ wG := wG_t 921 (by decide +kernel) rfl
theorem se_X8_freeze : Cond.selects RX8 yX8_freeze yX8_freeze ∈ wG := wG_t 922 (by decide +kernel) rfl
theorem co_X8_suspend : Cond.code yX8_suspend cX8_suspend 2 (some .int) ∈ wG := wG_t 930 (by decide +kernel) rfl
theorem dd_X8_suspend : yX8_suspend.cls ≠ "java/lang/invoke/MethodHandle" ∧ yX8_suspend.cls ≠ "java/lang/invoke/VarHandle" ∧ (parseMethodDescriptor yX8_suspend.desc).map (fun d => d.parameters.length) = some 0 := by decide +kernel
theorem lk_L_38 : Cond.methodLink RL 38 yX8_suspend ∈ wG := wG_t 927 (by decide +kernel) rfl
theorem im_X8_suspend : Cond.instanceMethod yX8_suspend ∈ wG := wG_t 928 (by decide +kernel) rfl
theorem se_X8_suspend : Cond.selects RX8 yX8_suspend yX8_suspend ∈ wG := wG_t 929 (by decide +kernel) rfl
theorem co_X8_resume : Cond.code yX8_resume cX8_resume 1 (some .int) ∈ wG := wG_t 939 (by decide +kernel) rfl
theorem dd_X8_resume : yX8_resume.cls ≠ "java/lang/invoke/MethodHandle" ∧ yX8_resume.cls ≠ "java/lang/invoke/VarHandle" ∧ (parseMethodDescriptor yX8_resume.desc).map (fun d => d.parameters.length) = some 0 := by decide +kernel
theorem lk_L_41 : Cond.methodLink RL 41 yX8_resume ∈ wG := wG_t 936 (by decide +kernel) rfl
theorem im_X8_resume : Cond.instanceMethod yX8_resume ∈ wG := wG_t 937 (by decide +kernel) rfl
theorem se_X8_resume : Cond.selects RX8 yX8_resume yX8_resume ∈ wG := wG_t 938 (by decide +kernel) rfl
theorem co_X8_post : Cond.code yX8_post cX8_post 5 (some .int) ∈ wG := wG_t 875 (by decide +kernel) rfl
theorem dd_X8_post : yX8_post.cls ≠ "java/lang/invoke/MethodHandle" ∧ yX8_post.cls ≠ "java/lang/invoke/VarHandle" ∧ (parseMethodDescriptor yX8_post.desc).map (fun d => d.parameters.length) = some 3 := by decide +kernel
theorem lk_L_44 : Cond.methodLink RL 44 yX8_post ∈ wG := wG_t 872 (by decide +kernel) rfl
theorem im_X8_post : Cond.instanceMethod yX8_post ∈ wG := wG_t 873 (by decide +kernel) rfl
theorem se_X8_post : Cond.selects RX8 yX8_post yX8_post ∈ wG := wG_t 874 (by decide +kernel) rfl
theorem co_X8_withdraw : Cond.code yX8_withdraw cX8_withdraw 3 (some .int) ∈ wG := wG_t 862 (by decide +kernel) rfl
theorem dd_X8_withdraw : yX8_withdraw.cls ≠ "java/lang/invoke/MethodHandle" ∧ yX8_withdraw.cls ≠ "java/lang/invoke/VarHandle" ∧ (parseMethodDescriptor yX8_withdraw.desc).map (fun d => d.parameters.length) = some 1 := by decide +kernel
theorem lk_L_48 : Cond.methodLink RL 48 yX8_withdraw ∈ wG := wG_t 859 (by decide +kernel) rfl
theorem im_X8_withdraw : Cond.instanceMethod yX8_withdraw ∈ wG := wG_t 860 (by decide +kernel) rfl
theorem se_X8_withdraw : Cond.selects RX8 yX8_withdraw yX8_withdraw ∈ wG := wG_t 861 (by decide +kernel) rfl
theorem co_X8_pass : Cond.code yX8_pass cX8_pass 4 (some .int) ∈ wG := wG_t 904 (by decide +kernel) rfl
theorem dd_X8_pass : yX8_pass.cls ≠ "java/lang/invoke/MethodHandle" ∧ yX8_pass.cls ≠ "java/lang/invoke/VarHandle" ∧ (parseMethodDescriptor yX8_pass.desc).map (fun d => d.parameters.length) = some 1 := by decide +kernel
theorem lk_L_51 : Cond.methodLink RL 51 yX8_pass ∈ wG := wG_t 901 (by decide +kernel) rfl
theorem im_X8_pass : Cond.instanceMethod yX8_pass ∈ wG := wG_t 902 (by decide +kernel) rfl
theorem se_X8_pass : Cond.selects RX8 yX8_pass yX8_pass ∈ wG := wG_t 903 (by decide +kernel) rfl
theorem co_X8_set : Cond.code yX8_set cX8_set 4 (some .int) ∈ wG := wG_t 968 (by decide +kernel) rfl
theorem dd_X8_set : yX8_set.cls ≠ "java/lang/invoke/MethodHandle" ∧ yX8_set.cls ≠ "java/lang/invoke/VarHandle" ∧ (parseMethodDescriptor yX8_set.desc).map (fun d => d.parameters.length) = some 2 := by decide +kernel
theorem lk_L_54 : Cond.methodLink RL 54 yX8_set ∈ wG := wG_t 965 (by decide +kernel) rfl
theorem im_X8_set : Cond.instanceMethod yX8_set ∈ wG := wG_t 966 (by decide +kernel) rfl
theorem se_X8_set : Cond.selects RX8 yX8_set yX8_set ∈ wG := wG_t 967 (by decide +kernel) rfl
theorem co_X8_append : Cond.code yX8_append cX8_append 2 (some .int) ∈ wG := wG_t 991 (by decide +kernel) rfl
theorem dd_X8_append : yX8_append.cls ≠ "java/lang/invoke/MethodHandle" ∧ yX8_append.cls ≠ "java/lang/invoke/VarHandle" ∧ (parseMethodDescriptor yX8_append.desc).map (fun d => d.parameters.length) = some 1 := by decide +kernel
theorem lk_L_57 : Cond.methodLink RL 57 yX8_append ∈ wG := wG_t 988 (by decide +kernel) rfl
theorem im_X8_append : Cond.instanceMethod yX8_append ∈ wG := wG_t 989 (by decide +kernel) rfl
theorem se_X8_append : Cond.selects RX8 yX8_append yX8_append ∈ wG := wG_t 990 (by decide +kernel) rfl
theorem co_X8_obey : Cond.code yX8_obey cX8_obey 5 (some .int) ∈ wG := wG_t 1056 (by decide +kernel) rfl
theorem dd_X8_obey : yX8_obey.cls ≠ "java/lang/invoke/MethodHandle" ∧ yX8_obey.cls ≠ "java/lang/invoke/VarHandle" ∧ (parseMethodDescriptor yX8_obey.desc).map (fun d => d.parameters.length) = some 0 := by decide +kernel
theorem lk_L_60 : Cond.methodLink RL 60 yX8_obey ∈ wG := wG_t 1053 (by decide +kernel) rfl
theorem im_X8_obey : Cond.instanceMethod yX8_obey ∈ wG := wG_t 1054 (by decide +kernel) rfl
theorem se_X8_obey : Cond.selects RX8 yX8_obey yX8_obey ∈ wG := wG_t 1055 (by decide +kernel) rfl
theorem co_X8_goBack : Cond.code yX8_goBack cX8_goBack 1 (some .int) ∈ wG := wG_t 499 (by decide +kernel) rfl
theorem dd_X8_goBack : yX8_goBack.cls ≠ "java/lang/invoke/MethodHandle" ∧ yX8_goBack.cls ≠ "java/lang/invoke/VarHandle" ∧ (parseMethodDescriptor yX8_goBack.desc).map (fun d => d.parameters.length) = some 0 := by decide +kernel
theorem lk_L_63 : Cond.methodLink RL 63 yX8_goBack ∈ wG := wG_t 496 (by decide +kernel) rfl
theorem im_X8_goBack : Cond.instanceMethod yX8_goBack ∈ wG := wG_t 497 (by decide +kernel) rfl
theorem se_X8_goBack : Cond.selects RX8 yX8_goBack yX8_goBack ∈ wG := wG_t 498 (by decide +kernel) rfl
theorem co_X8_undo : Cond.code yX8_undo cX8_undo 1 (some .int) ∈ wG := wG_t 530 (by decide +kernel) rfl
theorem dd_X8_undo : yX8_undo.cls ≠ "java/lang/invoke/MethodHandle" ∧ yX8_undo.cls ≠ "java/lang/invoke/VarHandle" ∧ (parseMethodDescriptor yX8_undo.desc).map (fun d => d.parameters.length) = some 0 := by decide +kernel
theorem lk_L_66 : Cond.methodLink RL 66 yX8_undo ∈ wG := wG_t 527 (by decide +kernel) rfl
theorem im_X8_undo : Cond.instanceMethod yX8_undo ∈ wG := wG_t 528 (by decide +kernel) rfl
theorem se_X8_undo : Cond.selects RX8 yX8_undo yX8_undo ∈ wG := wG_t 529 (by decide +kernel) rfl
theorem co_X8_read : Cond.code yX8_read cX8_read 2 (some .int) ∈ wG := wG_t 799 (by decide +kernel) rfl
theorem dd_X8_read : yX8_read.cls ≠ "java/lang/invoke/MethodHandle" ∧ yX8_read.cls ≠ "java/lang/invoke/VarHandle" ∧ (parseMethodDescriptor yX8_read.desc).map (fun d => d.parameters.length) = some 1 := by decide +kernel
theorem lk_L_69 : Cond.methodLink RL 69 yX8_read ∈ wG := wG_t 796 (by decide +kernel) rfl
theorem im_X8_read : Cond.instanceMethod yX8_read ∈ wG := wG_t 797 (by decide +kernel) rfl
theorem se_X8_read : Cond.selects RX8 yX8_read yX8_read ∈ wG := wG_t 798 (by decide +kernel) rfl
theorem cn_L_8 : Cond.constant RL 8 (2147483647 : Int32) ∈ wG := wG_t 491 (by decide +kernel) rfl
theorem cn_L_7 : Cond.constant RL 7 (-572463765 : Int32) ∈ wG := wG_t 487 (by decide +kernel) rfl
theorem co_L_lot : Cond.code yL_lot cL_lot 2 (some .int) ∈ wG := wG_t 486 (by decide +kernel) rfl
set_option maxHeartbeats 4000000 in
theorem c_L_lot (l : Launch) (G : xGl) (b L : Nat) (xs : Nat → Int32) (k : Int32) (hk : ¬ k < 0) (hL : L < 2147483648) : ∀ sz, Met l yL_lot (wM yL_lot cL_lot 2 (some .int)) { frames := 0, cells := 0, slots := 0, locals := 0 } (va_Pc [.ref b, .int k] (cX G b L xs sz)) (qI (lotv L xs k) (fun _ => True) (cN sz)) 0 0 (cN sz) := by
  intro sz
  refine Met.ofW (cc := cL_lot) (maxL := 2) (ret := some .int) (by decide) rfl ?_
  intro p e s m args below meth c s₁ B hml hv
  obtain ⟨rfl, hsz, hX, hbs, hK⟩ := hv
  subst hsz
  have hl := lv_entry [Value.ref b, Value.int k] (n := 2) (Nat.le_of_ble_eq_true rfl)
  rw [lg_entry_eq]
  generalize (lg_sl [Value.ref b, Value.int k] ++ List.replicate (2 - (lg_sl [Value.ref b, Value.int k]).length) Slot.unset).toArray = ls at hl ⊢
  have hC : CallFix p m c cL_lot 2 s [.ref b, .int k].toArray (wM yL_lot cL_lot 2 (some .int)) yL_lot.cls := ⟨B.exec, B.bytes, hml, findClass_of_methodNamed B.named, atoms_spec (ws := wM yL_lot cL_lot 2 (some .int)) B.pre⟩
  have hr := B.returns
  have hlk := B.notSynchronized
  obtain ⟨A, hAe⟩ : ∃ A, A = cN s.heap.size := ⟨_, rfl⟩
  rw [← hAe]
  have hbA : ¬ A b := by rw [hAe]; exact Nat.not_le.mpr hbs
  have h : ho G e0 0 (fun _ => 0) (fun _ _ => 0) A s s.heap [] := ⟨fun k x hk => by obtain ⟨h1, -⟩ := wl_inv hk; omega, hK.1, va_S.rf, hK.2, fun a ha => by rw [hAe]; exact ha⟩
  have hx := hC.1
  have hb := hC.2.1
  have hl : lv_has ls 2 [(0, .ref b), (1, .int k)] := hl
  obtain ⟨H, hH⟩ : ∃ H, H = s.heap := ⟨_, rfl⟩
  obtain ⟨locs, hlo⟩ : ∃ x : List Loc, x = [] := ⟨_, rfl⟩
  have h : ho G e0 0 (fun _ => 0) (fun _ _ => 0) A s H locs := by rw [hH, hlo]; exact h
  show W p l e { frames := 0, cells := 0, slots := 0, locals := 0 } s m [.ref b, .int k].toArray below meth c s.heap [] 0 0 (MQ below (qI (lotv L xs k) (fun _ => True) A) [.ref b, .int k].toArray s 0 0 A) (F0 m 0 ls [])
  rw [← hlo]
  have hX : va_X b L xs s H := by rw [hH]; exact hX
  have hbs : b < H.size := by rw [hH]; exact hbs
  have hS : va_S A H H locs := by rw [hlo]; exact va_S.rf
  rw [← hH]
  clear hH hlo
  refine lv_iload_n hx hb dL_lot_0 rfl (lv_at hl 1 rfl) ?_
  refine lv_aload_n hx hb dL_lot_1 rfl (lv_at hl 0 rfl) ?_
  refine va_slen hx hb hX hbs hbA hS dL_lot_2 ?_
  refine lv_icmp_ge (tgt := 12) hx hb dL_lot_3 (by decide) (fun c1 => ?_) (fun c1 => ?_)
  · refine lv_ldc hx hb hC.2.2.2.1 (hC.2.2.2.2 _ (wM_in cn_L_7)) dL_lot_12 ?_
    refine lv_iload_n hx hb dL_lot_14 rfl (lv_at hl 1 rfl) ?_
    refine lv_sipush (v := (4229 : Int32)) hx hb dL_lot_15 (by decide) ?_
    refine lv_iadd hx hb dL_lot_18 ?_
    refine lv_imul hx hb dL_lot_19 ?_
    refine lv_sipush (v := (4001 : Int32)) hx hb dL_lot_20 (by decide) ?_
    refine lv_iadd hx hb dL_lot_23 ?_
    exact oiret hC hr hlk h (by unfold lotv; rw [if_pos c1]) dL_lot_24
  · refine lv_aload_n hx hb dL_lot_6 rfl (lv_at hl 0 rfl) ?_
    refine lv_iload_n hx hb dL_lot_7 rfl (lv_at hl 1 rfl) ?_
    refine va_sld hx hb hX hbs hbA hS (xin_of hL hk c1) dL_lot_8 ?_
    refine lv_goto (tgt := 24) hx hb dL_lot_9 (by decide) ?_
    exact oiret hC hr hlk h (by unfold lotv; rw [if_neg c1]) dL_lot_24
def m_L_low (p0 : Int32) (p1 : Int32) : Option (Int32) := ck (¬ p1 = 0) (some ((p0 &&& (2147483647 : Int32)) - (p0 &&& (2147483647 : Int32)) / p1 * p1))
set_option maxHeartbeats 4000000 in
set_option maxRecDepth 100000 in
theorem c_L_low (l : Launch) (G : xGl) (q : Nat → Nat) (v : xSt) (p0 : Int32) (p1 : Int32) {z : (Int32)} (hf : m_L_low p0 p1 = some z) : mRO l yL_low (wM yL_low cL_low 2 (some .int)) { frames := 0, cells := 0, slots := 0, locals := 0 } G (e0) 0 q v [.int p0, .int p1] (qI z) := by
  refine xRO (cc := cL_low) (maxL := 2) (ret := (some .int)) (by decide) rfl (Nat.le_of_ble_eq_true rfl) ?_
  intro p e s m below meth c ls A hC hr hlk h hl
  have hx := hC.1
  have hb := hC.2.1
  have hl : lv_has ls 2 [(0, .int p0), (1, .int p1)] := hl
  unfold m_L_low at hf
  obtain ⟨H, hH⟩ : ∃ H, H = s.heap := ⟨_, rfl⟩
  obtain ⟨locs, hlo⟩ : ∃ x : List Loc, x = [] := ⟨_, rfl⟩
  have h : ho G (e0) 0 q v A s H locs := by rw [hH, hlo]; exact h
  rw [← hlo, ← hH]
  clear hH hlo
  refine lv_iload_n hx hb dL_low_0 rfl (lv_at hl 0 rfl) ?_
  refine lv_ldc hx hb hC.2.2.2.1 (hC.2.2.2.2 _ (wM_in cn_L_8)) dL_low_1 ?_
  refine lv_iand hx hb dL_low_3 ?_
  refine lv_iload_n hx hb dL_low_4 rfl (lv_at hl 1 rfl) ?_
  obtain ⟨hn1, hf⟩ := ck_e hf
  refine lv_irem hx hb dL_low_5 hn1 ?_
  have hf := sm_e hf
  exact oiret hC hr hlk h (by rw [← hf]) dL_low_6
def m_L_arm_n (v : xSt) : Option (Int32 × xSt) := ob (m_X8_arm_n v) (fun r2 => lt (r2.2) (fun v3 => some (r2.1, v3)))
set_option maxHeartbeats 4000000 in
set_option maxRecDepth 100000 in
theorem c_L_arm_n (l : Launch) (G : xGl) (sa q : Nat → Nat) (v : xSt) {z : (Int32 × xSt)} (hf : m_L_arm_n v = some z) : mRS l yL_arm (wMH yL_arm cL_arm 2 (some .int) [(0, 4, 5, 15)]) { frames := 7, cells := 1, slots := 6, locals := 189 } G sa (eBC G) 430 q v [.ref (q 0)] (qI z.1) z.2 1 6 := by
  refine xRSH (cc := cL_arm) (maxL := 2) (ret := (some .int)) (by decide) rfl (Nat.le_of_ble_eq_true rfl) ?_
  intro p e s m below meth c ls A hC hht hr hlk h hT hl
  have hx := hC.1
  have hb := hC.2.1
  have hl : lv_has ls 2 [(0, .ref (q 0))] := hl
  unfold m_L_arm_n at hf
  obtain ⟨H, hH⟩ : ∃ H, H = s.heap := ⟨_, rfl⟩
  obtain ⟨locs, hlo⟩ : ∃ x : List Loc, x = [] := ⟨_, rfl⟩
  have h : hg G (eBC G) 430 q v A s H locs := by rw [hH, hlo]; exact h
  rw [← hlo, ← hH]
  clear hH hlo
  refine W.widen (k := 1) (n := 6) (by omega) (by omega) ?_
  refine lv_aload_n hx hb dL_arm_0 rfl (lv_at hl 0 rfl) ?_
  obtain ⟨r2, hy1, hf⟩ := ob_e hf
  refine xi0 h (va_runV (As := []) (rest := []) hC (c_X8_arm_n l G q v hy1 H.size) (xcgV hC wMH_in lk_L_9 in_X8 co_X8_arm im_X8_arm se_X8_arm rfl rfl dd_X8_arm ⟨Nat.le_of_ble_eq_true rfl, Nat.le_of_ble_eq_true rfl⟩) (preV0 h (Nat.le_of_ble_eq_true rfl) eBC_0 rfl []) rfl rfl hl.1 rfl (lv_room (Nat.le_of_ble_eq_true rfl)) dL_arm_1 ⟨Nat.le_of_ble_eq_true rfl, Nat.le_of_ble_eq_true rfl⟩) (fun H locs h => ?_)
  obtain ⟨v3, ev3, hf⟩ := lt_e hf
  rw [← ev3] at h
  have hf := sm_e hf
  exact xiretc hC hr hlk h (by rw [← hf]) (by rw [← hf]) dL_arm_4
set_option maxHeartbeats 4000000 in
theorem x_L_arm_xISE (l : Launch) (hst : l.stackTraces = false) (G : xGl) (sa q : Nat → Nat) (v : xSt) {w : xSt} (hf : m_X8_arm_t v = some (xISE, w)) : mRS l yL_arm (wMH yL_arm cL_arm 2 (some .int) [(0, 4, 5, 15)]) { frames := 7, cells := 1, slots := 6, locals := 189 } G sa (eBC G) 430 q v [.ref (q 0)] (qI (-103 : Int32)) w 1 6 := by
  refine xRSH (cc := cL_arm) (maxL := 2) (ret := some .int) (hh := [(0, 4, 5, 15)]) (by decide) rfl (Nat.le_of_ble_eq_true rfl) ?_
  intro p e s m below meth c ls A hC hht hr hlk h hT hl
  have hx := hC.1
  have hb := hC.2.1
  have hl : lv_has ls 2 [(0, .ref (q 0))] := hl
  obtain ⟨H, hH⟩ : ∃ H, H = s.heap := ⟨_, rfl⟩
  obtain ⟨locs, hlo⟩ : ∃ x : List Loc, x = [] := ⟨_, rfl⟩
  have h : hg G (eBC G) 430 q v A s H locs := by rw [hH, hlo]; exact h
  rw [← hlo, ← hH]
  clear hH hlo
  refine lv_aload_n hx hb dL_arm_0 rfl (lv_at hl 0 rfl) ?_
  refine xcth0 h (vx_runV (As := []) (rest := []) hC (c_X8_arm_t l hst G sa q v hf H.size) (xcgV hC wMH_in lk_L_9 in_X8 co_X8_arm im_X8_arm se_X8_arm rfl rfl dd_X8_arm ⟨Nat.le_of_ble_eq_true rfl, Nat.le_of_ble_eq_true rfl⟩) (preV0T h hT (Nat.le_of_ble_eq_true rfl) eBC_0 rfl []) rfl rfl hl.1 rfl (lv_room (Nat.le_of_ble_eq_true rfl)) dL_arm_1 ⟨Nat.le_of_ble_eq_true rfl, Nat.le_of_ble_eq_true rfl⟩) (fun ce q9 H locs h hce hcv hcl => ?_)
  refine vx_catch hC.2.2.2.1 [] ⟨0, 4, 5, 15⟩ [] (hht.trans rfl) (fun z hz => nomatch hz) (by decide) (by decide) (hC.2.2.2.2 _ (wMH_in _ ck_L_15)) (va_Nw.use rfl (hT.2.2.2.1.1 xISE (by decide))) hce hcv hcl ?_
  refine lv_astore_n (lv' := [(1, .ref q9), (0, .ref (q 0))]) hx hb dL_arm_5 rfl hl (by decide) rfl (fun ls hl => ?_)
  refine lv_bipush (v := (-103 : Int32)) hx hb dL_arm_6 (by decide) ?_
  exact xiretc hC hr hlk h rfl rfl dL_arm_8
def m_L_arm (v : xSt) : Option (Int32 × xSt) := oe (m_L_arm_n v) (ob (m_X8_arm_t v) (fun z => (if z.1 = xISE then some ((-103 : Int32), z.2) else none)))
theorem c_L_arm (l : Launch) (hst : l.stackTraces = false) (G : xGl) (sa q : Nat → Nat) (v : xSt) {z : Int32 × xSt} (hf : m_L_arm v = some z) : mRS l yL_arm (wMH yL_arm cL_arm 2 (some .int) [(0, 4, 5, 15)]) { frames := 7, cells := 1, slots := 6, locals := 189 } G sa (eBC G) 430 q v [.ref (q 0)] (qI z.1) z.2 1 6 := by
  rcases oe_e hf with g | g
  · exact c_L_arm_n l G sa q v g
  · obtain ⟨⟨E0, w⟩, hw, g⟩ := ob_e g
    by_cases c0 : E0 = xISE
    · subst c0
      have g := sm_e (it_t (c := xISE = xISE) rfl g)
      subst g
      exact x_L_arm_xISE l hst G sa q v hw
    have g := it_f (c := E0 = xISE) c0 g
    cases g
def m_L_load_n (v : xSt) (p1 : Int32) : Option (Int32 × xSt) := ob (m_X8_load_n v p1) (fun r2 => lt (r2.2) (fun v3 => some (r2.1, v3)))
set_option maxHeartbeats 4000000 in
set_option maxRecDepth 100000 in
theorem c_L_load_n (l : Launch) (G : xGl) (sa q : Nat → Nat) (v : xSt) (p1 : Int32) {z : (Int32 × xSt)} (hf : m_L_load_n v p1 = some z) : mRS l yL_load (wMH yL_load cL_load 3 (some .int) [(0, 5, 6, 21), (0, 5, 10, 15)]) { frames := 7, cells := 1, slots := 6, locals := 189 } G sa (eBC G) 430 q v [.ref (q 0), .int p1] (qI z.1) z.2 1 6 := by
  refine xRSH (cc := cL_load) (maxL := 3) (ret := (some .int)) (by decide) rfl (Nat.le_of_ble_eq_true rfl) ?_
  intro p e s m below meth c ls A hC hht hr hlk h hT hl
  have hx := hC.1
  have hb := hC.2.1
  have hl : lv_has ls 3 [(0, .ref (q 0)), (1, .int p1)] := hl
  unfold m_L_load_n at hf
  obtain ⟨H, hH⟩ : ∃ H, H = s.heap := ⟨_, rfl⟩
  obtain ⟨locs, hlo⟩ : ∃ x : List Loc, x = [] := ⟨_, rfl⟩
  have h : hg G (eBC G) 430 q v A s H locs := by rw [hH, hlo]; exact h
  rw [← hlo, ← hH]
  clear hH hlo
  refine W.widen (k := 1) (n := 6) (by omega) (by omega) ?_
  refine lv_aload_n hx hb dL_load_0 rfl (lv_at hl 0 rfl) ?_
  refine lv_iload_n hx hb dL_load_1 rfl (lv_at hl 1 rfl) ?_
  obtain ⟨r2, hy1, hf⟩ := ob_e hf
  refine xi0 h (va_runV (As := [.int p1]) (rest := []) hC (c_X8_load_n l G q v p1 hy1 H.size) (xcgV hC wMH_in lk_L_17 in_X8 co_X8_load im_X8_load se_X8_load rfl rfl dd_X8_load ⟨Nat.le_of_ble_eq_true rfl, Nat.le_of_ble_eq_true rfl⟩) (preV0 h (Nat.le_of_ble_eq_true rfl) eBC_0 rfl [.int p1]) rfl rfl hl.1 rfl (lv_room (Nat.le_of_ble_eq_true rfl)) dL_load_2 ⟨Nat.le_of_ble_eq_true rfl, Nat.le_of_ble_eq_true rfl⟩) (fun H locs h => ?_)
  obtain ⟨v3, ev3, hf⟩ := lt_e hf
  rw [← ev3] at h
  have hf := sm_e hf
  exact xiretc hC hr hlk h (by rw [← hf]) (by rw [← hf]) dL_load_5
set_option maxHeartbeats 4000000 in
theorem x_L_load_xIAE (l : Launch) (hst : l.stackTraces = false) (G : xGl) (sa q : Nat → Nat) (v : xSt) (p1 : Int32) {w : xSt} (hf : m_X8_load_t v p1 = some (xIAE, w)) : mRS l yL_load (wMH yL_load cL_load 3 (some .int) [(0, 5, 6, 21), (0, 5, 10, 15)]) { frames := 7, cells := 1, slots := 6, locals := 189 } G sa (eBC G) 430 q v [.ref (q 0), .int p1] (qI (-102 : Int32)) w 1 6 := by
  refine xRSH (cc := cL_load) (maxL := 3) (ret := some .int) (hh := [(0, 5, 6, 21), (0, 5, 10, 15)]) (by decide) rfl (Nat.le_of_ble_eq_true rfl) ?_
  intro p e s m below meth c ls A hC hht hr hlk h hT hl
  have hx := hC.1
  have hb := hC.2.1
  have hl : lv_has ls 3 [(0, .ref (q 0)), (1, .int p1)] := hl
  obtain ⟨H, hH⟩ : ∃ H, H = s.heap := ⟨_, rfl⟩
  obtain ⟨locs, hlo⟩ : ∃ x : List Loc, x = [] := ⟨_, rfl⟩
  have h : hg G (eBC G) 430 q v A s H locs := by rw [hH, hlo]; exact h
  rw [← hlo, ← hH]
  clear hH hlo
  refine lv_aload_n hx hb dL_load_0 rfl (lv_at hl 0 rfl) ?_
  refine lv_iload_n hx hb dL_load_1 rfl (lv_at hl 1 rfl) ?_
  refine xcth0 h (vx_runV (As := [.int p1]) (rest := []) hC (c_X8_load_t l hst G sa q v p1 hf H.size) (xcgV hC wMH_in lk_L_17 in_X8 co_X8_load im_X8_load se_X8_load rfl rfl dd_X8_load ⟨Nat.le_of_ble_eq_true rfl, Nat.le_of_ble_eq_true rfl⟩) (preV0T h hT (Nat.le_of_ble_eq_true rfl) eBC_0 rfl [.int p1]) rfl rfl hl.1 rfl (lv_room (Nat.le_of_ble_eq_true rfl)) dL_load_2 ⟨Nat.le_of_ble_eq_true rfl, Nat.le_of_ble_eq_true rfl⟩) (fun ce q9 H locs h hce hcv hcl => ?_)
  refine vx_catch hC.2.2.2.1 [] ⟨0, 5, 6, 21⟩ [⟨0, 5, 10, 15⟩] (hht.trans rfl) (fun z hz => nomatch hz) (by decide) (by decide) (hC.2.2.2.2 _ (wMH_in _ ck_L_21)) (va_Nw.use rfl (hT.2.2.2.1.1 xIAE (by decide))) hce hcv hcl ?_
  refine lv_astore_n (lv' := [(2, .ref q9), (0, .ref (q 0)), (1, .int p1)]) hx hb dL_load_6 rfl hl (by decide) rfl (fun ls hl => ?_)
  refine lv_bipush (v := (-102 : Int32)) hx hb dL_load_7 (by decide) ?_
  exact xiretc hC hr hlk h rfl rfl dL_load_9
set_option maxHeartbeats 4000000 in
theorem x_L_load_xISE (l : Launch) (hst : l.stackTraces = false) (G : xGl) (sa q : Nat → Nat) (v : xSt) (p1 : Int32) {w : xSt} (hf : m_X8_load_t v p1 = some (xISE, w)) : mRS l yL_load (wMH yL_load cL_load 3 (some .int) [(0, 5, 6, 21), (0, 5, 10, 15)]) { frames := 7, cells := 1, slots := 6, locals := 189 } G sa (eBC G) 430 q v [.ref (q 0), .int p1] (qI (-103 : Int32)) w 1 6 := by
  refine xRSH (cc := cL_load) (maxL := 3) (ret := some .int) (hh := [(0, 5, 6, 21), (0, 5, 10, 15)]) (by decide) rfl (Nat.le_of_ble_eq_true rfl) ?_
  intro p e s m below meth c ls A hC hht hr hlk h hT hl
  have hx := hC.1
  have hb := hC.2.1
  have hl : lv_has ls 3 [(0, .ref (q 0)), (1, .int p1)] := hl
  obtain ⟨H, hH⟩ : ∃ H, H = s.heap := ⟨_, rfl⟩
  obtain ⟨locs, hlo⟩ : ∃ x : List Loc, x = [] := ⟨_, rfl⟩
  have h : hg G (eBC G) 430 q v A s H locs := by rw [hH, hlo]; exact h
  rw [← hlo, ← hH]
  clear hH hlo
  refine lv_aload_n hx hb dL_load_0 rfl (lv_at hl 0 rfl) ?_
  refine lv_iload_n hx hb dL_load_1 rfl (lv_at hl 1 rfl) ?_
  refine xcth0 h (vx_runV (As := [.int p1]) (rest := []) hC (c_X8_load_t l hst G sa q v p1 hf H.size) (xcgV hC wMH_in lk_L_17 in_X8 co_X8_load im_X8_load se_X8_load rfl rfl dd_X8_load ⟨Nat.le_of_ble_eq_true rfl, Nat.le_of_ble_eq_true rfl⟩) (preV0T h hT (Nat.le_of_ble_eq_true rfl) eBC_0 rfl [.int p1]) rfl rfl hl.1 rfl (lv_room (Nat.le_of_ble_eq_true rfl)) dL_load_2 ⟨Nat.le_of_ble_eq_true rfl, Nat.le_of_ble_eq_true rfl⟩) (fun ce q9 H locs h hce hcv hcl => ?_)
  refine vx_catch hC.2.2.2.1 [⟨0, 5, 6, 21⟩] ⟨0, 5, 10, 15⟩ [] (hht.trans rfl) (List.forall_mem_singleton.mpr (Or.inr ⟨by decide, xIAE, hC.2.2.2.2 _ (wMH_in _ ck_L_21), hT.2.2.2.2.1 xISE (by decide) xIAE (by decide) (by decide +kernel)⟩)) (by decide) (by decide) (hC.2.2.2.2 _ (wMH_in _ ck_L_15)) (va_Nw.use rfl (hT.2.2.2.1.1 xISE (by decide))) hce hcv hcl ?_
  refine lv_astore_n (lv' := [(2, .ref q9), (0, .ref (q 0)), (1, .int p1)]) hx hb dL_load_10 rfl hl (by decide) rfl (fun ls hl => ?_)
  refine lv_bipush (v := (-103 : Int32)) hx hb dL_load_11 (by decide) ?_
  exact xiretc hC hr hlk h rfl rfl dL_load_13
def m_L_load (v : xSt) (p1 : Int32) : Option (Int32 × xSt) := oe (m_L_load_n v p1) (ob (m_X8_load_t v p1) (fun z => (if z.1 = xIAE then some ((-102 : Int32), z.2) else (if z.1 = xISE then some ((-103 : Int32), z.2) else none))))
theorem c_L_load (l : Launch) (hst : l.stackTraces = false) (G : xGl) (sa q : Nat → Nat) (v : xSt) (p1 : Int32) {z : Int32 × xSt} (hf : m_L_load v p1 = some z) : mRS l yL_load (wMH yL_load cL_load 3 (some .int) [(0, 5, 6, 21), (0, 5, 10, 15)]) { frames := 7, cells := 1, slots := 6, locals := 189 } G sa (eBC G) 430 q v [.ref (q 0), .int p1] (qI z.1) z.2 1 6 := by
  rcases oe_e hf with g | g
  · exact c_L_load_n l G sa q v p1 g
  · obtain ⟨⟨E0, w⟩, hw, g⟩ := ob_e g
    by_cases c0 : E0 = xIAE
    · subst c0
      have g := sm_e (it_t (c := xIAE = xIAE) rfl g)
      subst g
      exact x_L_load_xIAE l hst G sa q v p1 hw
    have g := it_f (c := E0 = xIAE) c0 g
    by_cases c1 : E0 = xISE
    · subst c1
      have g := sm_e (it_t (c := xISE = xISE) rfl g)
      subst g
      exact x_L_load_xISE l hst G sa q v p1 hw
    have g := it_f (c := E0 = xISE) c1 g
    cases g
def m_L_write_n (v : xSt) (p1 : Int32) : Option (Int32 × xSt) := ob (m_X8_write_n v p1) (fun r2 => lt (r2.2) (fun v3 => some (r2.1, v3)))
set_option maxHeartbeats 4000000 in
set_option maxRecDepth 100000 in
theorem c_L_write_n (l : Launch) (G : xGl) (sa q : Nat → Nat) (v : xSt) (p1 : Int32) {z : (Int32 × xSt)} (hf : m_L_write_n v p1 = some z) : mRS l yL_write (wMH yL_write cL_write 3 (some .int) [(0, 5, 6, 26), (0, 5, 10, 15)]) { frames := 7, cells := 1, slots := 6, locals := 189 } G sa (eBC G) 430 q v [.ref (q 0), .int p1] (qI z.1) z.2 1 6 := by
  refine xRSH (cc := cL_write) (maxL := 3) (ret := (some .int)) (by decide) rfl (Nat.le_of_ble_eq_true rfl) ?_
  intro p e s m below meth c ls A hC hht hr hlk h hT hl
  have hx := hC.1
  have hb := hC.2.1
  have hl : lv_has ls 3 [(0, .ref (q 0)), (1, .int p1)] := hl
  unfold m_L_write_n at hf
  obtain ⟨H, hH⟩ : ∃ H, H = s.heap := ⟨_, rfl⟩
  obtain ⟨locs, hlo⟩ : ∃ x : List Loc, x = [] := ⟨_, rfl⟩
  have h : hg G (eBC G) 430 q v A s H locs := by rw [hH, hlo]; exact h
  rw [← hlo, ← hH]
  clear hH hlo
  refine W.widen (k := 1) (n := 6) (by omega) (by omega) ?_
  refine lv_aload_n hx hb dL_write_0 rfl (lv_at hl 0 rfl) ?_
  refine lv_iload_n hx hb dL_write_1 rfl (lv_at hl 1 rfl) ?_
  obtain ⟨r2, hy1, hf⟩ := ob_e hf
  refine xi0 h (va_runV (As := [.int p1]) (rest := []) hC (c_X8_write_n l G q v p1 hy1 H.size) (xcgV hC wMH_in lk_L_23 in_X8 co_X8_write im_X8_write se_X8_write rfl rfl dd_X8_write ⟨Nat.le_of_ble_eq_true rfl, Nat.le_of_ble_eq_true rfl⟩) (preV0 h (Nat.le_of_ble_eq_true rfl) eBC_0 rfl [.int p1]) rfl rfl hl.1 rfl (lv_room (Nat.le_of_ble_eq_true rfl)) dL_write_2 ⟨Nat.le_of_ble_eq_true rfl, Nat.le_of_ble_eq_true rfl⟩) (fun H locs h => ?_)
  obtain ⟨v3, ev3, hf⟩ := lt_e hf
  rw [← ev3] at h
  have hf := sm_e hf
  exact xiretc hC hr hlk h (by rw [← hf]) (by rw [← hf]) dL_write_5
set_option maxHeartbeats 4000000 in
theorem x_L_write_xIOB (l : Launch) (hst : l.stackTraces = false) (G : xGl) (sa q : Nat → Nat) (v : xSt) (p1 : Int32) {w : xSt} (hf : m_X8_write_t v p1 = some (xIOB, w)) : mRS l yL_write (wMH yL_write cL_write 3 (some .int) [(0, 5, 6, 26), (0, 5, 10, 15)]) { frames := 7, cells := 1, slots := 6, locals := 189 } G sa (eBC G) 430 q v [.ref (q 0), .int p1] (qI (-101 : Int32)) w 1 6 := by
  refine xRSH (cc := cL_write) (maxL := 3) (ret := some .int) (hh := [(0, 5, 6, 26), (0, 5, 10, 15)]) (by decide) rfl (Nat.le_of_ble_eq_true rfl) ?_
  intro p e s m below meth c ls A hC hht hr hlk h hT hl
  have hx := hC.1
  have hb := hC.2.1
  have hl : lv_has ls 3 [(0, .ref (q 0)), (1, .int p1)] := hl
  obtain ⟨H, hH⟩ : ∃ H, H = s.heap := ⟨_, rfl⟩
  obtain ⟨locs, hlo⟩ : ∃ x : List Loc, x = [] := ⟨_, rfl⟩
  have h : hg G (eBC G) 430 q v A s H locs := by rw [hH, hlo]; exact h
  rw [← hlo, ← hH]
  clear hH hlo
  refine lv_aload_n hx hb dL_write_0 rfl (lv_at hl 0 rfl) ?_
  refine lv_iload_n hx hb dL_write_1 rfl (lv_at hl 1 rfl) ?_
  refine xcth0 h (vx_runV (As := [.int p1]) (rest := []) hC (c_X8_write_t l hst G sa q v p1 hf H.size) (xcgV hC wMH_in lk_L_23 in_X8 co_X8_write im_X8_write se_X8_write rfl rfl dd_X8_write ⟨Nat.le_of_ble_eq_true rfl, Nat.le_of_ble_eq_true rfl⟩) (preV0T h hT (Nat.le_of_ble_eq_true rfl) eBC_0 rfl [.int p1]) rfl rfl hl.1 rfl (lv_room (Nat.le_of_ble_eq_true rfl)) dL_write_2 ⟨Nat.le_of_ble_eq_true rfl, Nat.le_of_ble_eq_true rfl⟩) (fun ce q9 H locs h hce hcv hcl => ?_)
  refine vx_catch hC.2.2.2.1 [] ⟨0, 5, 6, 26⟩ [⟨0, 5, 10, 15⟩] (hht.trans rfl) (fun z hz => nomatch hz) (by decide) (by decide) (hC.2.2.2.2 _ (wMH_in _ ck_L_26)) (va_Nw.use rfl (hT.2.2.2.1.1 xIOB (by decide))) hce hcv hcl ?_
  refine lv_astore_n (lv' := [(2, .ref q9), (0, .ref (q 0)), (1, .int p1)]) hx hb dL_write_6 rfl hl (by decide) rfl (fun ls hl => ?_)
  refine lv_bipush (v := (-101 : Int32)) hx hb dL_write_7 (by decide) ?_
  exact xiretc hC hr hlk h rfl rfl dL_write_9
set_option maxHeartbeats 4000000 in
theorem x_L_write_xISE (l : Launch) (hst : l.stackTraces = false) (G : xGl) (sa q : Nat → Nat) (v : xSt) (p1 : Int32) {w : xSt} (hf : m_X8_write_t v p1 = some (xISE, w)) : mRS l yL_write (wMH yL_write cL_write 3 (some .int) [(0, 5, 6, 26), (0, 5, 10, 15)]) { frames := 7, cells := 1, slots := 6, locals := 189 } G sa (eBC G) 430 q v [.ref (q 0), .int p1] (qI (-103 : Int32)) w 1 6 := by
  refine xRSH (cc := cL_write) (maxL := 3) (ret := some .int) (hh := [(0, 5, 6, 26), (0, 5, 10, 15)]) (by decide) rfl (Nat.le_of_ble_eq_true rfl) ?_
  intro p e s m below meth c ls A hC hht hr hlk h hT hl
  have hx := hC.1
  have hb := hC.2.1
  have hl : lv_has ls 3 [(0, .ref (q 0)), (1, .int p1)] := hl
  obtain ⟨H, hH⟩ : ∃ H, H = s.heap := ⟨_, rfl⟩
  obtain ⟨locs, hlo⟩ : ∃ x : List Loc, x = [] := ⟨_, rfl⟩
  have h : hg G (eBC G) 430 q v A s H locs := by rw [hH, hlo]; exact h
  rw [← hlo, ← hH]
  clear hH hlo
  refine lv_aload_n hx hb dL_write_0 rfl (lv_at hl 0 rfl) ?_
  refine lv_iload_n hx hb dL_write_1 rfl (lv_at hl 1 rfl) ?_
  refine xcth0 h (vx_runV (As := [.int p1]) (rest := []) hC (c_X8_write_t l hst G sa q v p1 hf H.size) (xcgV hC wMH_in lk_L_23 in_X8 co_X8_write im_X8_write se_X8_write rfl rfl dd_X8_write ⟨Nat.le_of_ble_eq_true rfl, Nat.le_of_ble_eq_true rfl⟩) (preV0T h hT (Nat.le_of_ble_eq_true rfl) eBC_0 rfl [.int p1]) rfl rfl hl.1 rfl (lv_room (Nat.le_of_ble_eq_true rfl)) dL_write_2 ⟨Nat.le_of_ble_eq_true rfl, Nat.le_of_ble_eq_true rfl⟩) (fun ce q9 H locs h hce hcv hcl => ?_)
  refine vx_catch hC.2.2.2.1 [⟨0, 5, 6, 26⟩] ⟨0, 5, 10, 15⟩ [] (hht.trans rfl) (List.forall_mem_singleton.mpr (Or.inr ⟨by decide, xIOB, hC.2.2.2.2 _ (wMH_in _ ck_L_26), hT.2.2.2.2.1 xISE (by decide) xIOB (by decide) (by decide +kernel)⟩)) (by decide) (by decide) (hC.2.2.2.2 _ (wMH_in _ ck_L_15)) (va_Nw.use rfl (hT.2.2.2.1.1 xISE (by decide))) hce hcv hcl ?_
  refine lv_astore_n (lv' := [(2, .ref q9), (0, .ref (q 0)), (1, .int p1)]) hx hb dL_write_10 rfl hl (by decide) rfl (fun ls hl => ?_)
  refine lv_bipush (v := (-103 : Int32)) hx hb dL_write_11 (by decide) ?_
  exact xiretc hC hr hlk h rfl rfl dL_write_13
def m_L_write (v : xSt) (p1 : Int32) : Option (Int32 × xSt) := oe (m_L_write_n v p1) (ob (m_X8_write_t v p1) (fun z => (if z.1 = xIOB then some ((-101 : Int32), z.2) else (if z.1 = xISE then some ((-103 : Int32), z.2) else none))))
theorem c_L_write (l : Launch) (hst : l.stackTraces = false) (G : xGl) (sa q : Nat → Nat) (v : xSt) (p1 : Int32) {z : Int32 × xSt} (hf : m_L_write v p1 = some z) : mRS l yL_write (wMH yL_write cL_write 3 (some .int) [(0, 5, 6, 26), (0, 5, 10, 15)]) { frames := 7, cells := 1, slots := 6, locals := 189 } G sa (eBC G) 430 q v [.ref (q 0), .int p1] (qI z.1) z.2 1 6 := by
  rcases oe_e hf with g | g
  · exact c_L_write_n l G sa q v p1 g
  · obtain ⟨⟨E0, w⟩, hw, g⟩ := ob_e g
    by_cases c0 : E0 = xIOB
    · subst c0
      have g := sm_e (it_t (c := xIOB = xIOB) rfl g)
      subst g
      exact x_L_write_xIOB l hst G sa q v p1 hw
    have g := it_f (c := E0 = xIOB) c0 g
    by_cases c1 : E0 = xISE
    · subst c1
      have g := sm_e (it_t (c := xISE = xISE) rfl g)
      subst g
      exact x_L_write_xISE l hst G sa q v p1 hw
    have g := it_f (c := E0 = xISE) c1 g
    cases g
def m_L_erase_n (v : xSt) (p1 : Int32) : Option (Int32 × xSt) := ob (m_X8_erase_n v p1) (fun r2 => lt (r2.2) (fun v3 => some (r2.1, v3)))
set_option maxHeartbeats 4000000 in
set_option maxRecDepth 100000 in
theorem c_L_erase_n (l : Launch) (G : xGl) (sa q : Nat → Nat) (v : xSt) (p1 : Int32) {z : (Int32 × xSt)} (hf : m_L_erase_n v p1 = some z) : mRS l yL_erase (wMH yL_erase cL_erase 3 (some .int) [(0, 5, 6, 26), (0, 5, 10, 15)]) { frames := 7, cells := 1, slots := 6, locals := 189 } G sa (eBC G) 430 q v [.ref (q 0), .int p1] (qI z.1) z.2 1 6 := by
  refine xRSH (cc := cL_erase) (maxL := 3) (ret := (some .int)) (by decide) rfl (Nat.le_of_ble_eq_true rfl) ?_
  intro p e s m below meth c ls A hC hht hr hlk h hT hl
  have hx := hC.1
  have hb := hC.2.1
  have hl : lv_has ls 3 [(0, .ref (q 0)), (1, .int p1)] := hl
  unfold m_L_erase_n at hf
  obtain ⟨H, hH⟩ : ∃ H, H = s.heap := ⟨_, rfl⟩
  obtain ⟨locs, hlo⟩ : ∃ x : List Loc, x = [] := ⟨_, rfl⟩
  have h : hg G (eBC G) 430 q v A s H locs := by rw [hH, hlo]; exact h
  rw [← hlo, ← hH]
  clear hH hlo
  refine W.widen (k := 1) (n := 6) (by omega) (by omega) ?_
  refine lv_aload_n hx hb dL_erase_0 rfl (lv_at hl 0 rfl) ?_
  refine lv_iload_n hx hb dL_erase_1 rfl (lv_at hl 1 rfl) ?_
  obtain ⟨r2, hy1, hf⟩ := ob_e hf
  refine xi0 h (va_runV (As := [.int p1]) (rest := []) hC (c_X8_erase_n l G q v p1 hy1 H.size) (xcgV hC wMH_in lk_L_28 in_X8 co_X8_erase im_X8_erase se_X8_erase rfl rfl dd_X8_erase ⟨Nat.le_of_ble_eq_true rfl, Nat.le_of_ble_eq_true rfl⟩) (preV0 h (Nat.le_of_ble_eq_true rfl) eBC_0 rfl [.int p1]) rfl rfl hl.1 rfl (lv_room (Nat.le_of_ble_eq_true rfl)) dL_erase_2 ⟨Nat.le_of_ble_eq_true rfl, Nat.le_of_ble_eq_true rfl⟩) (fun H locs h => ?_)
  obtain ⟨v3, ev3, hf⟩ := lt_e hf
  rw [← ev3] at h
  have hf := sm_e hf
  exact xiretc hC hr hlk h (by rw [← hf]) (by rw [← hf]) dL_erase_5
set_option maxHeartbeats 4000000 in
theorem x_L_erase_xIOB (l : Launch) (hst : l.stackTraces = false) (G : xGl) (sa q : Nat → Nat) (v : xSt) (p1 : Int32) {w : xSt} (hf : m_X8_erase_t v p1 = some (xIOB, w)) : mRS l yL_erase (wMH yL_erase cL_erase 3 (some .int) [(0, 5, 6, 26), (0, 5, 10, 15)]) { frames := 7, cells := 1, slots := 6, locals := 189 } G sa (eBC G) 430 q v [.ref (q 0), .int p1] (qI (-101 : Int32)) w 1 6 := by
  refine xRSH (cc := cL_erase) (maxL := 3) (ret := some .int) (hh := [(0, 5, 6, 26), (0, 5, 10, 15)]) (by decide) rfl (Nat.le_of_ble_eq_true rfl) ?_
  intro p e s m below meth c ls A hC hht hr hlk h hT hl
  have hx := hC.1
  have hb := hC.2.1
  have hl : lv_has ls 3 [(0, .ref (q 0)), (1, .int p1)] := hl
  obtain ⟨H, hH⟩ : ∃ H, H = s.heap := ⟨_, rfl⟩
  obtain ⟨locs, hlo⟩ : ∃ x : List Loc, x = [] := ⟨_, rfl⟩
  have h : hg G (eBC G) 430 q v A s H locs := by rw [hH, hlo]; exact h
  rw [← hlo, ← hH]
  clear hH hlo
  refine lv_aload_n hx hb dL_erase_0 rfl (lv_at hl 0 rfl) ?_
  refine lv_iload_n hx hb dL_erase_1 rfl (lv_at hl 1 rfl) ?_
  refine xcth0 h (vx_runV (As := [.int p1]) (rest := []) hC (c_X8_erase_t l hst G sa q v p1 hf H.size) (xcgV hC wMH_in lk_L_28 in_X8 co_X8_erase im_X8_erase se_X8_erase rfl rfl dd_X8_erase ⟨Nat.le_of_ble_eq_true rfl, Nat.le_of_ble_eq_true rfl⟩) (preV0T h hT (Nat.le_of_ble_eq_true rfl) eBC_0 rfl [.int p1]) rfl rfl hl.1 rfl (lv_room (Nat.le_of_ble_eq_true rfl)) dL_erase_2 ⟨Nat.le_of_ble_eq_true rfl, Nat.le_of_ble_eq_true rfl⟩) (fun ce q9 H locs h hce hcv hcl => ?_)
  refine vx_catch hC.2.2.2.1 [] ⟨0, 5, 6, 26⟩ [⟨0, 5, 10, 15⟩] (hht.trans rfl) (fun z hz => nomatch hz) (by decide) (by decide) (hC.2.2.2.2 _ (wMH_in _ ck_L_26)) (va_Nw.use rfl (hT.2.2.2.1.1 xIOB (by decide))) hce hcv hcl ?_
  refine lv_astore_n (lv' := [(2, .ref q9), (0, .ref (q 0)), (1, .int p1)]) hx hb dL_erase_6 rfl hl (by decide) rfl (fun ls hl => ?_)
  refine lv_bipush (v := (-101 : Int32)) hx hb dL_erase_7 (by decide) ?_
  exact xiretc hC hr hlk h rfl rfl dL_erase_9
set_option maxHeartbeats 4000000 in
theorem x_L_erase_xISE (l : Launch) (hst : l.stackTraces = false) (G : xGl) (sa q : Nat → Nat) (v : xSt) (p1 : Int32) {w : xSt} (hf : m_X8_erase_t v p1 = some (xISE, w)) : mRS l yL_erase (wMH yL_erase cL_erase 3 (some .int) [(0, 5, 6, 26), (0, 5, 10, 15)]) { frames := 7, cells := 1, slots := 6, locals := 189 } G sa (eBC G) 430 q v [.ref (q 0), .int p1] (qI (-103 : Int32)) w 1 6 := by
  refine xRSH (cc := cL_erase) (maxL := 3) (ret := some .int) (hh := [(0, 5, 6, 26), (0, 5, 10, 15)]) (by decide) rfl (Nat.le_of_ble_eq_true rfl) ?_
  intro p e s m below meth c ls A hC hht hr hlk h hT hl
  have hx := hC.1
  have hb := hC.2.1
  have hl : lv_has ls 3 [(0, .ref (q 0)), (1, .int p1)] := hl
  obtain ⟨H, hH⟩ : ∃ H, H = s.heap := ⟨_, rfl⟩
  obtain ⟨locs, hlo⟩ : ∃ x : List Loc, x = [] := ⟨_, rfl⟩
  have h : hg G (eBC G) 430 q v A s H locs := by rw [hH, hlo]; exact h
  rw [← hlo, ← hH]
  clear hH hlo
  refine lv_aload_n hx hb dL_erase_0 rfl (lv_at hl 0 rfl) ?_
  refine lv_iload_n hx hb dL_erase_1 rfl (lv_at hl 1 rfl) ?_
  refine xcth0 h (vx_runV (As := [.int p1]) (rest := []) hC (c_X8_erase_t l hst G sa q v p1 hf H.size) (xcgV hC wMH_in lk_L_28 in_X8 co_X8_erase im_X8_erase se_X8_erase rfl rfl dd_X8_erase ⟨Nat.le_of_ble_eq_true rfl, Nat.le_of_ble_eq_true rfl⟩) (preV0T h hT (Nat.le_of_ble_eq_true rfl) eBC_0 rfl [.int p1]) rfl rfl hl.1 rfl (lv_room (Nat.le_of_ble_eq_true rfl)) dL_erase_2 ⟨Nat.le_of_ble_eq_true rfl, Nat.le_of_ble_eq_true rfl⟩) (fun ce q9 H locs h hce hcv hcl => ?_)
  refine vx_catch hC.2.2.2.1 [⟨0, 5, 6, 26⟩] ⟨0, 5, 10, 15⟩ [] (hht.trans rfl) (List.forall_mem_singleton.mpr (Or.inr ⟨by decide, xIOB, hC.2.2.2.2 _ (wMH_in _ ck_L_26), hT.2.2.2.2.1 xISE (by decide) xIOB (by decide) (by decide +kernel)⟩)) (by decide) (by decide) (hC.2.2.2.2 _ (wMH_in _ ck_L_15)) (va_Nw.use rfl (hT.2.2.2.1.1 xISE (by decide))) hce hcv hcl ?_
  refine lv_astore_n (lv' := [(2, .ref q9), (0, .ref (q 0)), (1, .int p1)]) hx hb dL_erase_10 rfl hl (by decide) rfl (fun ls hl => ?_)
  refine lv_bipush (v := (-103 : Int32)) hx hb dL_erase_11 (by decide) ?_
  exact xiretc hC hr hlk h rfl rfl dL_erase_13
def m_L_erase (v : xSt) (p1 : Int32) : Option (Int32 × xSt) := oe (m_L_erase_n v p1) (ob (m_X8_erase_t v p1) (fun z => (if z.1 = xIOB then some ((-101 : Int32), z.2) else (if z.1 = xISE then some ((-103 : Int32), z.2) else none))))
theorem c_L_erase (l : Launch) (hst : l.stackTraces = false) (G : xGl) (sa q : Nat → Nat) (v : xSt) (p1 : Int32) {z : Int32 × xSt} (hf : m_L_erase v p1 = some z) : mRS l yL_erase (wMH yL_erase cL_erase 3 (some .int) [(0, 5, 6, 26), (0, 5, 10, 15)]) { frames := 7, cells := 1, slots := 6, locals := 189 } G sa (eBC G) 430 q v [.ref (q 0), .int p1] (qI z.1) z.2 1 6 := by
  rcases oe_e hf with g | g
  · exact c_L_erase_n l G sa q v p1 g
  · obtain ⟨⟨E0, w⟩, hw, g⟩ := ob_e g
    by_cases c0 : E0 = xIOB
    · subst c0
      have g := sm_e (it_t (c := xIOB = xIOB) rfl g)
      subst g
      exact x_L_erase_xIOB l hst G sa q v p1 hw
    have g := it_f (c := E0 = xIOB) c0 g
    by_cases c1 : E0 = xISE
    · subst c1
      have g := sm_e (it_t (c := xISE = xISE) rfl g)
      subst g
      exact x_L_erase_xISE l hst G sa q v p1 hw
    have g := it_f (c := E0 = xISE) c1 g
    cases g
def m_L_lock_n (v : xSt) (p1 : Int32) (p2 : Int32) : Option (Int32 × xSt) := ob (m_X8_lock_n v p1 p2) (fun r2 => lt (r2.2) (fun v3 => some (r2.1, v3)))
set_option maxHeartbeats 4000000 in
set_option maxRecDepth 100000 in
theorem c_L_lock_n (l : Launch) (G : xGl) (sa q : Nat → Nat) (v : xSt) (p1 : Int32) (p2 : Int32) {z : (Int32 × xSt)} (hf : m_L_lock_n v p1 p2 = some z) : mRS l yL_lock (wMH yL_lock cL_lock 4 (some .int) [(0, 6, 7, 21), (0, 6, 11, 15)]) { frames := 7, cells := 1, slots := 6, locals := 190 } G sa (eBC G) 430 q v [.ref (q 0), .int p1, .int p2] (qI z.1) z.2 1 6 := by
  refine xRSH (cc := cL_lock) (maxL := 4) (ret := (some .int)) (by decide) rfl (Nat.le_of_ble_eq_true rfl) ?_
  intro p e s m below meth c ls A hC hht hr hlk h hT hl
  have hx := hC.1
  have hb := hC.2.1
  have hl : lv_has ls 4 [(0, .ref (q 0)), (1, .int p1), (2, .int p2)] := hl
  unfold m_L_lock_n at hf
  obtain ⟨H, hH⟩ : ∃ H, H = s.heap := ⟨_, rfl⟩
  obtain ⟨locs, hlo⟩ : ∃ x : List Loc, x = [] := ⟨_, rfl⟩
  have h : hg G (eBC G) 430 q v A s H locs := by rw [hH, hlo]; exact h
  rw [← hlo, ← hH]
  clear hH hlo
  refine W.widen (k := 1) (n := 6) (by omega) (by omega) ?_
  refine lv_aload_n hx hb dL_lock_0 rfl (lv_at hl 0 rfl) ?_
  refine lv_iload_n hx hb dL_lock_1 rfl (lv_at hl 1 rfl) ?_
  refine lv_iload_n hx hb dL_lock_2 rfl (lv_at hl 2 rfl) ?_
  obtain ⟨r2, hy1, hf⟩ := ob_e hf
  refine xi0 h (va_runV (As := [.int p1, .int p2]) (rest := []) hC (c_X8_lock_n l G q v p1 p2 hy1 H.size) (xcgV hC wMH_in lk_L_31 in_X8 co_X8_lock im_X8_lock se_X8_lock rfl rfl dd_X8_lock ⟨Nat.le_of_ble_eq_true rfl, Nat.le_of_ble_eq_true rfl⟩) (preV0 h (Nat.le_of_ble_eq_true rfl) eBC_0 rfl [.int p1, .int p2]) rfl rfl hl.1 rfl (lv_room (Nat.le_of_ble_eq_true rfl)) dL_lock_3 ⟨Nat.le_of_ble_eq_true rfl, Nat.le_of_ble_eq_true rfl⟩) (fun H locs h => ?_)
  obtain ⟨v3, ev3, hf⟩ := lt_e hf
  rw [← ev3] at h
  have hf := sm_e hf
  exact xiretc hC hr hlk h (by rw [← hf]) (by rw [← hf]) dL_lock_6
set_option maxHeartbeats 4000000 in
theorem x_L_lock_xIAE (l : Launch) (hst : l.stackTraces = false) (G : xGl) (sa q : Nat → Nat) (v : xSt) (p1 : Int32) (p2 : Int32) {w : xSt} (hf : m_X8_lock_t v p1 p2 = some (xIAE, w)) : mRS l yL_lock (wMH yL_lock cL_lock 4 (some .int) [(0, 6, 7, 21), (0, 6, 11, 15)]) { frames := 7, cells := 1, slots := 6, locals := 190 } G sa (eBC G) 430 q v [.ref (q 0), .int p1, .int p2] (qI (-102 : Int32)) w 1 6 := by
  refine xRSH (cc := cL_lock) (maxL := 4) (ret := some .int) (hh := [(0, 6, 7, 21), (0, 6, 11, 15)]) (by decide) rfl (Nat.le_of_ble_eq_true rfl) ?_
  intro p e s m below meth c ls A hC hht hr hlk h hT hl
  have hx := hC.1
  have hb := hC.2.1
  have hl : lv_has ls 4 [(0, .ref (q 0)), (1, .int p1), (2, .int p2)] := hl
  obtain ⟨H, hH⟩ : ∃ H, H = s.heap := ⟨_, rfl⟩
  obtain ⟨locs, hlo⟩ : ∃ x : List Loc, x = [] := ⟨_, rfl⟩
  have h : hg G (eBC G) 430 q v A s H locs := by rw [hH, hlo]; exact h
  rw [← hlo, ← hH]
  clear hH hlo
  refine lv_aload_n hx hb dL_lock_0 rfl (lv_at hl 0 rfl) ?_
  refine lv_iload_n hx hb dL_lock_1 rfl (lv_at hl 1 rfl) ?_
  refine lv_iload_n hx hb dL_lock_2 rfl (lv_at hl 2 rfl) ?_
  refine xcth0 h (vx_runV (As := [.int p1, .int p2]) (rest := []) hC (c_X8_lock_t l hst G sa q v p1 p2 hf H.size) (xcgV hC wMH_in lk_L_31 in_X8 co_X8_lock im_X8_lock se_X8_lock rfl rfl dd_X8_lock ⟨Nat.le_of_ble_eq_true rfl, Nat.le_of_ble_eq_true rfl⟩) (preV0T h hT (Nat.le_of_ble_eq_true rfl) eBC_0 rfl [.int p1, .int p2]) rfl rfl hl.1 rfl (lv_room (Nat.le_of_ble_eq_true rfl)) dL_lock_3 ⟨Nat.le_of_ble_eq_true rfl, Nat.le_of_ble_eq_true rfl⟩) (fun ce q9 H locs h hce hcv hcl => ?_)
  refine vx_catch hC.2.2.2.1 [] ⟨0, 6, 7, 21⟩ [⟨0, 6, 11, 15⟩] (hht.trans rfl) (fun z hz => nomatch hz) (by decide) (by decide) (hC.2.2.2.2 _ (wMH_in _ ck_L_21)) (va_Nw.use rfl (hT.2.2.2.1.1 xIAE (by decide))) hce hcv hcl ?_
  refine lv_astore_n (lv' := [(3, .ref q9), (0, .ref (q 0)), (1, .int p1), (2, .int p2)]) hx hb dL_lock_7 rfl hl (by decide) rfl (fun ls hl => ?_)
  refine lv_bipush (v := (-102 : Int32)) hx hb dL_lock_8 (by decide) ?_
  exact xiretc hC hr hlk h rfl rfl dL_lock_10
set_option maxHeartbeats 4000000 in
theorem x_L_lock_xISE (l : Launch) (hst : l.stackTraces = false) (G : xGl) (sa q : Nat → Nat) (v : xSt) (p1 : Int32) (p2 : Int32) {w : xSt} (hf : m_X8_lock_t v p1 p2 = some (xISE, w)) : mRS l yL_lock (wMH yL_lock cL_lock 4 (some .int) [(0, 6, 7, 21), (0, 6, 11, 15)]) { frames := 7, cells := 1, slots := 6, locals := 190 } G sa (eBC G) 430 q v [.ref (q 0), .int p1, .int p2] (qI (-103 : Int32)) w 1 6 := by
  refine xRSH (cc := cL_lock) (maxL := 4) (ret := some .int) (hh := [(0, 6, 7, 21), (0, 6, 11, 15)]) (by decide) rfl (Nat.le_of_ble_eq_true rfl) ?_
  intro p e s m below meth c ls A hC hht hr hlk h hT hl
  have hx := hC.1
  have hb := hC.2.1
  have hl : lv_has ls 4 [(0, .ref (q 0)), (1, .int p1), (2, .int p2)] := hl
  obtain ⟨H, hH⟩ : ∃ H, H = s.heap := ⟨_, rfl⟩
  obtain ⟨locs, hlo⟩ : ∃ x : List Loc, x = [] := ⟨_, rfl⟩
  have h : hg G (eBC G) 430 q v A s H locs := by rw [hH, hlo]; exact h
  rw [← hlo, ← hH]
  clear hH hlo
  refine lv_aload_n hx hb dL_lock_0 rfl (lv_at hl 0 rfl) ?_
  refine lv_iload_n hx hb dL_lock_1 rfl (lv_at hl 1 rfl) ?_
  refine lv_iload_n hx hb dL_lock_2 rfl (lv_at hl 2 rfl) ?_
  refine xcth0 h (vx_runV (As := [.int p1, .int p2]) (rest := []) hC (c_X8_lock_t l hst G sa q v p1 p2 hf H.size) (xcgV hC wMH_in lk_L_31 in_X8 co_X8_lock im_X8_lock se_X8_lock rfl rfl dd_X8_lock ⟨Nat.le_of_ble_eq_true rfl, Nat.le_of_ble_eq_true rfl⟩) (preV0T h hT (Nat.le_of_ble_eq_true rfl) eBC_0 rfl [.int p1, .int p2]) rfl rfl hl.1 rfl (lv_room (Nat.le_of_ble_eq_true rfl)) dL_lock_3 ⟨Nat.le_of_ble_eq_true rfl, Nat.le_of_ble_eq_true rfl⟩) (fun ce q9 H locs h hce hcv hcl => ?_)
  refine vx_catch hC.2.2.2.1 [⟨0, 6, 7, 21⟩] ⟨0, 6, 11, 15⟩ [] (hht.trans rfl) (List.forall_mem_singleton.mpr (Or.inr ⟨by decide, xIAE, hC.2.2.2.2 _ (wMH_in _ ck_L_21), hT.2.2.2.2.1 xISE (by decide) xIAE (by decide) (by decide +kernel)⟩)) (by decide) (by decide) (hC.2.2.2.2 _ (wMH_in _ ck_L_15)) (va_Nw.use rfl (hT.2.2.2.1.1 xISE (by decide))) hce hcv hcl ?_
  refine lv_astore_n (lv' := [(3, .ref q9), (0, .ref (q 0)), (1, .int p1), (2, .int p2)]) hx hb dL_lock_11 rfl hl (by decide) rfl (fun ls hl => ?_)
  refine lv_bipush (v := (-103 : Int32)) hx hb dL_lock_12 (by decide) ?_
  exact xiretc hC hr hlk h rfl rfl dL_lock_14
def m_L_lock (v : xSt) (p1 : Int32) (p2 : Int32) : Option (Int32 × xSt) := oe (m_L_lock_n v p1 p2) (ob (m_X8_lock_t v p1 p2) (fun z => (if z.1 = xIAE then some ((-102 : Int32), z.2) else (if z.1 = xISE then some ((-103 : Int32), z.2) else none))))
theorem c_L_lock (l : Launch) (hst : l.stackTraces = false) (G : xGl) (sa q : Nat → Nat) (v : xSt) (p1 : Int32) (p2 : Int32) {z : Int32 × xSt} (hf : m_L_lock v p1 p2 = some z) : mRS l yL_lock (wMH yL_lock cL_lock 4 (some .int) [(0, 6, 7, 21), (0, 6, 11, 15)]) { frames := 7, cells := 1, slots := 6, locals := 190 } G sa (eBC G) 430 q v [.ref (q 0), .int p1, .int p2] (qI z.1) z.2 1 6 := by
  rcases oe_e hf with g | g
  · exact c_L_lock_n l G sa q v p1 p2 g
  · obtain ⟨⟨E0, w⟩, hw, g⟩ := ob_e g
    by_cases c0 : E0 = xIAE
    · subst c0
      have g := sm_e (it_t (c := xIAE = xIAE) rfl g)
      subst g
      exact x_L_lock_xIAE l hst G sa q v p1 p2 hw
    have g := it_f (c := E0 = xIAE) c0 g
    by_cases c1 : E0 = xISE
    · subst c1
      have g := sm_e (it_t (c := xISE = xISE) rfl g)
      subst g
      exact x_L_lock_xISE l hst G sa q v p1 p2 hw
    have g := it_f (c := E0 = xISE) c1 g
    cases g
def m_L_freeze_n (v : xSt) : Option (Int32 × xSt) := ob (m_X8_freeze_n v) (fun r2 => lt (r2.2) (fun v3 => some (r2.1, v3)))
set_option maxHeartbeats 4000000 in
set_option maxRecDepth 100000 in
theorem c_L_freeze_n (l : Launch) (G : xGl) (sa q : Nat → Nat) (v : xSt) {z : (Int32 × xSt)} (hf : m_L_freeze_n v = some z) : mRS l yL_freeze (wMH yL_freeze cL_freeze 2 (some .int) [(0, 4, 5, 15)]) { frames := 7, cells := 1, slots := 6, locals := 189 } G sa (eBC G) 430 q v [.ref (q 0)] (qI z.1) z.2 1 6 := by
  refine xRSH (cc := cL_freeze) (maxL := 2) (ret := (some .int)) (by decide) rfl (Nat.le_of_ble_eq_true rfl) ?_
  intro p e s m below meth c ls A hC hht hr hlk h hT hl
  have hx := hC.1
  have hb := hC.2.1
  have hl : lv_has ls 2 [(0, .ref (q 0))] := hl
  unfold m_L_freeze_n at hf
  obtain ⟨H, hH⟩ : ∃ H, H = s.heap := ⟨_, rfl⟩
  obtain ⟨locs, hlo⟩ : ∃ x : List Loc, x = [] := ⟨_, rfl⟩
  have h : hg G (eBC G) 430 q v A s H locs := by rw [hH, hlo]; exact h
  rw [← hlo, ← hH]
  clear hH hlo
  refine W.widen (k := 1) (n := 6) (by omega) (by omega) ?_
  refine lv_aload_n hx hb dL_freeze_0 rfl (lv_at hl 0 rfl) ?_
  obtain ⟨r2, hy1, hf⟩ := ob_e hf
  refine xi0 h (va_runV (As := []) (rest := []) hC (c_X8_freeze_n l G q v hy1 H.size) (xcgV hC wMH_in lk_L_35 in_X8 co_X8_freeze im_X8_freeze se_X8_freeze rfl rfl dd_X8_freeze ⟨Nat.le_of_ble_eq_true rfl, Nat.le_of_ble_eq_true rfl⟩) (preV0 h (Nat.le_of_ble_eq_true rfl) eBC_0 rfl []) rfl rfl hl.1 rfl (lv_room (Nat.le_of_ble_eq_true rfl)) dL_freeze_1 ⟨Nat.le_of_ble_eq_true rfl, Nat.le_of_ble_eq_true rfl⟩) (fun H locs h => ?_)
  obtain ⟨v3, ev3, hf⟩ := lt_e hf
  rw [← ev3] at h
  have hf := sm_e hf
  exact xiretc hC hr hlk h (by rw [← hf]) (by rw [← hf]) dL_freeze_4
set_option maxHeartbeats 4000000 in
theorem x_L_freeze_xISE (l : Launch) (hst : l.stackTraces = false) (G : xGl) (sa q : Nat → Nat) (v : xSt) {w : xSt} (hf : m_X8_freeze_t v = some (xISE, w)) : mRS l yL_freeze (wMH yL_freeze cL_freeze 2 (some .int) [(0, 4, 5, 15)]) { frames := 7, cells := 1, slots := 6, locals := 189 } G sa (eBC G) 430 q v [.ref (q 0)] (qI (-103 : Int32)) w 1 6 := by
  refine xRSH (cc := cL_freeze) (maxL := 2) (ret := some .int) (hh := [(0, 4, 5, 15)]) (by decide) rfl (Nat.le_of_ble_eq_true rfl) ?_
  intro p e s m below meth c ls A hC hht hr hlk h hT hl
  have hx := hC.1
  have hb := hC.2.1
  have hl : lv_has ls 2 [(0, .ref (q 0))] := hl
  obtain ⟨H, hH⟩ : ∃ H, H = s.heap := ⟨_, rfl⟩
  obtain ⟨locs, hlo⟩ : ∃ x : List Loc, x = [] := ⟨_, rfl⟩
  have h : hg G (eBC G) 430 q v A s H locs := by rw [hH, hlo]; exact h
  rw [← hlo, ← hH]
  clear hH hlo
  refine lv_aload_n hx hb dL_freeze_0 rfl (lv_at hl 0 rfl) ?_
  refine xcth0 h (vx_runV (As := []) (rest := []) hC (c_X8_freeze_t l hst G sa q v hf H.size) (xcgV hC wMH_in lk_L_35 in_X8 co_X8_freeze im_X8_freeze se_X8_freeze rfl rfl dd_X8_freeze ⟨Nat.le_of_ble_eq_true rfl, Nat.le_of_ble_eq_true rfl⟩) (preV0T h hT (Nat.le_of_ble_eq_true rfl) eBC_0 rfl []) rfl rfl hl.1 rfl (lv_room (Nat.le_of_ble_eq_true rfl)) dL_freeze_1 ⟨Nat.le_of_ble_eq_true rfl, Nat.le_of_ble_eq_true rfl⟩) (fun ce q9 H locs h hce hcv hcl => ?_)
  refine vx_catch hC.2.2.2.1 [] ⟨0, 4, 5, 15⟩ [] (hht.trans rfl) (fun z hz => nomatch hz) (by decide) (by decide) (hC.2.2.2.2 _ (wMH_in _ ck_L_15)) (va_Nw.use rfl (hT.2.2.2.1.1 xISE (by decide))) hce hcv hcl ?_
  refine lv_astore_n (lv' := [(1, .ref q9), (0, .ref (q 0))]) hx hb dL_freeze_5 rfl hl (by decide) rfl (fun ls hl => ?_)
  refine lv_bipush (v := (-103 : Int32)) hx hb dL_freeze_6 (by decide) ?_
  exact xiretc hC hr hlk h rfl rfl dL_freeze_8
def m_L_freeze (v : xSt) : Option (Int32 × xSt) := oe (m_L_freeze_n v) (ob (m_X8_freeze_t v) (fun z => (if z.1 = xISE then some ((-103 : Int32), z.2) else none)))
theorem c_L_freeze (l : Launch) (hst : l.stackTraces = false) (G : xGl) (sa q : Nat → Nat) (v : xSt) {z : Int32 × xSt} (hf : m_L_freeze v = some z) : mRS l yL_freeze (wMH yL_freeze cL_freeze 2 (some .int) [(0, 4, 5, 15)]) { frames := 7, cells := 1, slots := 6, locals := 189 } G sa (eBC G) 430 q v [.ref (q 0)] (qI z.1) z.2 1 6 := by
  rcases oe_e hf with g | g
  · exact c_L_freeze_n l G sa q v g
  · obtain ⟨⟨E0, w⟩, hw, g⟩ := ob_e g
    by_cases c0 : E0 = xISE
    · subst c0
      have g := sm_e (it_t (c := xISE = xISE) rfl g)
      subst g
      exact x_L_freeze_xISE l hst G sa q v hw
    have g := it_f (c := E0 = xISE) c0 g
    cases g
def m_L_suspend_n (v : xSt) : Option (Int32 × xSt) := ob (m_X8_suspend_n v) (fun r2 => lt (r2.2) (fun v3 => some (r2.1, v3)))
set_option maxHeartbeats 4000000 in
set_option maxRecDepth 100000 in
theorem c_L_suspend_n (l : Launch) (G : xGl) (sa q : Nat → Nat) (v : xSt) {z : (Int32 × xSt)} (hf : m_L_suspend_n v = some z) : mRS l yL_suspend (wMH yL_suspend cL_suspend 2 (some .int) [(0, 4, 5, 15)]) { frames := 7, cells := 1, slots := 6, locals := 189 } G sa (eBC G) 430 q v [.ref (q 0)] (qI z.1) z.2 1 6 := by
  refine xRSH (cc := cL_suspend) (maxL := 2) (ret := (some .int)) (by decide) rfl (Nat.le_of_ble_eq_true rfl) ?_
  intro p e s m below meth c ls A hC hht hr hlk h hT hl
  have hx := hC.1
  have hb := hC.2.1
  have hl : lv_has ls 2 [(0, .ref (q 0))] := hl
  unfold m_L_suspend_n at hf
  obtain ⟨H, hH⟩ : ∃ H, H = s.heap := ⟨_, rfl⟩
  obtain ⟨locs, hlo⟩ : ∃ x : List Loc, x = [] := ⟨_, rfl⟩
  have h : hg G (eBC G) 430 q v A s H locs := by rw [hH, hlo]; exact h
  rw [← hlo, ← hH]
  clear hH hlo
  refine W.widen (k := 1) (n := 6) (by omega) (by omega) ?_
  refine lv_aload_n hx hb dL_suspend_0 rfl (lv_at hl 0 rfl) ?_
  obtain ⟨r2, hy1, hf⟩ := ob_e hf
  refine xi0 h (va_runV (As := []) (rest := []) hC (c_X8_suspend_n l G q v hy1 H.size) (xcgV hC wMH_in lk_L_38 in_X8 co_X8_suspend im_X8_suspend se_X8_suspend rfl rfl dd_X8_suspend ⟨Nat.le_of_ble_eq_true rfl, Nat.le_of_ble_eq_true rfl⟩) (preV0 h (Nat.le_of_ble_eq_true rfl) eBC_0 rfl []) rfl rfl hl.1 rfl (lv_room (Nat.le_of_ble_eq_true rfl)) dL_suspend_1 ⟨Nat.le_of_ble_eq_true rfl, Nat.le_of_ble_eq_true rfl⟩) (fun H locs h => ?_)
  obtain ⟨v3, ev3, hf⟩ := lt_e hf
  rw [← ev3] at h
  have hf := sm_e hf
  exact xiretc hC hr hlk h (by rw [← hf]) (by rw [← hf]) dL_suspend_4
set_option maxHeartbeats 4000000 in
theorem x_L_suspend_xISE (l : Launch) (hst : l.stackTraces = false) (G : xGl) (sa q : Nat → Nat) (v : xSt) {w : xSt} (hf : m_X8_suspend_t v = some (xISE, w)) : mRS l yL_suspend (wMH yL_suspend cL_suspend 2 (some .int) [(0, 4, 5, 15)]) { frames := 7, cells := 1, slots := 6, locals := 189 } G sa (eBC G) 430 q v [.ref (q 0)] (qI (-103 : Int32)) w 1 6 := by
  refine xRSH (cc := cL_suspend) (maxL := 2) (ret := some .int) (hh := [(0, 4, 5, 15)]) (by decide) rfl (Nat.le_of_ble_eq_true rfl) ?_
  intro p e s m below meth c ls A hC hht hr hlk h hT hl
  have hx := hC.1
  have hb := hC.2.1
  have hl : lv_has ls 2 [(0, .ref (q 0))] := hl
  obtain ⟨H, hH⟩ : ∃ H, H = s.heap := ⟨_, rfl⟩
  obtain ⟨locs, hlo⟩ : ∃ x : List Loc, x = [] := ⟨_, rfl⟩
  have h : hg G (eBC G) 430 q v A s H locs := by rw [hH, hlo]; exact h
  rw [← hlo, ← hH]
  clear hH hlo
  refine lv_aload_n hx hb dL_suspend_0 rfl (lv_at hl 0 rfl) ?_
  refine xcth0 h (vx_runV (As := []) (rest := []) hC (c_X8_suspend_t l hst G sa q v hf H.size) (xcgV hC wMH_in lk_L_38 in_X8 co_X8_suspend im_X8_suspend se_X8_suspend rfl rfl dd_X8_suspend ⟨Nat.le_of_ble_eq_true rfl, Nat.le_of_ble_eq_true rfl⟩) (preV0T h hT (Nat.le_of_ble_eq_true rfl) eBC_0 rfl []) rfl rfl hl.1 rfl (lv_room (Nat.le_of_ble_eq_true rfl)) dL_suspend_1 ⟨Nat.le_of_ble_eq_true rfl, Nat.le_of_ble_eq_true rfl⟩) (fun ce q9 H locs h hce hcv hcl => ?_)
  refine vx_catch hC.2.2.2.1 [] ⟨0, 4, 5, 15⟩ [] (hht.trans rfl) (fun z hz => nomatch hz) (by decide) (by decide) (hC.2.2.2.2 _ (wMH_in _ ck_L_15)) (va_Nw.use rfl (hT.2.2.2.1.1 xISE (by decide))) hce hcv hcl ?_
  refine lv_astore_n (lv' := [(1, .ref q9), (0, .ref (q 0))]) hx hb dL_suspend_5 rfl hl (by decide) rfl (fun ls hl => ?_)
  refine lv_bipush (v := (-103 : Int32)) hx hb dL_suspend_6 (by decide) ?_
  exact xiretc hC hr hlk h rfl rfl dL_suspend_8
def m_L_suspend (v : xSt) : Option (Int32 × xSt) := oe (m_L_suspend_n v) (ob (m_X8_suspend_t v) (fun z => (if z.1 = xISE then some ((-103 : Int32), z.2) else none)))
theorem c_L_suspend (l : Launch) (hst : l.stackTraces = false) (G : xGl) (sa q : Nat → Nat) (v : xSt) {z : Int32 × xSt} (hf : m_L_suspend v = some z) : mRS l yL_suspend (wMH yL_suspend cL_suspend 2 (some .int) [(0, 4, 5, 15)]) { frames := 7, cells := 1, slots := 6, locals := 189 } G sa (eBC G) 430 q v [.ref (q 0)] (qI z.1) z.2 1 6 := by
  rcases oe_e hf with g | g
  · exact c_L_suspend_n l G sa q v g
  · obtain ⟨⟨E0, w⟩, hw, g⟩ := ob_e g
    by_cases c0 : E0 = xISE
    · subst c0
      have g := sm_e (it_t (c := xISE = xISE) rfl g)
      subst g
      exact x_L_suspend_xISE l hst G sa q v hw
    have g := it_f (c := E0 = xISE) c0 g
    cases g
def m_L_resume_n (v : xSt) : Option (Int32 × xSt) := ob (m_X8_resume_n v) (fun r2 => lt (r2.2) (fun v3 => some (r2.1, v3)))
set_option maxHeartbeats 4000000 in
set_option maxRecDepth 100000 in
theorem c_L_resume_n (l : Launch) (G : xGl) (sa q : Nat → Nat) (v : xSt) {z : (Int32 × xSt)} (hf : m_L_resume_n v = some z) : mRS l yL_resume (wMH yL_resume cL_resume 2 (some .int) [(0, 4, 5, 15)]) { frames := 7, cells := 1, slots := 6, locals := 188 } G sa (eBC G) 430 q v [.ref (q 0)] (qI z.1) z.2 1 6 := by
  refine xRSH (cc := cL_resume) (maxL := 2) (ret := (some .int)) (by decide) rfl (Nat.le_of_ble_eq_true rfl) ?_
  intro p e s m below meth c ls A hC hht hr hlk h hT hl
  have hx := hC.1
  have hb := hC.2.1
  have hl : lv_has ls 2 [(0, .ref (q 0))] := hl
  unfold m_L_resume_n at hf
  obtain ⟨H, hH⟩ : ∃ H, H = s.heap := ⟨_, rfl⟩
  obtain ⟨locs, hlo⟩ : ∃ x : List Loc, x = [] := ⟨_, rfl⟩
  have h : hg G (eBC G) 430 q v A s H locs := by rw [hH, hlo]; exact h
  rw [← hlo, ← hH]
  clear hH hlo
  refine W.widen (k := 1) (n := 6) (by omega) (by omega) ?_
  refine lv_aload_n hx hb dL_resume_0 rfl (lv_at hl 0 rfl) ?_
  obtain ⟨r2, hy1, hf⟩ := ob_e hf
  refine xi0 h (va_runV (As := []) (rest := []) hC (c_X8_resume_n l G q v hy1 H.size) (xcgV hC wMH_in lk_L_41 in_X8 co_X8_resume im_X8_resume se_X8_resume rfl rfl dd_X8_resume ⟨Nat.le_of_ble_eq_true rfl, Nat.le_of_ble_eq_true rfl⟩) (preV0 h (Nat.le_of_ble_eq_true rfl) eBC_0 rfl []) rfl rfl hl.1 rfl (lv_room (Nat.le_of_ble_eq_true rfl)) dL_resume_1 ⟨Nat.le_of_ble_eq_true rfl, Nat.le_of_ble_eq_true rfl⟩) (fun H locs h => ?_)
  obtain ⟨v3, ev3, hf⟩ := lt_e hf
  rw [← ev3] at h
  have hf := sm_e hf
  exact xiretc hC hr hlk h (by rw [← hf]) (by rw [← hf]) dL_resume_4
set_option maxHeartbeats 4000000 in
theorem x_L_resume_xISE (l : Launch) (hst : l.stackTraces = false) (G : xGl) (sa q : Nat → Nat) (v : xSt) {w : xSt} (hf : m_X8_resume_t v = some (xISE, w)) : mRS l yL_resume (wMH yL_resume cL_resume 2 (some .int) [(0, 4, 5, 15)]) { frames := 7, cells := 1, slots := 6, locals := 188 } G sa (eBC G) 430 q v [.ref (q 0)] (qI (-103 : Int32)) w 1 6 := by
  refine xRSH (cc := cL_resume) (maxL := 2) (ret := some .int) (hh := [(0, 4, 5, 15)]) (by decide) rfl (Nat.le_of_ble_eq_true rfl) ?_
  intro p e s m below meth c ls A hC hht hr hlk h hT hl
  have hx := hC.1
  have hb := hC.2.1
  have hl : lv_has ls 2 [(0, .ref (q 0))] := hl
  obtain ⟨H, hH⟩ : ∃ H, H = s.heap := ⟨_, rfl⟩
  obtain ⟨locs, hlo⟩ : ∃ x : List Loc, x = [] := ⟨_, rfl⟩
  have h : hg G (eBC G) 430 q v A s H locs := by rw [hH, hlo]; exact h
  rw [← hlo, ← hH]
  clear hH hlo
  refine lv_aload_n hx hb dL_resume_0 rfl (lv_at hl 0 rfl) ?_
  refine xcth0 h (vx_runV (As := []) (rest := []) hC (c_X8_resume_t l hst G sa q v hf H.size) (xcgV hC wMH_in lk_L_41 in_X8 co_X8_resume im_X8_resume se_X8_resume rfl rfl dd_X8_resume ⟨Nat.le_of_ble_eq_true rfl, Nat.le_of_ble_eq_true rfl⟩) (preV0T h hT (Nat.le_of_ble_eq_true rfl) eBC_0 rfl []) rfl rfl hl.1 rfl (lv_room (Nat.le_of_ble_eq_true rfl)) dL_resume_1 ⟨Nat.le_of_ble_eq_true rfl, Nat.le_of_ble_eq_true rfl⟩) (fun ce q9 H locs h hce hcv hcl => ?_)
  refine vx_catch hC.2.2.2.1 [] ⟨0, 4, 5, 15⟩ [] (hht.trans rfl) (fun z hz => nomatch hz) (by decide) (by decide) (hC.2.2.2.2 _ (wMH_in _ ck_L_15)) (va_Nw.use rfl (hT.2.2.2.1.1 xISE (by decide))) hce hcv hcl ?_
  refine lv_astore_n (lv' := [(1, .ref q9), (0, .ref (q 0))]) hx hb dL_resume_5 rfl hl (by decide) rfl (fun ls hl => ?_)
  refine lv_bipush (v := (-103 : Int32)) hx hb dL_resume_6 (by decide) ?_
  exact xiretc hC hr hlk h rfl rfl dL_resume_8
def m_L_resume (v : xSt) : Option (Int32 × xSt) := oe (m_L_resume_n v) (ob (m_X8_resume_t v) (fun z => (if z.1 = xISE then some ((-103 : Int32), z.2) else none)))
theorem c_L_resume (l : Launch) (hst : l.stackTraces = false) (G : xGl) (sa q : Nat → Nat) (v : xSt) {z : Int32 × xSt} (hf : m_L_resume v = some z) : mRS l yL_resume (wMH yL_resume cL_resume 2 (some .int) [(0, 4, 5, 15)]) { frames := 7, cells := 1, slots := 6, locals := 188 } G sa (eBC G) 430 q v [.ref (q 0)] (qI z.1) z.2 1 6 := by
  rcases oe_e hf with g | g
  · exact c_L_resume_n l G sa q v g
  · obtain ⟨⟨E0, w⟩, hw, g⟩ := ob_e g
    by_cases c0 : E0 = xISE
    · subst c0
      have g := sm_e (it_t (c := xISE = xISE) rfl g)
      subst g
      exact x_L_resume_xISE l hst G sa q v hw
    have g := it_f (c := E0 = xISE) c0 g
    cases g
def m_L_post_n (v : xSt) (p1 : Int32) (p2 : Int32) (p3 : Int32) : Option (Int32 × xSt) := ob (m_X8_post_n v p1 p2 p3) (fun r2 => lt (r2.2) (fun v3 => some (r2.1, v3)))
set_option maxHeartbeats 4000000 in
set_option maxRecDepth 100000 in
theorem c_L_post_n (l : Launch) (G : xGl) (sa q : Nat → Nat) (v : xSt) (p1 : Int32) (p2 : Int32) (p3 : Int32) {z : (Int32 × xSt)} (hf : m_L_post_n v p1 p2 p3 = some z) : mRS l yL_post (wMH yL_post cL_post 5 (some .int) [(0, 7, 8, 21), (0, 7, 13, 26), (0, 7, 18, 15)]) { frames := 7, cells := 1, slots := 6, locals := 192 } G sa (eBC G) 430 q v [.ref (q 0), .int p1, .int p2, .int p3] (qI z.1) z.2 1 6 := by
  refine xRSH (cc := cL_post) (maxL := 5) (ret := (some .int)) (by decide) rfl (Nat.le_of_ble_eq_true rfl) ?_
  intro p e s m below meth c ls A hC hht hr hlk h hT hl
  have hx := hC.1
  have hb := hC.2.1
  have hl : lv_has ls 5 [(0, .ref (q 0)), (1, .int p1), (2, .int p2), (3, .int p3)] := hl
  unfold m_L_post_n at hf
  obtain ⟨H, hH⟩ : ∃ H, H = s.heap := ⟨_, rfl⟩
  obtain ⟨locs, hlo⟩ : ∃ x : List Loc, x = [] := ⟨_, rfl⟩
  have h : hg G (eBC G) 430 q v A s H locs := by rw [hH, hlo]; exact h
  rw [← hlo, ← hH]
  clear hH hlo
  refine W.widen (k := 1) (n := 6) (by omega) (by omega) ?_
  refine lv_aload_n hx hb dL_post_0 rfl (lv_at hl 0 rfl) ?_
  refine lv_iload_n hx hb dL_post_1 rfl (lv_at hl 1 rfl) ?_
  refine lv_iload_n hx hb dL_post_2 rfl (lv_at hl 2 rfl) ?_
  refine lv_iload_n hx hb dL_post_3 rfl (lv_at hl 3 rfl) ?_
  obtain ⟨r2, hy1, hf⟩ := ob_e hf
  refine xi0 h (va_runV (As := [.int p1, .int p2, .int p3]) (rest := []) hC (c_X8_post_n l G q v p1 p2 p3 hy1 H.size) (xcgV hC wMH_in lk_L_44 in_X8 co_X8_post im_X8_post se_X8_post rfl rfl dd_X8_post ⟨Nat.le_of_ble_eq_true rfl, Nat.le_of_ble_eq_true rfl⟩) (preV0 h (Nat.le_of_ble_eq_true rfl) eBC_0 rfl [.int p1, .int p2, .int p3]) rfl rfl hl.1 rfl (lv_room (Nat.le_of_ble_eq_true rfl)) dL_post_4 ⟨Nat.le_of_ble_eq_true rfl, Nat.le_of_ble_eq_true rfl⟩) (fun H locs h => ?_)
  obtain ⟨v3, ev3, hf⟩ := lt_e hf
  rw [← ev3] at h
  have hf := sm_e hf
  exact xiretc hC hr hlk h (by rw [← hf]) (by rw [← hf]) dL_post_7
set_option maxHeartbeats 4000000 in
theorem x_L_post_xIAE (l : Launch) (hst : l.stackTraces = false) (G : xGl) (sa q : Nat → Nat) (v : xSt) (p1 : Int32) (p2 : Int32) (p3 : Int32) {w : xSt} (hf : m_X8_post_t v p1 p2 p3 = some (xIAE, w)) : mRS l yL_post (wMH yL_post cL_post 5 (some .int) [(0, 7, 8, 21), (0, 7, 13, 26), (0, 7, 18, 15)]) { frames := 7, cells := 1, slots := 6, locals := 192 } G sa (eBC G) 430 q v [.ref (q 0), .int p1, .int p2, .int p3] (qI (-102 : Int32)) w 1 6 := by
  refine xRSH (cc := cL_post) (maxL := 5) (ret := some .int) (hh := [(0, 7, 8, 21), (0, 7, 13, 26), (0, 7, 18, 15)]) (by decide) rfl (Nat.le_of_ble_eq_true rfl) ?_
  intro p e s m below meth c ls A hC hht hr hlk h hT hl
  have hx := hC.1
  have hb := hC.2.1
  have hl : lv_has ls 5 [(0, .ref (q 0)), (1, .int p1), (2, .int p2), (3, .int p3)] := hl
  obtain ⟨H, hH⟩ : ∃ H, H = s.heap := ⟨_, rfl⟩
  obtain ⟨locs, hlo⟩ : ∃ x : List Loc, x = [] := ⟨_, rfl⟩
  have h : hg G (eBC G) 430 q v A s H locs := by rw [hH, hlo]; exact h
  rw [← hlo, ← hH]
  clear hH hlo
  refine lv_aload_n hx hb dL_post_0 rfl (lv_at hl 0 rfl) ?_
  refine lv_iload_n hx hb dL_post_1 rfl (lv_at hl 1 rfl) ?_
  refine lv_iload_n hx hb dL_post_2 rfl (lv_at hl 2 rfl) ?_
  refine lv_iload_n hx hb dL_post_3 rfl (lv_at hl 3 rfl) ?_
  refine xcth0 h (vx_runV (As := [.int p1, .int p2, .int p3]) (rest := []) hC (c_X8_post_t l hst G sa q v p1 p2 p3 hf H.size) (xcgV hC wMH_in lk_L_44 in_X8 co_X8_post im_X8_post se_X8_post rfl rfl dd_X8_post ⟨Nat.le_of_ble_eq_true rfl, Nat.le_of_ble_eq_true rfl⟩) (preV0T h hT (Nat.le_of_ble_eq_true rfl) eBC_0 rfl [.int p1, .int p2, .int p3]) rfl rfl hl.1 rfl (lv_room (Nat.le_of_ble_eq_true rfl)) dL_post_4 ⟨Nat.le_of_ble_eq_true rfl, Nat.le_of_ble_eq_true rfl⟩) (fun ce q9 H locs h hce hcv hcl => ?_)
  refine vx_catch hC.2.2.2.1 [] ⟨0, 7, 8, 21⟩ [⟨0, 7, 13, 26⟩, ⟨0, 7, 18, 15⟩] (hht.trans rfl) (fun z hz => nomatch hz) (by decide) (by decide) (hC.2.2.2.2 _ (wMH_in _ ck_L_21)) (va_Nw.use rfl (hT.2.2.2.1.1 xIAE (by decide))) hce hcv hcl ?_
  refine lv_astore (lv' := [(4, .ref q9), (0, .ref (q 0)), (1, .int p1), (2, .int p2), (3, .int p3)]) hx hb dL_post_8 hl (by decide) rfl (fun ls hl => ?_)
  refine lv_bipush (v := (-102 : Int32)) hx hb dL_post_10 (by decide) ?_
  exact xiretc hC hr hlk h rfl rfl dL_post_12
set_option maxHeartbeats 4000000 in
theorem x_L_post_xIOB (l : Launch) (hst : l.stackTraces = false) (G : xGl) (sa q : Nat → Nat) (v : xSt) (p1 : Int32) (p2 : Int32) (p3 : Int32) {w : xSt} (hf : m_X8_post_t v p1 p2 p3 = some (xIOB, w)) : mRS l yL_post (wMH yL_post cL_post 5 (some .int) [(0, 7, 8, 21), (0, 7, 13, 26), (0, 7, 18, 15)]) { frames := 7, cells := 1, slots := 6, locals := 192 } G sa (eBC G) 430 q v [.ref (q 0), .int p1, .int p2, .int p3] (qI (-101 : Int32)) w 1 6 := by
  refine xRSH (cc := cL_post) (maxL := 5) (ret := some .int) (hh := [(0, 7, 8, 21), (0, 7, 13, 26), (0, 7, 18, 15)]) (by decide) rfl (Nat.le_of_ble_eq_true rfl) ?_
  intro p e s m below meth c ls A hC hht hr hlk h hT hl
  have hx := hC.1
  have hb := hC.2.1
  have hl : lv_has ls 5 [(0, .ref (q 0)), (1, .int p1), (2, .int p2), (3, .int p3)] := hl
  obtain ⟨H, hH⟩ : ∃ H, H = s.heap := ⟨_, rfl⟩
  obtain ⟨locs, hlo⟩ : ∃ x : List Loc, x = [] := ⟨_, rfl⟩
  have h : hg G (eBC G) 430 q v A s H locs := by rw [hH, hlo]; exact h
  rw [← hlo, ← hH]
  clear hH hlo
  refine lv_aload_n hx hb dL_post_0 rfl (lv_at hl 0 rfl) ?_
  refine lv_iload_n hx hb dL_post_1 rfl (lv_at hl 1 rfl) ?_
  refine lv_iload_n hx hb dL_post_2 rfl (lv_at hl 2 rfl) ?_
  refine lv_iload_n hx hb dL_post_3 rfl (lv_at hl 3 rfl) ?_
  refine xcth0 h (vx_runV (As := [.int p1, .int p2, .int p3]) (rest := []) hC (c_X8_post_t l hst G sa q v p1 p2 p3 hf H.size) (xcgV hC wMH_in lk_L_44 in_X8 co_X8_post im_X8_post se_X8_post rfl rfl dd_X8_post ⟨Nat.le_of_ble_eq_true rfl, Nat.le_of_ble_eq_true rfl⟩) (preV0T h hT (Nat.le_of_ble_eq_true rfl) eBC_0 rfl [.int p1, .int p2, .int p3]) rfl rfl hl.1 rfl (lv_room (Nat.le_of_ble_eq_true rfl)) dL_post_4 ⟨Nat.le_of_ble_eq_true rfl, Nat.le_of_ble_eq_true rfl⟩) (fun ce q9 H locs h hce hcv hcl => ?_)
  refine vx_catch hC.2.2.2.1 [⟨0, 7, 8, 21⟩] ⟨0, 7, 13, 26⟩ [⟨0, 7, 18, 15⟩] (hht.trans rfl) (List.forall_mem_singleton.mpr (Or.inr ⟨by decide, xIAE, hC.2.2.2.2 _ (wMH_in _ ck_L_21), hT.2.2.2.2.1 xIOB (by decide) xIAE (by decide) (by decide +kernel)⟩)) (by decide) (by decide) (hC.2.2.2.2 _ (wMH_in _ ck_L_26)) (va_Nw.use rfl (hT.2.2.2.1.1 xIOB (by decide))) hce hcv hcl ?_
  refine lv_astore (lv' := [(4, .ref q9), (0, .ref (q 0)), (1, .int p1), (2, .int p2), (3, .int p3)]) hx hb dL_post_13 hl (by decide) rfl (fun ls hl => ?_)
  refine lv_bipush (v := (-101 : Int32)) hx hb dL_post_15 (by decide) ?_
  exact xiretc hC hr hlk h rfl rfl dL_post_17
set_option maxHeartbeats 4000000 in
theorem x_L_post_xISE (l : Launch) (hst : l.stackTraces = false) (G : xGl) (sa q : Nat → Nat) (v : xSt) (p1 : Int32) (p2 : Int32) (p3 : Int32) {w : xSt} (hf : m_X8_post_t v p1 p2 p3 = some (xISE, w)) : mRS l yL_post (wMH yL_post cL_post 5 (some .int) [(0, 7, 8, 21), (0, 7, 13, 26), (0, 7, 18, 15)]) { frames := 7, cells := 1, slots := 6, locals := 192 } G sa (eBC G) 430 q v [.ref (q 0), .int p1, .int p2, .int p3] (qI (-103 : Int32)) w 1 6 := by
  refine xRSH (cc := cL_post) (maxL := 5) (ret := some .int) (hh := [(0, 7, 8, 21), (0, 7, 13, 26), (0, 7, 18, 15)]) (by decide) rfl (Nat.le_of_ble_eq_true rfl) ?_
  intro p e s m below meth c ls A hC hht hr hlk h hT hl
  have hx := hC.1
  have hb := hC.2.1
  have hl : lv_has ls 5 [(0, .ref (q 0)), (1, .int p1), (2, .int p2), (3, .int p3)] := hl
  obtain ⟨H, hH⟩ : ∃ H, H = s.heap := ⟨_, rfl⟩
  obtain ⟨locs, hlo⟩ : ∃ x : List Loc, x = [] := ⟨_, rfl⟩
  have h : hg G (eBC G) 430 q v A s H locs := by rw [hH, hlo]; exact h
  rw [← hlo, ← hH]
  clear hH hlo
  refine lv_aload_n hx hb dL_post_0 rfl (lv_at hl 0 rfl) ?_
  refine lv_iload_n hx hb dL_post_1 rfl (lv_at hl 1 rfl) ?_
  refine lv_iload_n hx hb dL_post_2 rfl (lv_at hl 2 rfl) ?_
  refine lv_iload_n hx hb dL_post_3 rfl (lv_at hl 3 rfl) ?_
  refine xcth0 h (vx_runV (As := [.int p1, .int p2, .int p3]) (rest := []) hC (c_X8_post_t l hst G sa q v p1 p2 p3 hf H.size) (xcgV hC wMH_in lk_L_44 in_X8 co_X8_post im_X8_post se_X8_post rfl rfl dd_X8_post ⟨Nat.le_of_ble_eq_true rfl, Nat.le_of_ble_eq_true rfl⟩) (preV0T h hT (Nat.le_of_ble_eq_true rfl) eBC_0 rfl [.int p1, .int p2, .int p3]) rfl rfl hl.1 rfl (lv_room (Nat.le_of_ble_eq_true rfl)) dL_post_4 ⟨Nat.le_of_ble_eq_true rfl, Nat.le_of_ble_eq_true rfl⟩) (fun ce q9 H locs h hce hcv hcl => ?_)
  refine vx_catch hC.2.2.2.1 [⟨0, 7, 8, 21⟩, ⟨0, 7, 13, 26⟩] ⟨0, 7, 18, 15⟩ [] (hht.trans rfl) (List.forall_mem_cons.mpr ⟨(Or.inr ⟨by decide, xIAE, hC.2.2.2.2 _ (wMH_in _ ck_L_21), hT.2.2.2.2.1 xISE (by decide) xIAE (by decide) (by decide +kernel)⟩), List.forall_mem_singleton.mpr (Or.inr ⟨by decide, xIOB, hC.2.2.2.2 _ (wMH_in _ ck_L_26), hT.2.2.2.2.1 xISE (by decide) xIOB (by decide) (by decide +kernel)⟩)⟩) (by decide) (by decide) (hC.2.2.2.2 _ (wMH_in _ ck_L_15)) (va_Nw.use rfl (hT.2.2.2.1.1 xISE (by decide))) hce hcv hcl ?_
  refine lv_astore (lv' := [(4, .ref q9), (0, .ref (q 0)), (1, .int p1), (2, .int p2), (3, .int p3)]) hx hb dL_post_18 hl (by decide) rfl (fun ls hl => ?_)
  refine lv_bipush (v := (-103 : Int32)) hx hb dL_post_20 (by decide) ?_
  exact xiretc hC hr hlk h rfl rfl dL_post_22
def m_L_post (v : xSt) (p1 : Int32) (p2 : Int32) (p3 : Int32) : Option (Int32 × xSt) := oe (m_L_post_n v p1 p2 p3) (ob (m_X8_post_t v p1 p2 p3) (fun z => (if z.1 = xIAE then some ((-102 : Int32), z.2) else (if z.1 = xIOB then some ((-101 : Int32), z.2) else (if z.1 = xISE then some ((-103 : Int32), z.2) else none)))))
theorem c_L_post (l : Launch) (hst : l.stackTraces = false) (G : xGl) (sa q : Nat → Nat) (v : xSt) (p1 : Int32) (p2 : Int32) (p3 : Int32) {z : Int32 × xSt} (hf : m_L_post v p1 p2 p3 = some z) : mRS l yL_post (wMH yL_post cL_post 5 (some .int) [(0, 7, 8, 21), (0, 7, 13, 26), (0, 7, 18, 15)]) { frames := 7, cells := 1, slots := 6, locals := 192 } G sa (eBC G) 430 q v [.ref (q 0), .int p1, .int p2, .int p3] (qI z.1) z.2 1 6 := by
  rcases oe_e hf with g | g
  · exact c_L_post_n l G sa q v p1 p2 p3 g
  · obtain ⟨⟨E0, w⟩, hw, g⟩ := ob_e g
    by_cases c0 : E0 = xIAE
    · subst c0
      have g := sm_e (it_t (c := xIAE = xIAE) rfl g)
      subst g
      exact x_L_post_xIAE l hst G sa q v p1 p2 p3 hw
    have g := it_f (c := E0 = xIAE) c0 g
    by_cases c1 : E0 = xIOB
    · subst c1
      have g := sm_e (it_t (c := xIOB = xIOB) rfl g)
      subst g
      exact x_L_post_xIOB l hst G sa q v p1 p2 p3 hw
    have g := it_f (c := E0 = xIOB) c1 g
    by_cases c2 : E0 = xISE
    · subst c2
      have g := sm_e (it_t (c := xISE = xISE) rfl g)
      subst g
      exact x_L_post_xISE l hst G sa q v p1 p2 p3 hw
    have g := it_f (c := E0 = xISE) c2 g
    cases g
def m_L_withdraw_n (v : xSt) (p1 : Int32) : Option (Int32 × xSt) := ob (m_X8_withdraw_n v p1) (fun r2 => lt (r2.2) (fun v3 => some (r2.1, v3)))
set_option maxHeartbeats 4000000 in
set_option maxRecDepth 100000 in
theorem c_L_withdraw_n (l : Launch) (G : xGl) (sa q : Nat → Nat) (v : xSt) (p1 : Int32) {z : (Int32 × xSt)} (hf : m_L_withdraw_n v p1 = some z) : mRS l yL_withdraw (wMH yL_withdraw cL_withdraw 3 (some .int) [(0, 5, 6, 26)]) { frames := 7, cells := 1, slots := 6, locals := 190 } G sa (eBC G) 430 q v [.ref (q 0), .int p1] (qI z.1) z.2 1 6 := by
  refine xRSH (cc := cL_withdraw) (maxL := 3) (ret := (some .int)) (by decide) rfl (Nat.le_of_ble_eq_true rfl) ?_
  intro p e s m below meth c ls A hC hht hr hlk h hT hl
  have hx := hC.1
  have hb := hC.2.1
  have hl : lv_has ls 3 [(0, .ref (q 0)), (1, .int p1)] := hl
  unfold m_L_withdraw_n at hf
  obtain ⟨H, hH⟩ : ∃ H, H = s.heap := ⟨_, rfl⟩
  obtain ⟨locs, hlo⟩ : ∃ x : List Loc, x = [] := ⟨_, rfl⟩
  have h : hg G (eBC G) 430 q v A s H locs := by rw [hH, hlo]; exact h
  rw [← hlo, ← hH]
  clear hH hlo
  refine W.widen (k := 1) (n := 6) (by omega) (by omega) ?_
  refine lv_aload_n hx hb dL_withdraw_0 rfl (lv_at hl 0 rfl) ?_
  refine lv_iload_n hx hb dL_withdraw_1 rfl (lv_at hl 1 rfl) ?_
  obtain ⟨r2, hy1, hf⟩ := ob_e hf
  refine xi0 h (va_runV (As := [.int p1]) (rest := []) hC (c_X8_withdraw_n l G q v p1 hy1 H.size) (xcgV hC wMH_in lk_L_48 in_X8 co_X8_withdraw im_X8_withdraw se_X8_withdraw rfl rfl dd_X8_withdraw ⟨Nat.le_of_ble_eq_true rfl, Nat.le_of_ble_eq_true rfl⟩) (preV0 h (Nat.le_of_ble_eq_true rfl) eBC_0 rfl [.int p1]) rfl rfl hl.1 rfl (lv_room (Nat.le_of_ble_eq_true rfl)) dL_withdraw_2 ⟨Nat.le_of_ble_eq_true rfl, Nat.le_of_ble_eq_true rfl⟩) (fun H locs h => ?_)
  obtain ⟨v3, ev3, hf⟩ := lt_e hf
  rw [← ev3] at h
  have hf := sm_e hf
  exact xiretc hC hr hlk h (by rw [← hf]) (by rw [← hf]) dL_withdraw_5
set_option maxHeartbeats 4000000 in
theorem x_L_withdraw_xIOB (l : Launch) (hst : l.stackTraces = false) (G : xGl) (sa q : Nat → Nat) (v : xSt) (p1 : Int32) {w : xSt} (hf : m_X8_withdraw_t v p1 = some (xIOB, w)) : mRS l yL_withdraw (wMH yL_withdraw cL_withdraw 3 (some .int) [(0, 5, 6, 26)]) { frames := 7, cells := 1, slots := 6, locals := 190 } G sa (eBC G) 430 q v [.ref (q 0), .int p1] (qI (-101 : Int32)) w 1 6 := by
  refine xRSH (cc := cL_withdraw) (maxL := 3) (ret := some .int) (hh := [(0, 5, 6, 26)]) (by decide) rfl (Nat.le_of_ble_eq_true rfl) ?_
  intro p e s m below meth c ls A hC hht hr hlk h hT hl
  have hx := hC.1
  have hb := hC.2.1
  have hl : lv_has ls 3 [(0, .ref (q 0)), (1, .int p1)] := hl
  obtain ⟨H, hH⟩ : ∃ H, H = s.heap := ⟨_, rfl⟩
  obtain ⟨locs, hlo⟩ : ∃ x : List Loc, x = [] := ⟨_, rfl⟩
  have h : hg G (eBC G) 430 q v A s H locs := by rw [hH, hlo]; exact h
  rw [← hlo, ← hH]
  clear hH hlo
  refine lv_aload_n hx hb dL_withdraw_0 rfl (lv_at hl 0 rfl) ?_
  refine lv_iload_n hx hb dL_withdraw_1 rfl (lv_at hl 1 rfl) ?_
  refine xcth0 h (vx_runV (As := [.int p1]) (rest := []) hC (c_X8_withdraw_t l hst G sa q v p1 hf H.size) (xcgV hC wMH_in lk_L_48 in_X8 co_X8_withdraw im_X8_withdraw se_X8_withdraw rfl rfl dd_X8_withdraw ⟨Nat.le_of_ble_eq_true rfl, Nat.le_of_ble_eq_true rfl⟩) (preV0T h hT (Nat.le_of_ble_eq_true rfl) eBC_0 rfl [.int p1]) rfl rfl hl.1 rfl (lv_room (Nat.le_of_ble_eq_true rfl)) dL_withdraw_2 ⟨Nat.le_of_ble_eq_true rfl, Nat.le_of_ble_eq_true rfl⟩) (fun ce q9 H locs h hce hcv hcl => ?_)
  refine vx_catch hC.2.2.2.1 [] ⟨0, 5, 6, 26⟩ [] (hht.trans rfl) (fun z hz => nomatch hz) (by decide) (by decide) (hC.2.2.2.2 _ (wMH_in _ ck_L_26)) (va_Nw.use rfl (hT.2.2.2.1.1 xIOB (by decide))) hce hcv hcl ?_
  refine lv_astore_n (lv' := [(2, .ref q9), (0, .ref (q 0)), (1, .int p1)]) hx hb dL_withdraw_6 rfl hl (by decide) rfl (fun ls hl => ?_)
  refine lv_bipush (v := (-101 : Int32)) hx hb dL_withdraw_7 (by decide) ?_
  exact xiretc hC hr hlk h rfl rfl dL_withdraw_9
def m_L_withdraw (v : xSt) (p1 : Int32) : Option (Int32 × xSt) := oe (m_L_withdraw_n v p1) (ob (m_X8_withdraw_t v p1) (fun z => (if z.1 = xIOB then some ((-101 : Int32), z.2) else none)))
theorem c_L_withdraw (l : Launch) (hst : l.stackTraces = false) (G : xGl) (sa q : Nat → Nat) (v : xSt) (p1 : Int32) {z : Int32 × xSt} (hf : m_L_withdraw v p1 = some z) : mRS l yL_withdraw (wMH yL_withdraw cL_withdraw 3 (some .int) [(0, 5, 6, 26)]) { frames := 7, cells := 1, slots := 6, locals := 190 } G sa (eBC G) 430 q v [.ref (q 0), .int p1] (qI z.1) z.2 1 6 := by
  rcases oe_e hf with g | g
  · exact c_L_withdraw_n l G sa q v p1 g
  · obtain ⟨⟨E0, w⟩, hw, g⟩ := ob_e g
    by_cases c0 : E0 = xIOB
    · subst c0
      have g := sm_e (it_t (c := xIOB = xIOB) rfl g)
      subst g
      exact x_L_withdraw_xIOB l hst G sa q v p1 hw
    have g := it_f (c := E0 = xIOB) c0 g
    cases g
def m_L_pass_n (v : xSt) (p1 : Int32) : Option (Int32 × xSt) := ob (m_X8_pass_n v p1) (fun r2 => lt (r2.2) (fun v3 => some (r2.1, v3)))
set_option maxHeartbeats 4000000 in
set_option maxRecDepth 100000 in
theorem c_L_pass_n (l : Launch) (G : xGl) (sa q : Nat → Nat) (v : xSt) (p1 : Int32) {z : (Int32 × xSt)} (hf : m_L_pass_n v p1 = some z) : mRS l yL_pass (wMH yL_pass cL_pass 3 (some .int) [(0, 5, 6, 21)]) { frames := 7, cells := 1, slots := 6, locals := 191 } G sa (eBC G) 430 q v [.ref (q 0), .int p1] (qI z.1) z.2 1 6 := by
  refine xRSH (cc := cL_pass) (maxL := 3) (ret := (some .int)) (by decide) rfl (Nat.le_of_ble_eq_true rfl) ?_
  intro p e s m below meth c ls A hC hht hr hlk h hT hl
  have hx := hC.1
  have hb := hC.2.1
  have hl : lv_has ls 3 [(0, .ref (q 0)), (1, .int p1)] := hl
  unfold m_L_pass_n at hf
  obtain ⟨H, hH⟩ : ∃ H, H = s.heap := ⟨_, rfl⟩
  obtain ⟨locs, hlo⟩ : ∃ x : List Loc, x = [] := ⟨_, rfl⟩
  have h : hg G (eBC G) 430 q v A s H locs := by rw [hH, hlo]; exact h
  rw [← hlo, ← hH]
  clear hH hlo
  refine W.widen (k := 1) (n := 6) (by omega) (by omega) ?_
  refine lv_aload_n hx hb dL_pass_0 rfl (lv_at hl 0 rfl) ?_
  refine lv_iload_n hx hb dL_pass_1 rfl (lv_at hl 1 rfl) ?_
  obtain ⟨r2, hy1, hf⟩ := ob_e hf
  refine xi0 h (va_runV (As := [.int p1]) (rest := []) hC (c_X8_pass_n l G q v p1 hy1 H.size) (xcgV hC wMH_in lk_L_51 in_X8 co_X8_pass im_X8_pass se_X8_pass rfl rfl dd_X8_pass ⟨Nat.le_of_ble_eq_true rfl, Nat.le_of_ble_eq_true rfl⟩) (preV0 h (Nat.le_of_ble_eq_true rfl) eBC_0 rfl [.int p1]) rfl rfl hl.1 rfl (lv_room (Nat.le_of_ble_eq_true rfl)) dL_pass_2 ⟨Nat.le_of_ble_eq_true rfl, Nat.le_of_ble_eq_true rfl⟩) (fun H locs h => ?_)
  obtain ⟨v3, ev3, hf⟩ := lt_e hf
  rw [← ev3] at h
  have hf := sm_e hf
  exact xiretc hC hr hlk h (by rw [← hf]) (by rw [← hf]) dL_pass_5
set_option maxHeartbeats 4000000 in
theorem x_L_pass_xIAE (l : Launch) (hst : l.stackTraces = false) (G : xGl) (sa q : Nat → Nat) (v : xSt) (p1 : Int32) {w : xSt} (hf : m_X8_pass_t v p1 = some (xIAE, w)) : mRS l yL_pass (wMH yL_pass cL_pass 3 (some .int) [(0, 5, 6, 21)]) { frames := 7, cells := 1, slots := 6, locals := 191 } G sa (eBC G) 430 q v [.ref (q 0), .int p1] (qI (-102 : Int32)) w 1 6 := by
  refine xRSH (cc := cL_pass) (maxL := 3) (ret := some .int) (hh := [(0, 5, 6, 21)]) (by decide) rfl (Nat.le_of_ble_eq_true rfl) ?_
  intro p e s m below meth c ls A hC hht hr hlk h hT hl
  have hx := hC.1
  have hb := hC.2.1
  have hl : lv_has ls 3 [(0, .ref (q 0)), (1, .int p1)] := hl
  obtain ⟨H, hH⟩ : ∃ H, H = s.heap := ⟨_, rfl⟩
  obtain ⟨locs, hlo⟩ : ∃ x : List Loc, x = [] := ⟨_, rfl⟩
  have h : hg G (eBC G) 430 q v A s H locs := by rw [hH, hlo]; exact h
  rw [← hlo, ← hH]
  clear hH hlo
  refine lv_aload_n hx hb dL_pass_0 rfl (lv_at hl 0 rfl) ?_
  refine lv_iload_n hx hb dL_pass_1 rfl (lv_at hl 1 rfl) ?_
  refine xcth0 h (vx_runV (As := [.int p1]) (rest := []) hC (c_X8_pass_t l hst G sa q v p1 hf H.size) (xcgV hC wMH_in lk_L_51 in_X8 co_X8_pass im_X8_pass se_X8_pass rfl rfl dd_X8_pass ⟨Nat.le_of_ble_eq_true rfl, Nat.le_of_ble_eq_true rfl⟩) (preV0T h hT (Nat.le_of_ble_eq_true rfl) eBC_0 rfl [.int p1]) rfl rfl hl.1 rfl (lv_room (Nat.le_of_ble_eq_true rfl)) dL_pass_2 ⟨Nat.le_of_ble_eq_true rfl, Nat.le_of_ble_eq_true rfl⟩) (fun ce q9 H locs h hce hcv hcl => ?_)
  refine vx_catch hC.2.2.2.1 [] ⟨0, 5, 6, 21⟩ [] (hht.trans rfl) (fun z hz => nomatch hz) (by decide) (by decide) (hC.2.2.2.2 _ (wMH_in _ ck_L_21)) (va_Nw.use rfl (hT.2.2.2.1.1 xIAE (by decide))) hce hcv hcl ?_
  refine lv_astore_n (lv' := [(2, .ref q9), (0, .ref (q 0)), (1, .int p1)]) hx hb dL_pass_6 rfl hl (by decide) rfl (fun ls hl => ?_)
  refine lv_bipush (v := (-102 : Int32)) hx hb dL_pass_7 (by decide) ?_
  exact xiretc hC hr hlk h rfl rfl dL_pass_9
def m_L_pass (v : xSt) (p1 : Int32) : Option (Int32 × xSt) := oe (m_L_pass_n v p1) (ob (m_X8_pass_t v p1) (fun z => (if z.1 = xIAE then some ((-102 : Int32), z.2) else none)))
theorem c_L_pass (l : Launch) (hst : l.stackTraces = false) (G : xGl) (sa q : Nat → Nat) (v : xSt) (p1 : Int32) {z : Int32 × xSt} (hf : m_L_pass v p1 = some z) : mRS l yL_pass (wMH yL_pass cL_pass 3 (some .int) [(0, 5, 6, 21)]) { frames := 7, cells := 1, slots := 6, locals := 191 } G sa (eBC G) 430 q v [.ref (q 0), .int p1] (qI z.1) z.2 1 6 := by
  rcases oe_e hf with g | g
  · exact c_L_pass_n l G sa q v p1 g
  · obtain ⟨⟨E0, w⟩, hw, g⟩ := ob_e g
    by_cases c0 : E0 = xIAE
    · subst c0
      have g := sm_e (it_t (c := xIAE = xIAE) rfl g)
      subst g
      exact x_L_pass_xIAE l hst G sa q v p1 hw
    have g := it_f (c := E0 = xIAE) c0 g
    cases g
def m_L_set_n (v : xSt) (p1 : Int32) (p2 : Int32) : Option (Int32 × xSt) := ob (m_X8_set_n v p1 p2) (fun r2 => lt (r2.2) (fun v3 => some (r2.1, v3)))
set_option maxHeartbeats 4000000 in
set_option maxRecDepth 100000 in
theorem c_L_set_n (l : Launch) (G : xGl) (sa q : Nat → Nat) (v : xSt) (p1 : Int32) (p2 : Int32) {z : (Int32 × xSt)} (hf : m_L_set_n v p1 p2 = some z) : mRS l yL_set (wMH yL_set cL_set 4 (some .int) [(0, 6, 7, 26), (0, 6, 11, 21)]) { frames := 7, cells := 1, slots := 6, locals := 191 } G sa (eBC G) 430 q v [.ref (q 0), .int p1, .int p2] (qI z.1) z.2 1 6 := by
  refine xRSH (cc := cL_set) (maxL := 4) (ret := (some .int)) (by decide) rfl (Nat.le_of_ble_eq_true rfl) ?_
  intro p e s m below meth c ls A hC hht hr hlk h hT hl
  have hx := hC.1
  have hb := hC.2.1
  have hl : lv_has ls 4 [(0, .ref (q 0)), (1, .int p1), (2, .int p2)] := hl
  unfold m_L_set_n at hf
  obtain ⟨H, hH⟩ : ∃ H, H = s.heap := ⟨_, rfl⟩
  obtain ⟨locs, hlo⟩ : ∃ x : List Loc, x = [] := ⟨_, rfl⟩
  have h : hg G (eBC G) 430 q v A s H locs := by rw [hH, hlo]; exact h
  rw [← hlo, ← hH]
  clear hH hlo
  refine W.widen (k := 1) (n := 6) (by omega) (by omega) ?_
  refine lv_aload_n hx hb dL_set_0 rfl (lv_at hl 0 rfl) ?_
  refine lv_iload_n hx hb dL_set_1 rfl (lv_at hl 1 rfl) ?_
  refine lv_iload_n hx hb dL_set_2 rfl (lv_at hl 2 rfl) ?_
  obtain ⟨r2, hy1, hf⟩ := ob_e hf
  refine xi0 h (va_runV (As := [.int p1, .int p2]) (rest := []) hC (c_X8_set_n l G sa q v p1 p2 hy1 H.size) (xcgV hC wMH_in lk_L_54 in_X8 co_X8_set im_X8_set se_X8_set rfl rfl dd_X8_set ⟨Nat.le_of_ble_eq_true rfl, Nat.le_of_ble_eq_true rfl⟩) (preV0T h hT (Nat.le_of_ble_eq_true rfl) eBC_0 rfl [.int p1, .int p2]) rfl rfl hl.1 rfl (lv_room (Nat.le_of_ble_eq_true rfl)) dL_set_3 ⟨Nat.le_of_ble_eq_true rfl, Nat.le_of_ble_eq_true rfl⟩) (fun H locs h => ?_)
  obtain ⟨v3, ev3, hf⟩ := lt_e hf
  rw [← ev3] at h
  have hf := sm_e hf
  exact xiretc hC hr hlk h (by rw [← hf]) (by rw [← hf]) dL_set_6
set_option maxHeartbeats 4000000 in
theorem x_L_set_xIOB (l : Launch) (hst : l.stackTraces = false) (G : xGl) (sa q : Nat → Nat) (v : xSt) (p1 : Int32) (p2 : Int32) {w : xSt} (hf : m_X8_set_t v p1 p2 = some (xIOB, w)) : mRS l yL_set (wMH yL_set cL_set 4 (some .int) [(0, 6, 7, 26), (0, 6, 11, 21)]) { frames := 7, cells := 1, slots := 6, locals := 191 } G sa (eBC G) 430 q v [.ref (q 0), .int p1, .int p2] (qI (-101 : Int32)) w 1 6 := by
  refine xRSH (cc := cL_set) (maxL := 4) (ret := some .int) (hh := [(0, 6, 7, 26), (0, 6, 11, 21)]) (by decide) rfl (Nat.le_of_ble_eq_true rfl) ?_
  intro p e s m below meth c ls A hC hht hr hlk h hT hl
  have hx := hC.1
  have hb := hC.2.1
  have hl : lv_has ls 4 [(0, .ref (q 0)), (1, .int p1), (2, .int p2)] := hl
  obtain ⟨H, hH⟩ : ∃ H, H = s.heap := ⟨_, rfl⟩
  obtain ⟨locs, hlo⟩ : ∃ x : List Loc, x = [] := ⟨_, rfl⟩
  have h : hg G (eBC G) 430 q v A s H locs := by rw [hH, hlo]; exact h
  rw [← hlo, ← hH]
  clear hH hlo
  refine lv_aload_n hx hb dL_set_0 rfl (lv_at hl 0 rfl) ?_
  refine lv_iload_n hx hb dL_set_1 rfl (lv_at hl 1 rfl) ?_
  refine lv_iload_n hx hb dL_set_2 rfl (lv_at hl 2 rfl) ?_
  refine xcth0 h (vx_runV (As := [.int p1, .int p2]) (rest := []) hC (c_X8_set_t l hst G sa q v p1 p2 hf H.size) (xcgV hC wMH_in lk_L_54 in_X8 co_X8_set im_X8_set se_X8_set rfl rfl dd_X8_set ⟨Nat.le_of_ble_eq_true rfl, Nat.le_of_ble_eq_true rfl⟩) (preV0T h hT (Nat.le_of_ble_eq_true rfl) eBC_0 rfl [.int p1, .int p2]) rfl rfl hl.1 rfl (lv_room (Nat.le_of_ble_eq_true rfl)) dL_set_3 ⟨Nat.le_of_ble_eq_true rfl, Nat.le_of_ble_eq_true rfl⟩) (fun ce q9 H locs h hce hcv hcl => ?_)
  refine vx_catch hC.2.2.2.1 [] ⟨0, 6, 7, 26⟩ [⟨0, 6, 11, 21⟩] (hht.trans rfl) (fun z hz => nomatch hz) (by decide) (by decide) (hC.2.2.2.2 _ (wMH_in _ ck_L_26)) (va_Nw.use rfl (hT.2.2.2.1.1 xIOB (by decide))) hce hcv hcl ?_
  refine lv_astore_n (lv' := [(3, .ref q9), (0, .ref (q 0)), (1, .int p1), (2, .int p2)]) hx hb dL_set_7 rfl hl (by decide) rfl (fun ls hl => ?_)
  refine lv_bipush (v := (-101 : Int32)) hx hb dL_set_8 (by decide) ?_
  exact xiretc hC hr hlk h rfl rfl dL_set_10
set_option maxHeartbeats 4000000 in
theorem x_L_set_xIAE (l : Launch) (hst : l.stackTraces = false) (G : xGl) (sa q : Nat → Nat) (v : xSt) (p1 : Int32) (p2 : Int32) {w : xSt} (hf : m_X8_set_t v p1 p2 = some (xIAE, w)) : mRS l yL_set (wMH yL_set cL_set 4 (some .int) [(0, 6, 7, 26), (0, 6, 11, 21)]) { frames := 7, cells := 1, slots := 6, locals := 191 } G sa (eBC G) 430 q v [.ref (q 0), .int p1, .int p2] (qI (-102 : Int32)) w 1 6 := by
  refine xRSH (cc := cL_set) (maxL := 4) (ret := some .int) (hh := [(0, 6, 7, 26), (0, 6, 11, 21)]) (by decide) rfl (Nat.le_of_ble_eq_true rfl) ?_
  intro p e s m below meth c ls A hC hht hr hlk h hT hl
  have hx := hC.1
  have hb := hC.2.1
  have hl : lv_has ls 4 [(0, .ref (q 0)), (1, .int p1), (2, .int p2)] := hl
  obtain ⟨H, hH⟩ : ∃ H, H = s.heap := ⟨_, rfl⟩
  obtain ⟨locs, hlo⟩ : ∃ x : List Loc, x = [] := ⟨_, rfl⟩
  have h : hg G (eBC G) 430 q v A s H locs := by rw [hH, hlo]; exact h
  rw [← hlo, ← hH]
  clear hH hlo
  refine lv_aload_n hx hb dL_set_0 rfl (lv_at hl 0 rfl) ?_
  refine lv_iload_n hx hb dL_set_1 rfl (lv_at hl 1 rfl) ?_
  refine lv_iload_n hx hb dL_set_2 rfl (lv_at hl 2 rfl) ?_
  refine xcth0 h (vx_runV (As := [.int p1, .int p2]) (rest := []) hC (c_X8_set_t l hst G sa q v p1 p2 hf H.size) (xcgV hC wMH_in lk_L_54 in_X8 co_X8_set im_X8_set se_X8_set rfl rfl dd_X8_set ⟨Nat.le_of_ble_eq_true rfl, Nat.le_of_ble_eq_true rfl⟩) (preV0T h hT (Nat.le_of_ble_eq_true rfl) eBC_0 rfl [.int p1, .int p2]) rfl rfl hl.1 rfl (lv_room (Nat.le_of_ble_eq_true rfl)) dL_set_3 ⟨Nat.le_of_ble_eq_true rfl, Nat.le_of_ble_eq_true rfl⟩) (fun ce q9 H locs h hce hcv hcl => ?_)
  refine vx_catch hC.2.2.2.1 [⟨0, 6, 7, 26⟩] ⟨0, 6, 11, 21⟩ [] (hht.trans rfl) (List.forall_mem_singleton.mpr (Or.inr ⟨by decide, xIOB, hC.2.2.2.2 _ (wMH_in _ ck_L_26), hT.2.2.2.2.1 xIAE (by decide) xIOB (by decide) (by decide +kernel)⟩)) (by decide) (by decide) (hC.2.2.2.2 _ (wMH_in _ ck_L_21)) (va_Nw.use rfl (hT.2.2.2.1.1 xIAE (by decide))) hce hcv hcl ?_
  refine lv_astore_n (lv' := [(3, .ref q9), (0, .ref (q 0)), (1, .int p1), (2, .int p2)]) hx hb dL_set_11 rfl hl (by decide) rfl (fun ls hl => ?_)
  refine lv_bipush (v := (-102 : Int32)) hx hb dL_set_12 (by decide) ?_
  exact xiretc hC hr hlk h rfl rfl dL_set_14
def m_L_set (v : xSt) (p1 : Int32) (p2 : Int32) : Option (Int32 × xSt) := oe (m_L_set_n v p1 p2) (ob (m_X8_set_t v p1 p2) (fun z => (if z.1 = xIOB then some ((-101 : Int32), z.2) else (if z.1 = xIAE then some ((-102 : Int32), z.2) else none))))
theorem c_L_set (l : Launch) (hst : l.stackTraces = false) (G : xGl) (sa q : Nat → Nat) (v : xSt) (p1 : Int32) (p2 : Int32) {z : Int32 × xSt} (hf : m_L_set v p1 p2 = some z) : mRS l yL_set (wMH yL_set cL_set 4 (some .int) [(0, 6, 7, 26), (0, 6, 11, 21)]) { frames := 7, cells := 1, slots := 6, locals := 191 } G sa (eBC G) 430 q v [.ref (q 0), .int p1, .int p2] (qI z.1) z.2 1 6 := by
  rcases oe_e hf with g | g
  · exact c_L_set_n l G sa q v p1 p2 g
  · obtain ⟨⟨E0, w⟩, hw, g⟩ := ob_e g
    by_cases c0 : E0 = xIOB
    · subst c0
      have g := sm_e (it_t (c := xIOB = xIOB) rfl g)
      subst g
      exact x_L_set_xIOB l hst G sa q v p1 p2 hw
    have g := it_f (c := E0 = xIOB) c0 g
    by_cases c1 : E0 = xIAE
    · subst c1
      have g := sm_e (it_t (c := xIAE = xIAE) rfl g)
      subst g
      exact x_L_set_xIAE l hst G sa q v p1 p2 hw
    have g := it_f (c := E0 = xIAE) c1 g
    cases g
def m_L_append_q (v : xSt) (p1 : Int32) : Option (Int32 × xSt) := ob (m_X8_append_n v p1) (fun r2 => lt (r2.2) (fun v3 => some (r2.1, v3)))
set_option maxHeartbeats 4000000 in
set_option maxRecDepth 100000 in
theorem c_L_append_q (l : Launch) (G : xGl) (sa q : Nat → Nat) (v : xSt) (p1 : Int32) {z : (Int32 × xSt)} (hf : m_L_append_q v p1 = some z) : mRS l yL_append (wMH yL_append cL_append 3 (some .int) [(0, 5, 6, 21), (0, 5, 10, 15)]) { frames := 7, cells := 0, slots := 0, locals := 121 } G sa (eBC G) 430 q v [.ref (q 0), .int p1] (qI z.1) z.2 0 0 := by
  refine xRSH (cc := cL_append) (maxL := 3) (ret := (some .int)) (by decide) rfl (Nat.le_of_ble_eq_true rfl) ?_
  intro p e s m below meth c ls A hC hht hr hlk h hT hl
  have hx := hC.1
  have hb := hC.2.1
  have hl : lv_has ls 3 [(0, .ref (q 0)), (1, .int p1)] := hl
  unfold m_L_append_q at hf
  obtain ⟨H, hH⟩ : ∃ H, H = s.heap := ⟨_, rfl⟩
  obtain ⟨locs, hlo⟩ : ∃ x : List Loc, x = [] := ⟨_, rfl⟩
  have h : hg G (eBC G) 430 q v A s H locs := by rw [hH, hlo]; exact h
  rw [← hlo, ← hH]
  clear hH hlo
  refine lv_aload_n hx hb dL_append_0 rfl (lv_at hl 0 rfl) ?_
  refine lv_iload_n hx hb dL_append_1 rfl (lv_at hl 1 rfl) ?_
  obtain ⟨r2, hy1, hf⟩ := ob_e hf
  refine xi0 h (va_runV (As := [.int p1]) (rest := []) hC (c_X8_append_n l G q v p1 hy1 H.size) (xcgV hC wMH_in lk_L_57 in_X8 co_X8_append im_X8_append se_X8_append rfl rfl dd_X8_append ⟨Nat.le_of_ble_eq_true rfl, Nat.le_of_ble_eq_true rfl⟩) (preV0 h (Nat.le_of_ble_eq_true rfl) eBC_0 rfl [.int p1]) rfl rfl hl.1 rfl (lv_room (Nat.le_of_ble_eq_true rfl)) dL_append_2 ⟨Nat.le_of_ble_eq_true rfl, Nat.le_of_ble_eq_true rfl⟩) (fun H locs h => ?_)
  obtain ⟨v3, ev3, hf⟩ := lt_e hf
  rw [← ev3] at h
  have hf := sm_e hf
  exact xiretc hC hr hlk h (by rw [← hf]) (by rw [← hf]) dL_append_5
def m_L_append_n (v : xSt) (p1 : Int32) : Option (Int32 × xSt) := ob (m_X8_append_n v p1) (fun r2 => lt (r2.2) (fun v3 => some (r2.1, v3)))
set_option maxHeartbeats 4000000 in
set_option maxRecDepth 100000 in
theorem c_L_append_n (l : Launch) (G : xGl) (sa q : Nat → Nat) (v : xSt) (p1 : Int32) {z : (Int32 × xSt)} (hf : m_L_append_n v p1 = some z) : mRS l yL_append (wMH yL_append cL_append 3 (some .int) [(0, 5, 6, 21), (0, 5, 10, 15)]) { frames := 7, cells := 1, slots := 6, locals := 121 } G sa (eBC G) 430 q v [.ref (q 0), .int p1] (qI z.1) z.2 1 6 := by
  refine xRSH (cc := cL_append) (maxL := 3) (ret := (some .int)) (by decide) rfl (Nat.le_of_ble_eq_true rfl) ?_
  intro p e s m below meth c ls A hC hht hr hlk h hT hl
  have hx := hC.1
  have hb := hC.2.1
  have hl : lv_has ls 3 [(0, .ref (q 0)), (1, .int p1)] := hl
  unfold m_L_append_n at hf
  obtain ⟨H, hH⟩ : ∃ H, H = s.heap := ⟨_, rfl⟩
  obtain ⟨locs, hlo⟩ : ∃ x : List Loc, x = [] := ⟨_, rfl⟩
  have h : hg G (eBC G) 430 q v A s H locs := by rw [hH, hlo]; exact h
  rw [← hlo, ← hH]
  clear hH hlo
  refine W.widen (k := 1) (n := 6) (by omega) (by omega) ?_
  refine lv_aload_n hx hb dL_append_0 rfl (lv_at hl 0 rfl) ?_
  refine lv_iload_n hx hb dL_append_1 rfl (lv_at hl 1 rfl) ?_
  obtain ⟨r2, hy1, hf⟩ := ob_e hf
  refine xi0 h (va_runV (As := [.int p1]) (rest := []) hC (c_X8_append_n l G q v p1 hy1 H.size) (xcgV hC wMH_in lk_L_57 in_X8 co_X8_append im_X8_append se_X8_append rfl rfl dd_X8_append ⟨Nat.le_of_ble_eq_true rfl, Nat.le_of_ble_eq_true rfl⟩) (preV0 h (Nat.le_of_ble_eq_true rfl) eBC_0 rfl [.int p1]) rfl rfl hl.1 rfl (lv_room (Nat.le_of_ble_eq_true rfl)) dL_append_2 ⟨Nat.le_of_ble_eq_true rfl, Nat.le_of_ble_eq_true rfl⟩) (fun H locs h => ?_)
  obtain ⟨v3, ev3, hf⟩ := lt_e hf
  rw [← ev3] at h
  have hf := sm_e hf
  exact xiretc hC hr hlk h (by rw [← hf]) (by rw [← hf]) dL_append_5
set_option maxHeartbeats 4000000 in
theorem x_L_append_xIAE (l : Launch) (hst : l.stackTraces = false) (G : xGl) (sa q : Nat → Nat) (v : xSt) (p1 : Int32) {w : xSt} (hf : m_X8_append_t v p1 = some (xIAE, w)) : mRS l yL_append (wMH yL_append cL_append 3 (some .int) [(0, 5, 6, 21), (0, 5, 10, 15)]) { frames := 7, cells := 1, slots := 6, locals := 121 } G sa (eBC G) 430 q v [.ref (q 0), .int p1] (qI (-102 : Int32)) w 1 6 := by
  refine xRSH (cc := cL_append) (maxL := 3) (ret := some .int) (hh := [(0, 5, 6, 21), (0, 5, 10, 15)]) (by decide) rfl (Nat.le_of_ble_eq_true rfl) ?_
  intro p e s m below meth c ls A hC hht hr hlk h hT hl
  have hx := hC.1
  have hb := hC.2.1
  have hl : lv_has ls 3 [(0, .ref (q 0)), (1, .int p1)] := hl
  obtain ⟨H, hH⟩ : ∃ H, H = s.heap := ⟨_, rfl⟩
  obtain ⟨locs, hlo⟩ : ∃ x : List Loc, x = [] := ⟨_, rfl⟩
  have h : hg G (eBC G) 430 q v A s H locs := by rw [hH, hlo]; exact h
  rw [← hlo, ← hH]
  clear hH hlo
  refine lv_aload_n hx hb dL_append_0 rfl (lv_at hl 0 rfl) ?_
  refine lv_iload_n hx hb dL_append_1 rfl (lv_at hl 1 rfl) ?_
  refine xcth0 h (vx_runV (As := [.int p1]) (rest := []) hC (c_X8_append_t l hst G sa q v p1 hf H.size) (xcgV hC wMH_in lk_L_57 in_X8 co_X8_append im_X8_append se_X8_append rfl rfl dd_X8_append ⟨Nat.le_of_ble_eq_true rfl, Nat.le_of_ble_eq_true rfl⟩) (preV0T h hT (Nat.le_of_ble_eq_true rfl) eBC_0 rfl [.int p1]) rfl rfl hl.1 rfl (lv_room (Nat.le_of_ble_eq_true rfl)) dL_append_2 ⟨Nat.le_of_ble_eq_true rfl, Nat.le_of_ble_eq_true rfl⟩) (fun ce q9 H locs h hce hcv hcl => ?_)
  refine vx_catch hC.2.2.2.1 [] ⟨0, 5, 6, 21⟩ [⟨0, 5, 10, 15⟩] (hht.trans rfl) (fun z hz => nomatch hz) (by decide) (by decide) (hC.2.2.2.2 _ (wMH_in _ ck_L_21)) (va_Nw.use rfl (hT.2.2.2.1.1 xIAE (by decide))) hce hcv hcl ?_
  refine lv_astore_n (lv' := [(2, .ref q9), (0, .ref (q 0)), (1, .int p1)]) hx hb dL_append_6 rfl hl (by decide) rfl (fun ls hl => ?_)
  refine lv_bipush (v := (-102 : Int32)) hx hb dL_append_7 (by decide) ?_
  exact xiretc hC hr hlk h rfl rfl dL_append_9
set_option maxHeartbeats 4000000 in
theorem x_L_append_xISE (l : Launch) (hst : l.stackTraces = false) (G : xGl) (sa q : Nat → Nat) (v : xSt) (p1 : Int32) {w : xSt} (hf : m_X8_append_t v p1 = some (xISE, w)) : mRS l yL_append (wMH yL_append cL_append 3 (some .int) [(0, 5, 6, 21), (0, 5, 10, 15)]) { frames := 7, cells := 1, slots := 6, locals := 121 } G sa (eBC G) 430 q v [.ref (q 0), .int p1] (qI (-103 : Int32)) w 1 6 := by
  refine xRSH (cc := cL_append) (maxL := 3) (ret := some .int) (hh := [(0, 5, 6, 21), (0, 5, 10, 15)]) (by decide) rfl (Nat.le_of_ble_eq_true rfl) ?_
  intro p e s m below meth c ls A hC hht hr hlk h hT hl
  have hx := hC.1
  have hb := hC.2.1
  have hl : lv_has ls 3 [(0, .ref (q 0)), (1, .int p1)] := hl
  obtain ⟨H, hH⟩ : ∃ H, H = s.heap := ⟨_, rfl⟩
  obtain ⟨locs, hlo⟩ : ∃ x : List Loc, x = [] := ⟨_, rfl⟩
  have h : hg G (eBC G) 430 q v A s H locs := by rw [hH, hlo]; exact h
  rw [← hlo, ← hH]
  clear hH hlo
  refine lv_aload_n hx hb dL_append_0 rfl (lv_at hl 0 rfl) ?_
  refine lv_iload_n hx hb dL_append_1 rfl (lv_at hl 1 rfl) ?_
  refine xcth0 h (vx_runV (As := [.int p1]) (rest := []) hC (c_X8_append_t l hst G sa q v p1 hf H.size) (xcgV hC wMH_in lk_L_57 in_X8 co_X8_append im_X8_append se_X8_append rfl rfl dd_X8_append ⟨Nat.le_of_ble_eq_true rfl, Nat.le_of_ble_eq_true rfl⟩) (preV0T h hT (Nat.le_of_ble_eq_true rfl) eBC_0 rfl [.int p1]) rfl rfl hl.1 rfl (lv_room (Nat.le_of_ble_eq_true rfl)) dL_append_2 ⟨Nat.le_of_ble_eq_true rfl, Nat.le_of_ble_eq_true rfl⟩) (fun ce q9 H locs h hce hcv hcl => ?_)
  refine vx_catch hC.2.2.2.1 [⟨0, 5, 6, 21⟩] ⟨0, 5, 10, 15⟩ [] (hht.trans rfl) (List.forall_mem_singleton.mpr (Or.inr ⟨by decide, xIAE, hC.2.2.2.2 _ (wMH_in _ ck_L_21), hT.2.2.2.2.1 xISE (by decide) xIAE (by decide) (by decide +kernel)⟩)) (by decide) (by decide) (hC.2.2.2.2 _ (wMH_in _ ck_L_15)) (va_Nw.use rfl (hT.2.2.2.1.1 xISE (by decide))) hce hcv hcl ?_
  refine lv_astore_n (lv' := [(2, .ref q9), (0, .ref (q 0)), (1, .int p1)]) hx hb dL_append_10 rfl hl (by decide) rfl (fun ls hl => ?_)
  refine lv_bipush (v := (-103 : Int32)) hx hb dL_append_11 (by decide) ?_
  exact xiretc hC hr hlk h rfl rfl dL_append_13
def m_L_append (v : xSt) (p1 : Int32) : Option (Int32 × xSt) := oe (m_L_append_n v p1) (ob (m_X8_append_t v p1) (fun z => (if z.1 = xIAE then some ((-102 : Int32), z.2) else (if z.1 = xISE then some ((-103 : Int32), z.2) else none))))
theorem c_L_append (l : Launch) (hst : l.stackTraces = false) (G : xGl) (sa q : Nat → Nat) (v : xSt) (p1 : Int32) {z : Int32 × xSt} (hf : m_L_append v p1 = some z) : mRS l yL_append (wMH yL_append cL_append 3 (some .int) [(0, 5, 6, 21), (0, 5, 10, 15)]) { frames := 7, cells := 1, slots := 6, locals := 121 } G sa (eBC G) 430 q v [.ref (q 0), .int p1] (qI z.1) z.2 1 6 := by
  rcases oe_e hf with g | g
  · exact c_L_append_n l G sa q v p1 g
  · obtain ⟨⟨E0, w⟩, hw, g⟩ := ob_e g
    by_cases c0 : E0 = xIAE
    · subst c0
      have g := sm_e (it_t (c := xIAE = xIAE) rfl g)
      subst g
      exact x_L_append_xIAE l hst G sa q v p1 hw
    have g := it_f (c := E0 = xIAE) c0 g
    by_cases c1 : E0 = xISE
    · subst c1
      have g := sm_e (it_t (c := xISE = xISE) rfl g)
      subst g
      exact x_L_append_xISE l hst G sa q v p1 hw
    have g := it_f (c := E0 = xISE) c1 g
    cases g
def m_L_obey_n (v : xSt) : Option (Int32 × xSt) := ob (m_X8_obey_n v) (fun r2 => lt (r2.2) (fun v3 => some (r2.1, v3)))
set_option maxHeartbeats 4000000 in
set_option maxRecDepth 100000 in
theorem c_L_obey_n (l : Launch) (G : xGl) (sa q : Nat → Nat) (v : xSt) {z : (Int32 × xSt)} (hf : m_L_obey_n v = some z) : mRS l yL_obey (wMH yL_obey cL_obey 2 (some .int) [(0, 4, 5, 21)]) { frames := 8, cells := 1, slots := 6, locals := 211 } G sa (eBC G) 430 q v [.ref (q 0)] (qI z.1) z.2 1 6 := by
  refine xRSH (cc := cL_obey) (maxL := 2) (ret := (some .int)) (by decide) rfl (Nat.le_of_ble_eq_true rfl) ?_
  intro p e s m below meth c ls A hC hht hr hlk h hT hl
  have hx := hC.1
  have hb := hC.2.1
  have hl : lv_has ls 2 [(0, .ref (q 0))] := hl
  unfold m_L_obey_n at hf
  obtain ⟨H, hH⟩ : ∃ H, H = s.heap := ⟨_, rfl⟩
  obtain ⟨locs, hlo⟩ : ∃ x : List Loc, x = [] := ⟨_, rfl⟩
  have h : hg G (eBC G) 430 q v A s H locs := by rw [hH, hlo]; exact h
  rw [← hlo, ← hH]
  clear hH hlo
  refine W.widen (k := 1) (n := 6) (by omega) (by omega) ?_
  refine lv_aload_n hx hb dL_obey_0 rfl (lv_at hl 0 rfl) ?_
  obtain ⟨r2, hy1, hf⟩ := ob_e hf
  refine xi0 h (va_runV (As := []) (rest := []) hC (c_X8_obey_n l G q v hy1 H.size) (xcgV hC wMH_in lk_L_60 in_X8 co_X8_obey im_X8_obey se_X8_obey rfl rfl dd_X8_obey ⟨Nat.le_of_ble_eq_true rfl, Nat.le_of_ble_eq_true rfl⟩) (preV0 h (Nat.le_of_ble_eq_true rfl) eBC_0 rfl []) rfl rfl hl.1 rfl (lv_room (Nat.le_of_ble_eq_true rfl)) dL_obey_1 ⟨Nat.le_of_ble_eq_true rfl, Nat.le_of_ble_eq_true rfl⟩) (fun H locs h => ?_)
  obtain ⟨v3, ev3, hf⟩ := lt_e hf
  rw [← ev3] at h
  have hf := sm_e hf
  exact xiretc hC hr hlk h (by rw [← hf]) (by rw [← hf]) dL_obey_4
set_option maxHeartbeats 4000000 in
theorem x_L_obey_xIAE (l : Launch) (hst : l.stackTraces = false) (G : xGl) (sa q : Nat → Nat) (v : xSt) {w : xSt} (hf : m_X8_obey_t v = some (xIAE, w)) : mRS l yL_obey (wMH yL_obey cL_obey 2 (some .int) [(0, 4, 5, 21)]) { frames := 8, cells := 1, slots := 6, locals := 211 } G sa (eBC G) 430 q v [.ref (q 0)] (qI (-102 : Int32)) w 1 6 := by
  refine xRSH (cc := cL_obey) (maxL := 2) (ret := some .int) (hh := [(0, 4, 5, 21)]) (by decide) rfl (Nat.le_of_ble_eq_true rfl) ?_
  intro p e s m below meth c ls A hC hht hr hlk h hT hl
  have hx := hC.1
  have hb := hC.2.1
  have hl : lv_has ls 2 [(0, .ref (q 0))] := hl
  obtain ⟨H, hH⟩ : ∃ H, H = s.heap := ⟨_, rfl⟩
  obtain ⟨locs, hlo⟩ : ∃ x : List Loc, x = [] := ⟨_, rfl⟩
  have h : hg G (eBC G) 430 q v A s H locs := by rw [hH, hlo]; exact h
  rw [← hlo, ← hH]
  clear hH hlo
  refine lv_aload_n hx hb dL_obey_0 rfl (lv_at hl 0 rfl) ?_
  refine xcth0 h (vx_runV (As := []) (rest := []) hC (c_X8_obey_t l hst G sa q v hf H.size) (xcgV hC wMH_in lk_L_60 in_X8 co_X8_obey im_X8_obey se_X8_obey rfl rfl dd_X8_obey ⟨Nat.le_of_ble_eq_true rfl, Nat.le_of_ble_eq_true rfl⟩) (preV0T h hT (Nat.le_of_ble_eq_true rfl) eBC_0 rfl []) rfl rfl hl.1 rfl (lv_room (Nat.le_of_ble_eq_true rfl)) dL_obey_1 ⟨Nat.le_of_ble_eq_true rfl, Nat.le_of_ble_eq_true rfl⟩) (fun ce q9 H locs h hce hcv hcl => ?_)
  refine vx_catch hC.2.2.2.1 [] ⟨0, 4, 5, 21⟩ [] (hht.trans rfl) (fun z hz => nomatch hz) (by decide) (by decide) (hC.2.2.2.2 _ (wMH_in _ ck_L_21)) (va_Nw.use rfl (hT.2.2.2.1.1 xIAE (by decide))) hce hcv hcl ?_
  refine lv_astore_n (lv' := [(1, .ref q9), (0, .ref (q 0))]) hx hb dL_obey_5 rfl hl (by decide) rfl (fun ls hl => ?_)
  refine lv_bipush (v := (-102 : Int32)) hx hb dL_obey_6 (by decide) ?_
  exact xiretc hC hr hlk h rfl rfl dL_obey_8
def m_L_obey (v : xSt) : Option (Int32 × xSt) := oe (m_L_obey_n v) (ob (m_X8_obey_t v) (fun z => (if z.1 = xIAE then some ((-102 : Int32), z.2) else none)))
theorem c_L_obey (l : Launch) (hst : l.stackTraces = false) (G : xGl) (sa q : Nat → Nat) (v : xSt) {z : Int32 × xSt} (hf : m_L_obey v = some z) : mRS l yL_obey (wMH yL_obey cL_obey 2 (some .int) [(0, 4, 5, 21)]) { frames := 8, cells := 1, slots := 6, locals := 211 } G sa (eBC G) 430 q v [.ref (q 0)] (qI z.1) z.2 1 6 := by
  rcases oe_e hf with g | g
  · exact c_L_obey_n l G sa q v g
  · obtain ⟨⟨E0, w⟩, hw, g⟩ := ob_e g
    by_cases c0 : E0 = xIAE
    · subst c0
      have g := sm_e (it_t (c := xIAE = xIAE) rfl g)
      subst g
      exact x_L_obey_xIAE l hst G sa q v hw
    have g := it_f (c := E0 = xIAE) c0 g
    cases g
def m_L_goBack_n (v : xSt) : Option (Int32 × xSt) := ob (m_X8_goBack_n v) (fun r2 => lt (r2.2) (fun v3 => some (r2.1, v3)))
set_option maxHeartbeats 4000000 in
set_option maxRecDepth 100000 in
theorem c_L_goBack_n (l : Launch) (G : xGl) (sa q : Nat → Nat) (v : xSt) {z : (Int32 × xSt)} (hf : m_L_goBack_n v = some z) : mRS l yL_goBack (wMH yL_goBack cL_goBack 2 (some .int) [(0, 4, 5, 15)]) { frames := 7, cells := 1, slots := 6, locals := 188 } G sa (eBC G) 430 q v [.ref (q 0)] (qI z.1) z.2 1 6 := by
  refine xRSH (cc := cL_goBack) (maxL := 2) (ret := (some .int)) (by decide) rfl (Nat.le_of_ble_eq_true rfl) ?_
  intro p e s m below meth c ls A hC hht hr hlk h hT hl
  have hx := hC.1
  have hb := hC.2.1
  have hl : lv_has ls 2 [(0, .ref (q 0))] := hl
  unfold m_L_goBack_n at hf
  obtain ⟨H, hH⟩ : ∃ H, H = s.heap := ⟨_, rfl⟩
  obtain ⟨locs, hlo⟩ : ∃ x : List Loc, x = [] := ⟨_, rfl⟩
  have h : hg G (eBC G) 430 q v A s H locs := by rw [hH, hlo]; exact h
  rw [← hlo, ← hH]
  clear hH hlo
  refine W.widen (k := 1) (n := 6) (by omega) (by omega) ?_
  refine lv_aload_n hx hb dL_goBack_0 rfl (lv_at hl 0 rfl) ?_
  obtain ⟨r2, hy1, hf⟩ := ob_e hf
  refine xi0 h (va_runV (As := []) (rest := []) hC (c_X8_goBack_n l G q v hy1 H.size) (xcgV hC wMH_in lk_L_63 in_X8 co_X8_goBack im_X8_goBack se_X8_goBack rfl rfl dd_X8_goBack ⟨Nat.le_of_ble_eq_true rfl, Nat.le_of_ble_eq_true rfl⟩) (preV0 h (Nat.le_of_ble_eq_true rfl) eBC_0 rfl []) rfl rfl hl.1 rfl (lv_room (Nat.le_of_ble_eq_true rfl)) dL_goBack_1 ⟨Nat.le_of_ble_eq_true rfl, Nat.le_of_ble_eq_true rfl⟩) (fun H locs h => ?_)
  obtain ⟨v3, ev3, hf⟩ := lt_e hf
  rw [← ev3] at h
  have hf := sm_e hf
  exact xiretc hC hr hlk h (by rw [← hf]) (by rw [← hf]) dL_goBack_4
set_option maxHeartbeats 4000000 in
theorem x_L_goBack_xISE (l : Launch) (hst : l.stackTraces = false) (G : xGl) (sa q : Nat → Nat) (v : xSt) {w : xSt} (hf : m_X8_goBack_t v = some (xISE, w)) : mRS l yL_goBack (wMH yL_goBack cL_goBack 2 (some .int) [(0, 4, 5, 15)]) { frames := 7, cells := 1, slots := 6, locals := 188 } G sa (eBC G) 430 q v [.ref (q 0)] (qI (-103 : Int32)) w 1 6 := by
  refine xRSH (cc := cL_goBack) (maxL := 2) (ret := some .int) (hh := [(0, 4, 5, 15)]) (by decide) rfl (Nat.le_of_ble_eq_true rfl) ?_
  intro p e s m below meth c ls A hC hht hr hlk h hT hl
  have hx := hC.1
  have hb := hC.2.1
  have hl : lv_has ls 2 [(0, .ref (q 0))] := hl
  obtain ⟨H, hH⟩ : ∃ H, H = s.heap := ⟨_, rfl⟩
  obtain ⟨locs, hlo⟩ : ∃ x : List Loc, x = [] := ⟨_, rfl⟩
  have h : hg G (eBC G) 430 q v A s H locs := by rw [hH, hlo]; exact h
  rw [← hlo, ← hH]
  clear hH hlo
  refine lv_aload_n hx hb dL_goBack_0 rfl (lv_at hl 0 rfl) ?_
  refine xcth0 h (vx_runV (As := []) (rest := []) hC (c_X8_goBack_t l hst G sa q v hf H.size) (xcgV hC wMH_in lk_L_63 in_X8 co_X8_goBack im_X8_goBack se_X8_goBack rfl rfl dd_X8_goBack ⟨Nat.le_of_ble_eq_true rfl, Nat.le_of_ble_eq_true rfl⟩) (preV0T h hT (Nat.le_of_ble_eq_true rfl) eBC_0 rfl []) rfl rfl hl.1 rfl (lv_room (Nat.le_of_ble_eq_true rfl)) dL_goBack_1 ⟨Nat.le_of_ble_eq_true rfl, Nat.le_of_ble_eq_true rfl⟩) (fun ce q9 H locs h hce hcv hcl => ?_)
  refine vx_catch hC.2.2.2.1 [] ⟨0, 4, 5, 15⟩ [] (hht.trans rfl) (fun z hz => nomatch hz) (by decide) (by decide) (hC.2.2.2.2 _ (wMH_in _ ck_L_15)) (va_Nw.use rfl (hT.2.2.2.1.1 xISE (by decide))) hce hcv hcl ?_
  refine lv_astore_n (lv' := [(1, .ref q9), (0, .ref (q 0))]) hx hb dL_goBack_5 rfl hl (by decide) rfl (fun ls hl => ?_)
  refine lv_bipush (v := (-103 : Int32)) hx hb dL_goBack_6 (by decide) ?_
  exact xiretc hC hr hlk h rfl rfl dL_goBack_8
def m_L_goBack (v : xSt) : Option (Int32 × xSt) := oe (m_L_goBack_n v) (ob (m_X8_goBack_t v) (fun z => (if z.1 = xISE then some ((-103 : Int32), z.2) else none)))
theorem c_L_goBack (l : Launch) (hst : l.stackTraces = false) (G : xGl) (sa q : Nat → Nat) (v : xSt) {z : Int32 × xSt} (hf : m_L_goBack v = some z) : mRS l yL_goBack (wMH yL_goBack cL_goBack 2 (some .int) [(0, 4, 5, 15)]) { frames := 7, cells := 1, slots := 6, locals := 188 } G sa (eBC G) 430 q v [.ref (q 0)] (qI z.1) z.2 1 6 := by
  rcases oe_e hf with g | g
  · exact c_L_goBack_n l G sa q v g
  · obtain ⟨⟨E0, w⟩, hw, g⟩ := ob_e g
    by_cases c0 : E0 = xISE
    · subst c0
      have g := sm_e (it_t (c := xISE = xISE) rfl g)
      subst g
      exact x_L_goBack_xISE l hst G sa q v hw
    have g := it_f (c := E0 = xISE) c0 g
    cases g
def m_L_undo_n (v : xSt) : Option (Int32 × xSt) := ob (m_X8_undo_n v) (fun r2 => lt (r2.2) (fun v3 => some (r2.1, v3)))
set_option maxHeartbeats 4000000 in
set_option maxRecDepth 100000 in
theorem c_L_undo_n (l : Launch) (G : xGl) (sa q : Nat → Nat) (v : xSt) {z : (Int32 × xSt)} (hf : m_L_undo_n v = some z) : mRS l yL_undo (wMH yL_undo cL_undo 2 (some .int) [(0, 4, 5, 15)]) { frames := 7, cells := 1, slots := 6, locals := 189 } G sa (eBC G) 430 q v [.ref (q 0)] (qI z.1) z.2 1 6 := by
  refine xRSH (cc := cL_undo) (maxL := 2) (ret := (some .int)) (by decide) rfl (Nat.le_of_ble_eq_true rfl) ?_
  intro p e s m below meth c ls A hC hht hr hlk h hT hl
  have hx := hC.1
  have hb := hC.2.1
  have hl : lv_has ls 2 [(0, .ref (q 0))] := hl
  unfold m_L_undo_n at hf
  obtain ⟨H, hH⟩ : ∃ H, H = s.heap := ⟨_, rfl⟩
  obtain ⟨locs, hlo⟩ : ∃ x : List Loc, x = [] := ⟨_, rfl⟩
  have h : hg G (eBC G) 430 q v A s H locs := by rw [hH, hlo]; exact h
  rw [← hlo, ← hH]
  clear hH hlo
  refine W.widen (k := 1) (n := 6) (by omega) (by omega) ?_
  refine lv_aload_n hx hb dL_undo_0 rfl (lv_at hl 0 rfl) ?_
  obtain ⟨r2, hy1, hf⟩ := ob_e hf
  refine xi0 h (va_runV (As := []) (rest := []) hC (c_X8_undo_n l G q v hy1 H.size) (xcgV hC wMH_in lk_L_66 in_X8 co_X8_undo im_X8_undo se_X8_undo rfl rfl dd_X8_undo ⟨Nat.le_of_ble_eq_true rfl, Nat.le_of_ble_eq_true rfl⟩) (preV0 h (Nat.le_of_ble_eq_true rfl) eBC_0 rfl []) rfl rfl hl.1 rfl (lv_room (Nat.le_of_ble_eq_true rfl)) dL_undo_1 ⟨Nat.le_of_ble_eq_true rfl, Nat.le_of_ble_eq_true rfl⟩) (fun H locs h => ?_)
  obtain ⟨v3, ev3, hf⟩ := lt_e hf
  rw [← ev3] at h
  have hf := sm_e hf
  exact xiretc hC hr hlk h (by rw [← hf]) (by rw [← hf]) dL_undo_4
set_option maxHeartbeats 4000000 in
theorem x_L_undo_xISE (l : Launch) (hst : l.stackTraces = false) (G : xGl) (sa q : Nat → Nat) (v : xSt) {w : xSt} (hf : m_X8_undo_t v = some (xISE, w)) : mRS l yL_undo (wMH yL_undo cL_undo 2 (some .int) [(0, 4, 5, 15)]) { frames := 7, cells := 1, slots := 6, locals := 189 } G sa (eBC G) 430 q v [.ref (q 0)] (qI (-103 : Int32)) w 1 6 := by
  refine xRSH (cc := cL_undo) (maxL := 2) (ret := some .int) (hh := [(0, 4, 5, 15)]) (by decide) rfl (Nat.le_of_ble_eq_true rfl) ?_
  intro p e s m below meth c ls A hC hht hr hlk h hT hl
  have hx := hC.1
  have hb := hC.2.1
  have hl : lv_has ls 2 [(0, .ref (q 0))] := hl
  obtain ⟨H, hH⟩ : ∃ H, H = s.heap := ⟨_, rfl⟩
  obtain ⟨locs, hlo⟩ : ∃ x : List Loc, x = [] := ⟨_, rfl⟩
  have h : hg G (eBC G) 430 q v A s H locs := by rw [hH, hlo]; exact h
  rw [← hlo, ← hH]
  clear hH hlo
  refine lv_aload_n hx hb dL_undo_0 rfl (lv_at hl 0 rfl) ?_
  refine xcth0 h (vx_runV (As := []) (rest := []) hC (c_X8_undo_t l hst G sa q v hf H.size) (xcgV hC wMH_in lk_L_66 in_X8 co_X8_undo im_X8_undo se_X8_undo rfl rfl dd_X8_undo ⟨Nat.le_of_ble_eq_true rfl, Nat.le_of_ble_eq_true rfl⟩) (preV0T h hT (Nat.le_of_ble_eq_true rfl) eBC_0 rfl []) rfl rfl hl.1 rfl (lv_room (Nat.le_of_ble_eq_true rfl)) dL_undo_1 ⟨Nat.le_of_ble_eq_true rfl, Nat.le_of_ble_eq_true rfl⟩) (fun ce q9 H locs h hce hcv hcl => ?_)
  refine vx_catch hC.2.2.2.1 [] ⟨0, 4, 5, 15⟩ [] (hht.trans rfl) (fun z hz => nomatch hz) (by decide) (by decide) (hC.2.2.2.2 _ (wMH_in _ ck_L_15)) (va_Nw.use rfl (hT.2.2.2.1.1 xISE (by decide))) hce hcv hcl ?_
  refine lv_astore_n (lv' := [(1, .ref q9), (0, .ref (q 0))]) hx hb dL_undo_5 rfl hl (by decide) rfl (fun ls hl => ?_)
  refine lv_bipush (v := (-103 : Int32)) hx hb dL_undo_6 (by decide) ?_
  exact xiretc hC hr hlk h rfl rfl dL_undo_8
def m_L_undo (v : xSt) : Option (Int32 × xSt) := oe (m_L_undo_n v) (ob (m_X8_undo_t v) (fun z => (if z.1 = xISE then some ((-103 : Int32), z.2) else none)))
theorem c_L_undo (l : Launch) (hst : l.stackTraces = false) (G : xGl) (sa q : Nat → Nat) (v : xSt) {z : Int32 × xSt} (hf : m_L_undo v = some z) : mRS l yL_undo (wMH yL_undo cL_undo 2 (some .int) [(0, 4, 5, 15)]) { frames := 7, cells := 1, slots := 6, locals := 189 } G sa (eBC G) 430 q v [.ref (q 0)] (qI z.1) z.2 1 6 := by
  rcases oe_e hf with g | g
  · exact c_L_undo_n l G sa q v g
  · obtain ⟨⟨E0, w⟩, hw, g⟩ := ob_e g
    by_cases c0 : E0 = xISE
    · subst c0
      have g := sm_e (it_t (c := xISE = xISE) rfl g)
      subst g
      exact x_L_undo_xISE l hst G sa q v hw
    have g := it_f (c := E0 = xISE) c0 g
    cases g
def m_L_read_n (v : xSt) (p1 : Int32) : Option (Int32 × xSt) := ob (m_X8_read_n v p1) (fun r2 => some (r2, v))
set_option maxHeartbeats 4000000 in
set_option maxRecDepth 100000 in
theorem c_L_read_n (l : Launch) (G : xGl) (sa q : Nat → Nat) (v : xSt) (p1 : Int32) {z : (Int32 × xSt)} (hf : m_L_read_n v p1 = some z) : mRS l yL_read (wMH yL_read cL_read 3 (some .int) [(0, 5, 6, 26), (0, 5, 10, 15)]) { frames := 7, cells := 1, slots := 6, locals := 121 } G sa (eBC G) 430 q v [.ref (q 0), .int p1] (qI z.1) z.2 1 6 := by
  refine xRSH (cc := cL_read) (maxL := 3) (ret := (some .int)) (by decide) rfl (Nat.le_of_ble_eq_true rfl) ?_
  intro p e s m below meth c ls A hC hht hr hlk h hT hl
  have hx := hC.1
  have hb := hC.2.1
  have hl : lv_has ls 3 [(0, .ref (q 0)), (1, .int p1)] := hl
  unfold m_L_read_n at hf
  obtain ⟨H, hH⟩ : ∃ H, H = s.heap := ⟨_, rfl⟩
  obtain ⟨locs, hlo⟩ : ∃ x : List Loc, x = [] := ⟨_, rfl⟩
  have h : hg G (eBC G) 430 q v A s H locs := by rw [hH, hlo]; exact h
  rw [← hlo, ← hH]
  clear hH hlo
  refine W.widen (k := 1) (n := 6) (by omega) (by omega) ?_
  refine lv_aload_n hx hb dL_read_0 rfl (lv_at hl 0 rfl) ?_
  refine lv_iload_n hx hb dL_read_1 rfl (lv_at hl 1 rfl) ?_
  obtain ⟨r2, hy1, hf⟩ := ob_e hf
  refine xiG h (va_runV (As := [.int p1]) (rest := []) hC (c_X8_read_n l G q v p1 hy1 H.size) (xcgV hC wMH_in lk_L_69 in_X8 co_X8_read im_X8_read se_X8_read rfl rfl dd_X8_read ⟨Nat.le_of_ble_eq_true rfl, Nat.le_of_ble_eq_true rfl⟩) (preVO0 h.o (Nat.le_of_ble_eq_true rfl) eBC_0 rfl [.int p1]) rfl rfl hl.1 rfl (lv_room (Nat.le_of_ble_eq_true rfl)) dL_read_2 ⟨Nat.le_of_ble_eq_true rfl, Nat.le_of_ble_eq_true rfl⟩) (fun H locs h => ?_)
  have hf := sm_e hf
  exact xiretc hC hr hlk h (by rw [← hf]) (by rw [← hf]) dL_read_5
set_option maxHeartbeats 4000000 in
theorem x_L_read_xIOB (l : Launch) (hst : l.stackTraces = false) (G : xGl) (sa q : Nat → Nat) (v : xSt) (p1 : Int32) {w : xSt} (hf : m_X8_read_t v p1 = some (xIOB, w)) : mRS l yL_read (wMH yL_read cL_read 3 (some .int) [(0, 5, 6, 26), (0, 5, 10, 15)]) { frames := 7, cells := 1, slots := 6, locals := 121 } G sa (eBC G) 430 q v [.ref (q 0), .int p1] (qI (-101 : Int32)) w 1 6 := by
  refine xRSH (cc := cL_read) (maxL := 3) (ret := some .int) (hh := [(0, 5, 6, 26), (0, 5, 10, 15)]) (by decide) rfl (Nat.le_of_ble_eq_true rfl) ?_
  intro p e s m below meth c ls A hC hht hr hlk h hT hl
  have hx := hC.1
  have hb := hC.2.1
  have hl : lv_has ls 3 [(0, .ref (q 0)), (1, .int p1)] := hl
  obtain ⟨H, hH⟩ : ∃ H, H = s.heap := ⟨_, rfl⟩
  obtain ⟨locs, hlo⟩ : ∃ x : List Loc, x = [] := ⟨_, rfl⟩
  have h : hg G (eBC G) 430 q v A s H locs := by rw [hH, hlo]; exact h
  rw [← hlo, ← hH]
  clear hH hlo
  refine lv_aload_n hx hb dL_read_0 rfl (lv_at hl 0 rfl) ?_
  refine lv_iload_n hx hb dL_read_1 rfl (lv_at hl 1 rfl) ?_
  refine xcth0 h (vx_runV (As := [.int p1]) (rest := []) hC (c_X8_read_t l hst G sa q v p1 hf H.size) (xcgV hC wMH_in lk_L_69 in_X8 co_X8_read im_X8_read se_X8_read rfl rfl dd_X8_read ⟨Nat.le_of_ble_eq_true rfl, Nat.le_of_ble_eq_true rfl⟩) (preV0T h hT (Nat.le_of_ble_eq_true rfl) eBC_0 rfl [.int p1]) rfl rfl hl.1 rfl (lv_room (Nat.le_of_ble_eq_true rfl)) dL_read_2 ⟨Nat.le_of_ble_eq_true rfl, Nat.le_of_ble_eq_true rfl⟩) (fun ce q9 H locs h hce hcv hcl => ?_)
  refine vx_catch hC.2.2.2.1 [] ⟨0, 5, 6, 26⟩ [⟨0, 5, 10, 15⟩] (hht.trans rfl) (fun z hz => nomatch hz) (by decide) (by decide) (hC.2.2.2.2 _ (wMH_in _ ck_L_26)) (va_Nw.use rfl (hT.2.2.2.1.1 xIOB (by decide))) hce hcv hcl ?_
  refine lv_astore_n (lv' := [(2, .ref q9), (0, .ref (q 0)), (1, .int p1)]) hx hb dL_read_6 rfl hl (by decide) rfl (fun ls hl => ?_)
  refine lv_bipush (v := (-101 : Int32)) hx hb dL_read_7 (by decide) ?_
  exact xiretc hC hr hlk h rfl rfl dL_read_9
set_option maxHeartbeats 4000000 in
theorem x_L_read_xISE (l : Launch) (hst : l.stackTraces = false) (G : xGl) (sa q : Nat → Nat) (v : xSt) (p1 : Int32) {w : xSt} (hf : m_X8_read_t v p1 = some (xISE, w)) : mRS l yL_read (wMH yL_read cL_read 3 (some .int) [(0, 5, 6, 26), (0, 5, 10, 15)]) { frames := 7, cells := 1, slots := 6, locals := 121 } G sa (eBC G) 430 q v [.ref (q 0), .int p1] (qI (-103 : Int32)) w 1 6 := by
  refine xRSH (cc := cL_read) (maxL := 3) (ret := some .int) (hh := [(0, 5, 6, 26), (0, 5, 10, 15)]) (by decide) rfl (Nat.le_of_ble_eq_true rfl) ?_
  intro p e s m below meth c ls A hC hht hr hlk h hT hl
  have hx := hC.1
  have hb := hC.2.1
  have hl : lv_has ls 3 [(0, .ref (q 0)), (1, .int p1)] := hl
  obtain ⟨H, hH⟩ : ∃ H, H = s.heap := ⟨_, rfl⟩
  obtain ⟨locs, hlo⟩ : ∃ x : List Loc, x = [] := ⟨_, rfl⟩
  have h : hg G (eBC G) 430 q v A s H locs := by rw [hH, hlo]; exact h
  rw [← hlo, ← hH]
  clear hH hlo
  refine lv_aload_n hx hb dL_read_0 rfl (lv_at hl 0 rfl) ?_
  refine lv_iload_n hx hb dL_read_1 rfl (lv_at hl 1 rfl) ?_
  refine xcth0 h (vx_runV (As := [.int p1]) (rest := []) hC (c_X8_read_t l hst G sa q v p1 hf H.size) (xcgV hC wMH_in lk_L_69 in_X8 co_X8_read im_X8_read se_X8_read rfl rfl dd_X8_read ⟨Nat.le_of_ble_eq_true rfl, Nat.le_of_ble_eq_true rfl⟩) (preV0T h hT (Nat.le_of_ble_eq_true rfl) eBC_0 rfl [.int p1]) rfl rfl hl.1 rfl (lv_room (Nat.le_of_ble_eq_true rfl)) dL_read_2 ⟨Nat.le_of_ble_eq_true rfl, Nat.le_of_ble_eq_true rfl⟩) (fun ce q9 H locs h hce hcv hcl => ?_)
  refine vx_catch hC.2.2.2.1 [⟨0, 5, 6, 26⟩] ⟨0, 5, 10, 15⟩ [] (hht.trans rfl) (List.forall_mem_singleton.mpr (Or.inr ⟨by decide, xIOB, hC.2.2.2.2 _ (wMH_in _ ck_L_26), hT.2.2.2.2.1 xISE (by decide) xIOB (by decide) (by decide +kernel)⟩)) (by decide) (by decide) (hC.2.2.2.2 _ (wMH_in _ ck_L_15)) (va_Nw.use rfl (hT.2.2.2.1.1 xISE (by decide))) hce hcv hcl ?_
  refine lv_astore_n (lv' := [(2, .ref q9), (0, .ref (q 0)), (1, .int p1)]) hx hb dL_read_10 rfl hl (by decide) rfl (fun ls hl => ?_)
  refine lv_bipush (v := (-103 : Int32)) hx hb dL_read_11 (by decide) ?_
  exact xiretc hC hr hlk h rfl rfl dL_read_13
def m_L_read (v : xSt) (p1 : Int32) : Option (Int32 × xSt) := oe (m_L_read_n v p1) (ob (m_X8_read_t v p1) (fun z => (if z.1 = xIOB then some ((-101 : Int32), z.2) else (if z.1 = xISE then some ((-103 : Int32), z.2) else none))))
theorem c_L_read (l : Launch) (hst : l.stackTraces = false) (G : xGl) (sa q : Nat → Nat) (v : xSt) (p1 : Int32) {z : Int32 × xSt} (hf : m_L_read v p1 = some z) : mRS l yL_read (wMH yL_read cL_read 3 (some .int) [(0, 5, 6, 26), (0, 5, 10, 15)]) { frames := 7, cells := 1, slots := 6, locals := 121 } G sa (eBC G) 430 q v [.ref (q 0), .int p1] (qI z.1) z.2 1 6 := by
  rcases oe_e hf with g | g
  · exact c_L_read_n l G sa q v p1 g
  · obtain ⟨⟨E0, w⟩, hw, g⟩ := ob_e g
    by_cases c0 : E0 = xIOB
    · subst c0
      have g := sm_e (it_t (c := xIOB = xIOB) rfl g)
      subst g
      exact x_L_read_xIOB l hst G sa q v p1 hw
    have g := it_f (c := E0 = xIOB) c0 g
    by_cases c1 : E0 = xISE
    · subst c1
      have g := sm_e (it_t (c := xISE = xISE) rfl g)
      subst g
      exact x_L_read_xISE l hst G sa q v p1 hw
    have g := it_f (c := E0 = xISE) c1 g
    cases g
