/-! THE LAW'S WRAPPERS: static methods with a table of handlers, over the chip's world and the law's one long -/
noncomputable def wMH (y : MethodName) (b : ByteArray) (n : Nat) (r : Option FieldType) (hh : List (Nat × Nat × Nat × Nat)) : List Cond := .codeWith y b n r hh :: wG
theorem wMH_in {y : MethodName} {b : ByteArray} {n : Nat} {r : Option FieldType} {hh : List (Nat × Nat × Nat × Nat)} : ∀ w ∈ wG, w ∈ wMH y b n r hh := fun _ h => List.mem_cons_of_mem _ h
theorem xofWH {l : Launch} {y : MethodName} {ws ws' : List Cond} {rm : Room} {Pc : Array Value → State → Prop} {Qc : Array Value → State → Outcome → State → Prop} {mc ms : Nat} {free : Addr → Prop} {cc : ByteArray} {maxL : Nat} {ret : Option FieldType} {hh : List (Nat × Nat × Nat × Nat)}
    (hy : plainName y.cls = true) (hw : ws = Cond.codeWith y cc maxL ret hh :: ws')
    (body : ∀ p e s m args below meth c s₁, BodyLoose p l y (headSpec ws rm) cc maxL ret e s m args below meth c s₁ → c.maxLocals = maxL → Pc args s →
      W p l e (headSpec ws rm).room s m args below meth c s.heap [] 0 0 (MQ below Qc args s mc ms free) (entryFrame m args maxL)) : Met l y ws rm Pc Qc mc ms free := by
  refine MetFree.of_bodyS (code := cc) (maxLocals := maxL) (ret := ret) hy ?_ ?_
  · intro args s m h hn
    obtain ⟨m9, meth, c, hn9, h1, h2, h3, h4, -, h5, h6, -⟩ := Cond.codeWith_spec (atoms_spec (ws := ws) h _ (by rw [hw]; exact List.mem_cons_self))
    cases hn.symm.trans hn9
    exact ⟨meth, c, h1, h2, h3, h4, h5, h6⟩
  · intro p e s m args below meth c s₁ B hml hP _
    have hh0 : s₁.heap = s.heap := by rw [B.state]; rfl
    obtain ⟨t, a1, o, b1, b2, b3⟩ := body p e s m args below meth c s₁ B hml hP s₁ hh0 (Stand.of_body B)
    exact ⟨t, o, a1, b1, b2, ⟨b3.1, b3.2⟩⟩
section XG
variable {p : Program} {l : Launch} {e : Env} {R : Room} {s : State} {m : MethodId} {args : Array Value} {below : List Frame} {meth : Method} {c : Code} {H : Heap} {locs : List Loc} {cells slots : Nat} {Q : State → Prop}
variable {cc : ByteArray} {nL pcc : Nat} {ls : Array Slot} {rest st0 : List Value} {Ts : List Cond} {own : String} {G : xGl} {sa : Nat → Nat} {E E' : xLay} {n n' : Nat} {q : Nat → Nat} {v w : xSt} {A : Nat → Prop}
variable {y : MethodName} {bytes : ByteArray} {maxL index na mc ms : Nat} {ret : Option FieldType} {rm : Room} {C : String} {hh : List (Nat × Nat × Nat × Nat)}
theorem xRSH {ws ws' : List Cond} {av : List Value} {Qc : (State → Prop) → (Nat → Prop) → Array Value → State → Outcome → State → Prop} {v' : xSt} (hy : plainName y.cls = true) (hw : ws = Cond.codeWith y cc maxL ret hh :: ws') (hlen : (lg_sl av).length ≤ maxL)
    (body : ∀ (p : Program) (e : Env) (s : State) (m : MethodId) (below : List Frame) (meth : Method) (c : Code) (ls : Array Slot) (A : Nat → Prop), CallFix p m c cc maxL s av.toArray ws y.cls → c.exceptionTable.toList = tableOf hh → meth.sig.returnType = ret → meth.locks = false → hg G E n q v A s s.heap [] → xT G sa A s s.heap → lv_has ls maxL (lv_args 0 av) → W p l e rm s m av.toArray below meth c s.heap [] 0 0 (MQ below (Qc (cB G E n q v' A) A) av.toArray s mc ms A) (F0 m 0 ls [])) : mRS l y ws rm G sa E n q v av Qc v' mc ms := by
  intro sz
  refine xofWH (cc := cc) (maxL := maxL) (ret := ret) (hh := hh) hy hw ?_
  intro p e s m args below meth c s₁ B hml hv
  obtain ⟨rfl, ⟨hsz, hP, hK, hD⟩, hT⟩ := hv
  subst hsz
  have hl := lv_entry av (n := maxL) hlen
  rw [lg_entry_eq]
  generalize (lg_sl av ++ List.replicate (maxL - (lg_sl av).length) Slot.unset).toArray = ls at hl ⊢
  have hht : c.exceptionTable.toList = tableOf hh := vx_table (x := y) B (atoms_spec (ws := ws) B.pre _ (by rw [hw]; exact List.mem_cons_self))
  exact body p e s m below meth c ls (cA E n q v s.heap.size) ⟨B.exec, B.bytes, hml, findClass_of_methodNamed B.named, atoms_spec (ws := ws) B.pre⟩ hht B.returns B.notSynchronized ⟨⟨hP, hK.1, va_S.rf, hK.2, fun a ha => Or.inr ha⟩, hD.self⟩ hT hl
theorem wM_goodT (hin : ∀ w ∈ wG, w ∈ Ts) {b' : ByteArray} {n' : Nat} {r' : Option FieldType} (h : Cond.code y b' n' r' ∈ wG) : GoodIn Ts (wM y b' n' r') := fun w hw =>
  (List.mem_cons.mp hw).elim (fun e => by subst e; exact ⟨hin _ h, good_of_word (wG_good h)⟩) (fun hw => ⟨hin _ hw, good_of_word (wG_good hw)⟩)
theorem wMH_goodT (hin : ∀ w ∈ wG, w ∈ Ts) {b' : ByteArray} {n' : Nat} {r' : Option FieldType} (h : Cond.codeWith y b' n' r' hh ∈ wG) : GoodIn Ts (wMH y b' n' r' hh) := fun w hw =>
  (List.mem_cons.mp hw).elim (fun e => by subst e; exact ⟨hin _ h, good_of_word (wG_good h)⟩) (fun hw => ⟨hin _ hw, good_of_word (wG_good hw)⟩)
theorem xcgV (hC : CallFix p m c cc nL s args Ts own) (hin : ∀ w ∈ wG, w ∈ Ts) (hl : Cond.methodLink own index y ∈ wG) (hi : Cond.initialized y.cls ∈ wG) (hc : Cond.code y bytes maxL ret ∈ wG) (him : Cond.instanceMethod y ∈ wG) (hse : Cond.selects C y y ∈ wG) (hrc : rm.cells = mc) (hrs : rm.slots = ms) (hd : y.cls ≠ "java/lang/invoke/MethodHandle" ∧ y.cls ≠ "java/lang/invoke/VarHandle" ∧ (parseMethodDescriptor y.desc).map (fun d => d.parameters.length) = some na) (hR : rm.frames + 1 ≤ R.frames ∧ 8 + (maxL + 11) + rm.locals ≤ R.locals) : CallW R s args own C index y bytes maxL ret (wM y bytes maxL ret) rm mc ms na :=
  ⟨callB_of na hC.2.2.2.2 (wM_goodT hin hc) rfl hrc hrs (hC.2.2.2.2 _ (hin _ hi)) (hC.2.2.2.2 _ (hin _ hl)) hd hR, hC.2.2.2.2 _ (hin _ him), hC.2.2.2.2 _ (hin _ hse)⟩
theorem xcgSW (hC : CallFix p m c cc nL s args Ts own) (hin : ∀ w ∈ wG, w ∈ Ts) (hl : Cond.methodLink own index y ∈ wG) (hi : Cond.initialized y.cls ∈ wG) (hc : Cond.codeWith y bytes maxL ret hh ∈ wG) (hst : Cond.static y ∈ wG) (hrc : rm.cells = mc) (hrs : rm.slots = ms) (hd : y.cls ≠ "java/lang/invoke/MethodHandle" ∧ y.cls ≠ "java/lang/invoke/VarHandle" ∧ (parseMethodDescriptor y.desc).map (fun d => d.parameters.length) = some na) (hR : rm.frames + 1 ≤ R.frames ∧ 8 + (maxL + 11) + rm.locals ≤ R.locals) : vx_CSW R s args own index y bytes maxL ret hh (wMH y bytes maxL ret hh) rm mc ms na := by
  refine ⟨⟨hrc, hrs, hR.1, hR.2, pay_in hC.2.2.2.2 (wMH_goodT hin hc), List.mem_cons_self⟩, hC.2.2.2.2 _ (hin _ hc), hC.2.2.2.2 _ (hin _ hi), ⟨hd.1, hd.2.1⟩, fun sig h => ?_, hC.2.2.2.2 _ (hin _ hl), hC.2.2.2.2 _ (hin _ hst)⟩
  have h2 := hd.2.2
  rw [h] at h2
  exact (Option.some.inj h2).symm
/-- the long row: a whole number laid into it -/
theorem xlast (hC : CallFix p m c cc nL s args Ts own) (h : hg G E n q v A s H locs) (j : Nat) (hj : j < n) (he : ∀ z, E q j z = .inl (G.2 4, 1, .inr (.inl (fun k => (z k).toInt64)))) {x : Int32} (hdg : decode cc pcc = .ok (.lastore, 1))
    (kk : ∀ (H1 : Heap) (locs1 : List Loc), hg G E n q (st2 v j 0 x) A s H1 locs1 → W p l e R s m args below meth c H1 locs1 cells slots Q (F0 m (pcc + 1) ls rest)) : W p l e R s m args below meth c H locs cells slots Q (F0 m pcc ls (.long x.toInt64 :: .int 0 :: .ref (q j) :: rest)) := by
  refine va_last (D := G.1) (tys := xtys G) hC.1 hC.2.1 h.1.2.1 h.1.1 h.2 h.1.2.2.1 j 4 (wl_eq hj (he _)) rfl (show ¬ ((0 : Int32) < 0 ∨ 1 ≤ (0 : Int32).toNatClampNeg) by decide) hdg (fun H1 locs1 hP hD hS => ?_)
  have e1 : vp_updL (fun k => (v j k).toInt64) (0 : Int32).toNatClampNeg x.toInt64 = fun k => (va_up (v j) 0 x k).toInt64 := by
    funext k
    show (if k = 0 then x.toInt64 else (v j k).toInt64) = (if k = 0 then x else v j k).toInt64
    by_cases hk : k = 0
    · rw [if_pos hk, if_pos hk]
    · rw [if_neg hk, if_neg hk]
  rw [e1] at hP hD
  have e := wl_set (E := E) (n := n) (q := q) (v := v) (s' := va_up (v j) 0 x) hj (he _)
  exact kk H1 locs1 ⟨⟨by rw [show st2 v j 0 x = va_up v j (va_up (v j) 0 x) from rfl, ← e]; exact hP, h.1.2.1, hS, h.1.2.2.2.1, h.1.2.2.2.2⟩, by rw [show st2 v j 0 x = va_up v j (va_up (v j) 0 x) from rfl, ← e]; exact hD⟩
theorem xlald (hC : CallFix p m c cc nL s args Ts own) (h : ho G E n q v A s H locs) (j : Nat) (hj : j < n) (he : E q j (v j) = .inl (G.2 4, 1, .inr (.inl (fun k => (v j k).toInt64)))) (hdg : decode cc pcc = .ok (.laload, 1))
    (kk : W p l e R s m args below meth c H locs cells slots Q (F0 m (pcc + 1) ls (.long (v j 0).toInt64 :: rest))) : W p l e R s m args below meth c H locs cells slots Q (F0 m pcc ls (.int 0 :: .ref (q j) :: rest)) :=
  va_lald (D := G.1) (tys := xtys G) hC.1 hC.2.1 h.2.1 h.1 j 4 (wl_eq hj he) rfl (show ¬ ((0 : Int32) < 0 ∨ 1 ≤ (0 : Int32).toNatClampNeg) by decide) hdg kk
/-- a callee that throws: its world behind it; caught at pc 0 .. -/
theorem xcth (h : hg G E n q v A s H locs) (n' : Nat) {E' : xLay} (hE : ∀ i, i < n' → ∀ z, E q (0 + i) z = E' (sh 0 q) i z) (hb : 0 + n' ≤ n) {Ex : String} {a : Array Value} (hr : vx_Run p l e R s m args below meth c H locs cells slots 1 6 (F0 m pcc ls st0) rest (xQF (cA E' n' q v H.size) a) (xXC G E' n' q w (cA E' n' q v H.size) Ex) (cA E' n' q v H.size))
    (kx : ∀ (ce : Cell) (q9 : Addr) (H1 : Heap) (locs1 : List Loc), hg G E n q (pu 0 n' v w) A s H1 locs1 → H1[q9]? = some ce → ce.vm = .none → s.vm.findClass Ex = some ce.cls → vx_W p l e R s m args below meth c H1 locs1 (cells + 1) (slots + 6) Q (F0 m pcc ls rest) q9) : W p l e R s m args below meth c H locs cells slots Q (F0 m pcc ls st0) := by
  have hfr := free1 (E' := E') (b := 0) (n' := n') h hb
  simp only [sh_0] at hfr
  refine vx_calli hr h.1.2.2.1 (fun a _ ha => hfr a ha) hfr (fun a _ ha => hfr a ha) (fun E0 ce q9 u t H1 locs1 ht hal _ hB hz hk hS hce hv hcl => ?_) (fun r u t H1 locs1 _ _ hF => absurd hF id)
  obtain ⟨rfl, hB⟩ := hB
  exact kx ce q9 H1 locs1 (af1 (E' := E') (b := 0) (n' := n') h hE hb ht (by simp only [sh_0]; exact hB) (by simp only [sh_0]; exact hk) hS) hce hv hcl
theorem xiretc (hC : CallFix p m c cc nL s args Ts own) (hr : meth.sig.returnType = some .int) (hlocks : meth.locks = false) (h : hg G E n q v A s H locs) {x r : Int32} {v' : xSt} (hxr : x = r) (hv : v = v') (hdg : decode cc pcc = .ok (.ireturn, 1)) : W p l e R s m args below meth c H locs cells slots (MQ below (qI r (cB G E n q v' A) A) args s cells slots A) (F0 m pcc ls [.int x]) := by
  subst hv
  exact W.iret hC.1 hC.2.1 hr (fun t ht hW => ⟨⟨x, (), rfl, hxr, by rw [ht]; exact h.1.1, h.2⟩, h.1.2.2.1.F ht⟩) h.1.2.2.1.2.2 hdg hlocks
/-- a static call with the rich world, over the first n' cells -/
theorem preSP (h : hg G E n q v A s H locs) (hT : xT G sa A s s.heap) (n' : Nat) {E' : xLay} (hE : ∀ i, i < n' → ∀ z, E q (0 + i) z = E' (sh 0 q) i z) (hb : 0 + n' ≤ n) (As : List Value) : PreS s H (va_Pc As (cPT G sa E' n' q v H.size)) As := by
  have h1 := preS1 h 0 n' hE hb As
  simp only [sh_0] at h1
  refine ⟨blindT, fun U hU hW => ?_⟩
  obtain ⟨a1, a2⟩ := h1.2 U hU hW
  refine ⟨a1, a2, xTsub h hT (fun a ha => ?_) hU hW⟩
  have := free1 (E' := E') (b := 0) (n' := n') h hb a
  simp only [sh_0] at this
  exact this ha
/-- behind a call that made cells of its own -/
theorem xipc (h : hg G E n q v A s H locs) (n' : Nat) {E' : xLay} (hE : ∀ i, i < n' → ∀ z, E q (0 + i) z = E' (sh 0 q) i z) (hb : 0 + n' ≤ n) {r : Int32} {a : Array Value} (hr : va_Run p l e R s m args below meth c H locs cells slots mc ms (F0 m pcc ls st0) rest (qI r (cB G E' n' q w (cA E' n' q v H.size)) (cA E' n' q v H.size) a) (cA E' n' q v H.size))
    (kk : ∀ (H1 : Heap) (locs1 : List Loc), hg G E n q (pu 0 n' v w) A s H1 locs1 → W p l e R s m args below meth c H1 locs1 (cells + mc) (slots + ms) Q (F0 m (pcc + 3) ls (.int r :: rest))) : W p l e R s m args below meth c H locs cells slots Q (F0 m pcc ls st0) := by
  have hfr := free1 (E' := E') (b := 0) (n' := n') h hb
  simp only [sh_0] at hfr
  refine va_calli hr h.1.2.2.1 (fun a _ ha => hfr a ha) hfr (fun r2 u t H1 locs1 ht hvm hw hB hz1 hk1 hS1 => ?_)
  subst hw
  exact kk H1 locs1 (af1 (E' := E') (b := 0) (n' := n') h hE hb ht (by simp only [sh_0]; exact hB) (by simp only [sh_0]; exact hk1) hS1)
theorem xvc (h : hg G E n q v A s H locs) (b n' : Nat) {E' : xLay} (hE : ∀ i, i < n' → ∀ z, E q (b + i) z = E' (sh b q) i z) (hb : b + n' ≤ n) {a : Array Value} (hr : va_Run p l e R s m args below meth c H locs cells slots 0 0 (F0 m pcc ls st0) rest (qV (cB G E' n' (sh b q) w (cA E' n' (sh b q) (sh b v) H.size)) (cA E' n' (sh b q) (sh b v) H.size) a) (cA E' n' (sh b q) (sh b v) H.size))
    (kk : ∀ (H1 : Heap) (locs1 : List Loc), hg G E n q (pu b n' v w) A s H1 locs1 → W p l e R s m args below meth c H1 locs1 cells slots Q (F0 m (pcc + 3) ls rest)) : W p l e R s m args below meth c H locs cells slots Q (F0 m pcc ls st0) :=
  xv1 h b n' hE hb hr kk
end XG
theorem eWL_0 {G : xGl} {q : Nat → Nat} {s : Nat → Int32} : e2 430 (eBC G) (eLng G) q 0 s = .inr (8, [.ref (q 7), .ref (q 54), .ref (q 101), .int (s 3), .ref (q 1), .int (s 5), .ref (q 2), .int (s 7), .ref (q 3), .ref (q 6)]) := rfl
theorem eWL_430 {G : xGl} {q : Nat → Nat} {s : Nat → Int32} : e2 430 (eBC G) (eLng G) q 430 s = .inl (G.2 4, 1, .inr (.inl (fun k => (s k).toInt64))) := rfl
theorem sWL_0 {G : xGl} {q : Nat → Nat} : ∀ i, i < 430 → ∀ z, e2 430 (eBC G) (eLng G) q (0 + i) z = eBC G (sh 0 q) i z := x2a
theorem co_X8_arm : Cond.code yX8_arm cX8_arm 2 (some .int) ∈ wG := wG_t 849 (by decide +kernel) rfl
theorem dd_X8_arm : yX8_arm.cls ≠ "java/lang/invoke/MethodHandle" ∧ yX8_arm.cls ≠ "java/lang/invoke/VarHandle" ∧ (parseMethodDescriptor yX8_arm.desc).map (fun d => d.parameters.length) = some 0 := by decide +kernel
theorem lk_L_7 : Cond.methodLink RL 7 yX8_arm ∈ wG := wG_t 846 (by decide +kernel) rfl
theorem im_X8_arm : Cond.instanceMethod yX8_arm ∈ wG := wG_t 847 (by decide +kernel) rfl
theorem se_X8_arm : Cond.selects RX8 yX8_arm yX8_arm ∈ wG := wG_t 848 (by decide +kernel) rfl
theorem ck_L_13 : Cond.classLink RL 13 "java/lang/IllegalStateException" ∈ wG := wG_t 845 (by decide +kernel) rfl
theorem co_X8_load : Cond.code yX8_load cX8_load 2 (some .int) ∈ wG := wG_t 874 (by decide +kernel) rfl
theorem dd_X8_load : yX8_load.cls ≠ "java/lang/invoke/MethodHandle" ∧ yX8_load.cls ≠ "java/lang/invoke/VarHandle" ∧ (parseMethodDescriptor yX8_load.desc).map (fun d => d.parameters.length) = some 1 := by decide +kernel
theorem lk_L_15 : Cond.methodLink RL 15 yX8_load ∈ wG := wG_t 871 (by decide +kernel) rfl
theorem im_X8_load : Cond.instanceMethod yX8_load ∈ wG := wG_t 872 (by decide +kernel) rfl
theorem se_X8_load : Cond.selects RX8 yX8_load yX8_load ∈ wG := wG_t 873 (by decide +kernel) rfl
theorem ck_L_19 : Cond.classLink RL 19 "java/lang/IllegalArgumentException" ∈ wG := wG_t 870 (by decide +kernel) rfl
theorem co_X8_write : Cond.code yX8_write cX8_write 2 (some .int) ∈ wG := wG_t 885 (by decide +kernel) rfl
theorem dd_X8_write : yX8_write.cls ≠ "java/lang/invoke/MethodHandle" ∧ yX8_write.cls ≠ "java/lang/invoke/VarHandle" ∧ (parseMethodDescriptor yX8_write.desc).map (fun d => d.parameters.length) = some 1 := by decide +kernel
theorem lk_L_21 : Cond.methodLink RL 21 yX8_write ∈ wG := wG_t 882 (by decide +kernel) rfl
theorem im_X8_write : Cond.instanceMethod yX8_write ∈ wG := wG_t 883 (by decide +kernel) rfl
theorem se_X8_write : Cond.selects RX8 yX8_write yX8_write ∈ wG := wG_t 884 (by decide +kernel) rfl
theorem ck_L_24 : Cond.classLink RL 24 "java/lang/IndexOutOfBoundsException" ∈ wG := wG_t 881 (by decide +kernel) rfl
theorem co_X8_erase : Cond.code yX8_erase cX8_erase 2 (some .int) ∈ wG := wG_t 899 (by decide +kernel) rfl
theorem dd_X8_erase : yX8_erase.cls ≠ "java/lang/invoke/MethodHandle" ∧ yX8_erase.cls ≠ "java/lang/invoke/VarHandle" ∧ (parseMethodDescriptor yX8_erase.desc).map (fun d => d.parameters.length) = some 1 := by decide +kernel
theorem lk_L_26 : Cond.methodLink RL 26 yX8_erase ∈ wG := wG_t 896 (by decide +kernel) rfl
theorem im_X8_erase : Cond.instanceMethod yX8_erase ∈ wG := wG_t 897 (by decide +kernel) rfl
theorem se_X8_erase : Cond.selects RX8 yX8_erase yX8_erase ∈ wG := wG_t 898 (by decide +kernel) rfl
theorem co_X8_lock : Cond.code yX8_lock cX8_lock 3 (some .int) ∈ wG := wG_t 908 (by decide +kernel) rfl
theorem dd_X8_lock : yX8_lock.cls ≠ "java/lang/invoke/MethodHandle" ∧ yX8_lock.cls ≠ "java/lang/invoke/VarHandle" ∧ (parseMethodDescriptor yX8_lock.desc).map (fun d => d.parameters.length) = some 2 := by decide +kernel
theorem lk_L_29 : Cond.methodLink RL 29 yX8_lock ∈ wG := wG_t 905 (by decide +kernel) rfl
theorem im_X8_lock : Cond.instanceMethod yX8_lock ∈ wG := wG_t 906 (by decide +kernel) rfl
theorem se_X8_lock : Cond.selects RX8 yX8_lock yX8_lock ∈ wG := wG_t 907 (by decide +kernel) rfl
theorem co_X8_freeze : Cond.code yX8_freeze cX8_freeze 2 (some .int) ∈ wG := wG_t 917 (by decide +kernel) rfl
theorem dd_X8_freeze : yX8_freeze.cls ≠ "java/lang/invoke/MethodHandle" ∧ yX8_freeze.cls ≠ "java/lang/invoke/VarHandle" ∧ (parseMethodDescriptor yX8_freeze.desc).map (fun d => d.parameters.length) = some 0 := by decide +kernel
theorem lk_L_33 : Cond.methodLink RL 33 yX8_freeze ∈ wG := wG_t 914 (by decide +kernel) rfl
theorem im_X8_freeze : Cond.instanceMethod yX8_freeze ∈ wG := wG_t 915 (by decide +kernel) rfl
theorem se_X8_freeze : Cond.selects RX8 yX8_freeze yX8_freeze ∈ wG := wG_t 916 (by decide +kernel) rfl
theorem co_X8_suspend : Cond.code yX8_suspend cX8_suspend 2 (some .int) ∈ wG := wG_t 924 (by decide +kernel) rfl
theorem dd_X8_suspend : yX8_suspend.cls ≠ "java/lang/invoke/MethodHandle" ∧ yX8_suspend.cls ≠ "java/lang/invoke/VarHandle" ∧ (parseMethodDescriptor yX8_suspend.desc).map (fun d => d.parameters.length) = some 0 := by decide +kernel
theorem lk_L_36 : Cond.methodLink RL 36 yX8_suspend ∈ wG := wG_t 921 (by decide +kernel) rfl
theorem im_X8_suspend : Cond.instanceMethod yX8_suspend ∈ wG := wG_t 922 (by decide +kernel) rfl
theorem se_X8_suspend : Cond.selects RX8 yX8_suspend yX8_suspend ∈ wG := wG_t 923 (by decide +kernel) rfl
theorem co_X8_resume : Cond.code yX8_resume cX8_resume 1 (some .int) ∈ wG := wG_t 933 (by decide +kernel) rfl
theorem dd_X8_resume : yX8_resume.cls ≠ "java/lang/invoke/MethodHandle" ∧ yX8_resume.cls ≠ "java/lang/invoke/VarHandle" ∧ (parseMethodDescriptor yX8_resume.desc).map (fun d => d.parameters.length) = some 0 := by decide +kernel
theorem lk_L_39 : Cond.methodLink RL 39 yX8_resume ∈ wG := wG_t 930 (by decide +kernel) rfl
theorem im_X8_resume : Cond.instanceMethod yX8_resume ∈ wG := wG_t 931 (by decide +kernel) rfl
theorem se_X8_resume : Cond.selects RX8 yX8_resume yX8_resume ∈ wG := wG_t 932 (by decide +kernel) rfl
theorem co_X8_post : Cond.code yX8_post cX8_post 5 (some .int) ∈ wG := wG_t 942 (by decide +kernel) rfl
theorem dd_X8_post : yX8_post.cls ≠ "java/lang/invoke/MethodHandle" ∧ yX8_post.cls ≠ "java/lang/invoke/VarHandle" ∧ (parseMethodDescriptor yX8_post.desc).map (fun d => d.parameters.length) = some 3 := by decide +kernel
theorem lk_L_42 : Cond.methodLink RL 42 yX8_post ∈ wG := wG_t 939 (by decide +kernel) rfl
theorem im_X8_post : Cond.instanceMethod yX8_post ∈ wG := wG_t 940 (by decide +kernel) rfl
theorem se_X8_post : Cond.selects RX8 yX8_post yX8_post ∈ wG := wG_t 941 (by decide +kernel) rfl
theorem co_X8_withdraw : Cond.code yX8_withdraw cX8_withdraw 3 (some .int) ∈ wG := wG_t 974 (by decide +kernel) rfl
theorem dd_X8_withdraw : yX8_withdraw.cls ≠ "java/lang/invoke/MethodHandle" ∧ yX8_withdraw.cls ≠ "java/lang/invoke/VarHandle" ∧ (parseMethodDescriptor yX8_withdraw.desc).map (fun d => d.parameters.length) = some 1 := by decide +kernel
theorem lk_L_46 : Cond.methodLink RL 46 yX8_withdraw ∈ wG := wG_t 971 (by decide +kernel) rfl
theorem im_X8_withdraw : Cond.instanceMethod yX8_withdraw ∈ wG := wG_t 972 (by decide +kernel) rfl
theorem se_X8_withdraw : Cond.selects RX8 yX8_withdraw yX8_withdraw ∈ wG := wG_t 973 (by decide +kernel) rfl
theorem co_X8_pass : Cond.code yX8_pass cX8_pass 4 (some .int) ∈ wG := wG_t 984 (by decide +kernel) rfl
theorem dd_X8_pass : yX8_pass.cls ≠ "java/lang/invoke/MethodHandle" ∧ yX8_pass.cls ≠ "java/lang/invoke/VarHandle" ∧ (parseMethodDescriptor yX8_pass.desc).map (fun d => d.parameters.length) = some 1 := by decide +kernel
theorem lk_L_49 : Cond.methodLink RL 49 yX8_pass ∈ wG := wG_t 981 (by decide +kernel) rfl
theorem im_X8_pass : Cond.instanceMethod yX8_pass ∈ wG := wG_t 982 (by decide +kernel) rfl
theorem se_X8_pass : Cond.selects RX8 yX8_pass yX8_pass ∈ wG := wG_t 983 (by decide +kernel) rfl
theorem co_X8_set : Cond.code yX8_set cX8_set 4 (some .int) ∈ wG := wG_t 992 (by decide +kernel) rfl
theorem dd_X8_set : yX8_set.cls ≠ "java/lang/invoke/MethodHandle" ∧ yX8_set.cls ≠ "java/lang/invoke/VarHandle" ∧ (parseMethodDescriptor yX8_set.desc).map (fun d => d.parameters.length) = some 2 := by decide +kernel
theorem lk_L_52 : Cond.methodLink RL 52 yX8_set ∈ wG := wG_t 989 (by decide +kernel) rfl
theorem im_X8_set : Cond.instanceMethod yX8_set ∈ wG := wG_t 990 (by decide +kernel) rfl
theorem se_X8_set : Cond.selects RX8 yX8_set yX8_set ∈ wG := wG_t 991 (by decide +kernel) rfl
theorem co_X8_append : Cond.code yX8_append cX8_append 2 (some .int) ∈ wG := wG_t 1009 (by decide +kernel) rfl
theorem dd_X8_append : yX8_append.cls ≠ "java/lang/invoke/MethodHandle" ∧ yX8_append.cls ≠ "java/lang/invoke/VarHandle" ∧ (parseMethodDescriptor yX8_append.desc).map (fun d => d.parameters.length) = some 1 := by decide +kernel
theorem lk_L_55 : Cond.methodLink RL 55 yX8_append ∈ wG := wG_t 1006 (by decide +kernel) rfl
theorem im_X8_append : Cond.instanceMethod yX8_append ∈ wG := wG_t 1007 (by decide +kernel) rfl
theorem se_X8_append : Cond.selects RX8 yX8_append yX8_append ∈ wG := wG_t 1008 (by decide +kernel) rfl
theorem co_X8_obey : Cond.code yX8_obey cX8_obey 5 (some .int) ∈ wG := wG_t 1018 (by decide +kernel) rfl
theorem dd_X8_obey : yX8_obey.cls ≠ "java/lang/invoke/MethodHandle" ∧ yX8_obey.cls ≠ "java/lang/invoke/VarHandle" ∧ (parseMethodDescriptor yX8_obey.desc).map (fun d => d.parameters.length) = some 0 := by decide +kernel
theorem lk_L_58 : Cond.methodLink RL 58 yX8_obey ∈ wG := wG_t 1015 (by decide +kernel) rfl
theorem im_X8_obey : Cond.instanceMethod yX8_obey ∈ wG := wG_t 1016 (by decide +kernel) rfl
theorem se_X8_obey : Cond.selects RX8 yX8_obey yX8_obey ∈ wG := wG_t 1017 (by decide +kernel) rfl
theorem co_X8_goBack : Cond.code yX8_goBack cX8_goBack 1 (some .int) ∈ wG := wG_t 1035 (by decide +kernel) rfl
theorem dd_X8_goBack : yX8_goBack.cls ≠ "java/lang/invoke/MethodHandle" ∧ yX8_goBack.cls ≠ "java/lang/invoke/VarHandle" ∧ (parseMethodDescriptor yX8_goBack.desc).map (fun d => d.parameters.length) = some 0 := by decide +kernel
theorem lk_L_61 : Cond.methodLink RL 61 yX8_goBack ∈ wG := wG_t 1032 (by decide +kernel) rfl
theorem im_X8_goBack : Cond.instanceMethod yX8_goBack ∈ wG := wG_t 1033 (by decide +kernel) rfl
theorem se_X8_goBack : Cond.selects RX8 yX8_goBack yX8_goBack ∈ wG := wG_t 1034 (by decide +kernel) rfl
theorem co_X8_undo : Cond.code yX8_undo cX8_undo 1 (some .int) ∈ wG := wG_t 1043 (by decide +kernel) rfl
theorem dd_X8_undo : yX8_undo.cls ≠ "java/lang/invoke/MethodHandle" ∧ yX8_undo.cls ≠ "java/lang/invoke/VarHandle" ∧ (parseMethodDescriptor yX8_undo.desc).map (fun d => d.parameters.length) = some 0 := by decide +kernel
theorem lk_L_64 : Cond.methodLink RL 64 yX8_undo ∈ wG := wG_t 1040 (by decide +kernel) rfl
theorem im_X8_undo : Cond.instanceMethod yX8_undo ∈ wG := wG_t 1041 (by decide +kernel) rfl
theorem se_X8_undo : Cond.selects RX8 yX8_undo yX8_undo ∈ wG := wG_t 1042 (by decide +kernel) rfl
theorem co_X8_read : Cond.code yX8_read cX8_read 2 (some .int) ∈ wG := wG_t 1055 (by decide +kernel) rfl
theorem dd_X8_read : yX8_read.cls ≠ "java/lang/invoke/MethodHandle" ∧ yX8_read.cls ≠ "java/lang/invoke/VarHandle" ∧ (parseMethodDescriptor yX8_read.desc).map (fun d => d.parameters.length) = some 1 := by decide +kernel
theorem lk_L_67 : Cond.methodLink RL 67 yX8_read ∈ wG := wG_t 1052 (by decide +kernel) rfl
theorem im_X8_read : Cond.instanceMethod yX8_read ∈ wG := wG_t 1053 (by decide +kernel) rfl
theorem se_X8_read : Cond.selects RX8 yX8_read yX8_read ∈ wG := wG_t 1054 (by decide +kernel) rfl
theorem co_X8_cell : Cond.code yX8_cell cX8_cell 3 (some .int) ∈ wG := wG_t 1067 (by decide +kernel) rfl
theorem dd_X8_cell : yX8_cell.cls ≠ "java/lang/invoke/MethodHandle" ∧ yX8_cell.cls ≠ "java/lang/invoke/VarHandle" ∧ (parseMethodDescriptor yX8_cell.desc).map (fun d => d.parameters.length) = some 2 := by decide +kernel
theorem lk_L_70 : Cond.methodLink RL 70 yX8_cell ∈ wG := wG_t 1064 (by decide +kernel) rfl
theorem im_X8_cell : Cond.instanceMethod yX8_cell ∈ wG := wG_t 1065 (by decide +kernel) rfl
theorem se_X8_cell : Cond.selects RX8 yX8_cell yX8_cell ∈ wG := wG_t 1066 (by decide +kernel) rfl
theorem lk_L_73 : Cond.methodLink RL 73 yX8_sector ∈ wG := wG_t 1077 (by decide +kernel) rfl
theorem lk_L_76 : Cond.methodLink RL 76 yX8_work ∈ wG := wG_t 1081 (by decide +kernel) rfl
theorem lk_L_79 : Cond.methodLink RL 79 yX8_order ∈ wG := wG_t 1085 (by decide +kernel) rfl
theorem lk_L_82 : Cond.methodLink RL 82 yX8_count ∈ wG := wG_t 1089 (by decide +kernel) rfl
theorem co_X8_setting : Cond.code yX8_setting cX8_setting 2 (some .int) ∈ wG := wG_t 1096 (by decide +kernel) rfl
theorem dd_X8_setting : yX8_setting.cls ≠ "java/lang/invoke/MethodHandle" ∧ yX8_setting.cls ≠ "java/lang/invoke/VarHandle" ∧ (parseMethodDescriptor yX8_setting.desc).map (fun d => d.parameters.length) = some 1 := by decide +kernel
theorem lk_L_85 : Cond.methodLink RL 85 yX8_setting ∈ wG := wG_t 1093 (by decide +kernel) rfl
theorem im_X8_setting : Cond.instanceMethod yX8_setting ∈ wG := wG_t 1094 (by decide +kernel) rfl
theorem se_X8_setting : Cond.selects RX8 yX8_setting yX8_setting ∈ wG := wG_t 1095 (by decide +kernel) rfl
theorem co_X8_why : Cond.code yX8_why cX8_why 3 (some .int) ∈ wG := wG_t 1103 (by decide +kernel) rfl
theorem dd_X8_why : yX8_why.cls ≠ "java/lang/invoke/MethodHandle" ∧ yX8_why.cls ≠ "java/lang/invoke/VarHandle" ∧ (parseMethodDescriptor yX8_why.desc).map (fun d => d.parameters.length) = some 2 := by decide +kernel
theorem lk_L_88 : Cond.methodLink RL 88 yX8_why ∈ wG := wG_t 1100 (by decide +kernel) rfl
theorem im_X8_why : Cond.instanceMethod yX8_why ∈ wG := wG_t 1101 (by decide +kernel) rfl
theorem se_X8_why : Cond.selects RX8 yX8_why yX8_why ∈ wG := wG_t 1102 (by decide +kernel) rfl
theorem co_X8_misses : Cond.code yX8_misses cX8_misses 2 (some .int) ∈ wG := wG_t 1115 (by decide +kernel) rfl
theorem dd_X8_misses : yX8_misses.cls ≠ "java/lang/invoke/MethodHandle" ∧ yX8_misses.cls ≠ "java/lang/invoke/VarHandle" ∧ (parseMethodDescriptor yX8_misses.desc).map (fun d => d.parameters.length) = some 1 := by decide +kernel
theorem lk_L_91 : Cond.methodLink RL 91 yX8_misses ∈ wG := wG_t 1112 (by decide +kernel) rfl
theorem im_X8_misses : Cond.instanceMethod yX8_misses ∈ wG := wG_t 1113 (by decide +kernel) rfl
theorem se_X8_misses : Cond.selects RX8 yX8_misses yX8_misses ∈ wG := wG_t 1114 (by decide +kernel) rfl
def m_L_arm (v : xSt) : Option (Int32 × xSt) := ob (m_X8_arm_n v) (fun r2 => lt (pu 0 430 v r2.2) (fun v3 => lt (st2 v3 430 0 r2.1) (fun v4 => some ((0 : Int32), v4))))
set_option maxHeartbeats 4000000 in
set_option maxRecDepth 100000 in
theorem c_L_arm (l : Launch) (G : xGl) (sa q : Nat → Nat) (v : xSt) {z : (Int32 × xSt)} (hf : m_L_arm v = some z) : mRS l yL_arm (wMH yL_arm cL_arm 3 (some .int) [(0, 8, 11, 13)]) { frames := 7, cells := 0, slots := 0, locals := 189 } G sa (e2 430 (eBC G) (eLng G)) 431 q v [.ref (q 0), .ref (q 430)] (qI z.1) z.2 0 0 := by
  refine xRSH (cc := cL_arm) (maxL := 3) (ret := (some .int)) (by decide) rfl (Nat.le_of_ble_eq_true rfl) ?_
  intro p e s m below meth c ls A hC hht hr hlk h hT hl
  have hx := hC.1
  have hb := hC.2.1
  have hl : lv_has ls 3 [(0, .ref (q 0)), (1, .ref (q 430))] := hl
  unfold m_L_arm at hf
  obtain ⟨H, hH⟩ : ∃ H, H = s.heap := ⟨_, rfl⟩
  obtain ⟨locs, hlo⟩ : ∃ x : List Loc, x = [] := ⟨_, rfl⟩
  have h : hg G (e2 430 (eBC G) (eLng G)) 431 q v A s H locs := by rw [hH, hlo]; exact h
  rw [← hlo, ← hH]
  clear hH hlo
  refine lv_aload_n hx hb dL_arm_0 rfl (lv_at hl 1 rfl) ?_
  refine lv_iconst (v := (0 : Int32)) hx hb dL_arm_1 (by decide) ?_
  refine lv_aload_n hx hb dL_arm_2 rfl (lv_at hl 0 rfl) ?_
  obtain ⟨r2, hy1, hf⟩ := ob_e hf
  refine xip h 430 sWL_0 (Nat.le_of_ble_eq_true rfl) (va_runV (As := []) (rest := [.int (0 : Int32), .ref (q 430)]) hC (c_X8_arm_n l G q v hy1 H.size) (xcgV hC wMH_in lk_L_7 in_X8 co_X8_arm im_X8_arm se_X8_arm rfl rfl dd_X8_arm ⟨Nat.le_of_ble_eq_true rfl, Nat.le_of_ble_eq_true rfl⟩) (preVp h 430 sWL_0 (Nat.le_of_ble_eq_true rfl) (Nat.le_of_ble_eq_true rfl) eWL_0 rfl []) rfl rfl hl.1 rfl (lv_room (Nat.le_of_ble_eq_true rfl)) dL_arm_3 ⟨Nat.zero_le _, Nat.zero_le _⟩) (fun H locs h => ?_)
  obtain ⟨v3, ev3, hf⟩ := lt_e hf
  rw [← ev3] at h
  refine lv_i2l hx hb dL_arm_6 rfl ?_
  refine xlast hC h 430 (Nat.le_of_ble_eq_true rfl) (fun _ => eWL_430) (x := r2.1) dL_arm_7 (fun H locs h => ?_)
  obtain ⟨v4, ev4, hf⟩ := lt_e hf
  rw [← ev4] at h
  refine lv_goto (tgt := 14) hx hb dL_arm_8 (by decide) ?_
  refine lv_iconst (v := (0 : Int32)) hx hb dL_arm_14 (by decide) ?_
  have hf := sm_e hf
  exact xiret hC hr hlk h (by rw [← hf]) (by rw [← hf]) dL_arm_15
set_option maxHeartbeats 4000000 in
theorem x_L_arm_xISE (l : Launch) (hst : l.stackTraces = false) (G : xGl) (sa q : Nat → Nat) (v : xSt) {w : xSt} (hf : m_X8_arm_t v  = some (xISE, w)) : mRS l yL_arm (wMH yL_arm cL_arm 3 (some .int) [(0, 8, 11, 13)]) { frames := 7, cells := 1, slots := 6, locals := 121 } G sa (e2 430 (eBC G) (eLng G)) 431 q v [.ref (q 0), .ref (q 430)] (qI 1) (pu 0 430 v w) 1 6 := by
  refine xRSH (cc := cL_arm) (maxL := 3) (ret := some .int) (hh := [(0, 8, 11, 13)]) (by decide) rfl (Nat.le_of_ble_eq_true rfl) ?_
  intro p e s m below meth c ls A hC hht hr hlk h hT hl
  have hx := hC.1
  have hb := hC.2.1
  have hl : lv_has ls 3 [(0, .ref (q 0)), (1, .ref (q 430))] := hl
  obtain ⟨H, hH⟩ : ∃ H, H = s.heap := ⟨_, rfl⟩
  obtain ⟨locs, hlo⟩ : ∃ x : List Loc, x = [] := ⟨_, rfl⟩
  have h : hg G (e2 430 (eBC G) (eLng G)) 431 q v A s H locs := by rw [hH, hlo]; exact h
  rw [← hlo, ← hH]
  clear hH hlo
  refine lv_aload_n hx hb dL_arm_0 rfl (lv_at hl 1 rfl) ?_
  refine lv_iconst (v := (0 : Int32)) hx hb dL_arm_1 (by decide) ?_
  refine lv_aload_n hx hb dL_arm_2 rfl (lv_at hl 0 rfl) ?_
  refine xcth h 430 sWL_0 (Nat.le_of_ble_eq_true rfl) (vx_runV (As := []) (rest := [.int 0, .ref (q 430)]) hC (c_X8_arm_t l hst G sa q v  hf H.size) (xcgV hC wMH_in lk_L_7 in_X8 co_X8_arm im_X8_arm se_X8_arm rfl rfl dd_X8_arm ⟨Nat.le_of_ble_eq_true rfl, Nat.le_of_ble_eq_true rfl⟩) (preVT h hT 430 sWL_0 (Nat.le_of_ble_eq_true rfl) (Nat.le_of_ble_eq_true rfl) eWL_0 rfl []) rfl rfl hl.1 rfl (lv_room (Nat.le_of_ble_eq_true rfl)) dL_arm_3 ⟨Nat.le_of_ble_eq_true rfl, Nat.le_of_ble_eq_true rfl⟩) (fun ce q9 H locs h hce hcv hcl => ?_)
  refine vx_catch hC.2.2.2.1 [] ⟨0, 8, 11, 13⟩ [] (hht.trans rfl) (fun z hz => nomatch hz) (by decide) (by decide) (hC.2.2.2.2 _ (wMH_in _ ck_L_13)) (va_Nw.use rfl (hT.2.2.2.1.1 xISE (by decide))) hce hcv hcl ?_
  refine lv_astore_n (lv' := [(2, .ref q9), (0, .ref (q 0)), (1, .ref (q 430))]) hx hb dL_arm_11 rfl hl (by decide) rfl (fun ls hl => ?_)
  refine lv_iconst (v := (1 : Int32)) hx hb dL_arm_12 (by decide) ?_
  exact xiretc hC hr hlk h rfl rfl dL_arm_13
def m_L_load (v : xSt) (p1 : Int32) : Option (Int32 × xSt) := ob (m_X8_load_n v p1) (fun r2 => lt (pu 0 430 v r2.2) (fun v3 => lt (st2 v3 430 0 r2.1) (fun v4 => some ((0 : Int32), v4))))
set_option maxHeartbeats 4000000 in
set_option maxRecDepth 100000 in
theorem c_L_load (l : Launch) (G : xGl) (sa q : Nat → Nat) (v : xSt) (p1 : Int32) {z : (Int32 × xSt)} (hf : m_L_load v p1 = some z) : mRS l yL_load (wMH yL_load cL_load 4 (some .int) [(0, 9, 12, 19), (0, 9, 15, 13)]) { frames := 7, cells := 0, slots := 0, locals := 189 } G sa (e2 430 (eBC G) (eLng G)) 431 q v [.ref (q 0), .int p1, .ref (q 430)] (qI z.1) z.2 0 0 := by
  refine xRSH (cc := cL_load) (maxL := 4) (ret := (some .int)) (by decide) rfl (Nat.le_of_ble_eq_true rfl) ?_
  intro p e s m below meth c ls A hC hht hr hlk h hT hl
  have hx := hC.1
  have hb := hC.2.1
  have hl : lv_has ls 4 [(0, .ref (q 0)), (1, .int p1), (2, .ref (q 430))] := hl
  unfold m_L_load at hf
  obtain ⟨H, hH⟩ : ∃ H, H = s.heap := ⟨_, rfl⟩
  obtain ⟨locs, hlo⟩ : ∃ x : List Loc, x = [] := ⟨_, rfl⟩
  have h : hg G (e2 430 (eBC G) (eLng G)) 431 q v A s H locs := by rw [hH, hlo]; exact h
  rw [← hlo, ← hH]
  clear hH hlo
  refine lv_aload_n hx hb dL_load_0 rfl (lv_at hl 2 rfl) ?_
  refine lv_iconst (v := (0 : Int32)) hx hb dL_load_1 (by decide) ?_
  refine lv_aload_n hx hb dL_load_2 rfl (lv_at hl 0 rfl) ?_
  refine lv_iload_n hx hb dL_load_3 rfl (lv_at hl 1 rfl) ?_
  obtain ⟨r2, hy1, hf⟩ := ob_e hf
  refine xip h 430 sWL_0 (Nat.le_of_ble_eq_true rfl) (va_runV (As := [.int p1]) (rest := [.int (0 : Int32), .ref (q 430)]) hC (c_X8_load_n l G q v p1 hy1 H.size) (xcgV hC wMH_in lk_L_15 in_X8 co_X8_load im_X8_load se_X8_load rfl rfl dd_X8_load ⟨Nat.le_of_ble_eq_true rfl, Nat.le_of_ble_eq_true rfl⟩) (preVp h 430 sWL_0 (Nat.le_of_ble_eq_true rfl) (Nat.le_of_ble_eq_true rfl) eWL_0 rfl [.int p1]) rfl rfl hl.1 rfl (lv_room (Nat.le_of_ble_eq_true rfl)) dL_load_4 ⟨Nat.zero_le _, Nat.zero_le _⟩) (fun H locs h => ?_)
  obtain ⟨v3, ev3, hf⟩ := lt_e hf
  rw [← ev3] at h
  refine lv_i2l hx hb dL_load_7 rfl ?_
  refine xlast hC h 430 (Nat.le_of_ble_eq_true rfl) (fun _ => eWL_430) (x := r2.1) dL_load_8 (fun H locs h => ?_)
  obtain ⟨v4, ev4, hf⟩ := lt_e hf
  rw [← ev4] at h
  refine lv_goto (tgt := 18) hx hb dL_load_9 (by decide) ?_
  refine lv_iconst (v := (0 : Int32)) hx hb dL_load_18 (by decide) ?_
  have hf := sm_e hf
  exact xiret hC hr hlk h (by rw [← hf]) (by rw [← hf]) dL_load_19
set_option maxHeartbeats 4000000 in
theorem x_L_load_xIAE (l : Launch) (hst : l.stackTraces = false) (G : xGl) (sa q : Nat → Nat) (v : xSt) (p1 : Int32) {w : xSt} (hf : m_X8_load_t v p1 = some (xIAE, w)) : mRS l yL_load (wMH yL_load cL_load 4 (some .int) [(0, 9, 12, 19), (0, 9, 15, 13)]) { frames := 7, cells := 1, slots := 6, locals := 121 } G sa (e2 430 (eBC G) (eLng G)) 431 q v [.ref (q 0), .int p1, .ref (q 430)] (qI 1) (pu 0 430 v w) 1 6 := by
  refine xRSH (cc := cL_load) (maxL := 4) (ret := some .int) (hh := [(0, 9, 12, 19), (0, 9, 15, 13)]) (by decide) rfl (Nat.le_of_ble_eq_true rfl) ?_
  intro p e s m below meth c ls A hC hht hr hlk h hT hl
  have hx := hC.1
  have hb := hC.2.1
  have hl : lv_has ls 4 [(0, .ref (q 0)), (1, .int p1), (2, .ref (q 430))] := hl
  obtain ⟨H, hH⟩ : ∃ H, H = s.heap := ⟨_, rfl⟩
  obtain ⟨locs, hlo⟩ : ∃ x : List Loc, x = [] := ⟨_, rfl⟩
  have h : hg G (e2 430 (eBC G) (eLng G)) 431 q v A s H locs := by rw [hH, hlo]; exact h
  rw [← hlo, ← hH]
  clear hH hlo
  refine lv_aload_n hx hb dL_load_0 rfl (lv_at hl 2 rfl) ?_
  refine lv_iconst (v := (0 : Int32)) hx hb dL_load_1 (by decide) ?_
  refine lv_aload_n hx hb dL_load_2 rfl (lv_at hl 0 rfl) ?_
  refine lv_iload_n hx hb dL_load_3 rfl (lv_at hl 1 rfl) ?_
  refine xcth h 430 sWL_0 (Nat.le_of_ble_eq_true rfl) (vx_runV (As := [.int p1]) (rest := [.int 0, .ref (q 430)]) hC (c_X8_load_t l hst G sa q v p1 hf H.size) (xcgV hC wMH_in lk_L_15 in_X8 co_X8_load im_X8_load se_X8_load rfl rfl dd_X8_load ⟨Nat.le_of_ble_eq_true rfl, Nat.le_of_ble_eq_true rfl⟩) (preVT h hT 430 sWL_0 (Nat.le_of_ble_eq_true rfl) (Nat.le_of_ble_eq_true rfl) eWL_0 rfl [.int p1]) rfl rfl hl.1 rfl (lv_room (Nat.le_of_ble_eq_true rfl)) dL_load_4 ⟨Nat.le_of_ble_eq_true rfl, Nat.le_of_ble_eq_true rfl⟩) (fun ce q9 H locs h hce hcv hcl => ?_)
  refine vx_catch hC.2.2.2.1 [] ⟨0, 9, 12, 19⟩ [⟨0, 9, 15, 13⟩] (hht.trans rfl) (fun z hz => nomatch hz) (by decide) (by decide) (hC.2.2.2.2 _ (wMH_in _ ck_L_19)) (va_Nw.use rfl (hT.2.2.2.1.1 xIAE (by decide))) hce hcv hcl ?_
  refine lv_astore_n (lv' := [(3, .ref q9), (0, .ref (q 0)), (1, .int p1), (2, .ref (q 430))]) hx hb dL_load_12 rfl hl (by decide) rfl (fun ls hl => ?_)
  refine lv_iconst (v := (1 : Int32)) hx hb dL_load_13 (by decide) ?_
  exact xiretc hC hr hlk h rfl rfl dL_load_14
set_option maxHeartbeats 4000000 in
theorem x_L_load_xISE (l : Launch) (hst : l.stackTraces = false) (G : xGl) (sa q : Nat → Nat) (v : xSt) (p1 : Int32) {w : xSt} (hf : m_X8_load_t v p1 = some (xISE, w)) : mRS l yL_load (wMH yL_load cL_load 4 (some .int) [(0, 9, 12, 19), (0, 9, 15, 13)]) { frames := 7, cells := 1, slots := 6, locals := 121 } G sa (e2 430 (eBC G) (eLng G)) 431 q v [.ref (q 0), .int p1, .ref (q 430)] (qI 2) (pu 0 430 v w) 1 6 := by
  refine xRSH (cc := cL_load) (maxL := 4) (ret := some .int) (hh := [(0, 9, 12, 19), (0, 9, 15, 13)]) (by decide) rfl (Nat.le_of_ble_eq_true rfl) ?_
  intro p e s m below meth c ls A hC hht hr hlk h hT hl
  have hx := hC.1
  have hb := hC.2.1
  have hl : lv_has ls 4 [(0, .ref (q 0)), (1, .int p1), (2, .ref (q 430))] := hl
  obtain ⟨H, hH⟩ : ∃ H, H = s.heap := ⟨_, rfl⟩
  obtain ⟨locs, hlo⟩ : ∃ x : List Loc, x = [] := ⟨_, rfl⟩
  have h : hg G (e2 430 (eBC G) (eLng G)) 431 q v A s H locs := by rw [hH, hlo]; exact h
  rw [← hlo, ← hH]
  clear hH hlo
  refine lv_aload_n hx hb dL_load_0 rfl (lv_at hl 2 rfl) ?_
  refine lv_iconst (v := (0 : Int32)) hx hb dL_load_1 (by decide) ?_
  refine lv_aload_n hx hb dL_load_2 rfl (lv_at hl 0 rfl) ?_
  refine lv_iload_n hx hb dL_load_3 rfl (lv_at hl 1 rfl) ?_
  refine xcth h 430 sWL_0 (Nat.le_of_ble_eq_true rfl) (vx_runV (As := [.int p1]) (rest := [.int 0, .ref (q 430)]) hC (c_X8_load_t l hst G sa q v p1 hf H.size) (xcgV hC wMH_in lk_L_15 in_X8 co_X8_load im_X8_load se_X8_load rfl rfl dd_X8_load ⟨Nat.le_of_ble_eq_true rfl, Nat.le_of_ble_eq_true rfl⟩) (preVT h hT 430 sWL_0 (Nat.le_of_ble_eq_true rfl) (Nat.le_of_ble_eq_true rfl) eWL_0 rfl [.int p1]) rfl rfl hl.1 rfl (lv_room (Nat.le_of_ble_eq_true rfl)) dL_load_4 ⟨Nat.le_of_ble_eq_true rfl, Nat.le_of_ble_eq_true rfl⟩) (fun ce q9 H locs h hce hcv hcl => ?_)
  refine vx_catch hC.2.2.2.1 [⟨0, 9, 12, 19⟩] ⟨0, 9, 15, 13⟩ [] (hht.trans rfl) (List.forall_mem_singleton.mpr (Or.inr ⟨by decide, xIAE, hC.2.2.2.2 _ (wMH_in _ ck_L_19), hT.2.2.2.2.1 xISE (by decide) xIAE (by decide) (by decide +kernel)⟩)) (by decide) (by decide) (hC.2.2.2.2 _ (wMH_in _ ck_L_13)) (va_Nw.use rfl (hT.2.2.2.1.1 xISE (by decide))) hce hcv hcl ?_
  refine lv_astore_n (lv' := [(3, .ref q9), (0, .ref (q 0)), (1, .int p1), (2, .ref (q 430))]) hx hb dL_load_15 rfl hl (by decide) rfl (fun ls hl => ?_)
  refine lv_iconst (v := (2 : Int32)) hx hb dL_load_16 (by decide) ?_
  exact xiretc hC hr hlk h rfl rfl dL_load_17
def m_L_write (v : xSt) (p1 : Int32) : Option (Int32 × xSt) := ob (m_X8_write_n v p1) (fun r2 => lt (pu 0 430 v r2.2) (fun v3 => lt (st2 v3 430 0 r2.1) (fun v4 => some ((0 : Int32), v4))))
set_option maxHeartbeats 4000000 in
set_option maxRecDepth 100000 in
theorem c_L_write (l : Launch) (G : xGl) (sa q : Nat → Nat) (v : xSt) (p1 : Int32) {z : (Int32 × xSt)} (hf : m_L_write v p1 = some z) : mRS l yL_write (wMH yL_write cL_write 4 (some .int) [(0, 9, 12, 24), (0, 9, 15, 13)]) { frames := 7, cells := 0, slots := 0, locals := 189 } G sa (e2 430 (eBC G) (eLng G)) 431 q v [.ref (q 0), .int p1, .ref (q 430)] (qI z.1) z.2 0 0 := by
  refine xRSH (cc := cL_write) (maxL := 4) (ret := (some .int)) (by decide) rfl (Nat.le_of_ble_eq_true rfl) ?_
  intro p e s m below meth c ls A hC hht hr hlk h hT hl
  have hx := hC.1
  have hb := hC.2.1
  have hl : lv_has ls 4 [(0, .ref (q 0)), (1, .int p1), (2, .ref (q 430))] := hl
  unfold m_L_write at hf
  obtain ⟨H, hH⟩ : ∃ H, H = s.heap := ⟨_, rfl⟩
  obtain ⟨locs, hlo⟩ : ∃ x : List Loc, x = [] := ⟨_, rfl⟩
  have h : hg G (e2 430 (eBC G) (eLng G)) 431 q v A s H locs := by rw [hH, hlo]; exact h
  rw [← hlo, ← hH]
  clear hH hlo
  refine lv_aload_n hx hb dL_write_0 rfl (lv_at hl 2 rfl) ?_
  refine lv_iconst (v := (0 : Int32)) hx hb dL_write_1 (by decide) ?_
  refine lv_aload_n hx hb dL_write_2 rfl (lv_at hl 0 rfl) ?_
  refine lv_iload_n hx hb dL_write_3 rfl (lv_at hl 1 rfl) ?_
  obtain ⟨r2, hy1, hf⟩ := ob_e hf
  refine xip h 430 sWL_0 (Nat.le_of_ble_eq_true rfl) (va_runV (As := [.int p1]) (rest := [.int (0 : Int32), .ref (q 430)]) hC (c_X8_write_n l G q v p1 hy1 H.size) (xcgV hC wMH_in lk_L_21 in_X8 co_X8_write im_X8_write se_X8_write rfl rfl dd_X8_write ⟨Nat.le_of_ble_eq_true rfl, Nat.le_of_ble_eq_true rfl⟩) (preVp h 430 sWL_0 (Nat.le_of_ble_eq_true rfl) (Nat.le_of_ble_eq_true rfl) eWL_0 rfl [.int p1]) rfl rfl hl.1 rfl (lv_room (Nat.le_of_ble_eq_true rfl)) dL_write_4 ⟨Nat.zero_le _, Nat.zero_le _⟩) (fun H locs h => ?_)
  obtain ⟨v3, ev3, hf⟩ := lt_e hf
  rw [← ev3] at h
  refine lv_i2l hx hb dL_write_7 rfl ?_
  refine xlast hC h 430 (Nat.le_of_ble_eq_true rfl) (fun _ => eWL_430) (x := r2.1) dL_write_8 (fun H locs h => ?_)
  obtain ⟨v4, ev4, hf⟩ := lt_e hf
  rw [← ev4] at h
  refine lv_goto (tgt := 18) hx hb dL_write_9 (by decide) ?_
  refine lv_iconst (v := (0 : Int32)) hx hb dL_write_18 (by decide) ?_
  have hf := sm_e hf
  exact xiret hC hr hlk h (by rw [← hf]) (by rw [← hf]) dL_write_19
set_option maxHeartbeats 4000000 in
theorem x_L_write_xIOB (l : Launch) (hst : l.stackTraces = false) (G : xGl) (sa q : Nat → Nat) (v : xSt) (p1 : Int32) {w : xSt} (hf : m_X8_write_t v p1 = some (xIOB, w)) : mRS l yL_write (wMH yL_write cL_write 4 (some .int) [(0, 9, 12, 24), (0, 9, 15, 13)]) { frames := 7, cells := 1, slots := 6, locals := 121 } G sa (e2 430 (eBC G) (eLng G)) 431 q v [.ref (q 0), .int p1, .ref (q 430)] (qI 1) (pu 0 430 v w) 1 6 := by
  refine xRSH (cc := cL_write) (maxL := 4) (ret := some .int) (hh := [(0, 9, 12, 24), (0, 9, 15, 13)]) (by decide) rfl (Nat.le_of_ble_eq_true rfl) ?_
  intro p e s m below meth c ls A hC hht hr hlk h hT hl
  have hx := hC.1
  have hb := hC.2.1
  have hl : lv_has ls 4 [(0, .ref (q 0)), (1, .int p1), (2, .ref (q 430))] := hl
  obtain ⟨H, hH⟩ : ∃ H, H = s.heap := ⟨_, rfl⟩
  obtain ⟨locs, hlo⟩ : ∃ x : List Loc, x = [] := ⟨_, rfl⟩
  have h : hg G (e2 430 (eBC G) (eLng G)) 431 q v A s H locs := by rw [hH, hlo]; exact h
  rw [← hlo, ← hH]
  clear hH hlo
  refine lv_aload_n hx hb dL_write_0 rfl (lv_at hl 2 rfl) ?_
  refine lv_iconst (v := (0 : Int32)) hx hb dL_write_1 (by decide) ?_
  refine lv_aload_n hx hb dL_write_2 rfl (lv_at hl 0 rfl) ?_
  refine lv_iload_n hx hb dL_write_3 rfl (lv_at hl 1 rfl) ?_
  refine xcth h 430 sWL_0 (Nat.le_of_ble_eq_true rfl) (vx_runV (As := [.int p1]) (rest := [.int 0, .ref (q 430)]) hC (c_X8_write_t l hst G sa q v p1 hf H.size) (xcgV hC wMH_in lk_L_21 in_X8 co_X8_write im_X8_write se_X8_write rfl rfl dd_X8_write ⟨Nat.le_of_ble_eq_true rfl, Nat.le_of_ble_eq_true rfl⟩) (preVT h hT 430 sWL_0 (Nat.le_of_ble_eq_true rfl) (Nat.le_of_ble_eq_true rfl) eWL_0 rfl [.int p1]) rfl rfl hl.1 rfl (lv_room (Nat.le_of_ble_eq_true rfl)) dL_write_4 ⟨Nat.le_of_ble_eq_true rfl, Nat.le_of_ble_eq_true rfl⟩) (fun ce q9 H locs h hce hcv hcl => ?_)
  refine vx_catch hC.2.2.2.1 [] ⟨0, 9, 12, 24⟩ [⟨0, 9, 15, 13⟩] (hht.trans rfl) (fun z hz => nomatch hz) (by decide) (by decide) (hC.2.2.2.2 _ (wMH_in _ ck_L_24)) (va_Nw.use rfl (hT.2.2.2.1.1 xIOB (by decide))) hce hcv hcl ?_
  refine lv_astore_n (lv' := [(3, .ref q9), (0, .ref (q 0)), (1, .int p1), (2, .ref (q 430))]) hx hb dL_write_12 rfl hl (by decide) rfl (fun ls hl => ?_)
  refine lv_iconst (v := (1 : Int32)) hx hb dL_write_13 (by decide) ?_
  exact xiretc hC hr hlk h rfl rfl dL_write_14
set_option maxHeartbeats 4000000 in
theorem x_L_write_xISE (l : Launch) (hst : l.stackTraces = false) (G : xGl) (sa q : Nat → Nat) (v : xSt) (p1 : Int32) {w : xSt} (hf : m_X8_write_t v p1 = some (xISE, w)) : mRS l yL_write (wMH yL_write cL_write 4 (some .int) [(0, 9, 12, 24), (0, 9, 15, 13)]) { frames := 7, cells := 1, slots := 6, locals := 121 } G sa (e2 430 (eBC G) (eLng G)) 431 q v [.ref (q 0), .int p1, .ref (q 430)] (qI 2) (pu 0 430 v w) 1 6 := by
  refine xRSH (cc := cL_write) (maxL := 4) (ret := some .int) (hh := [(0, 9, 12, 24), (0, 9, 15, 13)]) (by decide) rfl (Nat.le_of_ble_eq_true rfl) ?_
  intro p e s m below meth c ls A hC hht hr hlk h hT hl
  have hx := hC.1
  have hb := hC.2.1
  have hl : lv_has ls 4 [(0, .ref (q 0)), (1, .int p1), (2, .ref (q 430))] := hl
  obtain ⟨H, hH⟩ : ∃ H, H = s.heap := ⟨_, rfl⟩
  obtain ⟨locs, hlo⟩ : ∃ x : List Loc, x = [] := ⟨_, rfl⟩
  have h : hg G (e2 430 (eBC G) (eLng G)) 431 q v A s H locs := by rw [hH, hlo]; exact h
  rw [← hlo, ← hH]
  clear hH hlo
  refine lv_aload_n hx hb dL_write_0 rfl (lv_at hl 2 rfl) ?_
  refine lv_iconst (v := (0 : Int32)) hx hb dL_write_1 (by decide) ?_
  refine lv_aload_n hx hb dL_write_2 rfl (lv_at hl 0 rfl) ?_
  refine lv_iload_n hx hb dL_write_3 rfl (lv_at hl 1 rfl) ?_
  refine xcth h 430 sWL_0 (Nat.le_of_ble_eq_true rfl) (vx_runV (As := [.int p1]) (rest := [.int 0, .ref (q 430)]) hC (c_X8_write_t l hst G sa q v p1 hf H.size) (xcgV hC wMH_in lk_L_21 in_X8 co_X8_write im_X8_write se_X8_write rfl rfl dd_X8_write ⟨Nat.le_of_ble_eq_true rfl, Nat.le_of_ble_eq_true rfl⟩) (preVT h hT 430 sWL_0 (Nat.le_of_ble_eq_true rfl) (Nat.le_of_ble_eq_true rfl) eWL_0 rfl [.int p1]) rfl rfl hl.1 rfl (lv_room (Nat.le_of_ble_eq_true rfl)) dL_write_4 ⟨Nat.le_of_ble_eq_true rfl, Nat.le_of_ble_eq_true rfl⟩) (fun ce q9 H locs h hce hcv hcl => ?_)
  refine vx_catch hC.2.2.2.1 [⟨0, 9, 12, 24⟩] ⟨0, 9, 15, 13⟩ [] (hht.trans rfl) (List.forall_mem_singleton.mpr (Or.inr ⟨by decide, xIOB, hC.2.2.2.2 _ (wMH_in _ ck_L_24), hT.2.2.2.2.1 xISE (by decide) xIOB (by decide) (by decide +kernel)⟩)) (by decide) (by decide) (hC.2.2.2.2 _ (wMH_in _ ck_L_13)) (va_Nw.use rfl (hT.2.2.2.1.1 xISE (by decide))) hce hcv hcl ?_
  refine lv_astore_n (lv' := [(3, .ref q9), (0, .ref (q 0)), (1, .int p1), (2, .ref (q 430))]) hx hb dL_write_15 rfl hl (by decide) rfl (fun ls hl => ?_)
  refine lv_iconst (v := (2 : Int32)) hx hb dL_write_16 (by decide) ?_
  exact xiretc hC hr hlk h rfl rfl dL_write_17
def m_L_erase (v : xSt) (p1 : Int32) : Option (Int32 × xSt) := ob (m_X8_erase_n v p1) (fun r2 => lt (pu 0 430 v r2.2) (fun v3 => lt (st2 v3 430 0 r2.1) (fun v4 => some ((0 : Int32), v4))))
set_option maxHeartbeats 4000000 in
set_option maxRecDepth 100000 in
theorem c_L_erase (l : Launch) (G : xGl) (sa q : Nat → Nat) (v : xSt) (p1 : Int32) {z : (Int32 × xSt)} (hf : m_L_erase v p1 = some z) : mRS l yL_erase (wMH yL_erase cL_erase 4 (some .int) [(0, 9, 12, 24), (0, 9, 15, 13)]) { frames := 7, cells := 0, slots := 0, locals := 189 } G sa (e2 430 (eBC G) (eLng G)) 431 q v [.ref (q 0), .int p1, .ref (q 430)] (qI z.1) z.2 0 0 := by
  refine xRSH (cc := cL_erase) (maxL := 4) (ret := (some .int)) (by decide) rfl (Nat.le_of_ble_eq_true rfl) ?_
  intro p e s m below meth c ls A hC hht hr hlk h hT hl
  have hx := hC.1
  have hb := hC.2.1
  have hl : lv_has ls 4 [(0, .ref (q 0)), (1, .int p1), (2, .ref (q 430))] := hl
  unfold m_L_erase at hf
  obtain ⟨H, hH⟩ : ∃ H, H = s.heap := ⟨_, rfl⟩
  obtain ⟨locs, hlo⟩ : ∃ x : List Loc, x = [] := ⟨_, rfl⟩
  have h : hg G (e2 430 (eBC G) (eLng G)) 431 q v A s H locs := by rw [hH, hlo]; exact h
  rw [← hlo, ← hH]
  clear hH hlo
  refine lv_aload_n hx hb dL_erase_0 rfl (lv_at hl 2 rfl) ?_
  refine lv_iconst (v := (0 : Int32)) hx hb dL_erase_1 (by decide) ?_
  refine lv_aload_n hx hb dL_erase_2 rfl (lv_at hl 0 rfl) ?_
  refine lv_iload_n hx hb dL_erase_3 rfl (lv_at hl 1 rfl) ?_
  obtain ⟨r2, hy1, hf⟩ := ob_e hf
  refine xip h 430 sWL_0 (Nat.le_of_ble_eq_true rfl) (va_runV (As := [.int p1]) (rest := [.int (0 : Int32), .ref (q 430)]) hC (c_X8_erase_n l G q v p1 hy1 H.size) (xcgV hC wMH_in lk_L_26 in_X8 co_X8_erase im_X8_erase se_X8_erase rfl rfl dd_X8_erase ⟨Nat.le_of_ble_eq_true rfl, Nat.le_of_ble_eq_true rfl⟩) (preVp h 430 sWL_0 (Nat.le_of_ble_eq_true rfl) (Nat.le_of_ble_eq_true rfl) eWL_0 rfl [.int p1]) rfl rfl hl.1 rfl (lv_room (Nat.le_of_ble_eq_true rfl)) dL_erase_4 ⟨Nat.zero_le _, Nat.zero_le _⟩) (fun H locs h => ?_)
  obtain ⟨v3, ev3, hf⟩ := lt_e hf
  rw [← ev3] at h
  refine lv_i2l hx hb dL_erase_7 rfl ?_
  refine xlast hC h 430 (Nat.le_of_ble_eq_true rfl) (fun _ => eWL_430) (x := r2.1) dL_erase_8 (fun H locs h => ?_)
  obtain ⟨v4, ev4, hf⟩ := lt_e hf
  rw [← ev4] at h
  refine lv_goto (tgt := 18) hx hb dL_erase_9 (by decide) ?_
  refine lv_iconst (v := (0 : Int32)) hx hb dL_erase_18 (by decide) ?_
  have hf := sm_e hf
  exact xiret hC hr hlk h (by rw [← hf]) (by rw [← hf]) dL_erase_19
set_option maxHeartbeats 4000000 in
theorem x_L_erase_xIOB (l : Launch) (hst : l.stackTraces = false) (G : xGl) (sa q : Nat → Nat) (v : xSt) (p1 : Int32) {w : xSt} (hf : m_X8_erase_t v p1 = some (xIOB, w)) : mRS l yL_erase (wMH yL_erase cL_erase 4 (some .int) [(0, 9, 12, 24), (0, 9, 15, 13)]) { frames := 7, cells := 1, slots := 6, locals := 121 } G sa (e2 430 (eBC G) (eLng G)) 431 q v [.ref (q 0), .int p1, .ref (q 430)] (qI 1) (pu 0 430 v w) 1 6 := by
  refine xRSH (cc := cL_erase) (maxL := 4) (ret := some .int) (hh := [(0, 9, 12, 24), (0, 9, 15, 13)]) (by decide) rfl (Nat.le_of_ble_eq_true rfl) ?_
  intro p e s m below meth c ls A hC hht hr hlk h hT hl
  have hx := hC.1
  have hb := hC.2.1
  have hl : lv_has ls 4 [(0, .ref (q 0)), (1, .int p1), (2, .ref (q 430))] := hl
  obtain ⟨H, hH⟩ : ∃ H, H = s.heap := ⟨_, rfl⟩
  obtain ⟨locs, hlo⟩ : ∃ x : List Loc, x = [] := ⟨_, rfl⟩
  have h : hg G (e2 430 (eBC G) (eLng G)) 431 q v A s H locs := by rw [hH, hlo]; exact h
  rw [← hlo, ← hH]
  clear hH hlo
  refine lv_aload_n hx hb dL_erase_0 rfl (lv_at hl 2 rfl) ?_
  refine lv_iconst (v := (0 : Int32)) hx hb dL_erase_1 (by decide) ?_
  refine lv_aload_n hx hb dL_erase_2 rfl (lv_at hl 0 rfl) ?_
  refine lv_iload_n hx hb dL_erase_3 rfl (lv_at hl 1 rfl) ?_
  refine xcth h 430 sWL_0 (Nat.le_of_ble_eq_true rfl) (vx_runV (As := [.int p1]) (rest := [.int 0, .ref (q 430)]) hC (c_X8_erase_t l hst G sa q v p1 hf H.size) (xcgV hC wMH_in lk_L_26 in_X8 co_X8_erase im_X8_erase se_X8_erase rfl rfl dd_X8_erase ⟨Nat.le_of_ble_eq_true rfl, Nat.le_of_ble_eq_true rfl⟩) (preVT h hT 430 sWL_0 (Nat.le_of_ble_eq_true rfl) (Nat.le_of_ble_eq_true rfl) eWL_0 rfl [.int p1]) rfl rfl hl.1 rfl (lv_room (Nat.le_of_ble_eq_true rfl)) dL_erase_4 ⟨Nat.le_of_ble_eq_true rfl, Nat.le_of_ble_eq_true rfl⟩) (fun ce q9 H locs h hce hcv hcl => ?_)
  refine vx_catch hC.2.2.2.1 [] ⟨0, 9, 12, 24⟩ [⟨0, 9, 15, 13⟩] (hht.trans rfl) (fun z hz => nomatch hz) (by decide) (by decide) (hC.2.2.2.2 _ (wMH_in _ ck_L_24)) (va_Nw.use rfl (hT.2.2.2.1.1 xIOB (by decide))) hce hcv hcl ?_
  refine lv_astore_n (lv' := [(3, .ref q9), (0, .ref (q 0)), (1, .int p1), (2, .ref (q 430))]) hx hb dL_erase_12 rfl hl (by decide) rfl (fun ls hl => ?_)
  refine lv_iconst (v := (1 : Int32)) hx hb dL_erase_13 (by decide) ?_
  exact xiretc hC hr hlk h rfl rfl dL_erase_14
set_option maxHeartbeats 4000000 in
theorem x_L_erase_xISE (l : Launch) (hst : l.stackTraces = false) (G : xGl) (sa q : Nat → Nat) (v : xSt) (p1 : Int32) {w : xSt} (hf : m_X8_erase_t v p1 = some (xISE, w)) : mRS l yL_erase (wMH yL_erase cL_erase 4 (some .int) [(0, 9, 12, 24), (0, 9, 15, 13)]) { frames := 7, cells := 1, slots := 6, locals := 121 } G sa (e2 430 (eBC G) (eLng G)) 431 q v [.ref (q 0), .int p1, .ref (q 430)] (qI 2) (pu 0 430 v w) 1 6 := by
  refine xRSH (cc := cL_erase) (maxL := 4) (ret := some .int) (hh := [(0, 9, 12, 24), (0, 9, 15, 13)]) (by decide) rfl (Nat.le_of_ble_eq_true rfl) ?_
  intro p e s m below meth c ls A hC hht hr hlk h hT hl
  have hx := hC.1
  have hb := hC.2.1
  have hl : lv_has ls 4 [(0, .ref (q 0)), (1, .int p1), (2, .ref (q 430))] := hl
  obtain ⟨H, hH⟩ : ∃ H, H = s.heap := ⟨_, rfl⟩
  obtain ⟨locs, hlo⟩ : ∃ x : List Loc, x = [] := ⟨_, rfl⟩
  have h : hg G (e2 430 (eBC G) (eLng G)) 431 q v A s H locs := by rw [hH, hlo]; exact h
  rw [← hlo, ← hH]
  clear hH hlo
  refine lv_aload_n hx hb dL_erase_0 rfl (lv_at hl 2 rfl) ?_
  refine lv_iconst (v := (0 : Int32)) hx hb dL_erase_1 (by decide) ?_
  refine lv_aload_n hx hb dL_erase_2 rfl (lv_at hl 0 rfl) ?_
  refine lv_iload_n hx hb dL_erase_3 rfl (lv_at hl 1 rfl) ?_
  refine xcth h 430 sWL_0 (Nat.le_of_ble_eq_true rfl) (vx_runV (As := [.int p1]) (rest := [.int 0, .ref (q 430)]) hC (c_X8_erase_t l hst G sa q v p1 hf H.size) (xcgV hC wMH_in lk_L_26 in_X8 co_X8_erase im_X8_erase se_X8_erase rfl rfl dd_X8_erase ⟨Nat.le_of_ble_eq_true rfl, Nat.le_of_ble_eq_true rfl⟩) (preVT h hT 430 sWL_0 (Nat.le_of_ble_eq_true rfl) (Nat.le_of_ble_eq_true rfl) eWL_0 rfl [.int p1]) rfl rfl hl.1 rfl (lv_room (Nat.le_of_ble_eq_true rfl)) dL_erase_4 ⟨Nat.le_of_ble_eq_true rfl, Nat.le_of_ble_eq_true rfl⟩) (fun ce q9 H locs h hce hcv hcl => ?_)
  refine vx_catch hC.2.2.2.1 [⟨0, 9, 12, 24⟩] ⟨0, 9, 15, 13⟩ [] (hht.trans rfl) (List.forall_mem_singleton.mpr (Or.inr ⟨by decide, xIOB, hC.2.2.2.2 _ (wMH_in _ ck_L_24), hT.2.2.2.2.1 xISE (by decide) xIOB (by decide) (by decide +kernel)⟩)) (by decide) (by decide) (hC.2.2.2.2 _ (wMH_in _ ck_L_13)) (va_Nw.use rfl (hT.2.2.2.1.1 xISE (by decide))) hce hcv hcl ?_
  refine lv_astore_n (lv' := [(3, .ref q9), (0, .ref (q 0)), (1, .int p1), (2, .ref (q 430))]) hx hb dL_erase_15 rfl hl (by decide) rfl (fun ls hl => ?_)
  refine lv_iconst (v := (2 : Int32)) hx hb dL_erase_16 (by decide) ?_
  exact xiretc hC hr hlk h rfl rfl dL_erase_17
def m_L_lock (v : xSt) (p1 : Int32) (p2 : Int32) : Option (Int32 × xSt) := ob (m_X8_lock_n v p1 p2) (fun r2 => lt (pu 0 430 v r2.2) (fun v3 => lt (st2 v3 430 0 r2.1) (fun v4 => some ((0 : Int32), v4))))
set_option maxHeartbeats 4000000 in
set_option maxRecDepth 100000 in
theorem c_L_lock (l : Launch) (G : xGl) (sa q : Nat → Nat) (v : xSt) (p1 : Int32) (p2 : Int32) {z : (Int32 × xSt)} (hf : m_L_lock v p1 p2 = some z) : mRS l yL_lock (wMH yL_lock cL_lock 5 (some .int) [(0, 10, 13, 19), (0, 10, 17, 13)]) { frames := 7, cells := 0, slots := 0, locals := 190 } G sa (e2 430 (eBC G) (eLng G)) 431 q v [.ref (q 0), .int p1, .int p2, .ref (q 430)] (qI z.1) z.2 0 0 := by
  refine xRSH (cc := cL_lock) (maxL := 5) (ret := (some .int)) (by decide) rfl (Nat.le_of_ble_eq_true rfl) ?_
  intro p e s m below meth c ls A hC hht hr hlk h hT hl
  have hx := hC.1
  have hb := hC.2.1
  have hl : lv_has ls 5 [(0, .ref (q 0)), (1, .int p1), (2, .int p2), (3, .ref (q 430))] := hl
  unfold m_L_lock at hf
  obtain ⟨H, hH⟩ : ∃ H, H = s.heap := ⟨_, rfl⟩
  obtain ⟨locs, hlo⟩ : ∃ x : List Loc, x = [] := ⟨_, rfl⟩
  have h : hg G (e2 430 (eBC G) (eLng G)) 431 q v A s H locs := by rw [hH, hlo]; exact h
  rw [← hlo, ← hH]
  clear hH hlo
  refine lv_aload_n hx hb dL_lock_0 rfl (lv_at hl 3 rfl) ?_
  refine lv_iconst (v := (0 : Int32)) hx hb dL_lock_1 (by decide) ?_
  refine lv_aload_n hx hb dL_lock_2 rfl (lv_at hl 0 rfl) ?_
  refine lv_iload_n hx hb dL_lock_3 rfl (lv_at hl 1 rfl) ?_
  refine lv_iload_n hx hb dL_lock_4 rfl (lv_at hl 2 rfl) ?_
  obtain ⟨r2, hy1, hf⟩ := ob_e hf
  refine xip h 430 sWL_0 (Nat.le_of_ble_eq_true rfl) (va_runV (As := [.int p1, .int p2]) (rest := [.int (0 : Int32), .ref (q 430)]) hC (c_X8_lock_n l G q v p1 p2 hy1 H.size) (xcgV hC wMH_in lk_L_29 in_X8 co_X8_lock im_X8_lock se_X8_lock rfl rfl dd_X8_lock ⟨Nat.le_of_ble_eq_true rfl, Nat.le_of_ble_eq_true rfl⟩) (preVp h 430 sWL_0 (Nat.le_of_ble_eq_true rfl) (Nat.le_of_ble_eq_true rfl) eWL_0 rfl [.int p1, .int p2]) rfl rfl hl.1 rfl (lv_room (Nat.le_of_ble_eq_true rfl)) dL_lock_5 ⟨Nat.zero_le _, Nat.zero_le _⟩) (fun H locs h => ?_)
  obtain ⟨v3, ev3, hf⟩ := lt_e hf
  rw [← ev3] at h
  refine lv_i2l hx hb dL_lock_8 rfl ?_
  refine xlast hC h 430 (Nat.le_of_ble_eq_true rfl) (fun _ => eWL_430) (x := r2.1) dL_lock_9 (fun H locs h => ?_)
  obtain ⟨v4, ev4, hf⟩ := lt_e hf
  rw [← ev4] at h
  refine lv_goto (tgt := 21) hx hb dL_lock_10 (by decide) ?_
  refine lv_iconst (v := (0 : Int32)) hx hb dL_lock_21 (by decide) ?_
  have hf := sm_e hf
  exact xiret hC hr hlk h (by rw [← hf]) (by rw [← hf]) dL_lock_22
set_option maxHeartbeats 4000000 in
theorem x_L_lock_xIAE (l : Launch) (hst : l.stackTraces = false) (G : xGl) (sa q : Nat → Nat) (v : xSt) (p1 : Int32) (p2 : Int32) {w : xSt} (hf : m_X8_lock_t v p1 p2 = some (xIAE, w)) : mRS l yL_lock (wMH yL_lock cL_lock 5 (some .int) [(0, 10, 13, 19), (0, 10, 17, 13)]) { frames := 7, cells := 1, slots := 6, locals := 122 } G sa (e2 430 (eBC G) (eLng G)) 431 q v [.ref (q 0), .int p1, .int p2, .ref (q 430)] (qI 1) (pu 0 430 v w) 1 6 := by
  refine xRSH (cc := cL_lock) (maxL := 5) (ret := some .int) (hh := [(0, 10, 13, 19), (0, 10, 17, 13)]) (by decide) rfl (Nat.le_of_ble_eq_true rfl) ?_
  intro p e s m below meth c ls A hC hht hr hlk h hT hl
  have hx := hC.1
  have hb := hC.2.1
  have hl : lv_has ls 5 [(0, .ref (q 0)), (1, .int p1), (2, .int p2), (3, .ref (q 430))] := hl
  obtain ⟨H, hH⟩ : ∃ H, H = s.heap := ⟨_, rfl⟩
  obtain ⟨locs, hlo⟩ : ∃ x : List Loc, x = [] := ⟨_, rfl⟩
  have h : hg G (e2 430 (eBC G) (eLng G)) 431 q v A s H locs := by rw [hH, hlo]; exact h
  rw [← hlo, ← hH]
  clear hH hlo
  refine lv_aload_n hx hb dL_lock_0 rfl (lv_at hl 3 rfl) ?_
  refine lv_iconst (v := (0 : Int32)) hx hb dL_lock_1 (by decide) ?_
  refine lv_aload_n hx hb dL_lock_2 rfl (lv_at hl 0 rfl) ?_
  refine lv_iload_n hx hb dL_lock_3 rfl (lv_at hl 1 rfl) ?_
  refine lv_iload_n hx hb dL_lock_4 rfl (lv_at hl 2 rfl) ?_
  refine xcth h 430 sWL_0 (Nat.le_of_ble_eq_true rfl) (vx_runV (As := [.int p1, .int p2]) (rest := [.int 0, .ref (q 430)]) hC (c_X8_lock_t l hst G sa q v p1 p2 hf H.size) (xcgV hC wMH_in lk_L_29 in_X8 co_X8_lock im_X8_lock se_X8_lock rfl rfl dd_X8_lock ⟨Nat.le_of_ble_eq_true rfl, Nat.le_of_ble_eq_true rfl⟩) (preVT h hT 430 sWL_0 (Nat.le_of_ble_eq_true rfl) (Nat.le_of_ble_eq_true rfl) eWL_0 rfl [.int p1, .int p2]) rfl rfl hl.1 rfl (lv_room (Nat.le_of_ble_eq_true rfl)) dL_lock_5 ⟨Nat.le_of_ble_eq_true rfl, Nat.le_of_ble_eq_true rfl⟩) (fun ce q9 H locs h hce hcv hcl => ?_)
  refine vx_catch hC.2.2.2.1 [] ⟨0, 10, 13, 19⟩ [⟨0, 10, 17, 13⟩] (hht.trans rfl) (fun z hz => nomatch hz) (by decide) (by decide) (hC.2.2.2.2 _ (wMH_in _ ck_L_19)) (va_Nw.use rfl (hT.2.2.2.1.1 xIAE (by decide))) hce hcv hcl ?_
  refine lv_astore (lv' := [(4, .ref q9), (0, .ref (q 0)), (1, .int p1), (2, .int p2), (3, .ref (q 430))]) hx hb dL_lock_13 hl (by decide) rfl (fun ls hl => ?_)
  refine lv_iconst (v := (1 : Int32)) hx hb dL_lock_15 (by decide) ?_
  exact xiretc hC hr hlk h rfl rfl dL_lock_16
set_option maxHeartbeats 4000000 in
theorem x_L_lock_xISE (l : Launch) (hst : l.stackTraces = false) (G : xGl) (sa q : Nat → Nat) (v : xSt) (p1 : Int32) (p2 : Int32) {w : xSt} (hf : m_X8_lock_t v p1 p2 = some (xISE, w)) : mRS l yL_lock (wMH yL_lock cL_lock 5 (some .int) [(0, 10, 13, 19), (0, 10, 17, 13)]) { frames := 7, cells := 1, slots := 6, locals := 122 } G sa (e2 430 (eBC G) (eLng G)) 431 q v [.ref (q 0), .int p1, .int p2, .ref (q 430)] (qI 2) (pu 0 430 v w) 1 6 := by
  refine xRSH (cc := cL_lock) (maxL := 5) (ret := some .int) (hh := [(0, 10, 13, 19), (0, 10, 17, 13)]) (by decide) rfl (Nat.le_of_ble_eq_true rfl) ?_
  intro p e s m below meth c ls A hC hht hr hlk h hT hl
  have hx := hC.1
  have hb := hC.2.1
  have hl : lv_has ls 5 [(0, .ref (q 0)), (1, .int p1), (2, .int p2), (3, .ref (q 430))] := hl
  obtain ⟨H, hH⟩ : ∃ H, H = s.heap := ⟨_, rfl⟩
  obtain ⟨locs, hlo⟩ : ∃ x : List Loc, x = [] := ⟨_, rfl⟩
  have h : hg G (e2 430 (eBC G) (eLng G)) 431 q v A s H locs := by rw [hH, hlo]; exact h
  rw [← hlo, ← hH]
  clear hH hlo
  refine lv_aload_n hx hb dL_lock_0 rfl (lv_at hl 3 rfl) ?_
  refine lv_iconst (v := (0 : Int32)) hx hb dL_lock_1 (by decide) ?_
  refine lv_aload_n hx hb dL_lock_2 rfl (lv_at hl 0 rfl) ?_
  refine lv_iload_n hx hb dL_lock_3 rfl (lv_at hl 1 rfl) ?_
  refine lv_iload_n hx hb dL_lock_4 rfl (lv_at hl 2 rfl) ?_
  refine xcth h 430 sWL_0 (Nat.le_of_ble_eq_true rfl) (vx_runV (As := [.int p1, .int p2]) (rest := [.int 0, .ref (q 430)]) hC (c_X8_lock_t l hst G sa q v p1 p2 hf H.size) (xcgV hC wMH_in lk_L_29 in_X8 co_X8_lock im_X8_lock se_X8_lock rfl rfl dd_X8_lock ⟨Nat.le_of_ble_eq_true rfl, Nat.le_of_ble_eq_true rfl⟩) (preVT h hT 430 sWL_0 (Nat.le_of_ble_eq_true rfl) (Nat.le_of_ble_eq_true rfl) eWL_0 rfl [.int p1, .int p2]) rfl rfl hl.1 rfl (lv_room (Nat.le_of_ble_eq_true rfl)) dL_lock_5 ⟨Nat.le_of_ble_eq_true rfl, Nat.le_of_ble_eq_true rfl⟩) (fun ce q9 H locs h hce hcv hcl => ?_)
  refine vx_catch hC.2.2.2.1 [⟨0, 10, 13, 19⟩] ⟨0, 10, 17, 13⟩ [] (hht.trans rfl) (List.forall_mem_singleton.mpr (Or.inr ⟨by decide, xIAE, hC.2.2.2.2 _ (wMH_in _ ck_L_19), hT.2.2.2.2.1 xISE (by decide) xIAE (by decide) (by decide +kernel)⟩)) (by decide) (by decide) (hC.2.2.2.2 _ (wMH_in _ ck_L_13)) (va_Nw.use rfl (hT.2.2.2.1.1 xISE (by decide))) hce hcv hcl ?_
  refine lv_astore (lv' := [(4, .ref q9), (0, .ref (q 0)), (1, .int p1), (2, .int p2), (3, .ref (q 430))]) hx hb dL_lock_17 hl (by decide) rfl (fun ls hl => ?_)
  refine lv_iconst (v := (2 : Int32)) hx hb dL_lock_19 (by decide) ?_
  exact xiretc hC hr hlk h rfl rfl dL_lock_20
def m_L_freeze (v : xSt) : Option (Int32 × xSt) := ob (m_X8_freeze_n v) (fun r2 => lt (pu 0 430 v r2.2) (fun v3 => lt (st2 v3 430 0 r2.1) (fun v4 => some ((0 : Int32), v4))))
set_option maxHeartbeats 4000000 in
set_option maxRecDepth 100000 in
theorem c_L_freeze (l : Launch) (G : xGl) (sa q : Nat → Nat) (v : xSt) {z : (Int32 × xSt)} (hf : m_L_freeze v = some z) : mRS l yL_freeze (wMH yL_freeze cL_freeze 3 (some .int) [(0, 8, 11, 13)]) { frames := 7, cells := 0, slots := 0, locals := 189 } G sa (e2 430 (eBC G) (eLng G)) 431 q v [.ref (q 0), .ref (q 430)] (qI z.1) z.2 0 0 := by
  refine xRSH (cc := cL_freeze) (maxL := 3) (ret := (some .int)) (by decide) rfl (Nat.le_of_ble_eq_true rfl) ?_
  intro p e s m below meth c ls A hC hht hr hlk h hT hl
  have hx := hC.1
  have hb := hC.2.1
  have hl : lv_has ls 3 [(0, .ref (q 0)), (1, .ref (q 430))] := hl
  unfold m_L_freeze at hf
  obtain ⟨H, hH⟩ : ∃ H, H = s.heap := ⟨_, rfl⟩
  obtain ⟨locs, hlo⟩ : ∃ x : List Loc, x = [] := ⟨_, rfl⟩
  have h : hg G (e2 430 (eBC G) (eLng G)) 431 q v A s H locs := by rw [hH, hlo]; exact h
  rw [← hlo, ← hH]
  clear hH hlo
  refine lv_aload_n hx hb dL_freeze_0 rfl (lv_at hl 1 rfl) ?_
  refine lv_iconst (v := (0 : Int32)) hx hb dL_freeze_1 (by decide) ?_
  refine lv_aload_n hx hb dL_freeze_2 rfl (lv_at hl 0 rfl) ?_
  obtain ⟨r2, hy1, hf⟩ := ob_e hf
  refine xip h 430 sWL_0 (Nat.le_of_ble_eq_true rfl) (va_runV (As := []) (rest := [.int (0 : Int32), .ref (q 430)]) hC (c_X8_freeze_n l G q v hy1 H.size) (xcgV hC wMH_in lk_L_33 in_X8 co_X8_freeze im_X8_freeze se_X8_freeze rfl rfl dd_X8_freeze ⟨Nat.le_of_ble_eq_true rfl, Nat.le_of_ble_eq_true rfl⟩) (preVp h 430 sWL_0 (Nat.le_of_ble_eq_true rfl) (Nat.le_of_ble_eq_true rfl) eWL_0 rfl []) rfl rfl hl.1 rfl (lv_room (Nat.le_of_ble_eq_true rfl)) dL_freeze_3 ⟨Nat.zero_le _, Nat.zero_le _⟩) (fun H locs h => ?_)
  obtain ⟨v3, ev3, hf⟩ := lt_e hf
  rw [← ev3] at h
  refine lv_i2l hx hb dL_freeze_6 rfl ?_
  refine xlast hC h 430 (Nat.le_of_ble_eq_true rfl) (fun _ => eWL_430) (x := r2.1) dL_freeze_7 (fun H locs h => ?_)
  obtain ⟨v4, ev4, hf⟩ := lt_e hf
  rw [← ev4] at h
  refine lv_goto (tgt := 14) hx hb dL_freeze_8 (by decide) ?_
  refine lv_iconst (v := (0 : Int32)) hx hb dL_freeze_14 (by decide) ?_
  have hf := sm_e hf
  exact xiret hC hr hlk h (by rw [← hf]) (by rw [← hf]) dL_freeze_15
set_option maxHeartbeats 4000000 in
theorem x_L_freeze_xISE (l : Launch) (hst : l.stackTraces = false) (G : xGl) (sa q : Nat → Nat) (v : xSt) {w : xSt} (hf : m_X8_freeze_t v  = some (xISE, w)) : mRS l yL_freeze (wMH yL_freeze cL_freeze 3 (some .int) [(0, 8, 11, 13)]) { frames := 7, cells := 1, slots := 6, locals := 121 } G sa (e2 430 (eBC G) (eLng G)) 431 q v [.ref (q 0), .ref (q 430)] (qI 1) (pu 0 430 v w) 1 6 := by
  refine xRSH (cc := cL_freeze) (maxL := 3) (ret := some .int) (hh := [(0, 8, 11, 13)]) (by decide) rfl (Nat.le_of_ble_eq_true rfl) ?_
  intro p e s m below meth c ls A hC hht hr hlk h hT hl
  have hx := hC.1
  have hb := hC.2.1
  have hl : lv_has ls 3 [(0, .ref (q 0)), (1, .ref (q 430))] := hl
  obtain ⟨H, hH⟩ : ∃ H, H = s.heap := ⟨_, rfl⟩
  obtain ⟨locs, hlo⟩ : ∃ x : List Loc, x = [] := ⟨_, rfl⟩
  have h : hg G (e2 430 (eBC G) (eLng G)) 431 q v A s H locs := by rw [hH, hlo]; exact h
  rw [← hlo, ← hH]
  clear hH hlo
  refine lv_aload_n hx hb dL_freeze_0 rfl (lv_at hl 1 rfl) ?_
  refine lv_iconst (v := (0 : Int32)) hx hb dL_freeze_1 (by decide) ?_
  refine lv_aload_n hx hb dL_freeze_2 rfl (lv_at hl 0 rfl) ?_
  refine xcth h 430 sWL_0 (Nat.le_of_ble_eq_true rfl) (vx_runV (As := []) (rest := [.int 0, .ref (q 430)]) hC (c_X8_freeze_t l hst G sa q v  hf H.size) (xcgV hC wMH_in lk_L_33 in_X8 co_X8_freeze im_X8_freeze se_X8_freeze rfl rfl dd_X8_freeze ⟨Nat.le_of_ble_eq_true rfl, Nat.le_of_ble_eq_true rfl⟩) (preVT h hT 430 sWL_0 (Nat.le_of_ble_eq_true rfl) (Nat.le_of_ble_eq_true rfl) eWL_0 rfl []) rfl rfl hl.1 rfl (lv_room (Nat.le_of_ble_eq_true rfl)) dL_freeze_3 ⟨Nat.le_of_ble_eq_true rfl, Nat.le_of_ble_eq_true rfl⟩) (fun ce q9 H locs h hce hcv hcl => ?_)
  refine vx_catch hC.2.2.2.1 [] ⟨0, 8, 11, 13⟩ [] (hht.trans rfl) (fun z hz => nomatch hz) (by decide) (by decide) (hC.2.2.2.2 _ (wMH_in _ ck_L_13)) (va_Nw.use rfl (hT.2.2.2.1.1 xISE (by decide))) hce hcv hcl ?_
  refine lv_astore_n (lv' := [(2, .ref q9), (0, .ref (q 0)), (1, .ref (q 430))]) hx hb dL_freeze_11 rfl hl (by decide) rfl (fun ls hl => ?_)
  refine lv_iconst (v := (1 : Int32)) hx hb dL_freeze_12 (by decide) ?_
  exact xiretc hC hr hlk h rfl rfl dL_freeze_13
def m_L_suspend (v : xSt) : Option (Int32 × xSt) := ob (m_X8_suspend_n v) (fun r2 => lt (pu 0 430 v r2.2) (fun v3 => lt (st2 v3 430 0 r2.1) (fun v4 => some ((0 : Int32), v4))))
set_option maxHeartbeats 4000000 in
set_option maxRecDepth 100000 in
theorem c_L_suspend (l : Launch) (G : xGl) (sa q : Nat → Nat) (v : xSt) {z : (Int32 × xSt)} (hf : m_L_suspend v = some z) : mRS l yL_suspend (wMH yL_suspend cL_suspend 3 (some .int) [(0, 8, 11, 13)]) { frames := 7, cells := 0, slots := 0, locals := 189 } G sa (e2 430 (eBC G) (eLng G)) 431 q v [.ref (q 0), .ref (q 430)] (qI z.1) z.2 0 0 := by
  refine xRSH (cc := cL_suspend) (maxL := 3) (ret := (some .int)) (by decide) rfl (Nat.le_of_ble_eq_true rfl) ?_
  intro p e s m below meth c ls A hC hht hr hlk h hT hl
  have hx := hC.1
  have hb := hC.2.1
  have hl : lv_has ls 3 [(0, .ref (q 0)), (1, .ref (q 430))] := hl
  unfold m_L_suspend at hf
  obtain ⟨H, hH⟩ : ∃ H, H = s.heap := ⟨_, rfl⟩
  obtain ⟨locs, hlo⟩ : ∃ x : List Loc, x = [] := ⟨_, rfl⟩
  have h : hg G (e2 430 (eBC G) (eLng G)) 431 q v A s H locs := by rw [hH, hlo]; exact h
  rw [← hlo, ← hH]
  clear hH hlo
  refine lv_aload_n hx hb dL_suspend_0 rfl (lv_at hl 1 rfl) ?_
  refine lv_iconst (v := (0 : Int32)) hx hb dL_suspend_1 (by decide) ?_
  refine lv_aload_n hx hb dL_suspend_2 rfl (lv_at hl 0 rfl) ?_
  obtain ⟨r2, hy1, hf⟩ := ob_e hf
  refine xip h 430 sWL_0 (Nat.le_of_ble_eq_true rfl) (va_runV (As := []) (rest := [.int (0 : Int32), .ref (q 430)]) hC (c_X8_suspend_n l G q v hy1 H.size) (xcgV hC wMH_in lk_L_36 in_X8 co_X8_suspend im_X8_suspend se_X8_suspend rfl rfl dd_X8_suspend ⟨Nat.le_of_ble_eq_true rfl, Nat.le_of_ble_eq_true rfl⟩) (preVp h 430 sWL_0 (Nat.le_of_ble_eq_true rfl) (Nat.le_of_ble_eq_true rfl) eWL_0 rfl []) rfl rfl hl.1 rfl (lv_room (Nat.le_of_ble_eq_true rfl)) dL_suspend_3 ⟨Nat.zero_le _, Nat.zero_le _⟩) (fun H locs h => ?_)
  obtain ⟨v3, ev3, hf⟩ := lt_e hf
  rw [← ev3] at h
  refine lv_i2l hx hb dL_suspend_6 rfl ?_
  refine xlast hC h 430 (Nat.le_of_ble_eq_true rfl) (fun _ => eWL_430) (x := r2.1) dL_suspend_7 (fun H locs h => ?_)
  obtain ⟨v4, ev4, hf⟩ := lt_e hf
  rw [← ev4] at h
  refine lv_goto (tgt := 14) hx hb dL_suspend_8 (by decide) ?_
  refine lv_iconst (v := (0 : Int32)) hx hb dL_suspend_14 (by decide) ?_
  have hf := sm_e hf
  exact xiret hC hr hlk h (by rw [← hf]) (by rw [← hf]) dL_suspend_15
set_option maxHeartbeats 4000000 in
theorem x_L_suspend_xISE (l : Launch) (hst : l.stackTraces = false) (G : xGl) (sa q : Nat → Nat) (v : xSt) {w : xSt} (hf : m_X8_suspend_t v  = some (xISE, w)) : mRS l yL_suspend (wMH yL_suspend cL_suspend 3 (some .int) [(0, 8, 11, 13)]) { frames := 7, cells := 1, slots := 6, locals := 121 } G sa (e2 430 (eBC G) (eLng G)) 431 q v [.ref (q 0), .ref (q 430)] (qI 1) (pu 0 430 v w) 1 6 := by
  refine xRSH (cc := cL_suspend) (maxL := 3) (ret := some .int) (hh := [(0, 8, 11, 13)]) (by decide) rfl (Nat.le_of_ble_eq_true rfl) ?_
  intro p e s m below meth c ls A hC hht hr hlk h hT hl
  have hx := hC.1
  have hb := hC.2.1
  have hl : lv_has ls 3 [(0, .ref (q 0)), (1, .ref (q 430))] := hl
  obtain ⟨H, hH⟩ : ∃ H, H = s.heap := ⟨_, rfl⟩
  obtain ⟨locs, hlo⟩ : ∃ x : List Loc, x = [] := ⟨_, rfl⟩
  have h : hg G (e2 430 (eBC G) (eLng G)) 431 q v A s H locs := by rw [hH, hlo]; exact h
  rw [← hlo, ← hH]
  clear hH hlo
  refine lv_aload_n hx hb dL_suspend_0 rfl (lv_at hl 1 rfl) ?_
  refine lv_iconst (v := (0 : Int32)) hx hb dL_suspend_1 (by decide) ?_
  refine lv_aload_n hx hb dL_suspend_2 rfl (lv_at hl 0 rfl) ?_
  refine xcth h 430 sWL_0 (Nat.le_of_ble_eq_true rfl) (vx_runV (As := []) (rest := [.int 0, .ref (q 430)]) hC (c_X8_suspend_t l hst G sa q v  hf H.size) (xcgV hC wMH_in lk_L_36 in_X8 co_X8_suspend im_X8_suspend se_X8_suspend rfl rfl dd_X8_suspend ⟨Nat.le_of_ble_eq_true rfl, Nat.le_of_ble_eq_true rfl⟩) (preVT h hT 430 sWL_0 (Nat.le_of_ble_eq_true rfl) (Nat.le_of_ble_eq_true rfl) eWL_0 rfl []) rfl rfl hl.1 rfl (lv_room (Nat.le_of_ble_eq_true rfl)) dL_suspend_3 ⟨Nat.le_of_ble_eq_true rfl, Nat.le_of_ble_eq_true rfl⟩) (fun ce q9 H locs h hce hcv hcl => ?_)
  refine vx_catch hC.2.2.2.1 [] ⟨0, 8, 11, 13⟩ [] (hht.trans rfl) (fun z hz => nomatch hz) (by decide) (by decide) (hC.2.2.2.2 _ (wMH_in _ ck_L_13)) (va_Nw.use rfl (hT.2.2.2.1.1 xISE (by decide))) hce hcv hcl ?_
  refine lv_astore_n (lv' := [(2, .ref q9), (0, .ref (q 0)), (1, .ref (q 430))]) hx hb dL_suspend_11 rfl hl (by decide) rfl (fun ls hl => ?_)
  refine lv_iconst (v := (1 : Int32)) hx hb dL_suspend_12 (by decide) ?_
  exact xiretc hC hr hlk h rfl rfl dL_suspend_13
def m_L_resume (v : xSt) : Option (Int32 × xSt) := ob (m_X8_resume_n v) (fun r2 => lt (pu 0 430 v r2.2) (fun v3 => lt (st2 v3 430 0 r2.1) (fun v4 => some ((0 : Int32), v4))))
set_option maxHeartbeats 4000000 in
set_option maxRecDepth 100000 in
theorem c_L_resume (l : Launch) (G : xGl) (sa q : Nat → Nat) (v : xSt) {z : (Int32 × xSt)} (hf : m_L_resume v = some z) : mRS l yL_resume (wMH yL_resume cL_resume 3 (some .int) [(0, 8, 11, 13)]) { frames := 7, cells := 0, slots := 0, locals := 188 } G sa (e2 430 (eBC G) (eLng G)) 431 q v [.ref (q 0), .ref (q 430)] (qI z.1) z.2 0 0 := by
  refine xRSH (cc := cL_resume) (maxL := 3) (ret := (some .int)) (by decide) rfl (Nat.le_of_ble_eq_true rfl) ?_
  intro p e s m below meth c ls A hC hht hr hlk h hT hl
  have hx := hC.1
  have hb := hC.2.1
  have hl : lv_has ls 3 [(0, .ref (q 0)), (1, .ref (q 430))] := hl
  unfold m_L_resume at hf
  obtain ⟨H, hH⟩ : ∃ H, H = s.heap := ⟨_, rfl⟩
  obtain ⟨locs, hlo⟩ : ∃ x : List Loc, x = [] := ⟨_, rfl⟩
  have h : hg G (e2 430 (eBC G) (eLng G)) 431 q v A s H locs := by rw [hH, hlo]; exact h
  rw [← hlo, ← hH]
  clear hH hlo
  refine lv_aload_n hx hb dL_resume_0 rfl (lv_at hl 1 rfl) ?_
  refine lv_iconst (v := (0 : Int32)) hx hb dL_resume_1 (by decide) ?_
  refine lv_aload_n hx hb dL_resume_2 rfl (lv_at hl 0 rfl) ?_
  obtain ⟨r2, hy1, hf⟩ := ob_e hf
  refine xip h 430 sWL_0 (Nat.le_of_ble_eq_true rfl) (va_runV (As := []) (rest := [.int (0 : Int32), .ref (q 430)]) hC (c_X8_resume_n l G q v hy1 H.size) (xcgV hC wMH_in lk_L_39 in_X8 co_X8_resume im_X8_resume se_X8_resume rfl rfl dd_X8_resume ⟨Nat.le_of_ble_eq_true rfl, Nat.le_of_ble_eq_true rfl⟩) (preVp h 430 sWL_0 (Nat.le_of_ble_eq_true rfl) (Nat.le_of_ble_eq_true rfl) eWL_0 rfl []) rfl rfl hl.1 rfl (lv_room (Nat.le_of_ble_eq_true rfl)) dL_resume_3 ⟨Nat.zero_le _, Nat.zero_le _⟩) (fun H locs h => ?_)
  obtain ⟨v3, ev3, hf⟩ := lt_e hf
  rw [← ev3] at h
  refine lv_i2l hx hb dL_resume_6 rfl ?_
  refine xlast hC h 430 (Nat.le_of_ble_eq_true rfl) (fun _ => eWL_430) (x := r2.1) dL_resume_7 (fun H locs h => ?_)
  obtain ⟨v4, ev4, hf⟩ := lt_e hf
  rw [← ev4] at h
  refine lv_goto (tgt := 14) hx hb dL_resume_8 (by decide) ?_
  refine lv_iconst (v := (0 : Int32)) hx hb dL_resume_14 (by decide) ?_
  have hf := sm_e hf
  exact xiret hC hr hlk h (by rw [← hf]) (by rw [← hf]) dL_resume_15
set_option maxHeartbeats 4000000 in
theorem x_L_resume_xISE (l : Launch) (hst : l.stackTraces = false) (G : xGl) (sa q : Nat → Nat) (v : xSt) {w : xSt} (hf : m_X8_resume_t v  = some (xISE, w)) : mRS l yL_resume (wMH yL_resume cL_resume 3 (some .int) [(0, 8, 11, 13)]) { frames := 7, cells := 1, slots := 6, locals := 120 } G sa (e2 430 (eBC G) (eLng G)) 431 q v [.ref (q 0), .ref (q 430)] (qI 1) (pu 0 430 v w) 1 6 := by
  refine xRSH (cc := cL_resume) (maxL := 3) (ret := some .int) (hh := [(0, 8, 11, 13)]) (by decide) rfl (Nat.le_of_ble_eq_true rfl) ?_
  intro p e s m below meth c ls A hC hht hr hlk h hT hl
  have hx := hC.1
  have hb := hC.2.1
  have hl : lv_has ls 3 [(0, .ref (q 0)), (1, .ref (q 430))] := hl
  obtain ⟨H, hH⟩ : ∃ H, H = s.heap := ⟨_, rfl⟩
  obtain ⟨locs, hlo⟩ : ∃ x : List Loc, x = [] := ⟨_, rfl⟩
  have h : hg G (e2 430 (eBC G) (eLng G)) 431 q v A s H locs := by rw [hH, hlo]; exact h
  rw [← hlo, ← hH]
  clear hH hlo
  refine lv_aload_n hx hb dL_resume_0 rfl (lv_at hl 1 rfl) ?_
  refine lv_iconst (v := (0 : Int32)) hx hb dL_resume_1 (by decide) ?_
  refine lv_aload_n hx hb dL_resume_2 rfl (lv_at hl 0 rfl) ?_
  refine xcth h 430 sWL_0 (Nat.le_of_ble_eq_true rfl) (vx_runV (As := []) (rest := [.int 0, .ref (q 430)]) hC (c_X8_resume_t l hst G sa q v  hf H.size) (xcgV hC wMH_in lk_L_39 in_X8 co_X8_resume im_X8_resume se_X8_resume rfl rfl dd_X8_resume ⟨Nat.le_of_ble_eq_true rfl, Nat.le_of_ble_eq_true rfl⟩) (preVT h hT 430 sWL_0 (Nat.le_of_ble_eq_true rfl) (Nat.le_of_ble_eq_true rfl) eWL_0 rfl []) rfl rfl hl.1 rfl (lv_room (Nat.le_of_ble_eq_true rfl)) dL_resume_3 ⟨Nat.le_of_ble_eq_true rfl, Nat.le_of_ble_eq_true rfl⟩) (fun ce q9 H locs h hce hcv hcl => ?_)
  refine vx_catch hC.2.2.2.1 [] ⟨0, 8, 11, 13⟩ [] (hht.trans rfl) (fun z hz => nomatch hz) (by decide) (by decide) (hC.2.2.2.2 _ (wMH_in _ ck_L_13)) (va_Nw.use rfl (hT.2.2.2.1.1 xISE (by decide))) hce hcv hcl ?_
  refine lv_astore_n (lv' := [(2, .ref q9), (0, .ref (q 0)), (1, .ref (q 430))]) hx hb dL_resume_11 rfl hl (by decide) rfl (fun ls hl => ?_)
  refine lv_iconst (v := (1 : Int32)) hx hb dL_resume_12 (by decide) ?_
  exact xiretc hC hr hlk h rfl rfl dL_resume_13
def m_L_post (v : xSt) (p1 : Int32) (p2 : Int32) (p3 : Int32) : Option (Int32 × xSt) := ob (m_X8_post_n v p1 p2 p3) (fun r2 => lt (pu 0 430 v r2.2) (fun v3 => lt (st2 v3 430 0 r2.1) (fun v4 => some ((0 : Int32), v4))))
set_option maxHeartbeats 4000000 in
set_option maxRecDepth 100000 in
theorem c_L_post (l : Launch) (G : xGl) (sa q : Nat → Nat) (v : xSt) (p1 : Int32) (p2 : Int32) (p3 : Int32) {z : (Int32 × xSt)} (hf : m_L_post v p1 p2 p3 = some z) : mRS l yL_post (wMH yL_post cL_post 6 (some .int) [(0, 12, 15, 19), (0, 12, 19, 24), (0, 12, 23, 13)]) { frames := 7, cells := 0, slots := 0, locals := 192 } G sa (e2 430 (eBC G) (eLng G)) 431 q v [.ref (q 0), .int p1, .int p2, .int p3, .ref (q 430)] (qI z.1) z.2 0 0 := by
  refine xRSH (cc := cL_post) (maxL := 6) (ret := (some .int)) (by decide) rfl (Nat.le_of_ble_eq_true rfl) ?_
  intro p e s m below meth c ls A hC hht hr hlk h hT hl
  have hx := hC.1
  have hb := hC.2.1
  have hl : lv_has ls 6 [(0, .ref (q 0)), (1, .int p1), (2, .int p2), (3, .int p3), (4, .ref (q 430))] := hl
  unfold m_L_post at hf
  obtain ⟨H, hH⟩ : ∃ H, H = s.heap := ⟨_, rfl⟩
  obtain ⟨locs, hlo⟩ : ∃ x : List Loc, x = [] := ⟨_, rfl⟩
  have h : hg G (e2 430 (eBC G) (eLng G)) 431 q v A s H locs := by rw [hH, hlo]; exact h
  rw [← hlo, ← hH]
  clear hH hlo
  refine lv_aload hx hb dL_post_0 (lv_at hl 4 rfl) ?_
  refine lv_iconst (v := (0 : Int32)) hx hb dL_post_2 (by decide) ?_
  refine lv_aload_n hx hb dL_post_3 rfl (lv_at hl 0 rfl) ?_
  refine lv_iload_n hx hb dL_post_4 rfl (lv_at hl 1 rfl) ?_
  refine lv_iload_n hx hb dL_post_5 rfl (lv_at hl 2 rfl) ?_
  refine lv_iload_n hx hb dL_post_6 rfl (lv_at hl 3 rfl) ?_
  obtain ⟨r2, hy1, hf⟩ := ob_e hf
  refine xip h 430 sWL_0 (Nat.le_of_ble_eq_true rfl) (va_runV (As := [.int p1, .int p2, .int p3]) (rest := [.int (0 : Int32), .ref (q 430)]) hC (c_X8_post_n l G q v p1 p2 p3 hy1 H.size) (xcgV hC wMH_in lk_L_42 in_X8 co_X8_post im_X8_post se_X8_post rfl rfl dd_X8_post ⟨Nat.le_of_ble_eq_true rfl, Nat.le_of_ble_eq_true rfl⟩) (preVp h 430 sWL_0 (Nat.le_of_ble_eq_true rfl) (Nat.le_of_ble_eq_true rfl) eWL_0 rfl [.int p1, .int p2, .int p3]) rfl rfl hl.1 rfl (lv_room (Nat.le_of_ble_eq_true rfl)) dL_post_7 ⟨Nat.zero_le _, Nat.zero_le _⟩) (fun H locs h => ?_)
  obtain ⟨v3, ev3, hf⟩ := lt_e hf
  rw [← ev3] at h
  refine lv_i2l hx hb dL_post_10 rfl ?_
  refine xlast hC h 430 (Nat.le_of_ble_eq_true rfl) (fun _ => eWL_430) (x := r2.1) dL_post_11 (fun H locs h => ?_)
  obtain ⟨v4, ev4, hf⟩ := lt_e hf
  rw [← ev4] at h
  refine lv_goto (tgt := 27) hx hb dL_post_12 (by decide) ?_
  refine lv_iconst (v := (0 : Int32)) hx hb dL_post_27 (by decide) ?_
  have hf := sm_e hf
  exact xiret hC hr hlk h (by rw [← hf]) (by rw [← hf]) dL_post_28
set_option maxHeartbeats 4000000 in
theorem x_L_post_xIAE (l : Launch) (hst : l.stackTraces = false) (G : xGl) (sa q : Nat → Nat) (v : xSt) (p1 : Int32) (p2 : Int32) (p3 : Int32) {w : xSt} (hf : m_X8_post_t v p1 p2 p3 = some (xIAE, w)) : mRS l yL_post (wMH yL_post cL_post 6 (some .int) [(0, 12, 15, 19), (0, 12, 19, 24), (0, 12, 23, 13)]) { frames := 7, cells := 1, slots := 6, locals := 124 } G sa (e2 430 (eBC G) (eLng G)) 431 q v [.ref (q 0), .int p1, .int p2, .int p3, .ref (q 430)] (qI 1) (pu 0 430 v w) 1 6 := by
  refine xRSH (cc := cL_post) (maxL := 6) (ret := some .int) (hh := [(0, 12, 15, 19), (0, 12, 19, 24), (0, 12, 23, 13)]) (by decide) rfl (Nat.le_of_ble_eq_true rfl) ?_
  intro p e s m below meth c ls A hC hht hr hlk h hT hl
  have hx := hC.1
  have hb := hC.2.1
  have hl : lv_has ls 6 [(0, .ref (q 0)), (1, .int p1), (2, .int p2), (3, .int p3), (4, .ref (q 430))] := hl
  obtain ⟨H, hH⟩ : ∃ H, H = s.heap := ⟨_, rfl⟩
  obtain ⟨locs, hlo⟩ : ∃ x : List Loc, x = [] := ⟨_, rfl⟩
  have h : hg G (e2 430 (eBC G) (eLng G)) 431 q v A s H locs := by rw [hH, hlo]; exact h
  rw [← hlo, ← hH]
  clear hH hlo
  refine lv_aload hx hb dL_post_0 (lv_at hl 4 rfl) ?_
  refine lv_iconst (v := (0 : Int32)) hx hb dL_post_2 (by decide) ?_
  refine lv_aload_n hx hb dL_post_3 rfl (lv_at hl 0 rfl) ?_
  refine lv_iload_n hx hb dL_post_4 rfl (lv_at hl 1 rfl) ?_
  refine lv_iload_n hx hb dL_post_5 rfl (lv_at hl 2 rfl) ?_
  refine lv_iload_n hx hb dL_post_6 rfl (lv_at hl 3 rfl) ?_
  refine xcth h 430 sWL_0 (Nat.le_of_ble_eq_true rfl) (vx_runV (As := [.int p1, .int p2, .int p3]) (rest := [.int 0, .ref (q 430)]) hC (c_X8_post_t l hst G sa q v p1 p2 p3 hf H.size) (xcgV hC wMH_in lk_L_42 in_X8 co_X8_post im_X8_post se_X8_post rfl rfl dd_X8_post ⟨Nat.le_of_ble_eq_true rfl, Nat.le_of_ble_eq_true rfl⟩) (preVT h hT 430 sWL_0 (Nat.le_of_ble_eq_true rfl) (Nat.le_of_ble_eq_true rfl) eWL_0 rfl [.int p1, .int p2, .int p3]) rfl rfl hl.1 rfl (lv_room (Nat.le_of_ble_eq_true rfl)) dL_post_7 ⟨Nat.le_of_ble_eq_true rfl, Nat.le_of_ble_eq_true rfl⟩) (fun ce q9 H locs h hce hcv hcl => ?_)
  refine vx_catch hC.2.2.2.1 [] ⟨0, 12, 15, 19⟩ [⟨0, 12, 19, 24⟩, ⟨0, 12, 23, 13⟩] (hht.trans rfl) (fun z hz => nomatch hz) (by decide) (by decide) (hC.2.2.2.2 _ (wMH_in _ ck_L_19)) (va_Nw.use rfl (hT.2.2.2.1.1 xIAE (by decide))) hce hcv hcl ?_
  refine lv_astore (lv' := [(5, .ref q9), (0, .ref (q 0)), (1, .int p1), (2, .int p2), (3, .int p3), (4, .ref (q 430))]) hx hb dL_post_15 hl (by decide) rfl (fun ls hl => ?_)
  refine lv_iconst (v := (1 : Int32)) hx hb dL_post_17 (by decide) ?_
  exact xiretc hC hr hlk h rfl rfl dL_post_18
set_option maxHeartbeats 4000000 in
theorem x_L_post_xIOB (l : Launch) (hst : l.stackTraces = false) (G : xGl) (sa q : Nat → Nat) (v : xSt) (p1 : Int32) (p2 : Int32) (p3 : Int32) {w : xSt} (hf : m_X8_post_t v p1 p2 p3 = some (xIOB, w)) : mRS l yL_post (wMH yL_post cL_post 6 (some .int) [(0, 12, 15, 19), (0, 12, 19, 24), (0, 12, 23, 13)]) { frames := 7, cells := 1, slots := 6, locals := 124 } G sa (e2 430 (eBC G) (eLng G)) 431 q v [.ref (q 0), .int p1, .int p2, .int p3, .ref (q 430)] (qI 2) (pu 0 430 v w) 1 6 := by
  refine xRSH (cc := cL_post) (maxL := 6) (ret := some .int) (hh := [(0, 12, 15, 19), (0, 12, 19, 24), (0, 12, 23, 13)]) (by decide) rfl (Nat.le_of_ble_eq_true rfl) ?_
  intro p e s m below meth c ls A hC hht hr hlk h hT hl
  have hx := hC.1
  have hb := hC.2.1
  have hl : lv_has ls 6 [(0, .ref (q 0)), (1, .int p1), (2, .int p2), (3, .int p3), (4, .ref (q 430))] := hl
  obtain ⟨H, hH⟩ : ∃ H, H = s.heap := ⟨_, rfl⟩
  obtain ⟨locs, hlo⟩ : ∃ x : List Loc, x = [] := ⟨_, rfl⟩
  have h : hg G (e2 430 (eBC G) (eLng G)) 431 q v A s H locs := by rw [hH, hlo]; exact h
  rw [← hlo, ← hH]
  clear hH hlo
  refine lv_aload hx hb dL_post_0 (lv_at hl 4 rfl) ?_
  refine lv_iconst (v := (0 : Int32)) hx hb dL_post_2 (by decide) ?_
  refine lv_aload_n hx hb dL_post_3 rfl (lv_at hl 0 rfl) ?_
  refine lv_iload_n hx hb dL_post_4 rfl (lv_at hl 1 rfl) ?_
  refine lv_iload_n hx hb dL_post_5 rfl (lv_at hl 2 rfl) ?_
  refine lv_iload_n hx hb dL_post_6 rfl (lv_at hl 3 rfl) ?_
  refine xcth h 430 sWL_0 (Nat.le_of_ble_eq_true rfl) (vx_runV (As := [.int p1, .int p2, .int p3]) (rest := [.int 0, .ref (q 430)]) hC (c_X8_post_t l hst G sa q v p1 p2 p3 hf H.size) (xcgV hC wMH_in lk_L_42 in_X8 co_X8_post im_X8_post se_X8_post rfl rfl dd_X8_post ⟨Nat.le_of_ble_eq_true rfl, Nat.le_of_ble_eq_true rfl⟩) (preVT h hT 430 sWL_0 (Nat.le_of_ble_eq_true rfl) (Nat.le_of_ble_eq_true rfl) eWL_0 rfl [.int p1, .int p2, .int p3]) rfl rfl hl.1 rfl (lv_room (Nat.le_of_ble_eq_true rfl)) dL_post_7 ⟨Nat.le_of_ble_eq_true rfl, Nat.le_of_ble_eq_true rfl⟩) (fun ce q9 H locs h hce hcv hcl => ?_)
  refine vx_catch hC.2.2.2.1 [⟨0, 12, 15, 19⟩] ⟨0, 12, 19, 24⟩ [⟨0, 12, 23, 13⟩] (hht.trans rfl) (List.forall_mem_singleton.mpr (Or.inr ⟨by decide, xIAE, hC.2.2.2.2 _ (wMH_in _ ck_L_19), hT.2.2.2.2.1 xIOB (by decide) xIAE (by decide) (by decide +kernel)⟩)) (by decide) (by decide) (hC.2.2.2.2 _ (wMH_in _ ck_L_24)) (va_Nw.use rfl (hT.2.2.2.1.1 xIOB (by decide))) hce hcv hcl ?_
  refine lv_astore (lv' := [(5, .ref q9), (0, .ref (q 0)), (1, .int p1), (2, .int p2), (3, .int p3), (4, .ref (q 430))]) hx hb dL_post_19 hl (by decide) rfl (fun ls hl => ?_)
  refine lv_iconst (v := (2 : Int32)) hx hb dL_post_21 (by decide) ?_
  exact xiretc hC hr hlk h rfl rfl dL_post_22
set_option maxHeartbeats 4000000 in
theorem x_L_post_xISE (l : Launch) (hst : l.stackTraces = false) (G : xGl) (sa q : Nat → Nat) (v : xSt) (p1 : Int32) (p2 : Int32) (p3 : Int32) {w : xSt} (hf : m_X8_post_t v p1 p2 p3 = some (xISE, w)) : mRS l yL_post (wMH yL_post cL_post 6 (some .int) [(0, 12, 15, 19), (0, 12, 19, 24), (0, 12, 23, 13)]) { frames := 7, cells := 1, slots := 6, locals := 124 } G sa (e2 430 (eBC G) (eLng G)) 431 q v [.ref (q 0), .int p1, .int p2, .int p3, .ref (q 430)] (qI 3) (pu 0 430 v w) 1 6 := by
  refine xRSH (cc := cL_post) (maxL := 6) (ret := some .int) (hh := [(0, 12, 15, 19), (0, 12, 19, 24), (0, 12, 23, 13)]) (by decide) rfl (Nat.le_of_ble_eq_true rfl) ?_
  intro p e s m below meth c ls A hC hht hr hlk h hT hl
  have hx := hC.1
  have hb := hC.2.1
  have hl : lv_has ls 6 [(0, .ref (q 0)), (1, .int p1), (2, .int p2), (3, .int p3), (4, .ref (q 430))] := hl
  obtain ⟨H, hH⟩ : ∃ H, H = s.heap := ⟨_, rfl⟩
  obtain ⟨locs, hlo⟩ : ∃ x : List Loc, x = [] := ⟨_, rfl⟩
  have h : hg G (e2 430 (eBC G) (eLng G)) 431 q v A s H locs := by rw [hH, hlo]; exact h
  rw [← hlo, ← hH]
  clear hH hlo
  refine lv_aload hx hb dL_post_0 (lv_at hl 4 rfl) ?_
  refine lv_iconst (v := (0 : Int32)) hx hb dL_post_2 (by decide) ?_
  refine lv_aload_n hx hb dL_post_3 rfl (lv_at hl 0 rfl) ?_
  refine lv_iload_n hx hb dL_post_4 rfl (lv_at hl 1 rfl) ?_
  refine lv_iload_n hx hb dL_post_5 rfl (lv_at hl 2 rfl) ?_
  refine lv_iload_n hx hb dL_post_6 rfl (lv_at hl 3 rfl) ?_
  refine xcth h 430 sWL_0 (Nat.le_of_ble_eq_true rfl) (vx_runV (As := [.int p1, .int p2, .int p3]) (rest := [.int 0, .ref (q 430)]) hC (c_X8_post_t l hst G sa q v p1 p2 p3 hf H.size) (xcgV hC wMH_in lk_L_42 in_X8 co_X8_post im_X8_post se_X8_post rfl rfl dd_X8_post ⟨Nat.le_of_ble_eq_true rfl, Nat.le_of_ble_eq_true rfl⟩) (preVT h hT 430 sWL_0 (Nat.le_of_ble_eq_true rfl) (Nat.le_of_ble_eq_true rfl) eWL_0 rfl [.int p1, .int p2, .int p3]) rfl rfl hl.1 rfl (lv_room (Nat.le_of_ble_eq_true rfl)) dL_post_7 ⟨Nat.le_of_ble_eq_true rfl, Nat.le_of_ble_eq_true rfl⟩) (fun ce q9 H locs h hce hcv hcl => ?_)
  refine vx_catch hC.2.2.2.1 [⟨0, 12, 15, 19⟩, ⟨0, 12, 19, 24⟩] ⟨0, 12, 23, 13⟩ [] (hht.trans rfl) (List.forall_mem_cons.mpr ⟨(Or.inr ⟨by decide, xIAE, hC.2.2.2.2 _ (wMH_in _ ck_L_19), hT.2.2.2.2.1 xISE (by decide) xIAE (by decide) (by decide +kernel)⟩), List.forall_mem_singleton.mpr (Or.inr ⟨by decide, xIOB, hC.2.2.2.2 _ (wMH_in _ ck_L_24), hT.2.2.2.2.1 xISE (by decide) xIOB (by decide) (by decide +kernel)⟩)⟩) (by decide) (by decide) (hC.2.2.2.2 _ (wMH_in _ ck_L_13)) (va_Nw.use rfl (hT.2.2.2.1.1 xISE (by decide))) hce hcv hcl ?_
  refine lv_astore (lv' := [(5, .ref q9), (0, .ref (q 0)), (1, .int p1), (2, .int p2), (3, .int p3), (4, .ref (q 430))]) hx hb dL_post_23 hl (by decide) rfl (fun ls hl => ?_)
  refine lv_iconst (v := (3 : Int32)) hx hb dL_post_25 (by decide) ?_
  exact xiretc hC hr hlk h rfl rfl dL_post_26
def m_L_withdraw (v : xSt) (p1 : Int32) : Option (Int32 × xSt) := ob (m_X8_withdraw_n v p1) (fun r2 => lt (pu 0 430 v r2.2) (fun v3 => lt (st2 v3 430 0 r2.1) (fun v4 => some ((0 : Int32), v4))))
set_option maxHeartbeats 4000000 in
set_option maxRecDepth 100000 in
theorem c_L_withdraw (l : Launch) (G : xGl) (sa q : Nat → Nat) (v : xSt) (p1 : Int32) {z : (Int32 × xSt)} (hf : m_L_withdraw v p1 = some z) : mRS l yL_withdraw (wMH yL_withdraw cL_withdraw 4 (some .int) [(0, 9, 12, 24)]) { frames := 7, cells := 0, slots := 0, locals := 190 } G sa (e2 430 (eBC G) (eLng G)) 431 q v [.ref (q 0), .int p1, .ref (q 430)] (qI z.1) z.2 0 0 := by
  refine xRSH (cc := cL_withdraw) (maxL := 4) (ret := (some .int)) (by decide) rfl (Nat.le_of_ble_eq_true rfl) ?_
  intro p e s m below meth c ls A hC hht hr hlk h hT hl
  have hx := hC.1
  have hb := hC.2.1
  have hl : lv_has ls 4 [(0, .ref (q 0)), (1, .int p1), (2, .ref (q 430))] := hl
  unfold m_L_withdraw at hf
  obtain ⟨H, hH⟩ : ∃ H, H = s.heap := ⟨_, rfl⟩
  obtain ⟨locs, hlo⟩ : ∃ x : List Loc, x = [] := ⟨_, rfl⟩
  have h : hg G (e2 430 (eBC G) (eLng G)) 431 q v A s H locs := by rw [hH, hlo]; exact h
  rw [← hlo, ← hH]
  clear hH hlo
  refine lv_aload_n hx hb dL_withdraw_0 rfl (lv_at hl 2 rfl) ?_
  refine lv_iconst (v := (0 : Int32)) hx hb dL_withdraw_1 (by decide) ?_
  refine lv_aload_n hx hb dL_withdraw_2 rfl (lv_at hl 0 rfl) ?_
  refine lv_iload_n hx hb dL_withdraw_3 rfl (lv_at hl 1 rfl) ?_
  obtain ⟨r2, hy1, hf⟩ := ob_e hf
  refine xip h 430 sWL_0 (Nat.le_of_ble_eq_true rfl) (va_runV (As := [.int p1]) (rest := [.int (0 : Int32), .ref (q 430)]) hC (c_X8_withdraw_n l G q v p1 hy1 H.size) (xcgV hC wMH_in lk_L_46 in_X8 co_X8_withdraw im_X8_withdraw se_X8_withdraw rfl rfl dd_X8_withdraw ⟨Nat.le_of_ble_eq_true rfl, Nat.le_of_ble_eq_true rfl⟩) (preVp h 430 sWL_0 (Nat.le_of_ble_eq_true rfl) (Nat.le_of_ble_eq_true rfl) eWL_0 rfl [.int p1]) rfl rfl hl.1 rfl (lv_room (Nat.le_of_ble_eq_true rfl)) dL_withdraw_4 ⟨Nat.zero_le _, Nat.zero_le _⟩) (fun H locs h => ?_)
  obtain ⟨v3, ev3, hf⟩ := lt_e hf
  rw [← ev3] at h
  refine lv_i2l hx hb dL_withdraw_7 rfl ?_
  refine xlast hC h 430 (Nat.le_of_ble_eq_true rfl) (fun _ => eWL_430) (x := r2.1) dL_withdraw_8 (fun H locs h => ?_)
  obtain ⟨v4, ev4, hf⟩ := lt_e hf
  rw [← ev4] at h
  refine lv_goto (tgt := 15) hx hb dL_withdraw_9 (by decide) ?_
  refine lv_iconst (v := (0 : Int32)) hx hb dL_withdraw_15 (by decide) ?_
  have hf := sm_e hf
  exact xiret hC hr hlk h (by rw [← hf]) (by rw [← hf]) dL_withdraw_16
set_option maxHeartbeats 4000000 in
theorem x_L_withdraw_xIOB (l : Launch) (hst : l.stackTraces = false) (G : xGl) (sa q : Nat → Nat) (v : xSt) (p1 : Int32) {w : xSt} (hf : m_X8_withdraw_t v p1 = some (xIOB, w)) : mRS l yL_withdraw (wMH yL_withdraw cL_withdraw 4 (some .int) [(0, 9, 12, 24)]) { frames := 7, cells := 1, slots := 6, locals := 122 } G sa (e2 430 (eBC G) (eLng G)) 431 q v [.ref (q 0), .int p1, .ref (q 430)] (qI 1) (pu 0 430 v w) 1 6 := by
  refine xRSH (cc := cL_withdraw) (maxL := 4) (ret := some .int) (hh := [(0, 9, 12, 24)]) (by decide) rfl (Nat.le_of_ble_eq_true rfl) ?_
  intro p e s m below meth c ls A hC hht hr hlk h hT hl
  have hx := hC.1
  have hb := hC.2.1
  have hl : lv_has ls 4 [(0, .ref (q 0)), (1, .int p1), (2, .ref (q 430))] := hl
  obtain ⟨H, hH⟩ : ∃ H, H = s.heap := ⟨_, rfl⟩
  obtain ⟨locs, hlo⟩ : ∃ x : List Loc, x = [] := ⟨_, rfl⟩
  have h : hg G (e2 430 (eBC G) (eLng G)) 431 q v A s H locs := by rw [hH, hlo]; exact h
  rw [← hlo, ← hH]
  clear hH hlo
  refine lv_aload_n hx hb dL_withdraw_0 rfl (lv_at hl 2 rfl) ?_
  refine lv_iconst (v := (0 : Int32)) hx hb dL_withdraw_1 (by decide) ?_
  refine lv_aload_n hx hb dL_withdraw_2 rfl (lv_at hl 0 rfl) ?_
  refine lv_iload_n hx hb dL_withdraw_3 rfl (lv_at hl 1 rfl) ?_
  refine xcth h 430 sWL_0 (Nat.le_of_ble_eq_true rfl) (vx_runV (As := [.int p1]) (rest := [.int 0, .ref (q 430)]) hC (c_X8_withdraw_t l hst G sa q v p1 hf H.size) (xcgV hC wMH_in lk_L_46 in_X8 co_X8_withdraw im_X8_withdraw se_X8_withdraw rfl rfl dd_X8_withdraw ⟨Nat.le_of_ble_eq_true rfl, Nat.le_of_ble_eq_true rfl⟩) (preVT h hT 430 sWL_0 (Nat.le_of_ble_eq_true rfl) (Nat.le_of_ble_eq_true rfl) eWL_0 rfl [.int p1]) rfl rfl hl.1 rfl (lv_room (Nat.le_of_ble_eq_true rfl)) dL_withdraw_4 ⟨Nat.le_of_ble_eq_true rfl, Nat.le_of_ble_eq_true rfl⟩) (fun ce q9 H locs h hce hcv hcl => ?_)
  refine vx_catch hC.2.2.2.1 [] ⟨0, 9, 12, 24⟩ [] (hht.trans rfl) (fun z hz => nomatch hz) (by decide) (by decide) (hC.2.2.2.2 _ (wMH_in _ ck_L_24)) (va_Nw.use rfl (hT.2.2.2.1.1 xIOB (by decide))) hce hcv hcl ?_
  refine lv_astore_n (lv' := [(3, .ref q9), (0, .ref (q 0)), (1, .int p1), (2, .ref (q 430))]) hx hb dL_withdraw_12 rfl hl (by decide) rfl (fun ls hl => ?_)
  refine lv_iconst (v := (1 : Int32)) hx hb dL_withdraw_13 (by decide) ?_
  exact xiretc hC hr hlk h rfl rfl dL_withdraw_14
def m_L_pass (v : xSt) (p1 : Int32) : Option (Int32 × xSt) := ob (m_X8_pass_n v p1) (fun r2 => lt (pu 0 430 v r2.2) (fun v3 => lt (st2 v3 430 0 r2.1) (fun v4 => some ((0 : Int32), v4))))
set_option maxHeartbeats 4000000 in
set_option maxRecDepth 100000 in
theorem c_L_pass (l : Launch) (G : xGl) (sa q : Nat → Nat) (v : xSt) (p1 : Int32) {z : (Int32 × xSt)} (hf : m_L_pass v p1 = some z) : mRS l yL_pass (wMH yL_pass cL_pass 4 (some .int) [(0, 9, 12, 19)]) { frames := 7, cells := 0, slots := 0, locals := 191 } G sa (e2 430 (eBC G) (eLng G)) 431 q v [.ref (q 0), .int p1, .ref (q 430)] (qI z.1) z.2 0 0 := by
  refine xRSH (cc := cL_pass) (maxL := 4) (ret := (some .int)) (by decide) rfl (Nat.le_of_ble_eq_true rfl) ?_
  intro p e s m below meth c ls A hC hht hr hlk h hT hl
  have hx := hC.1
  have hb := hC.2.1
  have hl : lv_has ls 4 [(0, .ref (q 0)), (1, .int p1), (2, .ref (q 430))] := hl
  unfold m_L_pass at hf
  obtain ⟨H, hH⟩ : ∃ H, H = s.heap := ⟨_, rfl⟩
  obtain ⟨locs, hlo⟩ : ∃ x : List Loc, x = [] := ⟨_, rfl⟩
  have h : hg G (e2 430 (eBC G) (eLng G)) 431 q v A s H locs := by rw [hH, hlo]; exact h
  rw [← hlo, ← hH]
  clear hH hlo
  refine lv_aload_n hx hb dL_pass_0 rfl (lv_at hl 2 rfl) ?_
  refine lv_iconst (v := (0 : Int32)) hx hb dL_pass_1 (by decide) ?_
  refine lv_aload_n hx hb dL_pass_2 rfl (lv_at hl 0 rfl) ?_
  refine lv_iload_n hx hb dL_pass_3 rfl (lv_at hl 1 rfl) ?_
  obtain ⟨r2, hy1, hf⟩ := ob_e hf
  refine xip h 430 sWL_0 (Nat.le_of_ble_eq_true rfl) (va_runV (As := [.int p1]) (rest := [.int (0 : Int32), .ref (q 430)]) hC (c_X8_pass_n l G q v p1 hy1 H.size) (xcgV hC wMH_in lk_L_49 in_X8 co_X8_pass im_X8_pass se_X8_pass rfl rfl dd_X8_pass ⟨Nat.le_of_ble_eq_true rfl, Nat.le_of_ble_eq_true rfl⟩) (preVp h 430 sWL_0 (Nat.le_of_ble_eq_true rfl) (Nat.le_of_ble_eq_true rfl) eWL_0 rfl [.int p1]) rfl rfl hl.1 rfl (lv_room (Nat.le_of_ble_eq_true rfl)) dL_pass_4 ⟨Nat.zero_le _, Nat.zero_le _⟩) (fun H locs h => ?_)
  obtain ⟨v3, ev3, hf⟩ := lt_e hf
  rw [← ev3] at h
  refine lv_i2l hx hb dL_pass_7 rfl ?_
  refine xlast hC h 430 (Nat.le_of_ble_eq_true rfl) (fun _ => eWL_430) (x := r2.1) dL_pass_8 (fun H locs h => ?_)
  obtain ⟨v4, ev4, hf⟩ := lt_e hf
  rw [← ev4] at h
  refine lv_goto (tgt := 15) hx hb dL_pass_9 (by decide) ?_
  refine lv_iconst (v := (0 : Int32)) hx hb dL_pass_15 (by decide) ?_
  have hf := sm_e hf
  exact xiret hC hr hlk h (by rw [← hf]) (by rw [← hf]) dL_pass_16
set_option maxHeartbeats 4000000 in
theorem x_L_pass_xIAE (l : Launch) (hst : l.stackTraces = false) (G : xGl) (sa q : Nat → Nat) (v : xSt) (p1 : Int32) {w : xSt} (hf : m_X8_pass_t v p1 = some (xIAE, w)) : mRS l yL_pass (wMH yL_pass cL_pass 4 (some .int) [(0, 9, 12, 19)]) { frames := 7, cells := 1, slots := 6, locals := 123 } G sa (e2 430 (eBC G) (eLng G)) 431 q v [.ref (q 0), .int p1, .ref (q 430)] (qI 1) (pu 0 430 v w) 1 6 := by
  refine xRSH (cc := cL_pass) (maxL := 4) (ret := some .int) (hh := [(0, 9, 12, 19)]) (by decide) rfl (Nat.le_of_ble_eq_true rfl) ?_
  intro p e s m below meth c ls A hC hht hr hlk h hT hl
  have hx := hC.1
  have hb := hC.2.1
  have hl : lv_has ls 4 [(0, .ref (q 0)), (1, .int p1), (2, .ref (q 430))] := hl
  obtain ⟨H, hH⟩ : ∃ H, H = s.heap := ⟨_, rfl⟩
  obtain ⟨locs, hlo⟩ : ∃ x : List Loc, x = [] := ⟨_, rfl⟩
  have h : hg G (e2 430 (eBC G) (eLng G)) 431 q v A s H locs := by rw [hH, hlo]; exact h
  rw [← hlo, ← hH]
  clear hH hlo
  refine lv_aload_n hx hb dL_pass_0 rfl (lv_at hl 2 rfl) ?_
  refine lv_iconst (v := (0 : Int32)) hx hb dL_pass_1 (by decide) ?_
  refine lv_aload_n hx hb dL_pass_2 rfl (lv_at hl 0 rfl) ?_
  refine lv_iload_n hx hb dL_pass_3 rfl (lv_at hl 1 rfl) ?_
  refine xcth h 430 sWL_0 (Nat.le_of_ble_eq_true rfl) (vx_runV (As := [.int p1]) (rest := [.int 0, .ref (q 430)]) hC (c_X8_pass_t l hst G sa q v p1 hf H.size) (xcgV hC wMH_in lk_L_49 in_X8 co_X8_pass im_X8_pass se_X8_pass rfl rfl dd_X8_pass ⟨Nat.le_of_ble_eq_true rfl, Nat.le_of_ble_eq_true rfl⟩) (preVT h hT 430 sWL_0 (Nat.le_of_ble_eq_true rfl) (Nat.le_of_ble_eq_true rfl) eWL_0 rfl [.int p1]) rfl rfl hl.1 rfl (lv_room (Nat.le_of_ble_eq_true rfl)) dL_pass_4 ⟨Nat.le_of_ble_eq_true rfl, Nat.le_of_ble_eq_true rfl⟩) (fun ce q9 H locs h hce hcv hcl => ?_)
  refine vx_catch hC.2.2.2.1 [] ⟨0, 9, 12, 19⟩ [] (hht.trans rfl) (fun z hz => nomatch hz) (by decide) (by decide) (hC.2.2.2.2 _ (wMH_in _ ck_L_19)) (va_Nw.use rfl (hT.2.2.2.1.1 xIAE (by decide))) hce hcv hcl ?_
  refine lv_astore_n (lv' := [(3, .ref q9), (0, .ref (q 0)), (1, .int p1), (2, .ref (q 430))]) hx hb dL_pass_12 rfl hl (by decide) rfl (fun ls hl => ?_)
  refine lv_iconst (v := (1 : Int32)) hx hb dL_pass_13 (by decide) ?_
  exact xiretc hC hr hlk h rfl rfl dL_pass_14
def m_L_set (v : xSt) (p1 : Int32) (p2 : Int32) : Option (Int32 × xSt) := ob (m_X8_set_n v p1 p2) (fun r2 => lt (pu 0 430 v r2.2) (fun v3 => lt (st2 v3 430 0 r2.1) (fun v4 => some ((0 : Int32), v4))))
set_option maxHeartbeats 4000000 in
set_option maxRecDepth 100000 in
theorem c_L_set (l : Launch) (G : xGl) (sa q : Nat → Nat) (v : xSt) (p1 : Int32) (p2 : Int32) {z : (Int32 × xSt)} (hf : m_L_set v p1 p2 = some z) : mRS l yL_set (wMH yL_set cL_set 5 (some .int) [(0, 10, 13, 24), (0, 10, 17, 19)]) { frames := 7, cells := 0, slots := 0, locals := 191 } G sa (e2 430 (eBC G) (eLng G)) 431 q v [.ref (q 0), .int p1, .int p2, .ref (q 430)] (qI z.1) z.2 0 0 := by
  refine xRSH (cc := cL_set) (maxL := 5) (ret := (some .int)) (by decide) rfl (Nat.le_of_ble_eq_true rfl) ?_
  intro p e s m below meth c ls A hC hht hr hlk h hT hl
  have hx := hC.1
  have hb := hC.2.1
  have hl : lv_has ls 5 [(0, .ref (q 0)), (1, .int p1), (2, .int p2), (3, .ref (q 430))] := hl
  unfold m_L_set at hf
  obtain ⟨H, hH⟩ : ∃ H, H = s.heap := ⟨_, rfl⟩
  obtain ⟨locs, hlo⟩ : ∃ x : List Loc, x = [] := ⟨_, rfl⟩
  have h : hg G (e2 430 (eBC G) (eLng G)) 431 q v A s H locs := by rw [hH, hlo]; exact h
  rw [← hlo, ← hH]
  clear hH hlo
  refine lv_aload_n hx hb dL_set_0 rfl (lv_at hl 3 rfl) ?_
  refine lv_iconst (v := (0 : Int32)) hx hb dL_set_1 (by decide) ?_
  refine lv_aload_n hx hb dL_set_2 rfl (lv_at hl 0 rfl) ?_
  refine lv_iload_n hx hb dL_set_3 rfl (lv_at hl 1 rfl) ?_
  refine lv_iload_n hx hb dL_set_4 rfl (lv_at hl 2 rfl) ?_
  obtain ⟨r2, hy1, hf⟩ := ob_e hf
  refine xip h 430 sWL_0 (Nat.le_of_ble_eq_true rfl) (va_runV (As := [.int p1, .int p2]) (rest := [.int (0 : Int32), .ref (q 430)]) hC (c_X8_set_n l G sa q v p1 p2 hy1 H.size) (xcgV hC wMH_in lk_L_52 in_X8 co_X8_set im_X8_set se_X8_set rfl rfl dd_X8_set ⟨Nat.le_of_ble_eq_true rfl, Nat.le_of_ble_eq_true rfl⟩) (preVT h hT 430 sWL_0 (Nat.le_of_ble_eq_true rfl) (Nat.le_of_ble_eq_true rfl) eWL_0 rfl [.int p1, .int p2]) rfl rfl hl.1 rfl (lv_room (Nat.le_of_ble_eq_true rfl)) dL_set_5 ⟨Nat.zero_le _, Nat.zero_le _⟩) (fun H locs h => ?_)
  obtain ⟨v3, ev3, hf⟩ := lt_e hf
  rw [← ev3] at h
  refine lv_i2l hx hb dL_set_8 rfl ?_
  refine xlast hC h 430 (Nat.le_of_ble_eq_true rfl) (fun _ => eWL_430) (x := r2.1) dL_set_9 (fun H locs h => ?_)
  obtain ⟨v4, ev4, hf⟩ := lt_e hf
  rw [← ev4] at h
  refine lv_goto (tgt := 21) hx hb dL_set_10 (by decide) ?_
  refine lv_iconst (v := (0 : Int32)) hx hb dL_set_21 (by decide) ?_
  have hf := sm_e hf
  exact xiret hC hr hlk h (by rw [← hf]) (by rw [← hf]) dL_set_22
set_option maxHeartbeats 4000000 in
theorem x_L_set_xIOB (l : Launch) (hst : l.stackTraces = false) (G : xGl) (sa q : Nat → Nat) (v : xSt) (p1 : Int32) (p2 : Int32) {w : xSt} (hf : m_X8_set_t v p1 p2 = some (xIOB, w)) : mRS l yL_set (wMH yL_set cL_set 5 (some .int) [(0, 10, 13, 24), (0, 10, 17, 19)]) { frames := 7, cells := 1, slots := 6, locals := 123 } G sa (e2 430 (eBC G) (eLng G)) 431 q v [.ref (q 0), .int p1, .int p2, .ref (q 430)] (qI 1) (pu 0 430 v w) 1 6 := by
  refine xRSH (cc := cL_set) (maxL := 5) (ret := some .int) (hh := [(0, 10, 13, 24), (0, 10, 17, 19)]) (by decide) rfl (Nat.le_of_ble_eq_true rfl) ?_
  intro p e s m below meth c ls A hC hht hr hlk h hT hl
  have hx := hC.1
  have hb := hC.2.1
  have hl : lv_has ls 5 [(0, .ref (q 0)), (1, .int p1), (2, .int p2), (3, .ref (q 430))] := hl
  obtain ⟨H, hH⟩ : ∃ H, H = s.heap := ⟨_, rfl⟩
  obtain ⟨locs, hlo⟩ : ∃ x : List Loc, x = [] := ⟨_, rfl⟩
  have h : hg G (e2 430 (eBC G) (eLng G)) 431 q v A s H locs := by rw [hH, hlo]; exact h
  rw [← hlo, ← hH]
  clear hH hlo
  refine lv_aload_n hx hb dL_set_0 rfl (lv_at hl 3 rfl) ?_
  refine lv_iconst (v := (0 : Int32)) hx hb dL_set_1 (by decide) ?_
  refine lv_aload_n hx hb dL_set_2 rfl (lv_at hl 0 rfl) ?_
  refine lv_iload_n hx hb dL_set_3 rfl (lv_at hl 1 rfl) ?_
  refine lv_iload_n hx hb dL_set_4 rfl (lv_at hl 2 rfl) ?_
  refine xcth h 430 sWL_0 (Nat.le_of_ble_eq_true rfl) (vx_runV (As := [.int p1, .int p2]) (rest := [.int 0, .ref (q 430)]) hC (c_X8_set_t l hst G sa q v p1 p2 hf H.size) (xcgV hC wMH_in lk_L_52 in_X8 co_X8_set im_X8_set se_X8_set rfl rfl dd_X8_set ⟨Nat.le_of_ble_eq_true rfl, Nat.le_of_ble_eq_true rfl⟩) (preVT h hT 430 sWL_0 (Nat.le_of_ble_eq_true rfl) (Nat.le_of_ble_eq_true rfl) eWL_0 rfl [.int p1, .int p2]) rfl rfl hl.1 rfl (lv_room (Nat.le_of_ble_eq_true rfl)) dL_set_5 ⟨Nat.le_of_ble_eq_true rfl, Nat.le_of_ble_eq_true rfl⟩) (fun ce q9 H locs h hce hcv hcl => ?_)
  refine vx_catch hC.2.2.2.1 [] ⟨0, 10, 13, 24⟩ [⟨0, 10, 17, 19⟩] (hht.trans rfl) (fun z hz => nomatch hz) (by decide) (by decide) (hC.2.2.2.2 _ (wMH_in _ ck_L_24)) (va_Nw.use rfl (hT.2.2.2.1.1 xIOB (by decide))) hce hcv hcl ?_
  refine lv_astore (lv' := [(4, .ref q9), (0, .ref (q 0)), (1, .int p1), (2, .int p2), (3, .ref (q 430))]) hx hb dL_set_13 hl (by decide) rfl (fun ls hl => ?_)
  refine lv_iconst (v := (1 : Int32)) hx hb dL_set_15 (by decide) ?_
  exact xiretc hC hr hlk h rfl rfl dL_set_16
set_option maxHeartbeats 4000000 in
theorem x_L_set_xIAE (l : Launch) (hst : l.stackTraces = false) (G : xGl) (sa q : Nat → Nat) (v : xSt) (p1 : Int32) (p2 : Int32) {w : xSt} (hf : m_X8_set_t v p1 p2 = some (xIAE, w)) : mRS l yL_set (wMH yL_set cL_set 5 (some .int) [(0, 10, 13, 24), (0, 10, 17, 19)]) { frames := 7, cells := 1, slots := 6, locals := 123 } G sa (e2 430 (eBC G) (eLng G)) 431 q v [.ref (q 0), .int p1, .int p2, .ref (q 430)] (qI 2) (pu 0 430 v w) 1 6 := by
  refine xRSH (cc := cL_set) (maxL := 5) (ret := some .int) (hh := [(0, 10, 13, 24), (0, 10, 17, 19)]) (by decide) rfl (Nat.le_of_ble_eq_true rfl) ?_
  intro p e s m below meth c ls A hC hht hr hlk h hT hl
  have hx := hC.1
  have hb := hC.2.1
  have hl : lv_has ls 5 [(0, .ref (q 0)), (1, .int p1), (2, .int p2), (3, .ref (q 430))] := hl
  obtain ⟨H, hH⟩ : ∃ H, H = s.heap := ⟨_, rfl⟩
  obtain ⟨locs, hlo⟩ : ∃ x : List Loc, x = [] := ⟨_, rfl⟩
  have h : hg G (e2 430 (eBC G) (eLng G)) 431 q v A s H locs := by rw [hH, hlo]; exact h
  rw [← hlo, ← hH]
  clear hH hlo
  refine lv_aload_n hx hb dL_set_0 rfl (lv_at hl 3 rfl) ?_
  refine lv_iconst (v := (0 : Int32)) hx hb dL_set_1 (by decide) ?_
  refine lv_aload_n hx hb dL_set_2 rfl (lv_at hl 0 rfl) ?_
  refine lv_iload_n hx hb dL_set_3 rfl (lv_at hl 1 rfl) ?_
  refine lv_iload_n hx hb dL_set_4 rfl (lv_at hl 2 rfl) ?_
  refine xcth h 430 sWL_0 (Nat.le_of_ble_eq_true rfl) (vx_runV (As := [.int p1, .int p2]) (rest := [.int 0, .ref (q 430)]) hC (c_X8_set_t l hst G sa q v p1 p2 hf H.size) (xcgV hC wMH_in lk_L_52 in_X8 co_X8_set im_X8_set se_X8_set rfl rfl dd_X8_set ⟨Nat.le_of_ble_eq_true rfl, Nat.le_of_ble_eq_true rfl⟩) (preVT h hT 430 sWL_0 (Nat.le_of_ble_eq_true rfl) (Nat.le_of_ble_eq_true rfl) eWL_0 rfl [.int p1, .int p2]) rfl rfl hl.1 rfl (lv_room (Nat.le_of_ble_eq_true rfl)) dL_set_5 ⟨Nat.le_of_ble_eq_true rfl, Nat.le_of_ble_eq_true rfl⟩) (fun ce q9 H locs h hce hcv hcl => ?_)
  refine vx_catch hC.2.2.2.1 [⟨0, 10, 13, 24⟩] ⟨0, 10, 17, 19⟩ [] (hht.trans rfl) (List.forall_mem_singleton.mpr (Or.inr ⟨by decide, xIOB, hC.2.2.2.2 _ (wMH_in _ ck_L_24), hT.2.2.2.2.1 xIAE (by decide) xIOB (by decide) (by decide +kernel)⟩)) (by decide) (by decide) (hC.2.2.2.2 _ (wMH_in _ ck_L_19)) (va_Nw.use rfl (hT.2.2.2.1.1 xIAE (by decide))) hce hcv hcl ?_
  refine lv_astore (lv' := [(4, .ref q9), (0, .ref (q 0)), (1, .int p1), (2, .int p2), (3, .ref (q 430))]) hx hb dL_set_17 hl (by decide) rfl (fun ls hl => ?_)
  refine lv_iconst (v := (2 : Int32)) hx hb dL_set_19 (by decide) ?_
  exact xiretc hC hr hlk h rfl rfl dL_set_20
def m_L_append (v : xSt) (p1 : Int32) : Option (Int32 × xSt) := ob (m_X8_append_n v p1) (fun r2 => lt (pu 0 430 v r2.2) (fun v3 => lt (st2 v3 430 0 r2.1) (fun v4 => some ((0 : Int32), v4))))
set_option maxHeartbeats 4000000 in
set_option maxRecDepth 100000 in
theorem c_L_append (l : Launch) (G : xGl) (sa q : Nat → Nat) (v : xSt) (p1 : Int32) {z : (Int32 × xSt)} (hf : m_L_append v p1 = some z) : mRS l yL_append (wMH yL_append cL_append 4 (some .int) [(0, 9, 12, 19), (0, 9, 15, 13)]) { frames := 2, cells := 0, slots := 0, locals := 43 } G sa (e2 430 (eBC G) (eLng G)) 431 q v [.ref (q 0), .int p1, .ref (q 430)] (qI z.1) z.2 0 0 := by
  refine xRSH (cc := cL_append) (maxL := 4) (ret := (some .int)) (by decide) rfl (Nat.le_of_ble_eq_true rfl) ?_
  intro p e s m below meth c ls A hC hht hr hlk h hT hl
  have hx := hC.1
  have hb := hC.2.1
  have hl : lv_has ls 4 [(0, .ref (q 0)), (1, .int p1), (2, .ref (q 430))] := hl
  unfold m_L_append at hf
  obtain ⟨H, hH⟩ : ∃ H, H = s.heap := ⟨_, rfl⟩
  obtain ⟨locs, hlo⟩ : ∃ x : List Loc, x = [] := ⟨_, rfl⟩
  have h : hg G (e2 430 (eBC G) (eLng G)) 431 q v A s H locs := by rw [hH, hlo]; exact h
  rw [← hlo, ← hH]
  clear hH hlo
  refine lv_aload_n hx hb dL_append_0 rfl (lv_at hl 2 rfl) ?_
  refine lv_iconst (v := (0 : Int32)) hx hb dL_append_1 (by decide) ?_
  refine lv_aload_n hx hb dL_append_2 rfl (lv_at hl 0 rfl) ?_
  refine lv_iload_n hx hb dL_append_3 rfl (lv_at hl 1 rfl) ?_
  obtain ⟨r2, hy1, hf⟩ := ob_e hf
  refine xip h 430 sWL_0 (Nat.le_of_ble_eq_true rfl) (va_runV (As := [.int p1]) (rest := [.int (0 : Int32), .ref (q 430)]) hC (c_X8_append_n l G q v p1 hy1 H.size) (xcgV hC wMH_in lk_L_55 in_X8 co_X8_append im_X8_append se_X8_append rfl rfl dd_X8_append ⟨Nat.le_of_ble_eq_true rfl, Nat.le_of_ble_eq_true rfl⟩) (preVp h 430 sWL_0 (Nat.le_of_ble_eq_true rfl) (Nat.le_of_ble_eq_true rfl) eWL_0 rfl [.int p1]) rfl rfl hl.1 rfl (lv_room (Nat.le_of_ble_eq_true rfl)) dL_append_4 ⟨Nat.zero_le _, Nat.zero_le _⟩) (fun H locs h => ?_)
  obtain ⟨v3, ev3, hf⟩ := lt_e hf
  rw [← ev3] at h
  refine lv_i2l hx hb dL_append_7 rfl ?_
  refine xlast hC h 430 (Nat.le_of_ble_eq_true rfl) (fun _ => eWL_430) (x := r2.1) dL_append_8 (fun H locs h => ?_)
  obtain ⟨v4, ev4, hf⟩ := lt_e hf
  rw [← ev4] at h
  refine lv_goto (tgt := 18) hx hb dL_append_9 (by decide) ?_
  refine lv_iconst (v := (0 : Int32)) hx hb dL_append_18 (by decide) ?_
  have hf := sm_e hf
  exact xiret hC hr hlk h (by rw [← hf]) (by rw [← hf]) dL_append_19
set_option maxHeartbeats 4000000 in
theorem x_L_append_xIAE (l : Launch) (hst : l.stackTraces = false) (G : xGl) (sa q : Nat → Nat) (v : xSt) (p1 : Int32) {w : xSt} (hf : m_X8_append_t v p1 = some (xIAE, w)) : mRS l yL_append (wMH yL_append cL_append 4 (some .int) [(0, 9, 12, 19), (0, 9, 15, 13)]) { frames := 7, cells := 1, slots := 6, locals := 121 } G sa (e2 430 (eBC G) (eLng G)) 431 q v [.ref (q 0), .int p1, .ref (q 430)] (qI 1) (pu 0 430 v w) 1 6 := by
  refine xRSH (cc := cL_append) (maxL := 4) (ret := some .int) (hh := [(0, 9, 12, 19), (0, 9, 15, 13)]) (by decide) rfl (Nat.le_of_ble_eq_true rfl) ?_
  intro p e s m below meth c ls A hC hht hr hlk h hT hl
  have hx := hC.1
  have hb := hC.2.1
  have hl : lv_has ls 4 [(0, .ref (q 0)), (1, .int p1), (2, .ref (q 430))] := hl
  obtain ⟨H, hH⟩ : ∃ H, H = s.heap := ⟨_, rfl⟩
  obtain ⟨locs, hlo⟩ : ∃ x : List Loc, x = [] := ⟨_, rfl⟩
  have h : hg G (e2 430 (eBC G) (eLng G)) 431 q v A s H locs := by rw [hH, hlo]; exact h
  rw [← hlo, ← hH]
  clear hH hlo
  refine lv_aload_n hx hb dL_append_0 rfl (lv_at hl 2 rfl) ?_
  refine lv_iconst (v := (0 : Int32)) hx hb dL_append_1 (by decide) ?_
  refine lv_aload_n hx hb dL_append_2 rfl (lv_at hl 0 rfl) ?_
  refine lv_iload_n hx hb dL_append_3 rfl (lv_at hl 1 rfl) ?_
  refine xcth h 430 sWL_0 (Nat.le_of_ble_eq_true rfl) (vx_runV (As := [.int p1]) (rest := [.int 0, .ref (q 430)]) hC (c_X8_append_t l hst G sa q v p1 hf H.size) (xcgV hC wMH_in lk_L_55 in_X8 co_X8_append im_X8_append se_X8_append rfl rfl dd_X8_append ⟨Nat.le_of_ble_eq_true rfl, Nat.le_of_ble_eq_true rfl⟩) (preVT h hT 430 sWL_0 (Nat.le_of_ble_eq_true rfl) (Nat.le_of_ble_eq_true rfl) eWL_0 rfl [.int p1]) rfl rfl hl.1 rfl (lv_room (Nat.le_of_ble_eq_true rfl)) dL_append_4 ⟨Nat.le_of_ble_eq_true rfl, Nat.le_of_ble_eq_true rfl⟩) (fun ce q9 H locs h hce hcv hcl => ?_)
  refine vx_catch hC.2.2.2.1 [] ⟨0, 9, 12, 19⟩ [⟨0, 9, 15, 13⟩] (hht.trans rfl) (fun z hz => nomatch hz) (by decide) (by decide) (hC.2.2.2.2 _ (wMH_in _ ck_L_19)) (va_Nw.use rfl (hT.2.2.2.1.1 xIAE (by decide))) hce hcv hcl ?_
  refine lv_astore_n (lv' := [(3, .ref q9), (0, .ref (q 0)), (1, .int p1), (2, .ref (q 430))]) hx hb dL_append_12 rfl hl (by decide) rfl (fun ls hl => ?_)
  refine lv_iconst (v := (1 : Int32)) hx hb dL_append_13 (by decide) ?_
  exact xiretc hC hr hlk h rfl rfl dL_append_14
set_option maxHeartbeats 4000000 in
theorem x_L_append_xISE (l : Launch) (hst : l.stackTraces = false) (G : xGl) (sa q : Nat → Nat) (v : xSt) (p1 : Int32) {w : xSt} (hf : m_X8_append_t v p1 = some (xISE, w)) : mRS l yL_append (wMH yL_append cL_append 4 (some .int) [(0, 9, 12, 19), (0, 9, 15, 13)]) { frames := 7, cells := 1, slots := 6, locals := 121 } G sa (e2 430 (eBC G) (eLng G)) 431 q v [.ref (q 0), .int p1, .ref (q 430)] (qI 2) (pu 0 430 v w) 1 6 := by
  refine xRSH (cc := cL_append) (maxL := 4) (ret := some .int) (hh := [(0, 9, 12, 19), (0, 9, 15, 13)]) (by decide) rfl (Nat.le_of_ble_eq_true rfl) ?_
  intro p e s m below meth c ls A hC hht hr hlk h hT hl
  have hx := hC.1
  have hb := hC.2.1
  have hl : lv_has ls 4 [(0, .ref (q 0)), (1, .int p1), (2, .ref (q 430))] := hl
  obtain ⟨H, hH⟩ : ∃ H, H = s.heap := ⟨_, rfl⟩
  obtain ⟨locs, hlo⟩ : ∃ x : List Loc, x = [] := ⟨_, rfl⟩
  have h : hg G (e2 430 (eBC G) (eLng G)) 431 q v A s H locs := by rw [hH, hlo]; exact h
  rw [← hlo, ← hH]
  clear hH hlo
  refine lv_aload_n hx hb dL_append_0 rfl (lv_at hl 2 rfl) ?_
  refine lv_iconst (v := (0 : Int32)) hx hb dL_append_1 (by decide) ?_
  refine lv_aload_n hx hb dL_append_2 rfl (lv_at hl 0 rfl) ?_
  refine lv_iload_n hx hb dL_append_3 rfl (lv_at hl 1 rfl) ?_
  refine xcth h 430 sWL_0 (Nat.le_of_ble_eq_true rfl) (vx_runV (As := [.int p1]) (rest := [.int 0, .ref (q 430)]) hC (c_X8_append_t l hst G sa q v p1 hf H.size) (xcgV hC wMH_in lk_L_55 in_X8 co_X8_append im_X8_append se_X8_append rfl rfl dd_X8_append ⟨Nat.le_of_ble_eq_true rfl, Nat.le_of_ble_eq_true rfl⟩) (preVT h hT 430 sWL_0 (Nat.le_of_ble_eq_true rfl) (Nat.le_of_ble_eq_true rfl) eWL_0 rfl [.int p1]) rfl rfl hl.1 rfl (lv_room (Nat.le_of_ble_eq_true rfl)) dL_append_4 ⟨Nat.le_of_ble_eq_true rfl, Nat.le_of_ble_eq_true rfl⟩) (fun ce q9 H locs h hce hcv hcl => ?_)
  refine vx_catch hC.2.2.2.1 [⟨0, 9, 12, 19⟩] ⟨0, 9, 15, 13⟩ [] (hht.trans rfl) (List.forall_mem_singleton.mpr (Or.inr ⟨by decide, xIAE, hC.2.2.2.2 _ (wMH_in _ ck_L_19), hT.2.2.2.2.1 xISE (by decide) xIAE (by decide) (by decide +kernel)⟩)) (by decide) (by decide) (hC.2.2.2.2 _ (wMH_in _ ck_L_13)) (va_Nw.use rfl (hT.2.2.2.1.1 xISE (by decide))) hce hcv hcl ?_
  refine lv_astore_n (lv' := [(3, .ref q9), (0, .ref (q 0)), (1, .int p1), (2, .ref (q 430))]) hx hb dL_append_15 rfl hl (by decide) rfl (fun ls hl => ?_)
  refine lv_iconst (v := (2 : Int32)) hx hb dL_append_16 (by decide) ?_
  exact xiretc hC hr hlk h rfl rfl dL_append_17
def m_L_obey (v : xSt) : Option (Int32 × xSt) := ob (m_X8_obey_n v) (fun r2 => lt (pu 0 430 v r2.2) (fun v3 => lt (st2 v3 430 0 r2.1) (fun v4 => some ((0 : Int32), v4))))
set_option maxHeartbeats 4000000 in
set_option maxRecDepth 100000 in
theorem c_L_obey (l : Launch) (G : xGl) (sa q : Nat → Nat) (v : xSt) {z : (Int32 × xSt)} (hf : m_L_obey v = some z) : mRS l yL_obey (wMH yL_obey cL_obey 3 (some .int) [(0, 8, 11, 19)]) { frames := 8, cells := 0, slots := 0, locals := 211 } G sa (e2 430 (eBC G) (eLng G)) 431 q v [.ref (q 0), .ref (q 430)] (qI z.1) z.2 0 0 := by
  refine xRSH (cc := cL_obey) (maxL := 3) (ret := (some .int)) (by decide) rfl (Nat.le_of_ble_eq_true rfl) ?_
  intro p e s m below meth c ls A hC hht hr hlk h hT hl
  have hx := hC.1
  have hb := hC.2.1
  have hl : lv_has ls 3 [(0, .ref (q 0)), (1, .ref (q 430))] := hl
  unfold m_L_obey at hf
  obtain ⟨H, hH⟩ : ∃ H, H = s.heap := ⟨_, rfl⟩
  obtain ⟨locs, hlo⟩ : ∃ x : List Loc, x = [] := ⟨_, rfl⟩
  have h : hg G (e2 430 (eBC G) (eLng G)) 431 q v A s H locs := by rw [hH, hlo]; exact h
  rw [← hlo, ← hH]
  clear hH hlo
  refine lv_aload_n hx hb dL_obey_0 rfl (lv_at hl 1 rfl) ?_
  refine lv_iconst (v := (0 : Int32)) hx hb dL_obey_1 (by decide) ?_
  refine lv_aload_n hx hb dL_obey_2 rfl (lv_at hl 0 rfl) ?_
  obtain ⟨r2, hy1, hf⟩ := ob_e hf
  refine xip h 430 sWL_0 (Nat.le_of_ble_eq_true rfl) (va_runV (As := []) (rest := [.int (0 : Int32), .ref (q 430)]) hC (c_X8_obey_n l G q v hy1 H.size) (xcgV hC wMH_in lk_L_58 in_X8 co_X8_obey im_X8_obey se_X8_obey rfl rfl dd_X8_obey ⟨Nat.le_of_ble_eq_true rfl, Nat.le_of_ble_eq_true rfl⟩) (preVp h 430 sWL_0 (Nat.le_of_ble_eq_true rfl) (Nat.le_of_ble_eq_true rfl) eWL_0 rfl []) rfl rfl hl.1 rfl (lv_room (Nat.le_of_ble_eq_true rfl)) dL_obey_3 ⟨Nat.zero_le _, Nat.zero_le _⟩) (fun H locs h => ?_)
  obtain ⟨v3, ev3, hf⟩ := lt_e hf
  rw [← ev3] at h
  refine lv_i2l hx hb dL_obey_6 rfl ?_
  refine xlast hC h 430 (Nat.le_of_ble_eq_true rfl) (fun _ => eWL_430) (x := r2.1) dL_obey_7 (fun H locs h => ?_)
  obtain ⟨v4, ev4, hf⟩ := lt_e hf
  rw [← ev4] at h
  refine lv_goto (tgt := 14) hx hb dL_obey_8 (by decide) ?_
  refine lv_iconst (v := (0 : Int32)) hx hb dL_obey_14 (by decide) ?_
  have hf := sm_e hf
  exact xiret hC hr hlk h (by rw [← hf]) (by rw [← hf]) dL_obey_15
set_option maxHeartbeats 4000000 in
theorem x_L_obey_xIAE (l : Launch) (hst : l.stackTraces = false) (G : xGl) (sa q : Nat → Nat) (v : xSt) {w : xSt} (hf : m_X8_obey_t v  = some (xIAE, w)) : mRS l yL_obey (wMH yL_obey cL_obey 3 (some .int) [(0, 8, 11, 19)]) { frames := 7, cells := 1, slots := 6, locals := 140 } G sa (e2 430 (eBC G) (eLng G)) 431 q v [.ref (q 0), .ref (q 430)] (qI 1) (pu 0 430 v w) 1 6 := by
  refine xRSH (cc := cL_obey) (maxL := 3) (ret := some .int) (hh := [(0, 8, 11, 19)]) (by decide) rfl (Nat.le_of_ble_eq_true rfl) ?_
  intro p e s m below meth c ls A hC hht hr hlk h hT hl
  have hx := hC.1
  have hb := hC.2.1
  have hl : lv_has ls 3 [(0, .ref (q 0)), (1, .ref (q 430))] := hl
  obtain ⟨H, hH⟩ : ∃ H, H = s.heap := ⟨_, rfl⟩
  obtain ⟨locs, hlo⟩ : ∃ x : List Loc, x = [] := ⟨_, rfl⟩
  have h : hg G (e2 430 (eBC G) (eLng G)) 431 q v A s H locs := by rw [hH, hlo]; exact h
  rw [← hlo, ← hH]
  clear hH hlo
  refine lv_aload_n hx hb dL_obey_0 rfl (lv_at hl 1 rfl) ?_
  refine lv_iconst (v := (0 : Int32)) hx hb dL_obey_1 (by decide) ?_
  refine lv_aload_n hx hb dL_obey_2 rfl (lv_at hl 0 rfl) ?_
  refine xcth h 430 sWL_0 (Nat.le_of_ble_eq_true rfl) (vx_runV (As := []) (rest := [.int 0, .ref (q 430)]) hC (c_X8_obey_t l hst G sa q v  hf H.size) (xcgV hC wMH_in lk_L_58 in_X8 co_X8_obey im_X8_obey se_X8_obey rfl rfl dd_X8_obey ⟨Nat.le_of_ble_eq_true rfl, Nat.le_of_ble_eq_true rfl⟩) (preVT h hT 430 sWL_0 (Nat.le_of_ble_eq_true rfl) (Nat.le_of_ble_eq_true rfl) eWL_0 rfl []) rfl rfl hl.1 rfl (lv_room (Nat.le_of_ble_eq_true rfl)) dL_obey_3 ⟨Nat.le_of_ble_eq_true rfl, Nat.le_of_ble_eq_true rfl⟩) (fun ce q9 H locs h hce hcv hcl => ?_)
  refine vx_catch hC.2.2.2.1 [] ⟨0, 8, 11, 19⟩ [] (hht.trans rfl) (fun z hz => nomatch hz) (by decide) (by decide) (hC.2.2.2.2 _ (wMH_in _ ck_L_19)) (va_Nw.use rfl (hT.2.2.2.1.1 xIAE (by decide))) hce hcv hcl ?_
  refine lv_astore_n (lv' := [(2, .ref q9), (0, .ref (q 0)), (1, .ref (q 430))]) hx hb dL_obey_11 rfl hl (by decide) rfl (fun ls hl => ?_)
  refine lv_iconst (v := (1 : Int32)) hx hb dL_obey_12 (by decide) ?_
  exact xiretc hC hr hlk h rfl rfl dL_obey_13
def m_L_goBack (v : xSt) : Option (Int32 × xSt) := ob (m_X8_goBack_n v) (fun r2 => lt (pu 0 430 v r2.2) (fun v3 => lt (st2 v3 430 0 r2.1) (fun v4 => some ((0 : Int32), v4))))
set_option maxHeartbeats 4000000 in
set_option maxRecDepth 100000 in
theorem c_L_goBack (l : Launch) (G : xGl) (sa q : Nat → Nat) (v : xSt) {z : (Int32 × xSt)} (hf : m_L_goBack v = some z) : mRS l yL_goBack (wMH yL_goBack cL_goBack 3 (some .int) [(0, 8, 11, 13)]) { frames := 7, cells := 0, slots := 0, locals := 188 } G sa (e2 430 (eBC G) (eLng G)) 431 q v [.ref (q 0), .ref (q 430)] (qI z.1) z.2 0 0 := by
  refine xRSH (cc := cL_goBack) (maxL := 3) (ret := (some .int)) (by decide) rfl (Nat.le_of_ble_eq_true rfl) ?_
  intro p e s m below meth c ls A hC hht hr hlk h hT hl
  have hx := hC.1
  have hb := hC.2.1
  have hl : lv_has ls 3 [(0, .ref (q 0)), (1, .ref (q 430))] := hl
  unfold m_L_goBack at hf
  obtain ⟨H, hH⟩ : ∃ H, H = s.heap := ⟨_, rfl⟩
  obtain ⟨locs, hlo⟩ : ∃ x : List Loc, x = [] := ⟨_, rfl⟩
  have h : hg G (e2 430 (eBC G) (eLng G)) 431 q v A s H locs := by rw [hH, hlo]; exact h
  rw [← hlo, ← hH]
  clear hH hlo
  refine lv_aload_n hx hb dL_goBack_0 rfl (lv_at hl 1 rfl) ?_
  refine lv_iconst (v := (0 : Int32)) hx hb dL_goBack_1 (by decide) ?_
  refine lv_aload_n hx hb dL_goBack_2 rfl (lv_at hl 0 rfl) ?_
  obtain ⟨r2, hy1, hf⟩ := ob_e hf
  refine xip h 430 sWL_0 (Nat.le_of_ble_eq_true rfl) (va_runV (As := []) (rest := [.int (0 : Int32), .ref (q 430)]) hC (c_X8_goBack_n l G q v hy1 H.size) (xcgV hC wMH_in lk_L_61 in_X8 co_X8_goBack im_X8_goBack se_X8_goBack rfl rfl dd_X8_goBack ⟨Nat.le_of_ble_eq_true rfl, Nat.le_of_ble_eq_true rfl⟩) (preVp h 430 sWL_0 (Nat.le_of_ble_eq_true rfl) (Nat.le_of_ble_eq_true rfl) eWL_0 rfl []) rfl rfl hl.1 rfl (lv_room (Nat.le_of_ble_eq_true rfl)) dL_goBack_3 ⟨Nat.zero_le _, Nat.zero_le _⟩) (fun H locs h => ?_)
  obtain ⟨v3, ev3, hf⟩ := lt_e hf
  rw [← ev3] at h
  refine lv_i2l hx hb dL_goBack_6 rfl ?_
  refine xlast hC h 430 (Nat.le_of_ble_eq_true rfl) (fun _ => eWL_430) (x := r2.1) dL_goBack_7 (fun H locs h => ?_)
  obtain ⟨v4, ev4, hf⟩ := lt_e hf
  rw [← ev4] at h
  refine lv_goto (tgt := 14) hx hb dL_goBack_8 (by decide) ?_
  refine lv_iconst (v := (0 : Int32)) hx hb dL_goBack_14 (by decide) ?_
  have hf := sm_e hf
  exact xiret hC hr hlk h (by rw [← hf]) (by rw [← hf]) dL_goBack_15
set_option maxHeartbeats 4000000 in
theorem x_L_goBack_xISE (l : Launch) (hst : l.stackTraces = false) (G : xGl) (sa q : Nat → Nat) (v : xSt) {w : xSt} (hf : m_X8_goBack_t v  = some (xISE, w)) : mRS l yL_goBack (wMH yL_goBack cL_goBack 3 (some .int) [(0, 8, 11, 13)]) { frames := 7, cells := 1, slots := 6, locals := 120 } G sa (e2 430 (eBC G) (eLng G)) 431 q v [.ref (q 0), .ref (q 430)] (qI 1) (pu 0 430 v w) 1 6 := by
  refine xRSH (cc := cL_goBack) (maxL := 3) (ret := some .int) (hh := [(0, 8, 11, 13)]) (by decide) rfl (Nat.le_of_ble_eq_true rfl) ?_
  intro p e s m below meth c ls A hC hht hr hlk h hT hl
  have hx := hC.1
  have hb := hC.2.1
  have hl : lv_has ls 3 [(0, .ref (q 0)), (1, .ref (q 430))] := hl
  obtain ⟨H, hH⟩ : ∃ H, H = s.heap := ⟨_, rfl⟩
  obtain ⟨locs, hlo⟩ : ∃ x : List Loc, x = [] := ⟨_, rfl⟩
  have h : hg G (e2 430 (eBC G) (eLng G)) 431 q v A s H locs := by rw [hH, hlo]; exact h
  rw [← hlo, ← hH]
  clear hH hlo
  refine lv_aload_n hx hb dL_goBack_0 rfl (lv_at hl 1 rfl) ?_
  refine lv_iconst (v := (0 : Int32)) hx hb dL_goBack_1 (by decide) ?_
  refine lv_aload_n hx hb dL_goBack_2 rfl (lv_at hl 0 rfl) ?_
  refine xcth h 430 sWL_0 (Nat.le_of_ble_eq_true rfl) (vx_runV (As := []) (rest := [.int 0, .ref (q 430)]) hC (c_X8_goBack_t l hst G sa q v  hf H.size) (xcgV hC wMH_in lk_L_61 in_X8 co_X8_goBack im_X8_goBack se_X8_goBack rfl rfl dd_X8_goBack ⟨Nat.le_of_ble_eq_true rfl, Nat.le_of_ble_eq_true rfl⟩) (preVT h hT 430 sWL_0 (Nat.le_of_ble_eq_true rfl) (Nat.le_of_ble_eq_true rfl) eWL_0 rfl []) rfl rfl hl.1 rfl (lv_room (Nat.le_of_ble_eq_true rfl)) dL_goBack_3 ⟨Nat.le_of_ble_eq_true rfl, Nat.le_of_ble_eq_true rfl⟩) (fun ce q9 H locs h hce hcv hcl => ?_)
  refine vx_catch hC.2.2.2.1 [] ⟨0, 8, 11, 13⟩ [] (hht.trans rfl) (fun z hz => nomatch hz) (by decide) (by decide) (hC.2.2.2.2 _ (wMH_in _ ck_L_13)) (va_Nw.use rfl (hT.2.2.2.1.1 xISE (by decide))) hce hcv hcl ?_
  refine lv_astore_n (lv' := [(2, .ref q9), (0, .ref (q 0)), (1, .ref (q 430))]) hx hb dL_goBack_11 rfl hl (by decide) rfl (fun ls hl => ?_)
  refine lv_iconst (v := (1 : Int32)) hx hb dL_goBack_12 (by decide) ?_
  exact xiretc hC hr hlk h rfl rfl dL_goBack_13
def m_L_undo (v : xSt) : Option (Int32 × xSt) := ob (m_X8_undo_n v) (fun r2 => lt (pu 0 430 v r2.2) (fun v3 => lt (st2 v3 430 0 r2.1) (fun v4 => some ((0 : Int32), v4))))
set_option maxHeartbeats 4000000 in
set_option maxRecDepth 100000 in
theorem c_L_undo (l : Launch) (G : xGl) (sa q : Nat → Nat) (v : xSt) {z : (Int32 × xSt)} (hf : m_L_undo v = some z) : mRS l yL_undo (wMH yL_undo cL_undo 3 (some .int) [(0, 8, 11, 13)]) { frames := 7, cells := 0, slots := 0, locals := 189 } G sa (e2 430 (eBC G) (eLng G)) 431 q v [.ref (q 0), .ref (q 430)] (qI z.1) z.2 0 0 := by
  refine xRSH (cc := cL_undo) (maxL := 3) (ret := (some .int)) (by decide) rfl (Nat.le_of_ble_eq_true rfl) ?_
  intro p e s m below meth c ls A hC hht hr hlk h hT hl
  have hx := hC.1
  have hb := hC.2.1
  have hl : lv_has ls 3 [(0, .ref (q 0)), (1, .ref (q 430))] := hl
  unfold m_L_undo at hf
  obtain ⟨H, hH⟩ : ∃ H, H = s.heap := ⟨_, rfl⟩
  obtain ⟨locs, hlo⟩ : ∃ x : List Loc, x = [] := ⟨_, rfl⟩
  have h : hg G (e2 430 (eBC G) (eLng G)) 431 q v A s H locs := by rw [hH, hlo]; exact h
  rw [← hlo, ← hH]
  clear hH hlo
  refine lv_aload_n hx hb dL_undo_0 rfl (lv_at hl 1 rfl) ?_
  refine lv_iconst (v := (0 : Int32)) hx hb dL_undo_1 (by decide) ?_
  refine lv_aload_n hx hb dL_undo_2 rfl (lv_at hl 0 rfl) ?_
  obtain ⟨r2, hy1, hf⟩ := ob_e hf
  refine xip h 430 sWL_0 (Nat.le_of_ble_eq_true rfl) (va_runV (As := []) (rest := [.int (0 : Int32), .ref (q 430)]) hC (c_X8_undo_n l G q v hy1 H.size) (xcgV hC wMH_in lk_L_64 in_X8 co_X8_undo im_X8_undo se_X8_undo rfl rfl dd_X8_undo ⟨Nat.le_of_ble_eq_true rfl, Nat.le_of_ble_eq_true rfl⟩) (preVp h 430 sWL_0 (Nat.le_of_ble_eq_true rfl) (Nat.le_of_ble_eq_true rfl) eWL_0 rfl []) rfl rfl hl.1 rfl (lv_room (Nat.le_of_ble_eq_true rfl)) dL_undo_3 ⟨Nat.zero_le _, Nat.zero_le _⟩) (fun H locs h => ?_)
  obtain ⟨v3, ev3, hf⟩ := lt_e hf
  rw [← ev3] at h
  refine lv_i2l hx hb dL_undo_6 rfl ?_
  refine xlast hC h 430 (Nat.le_of_ble_eq_true rfl) (fun _ => eWL_430) (x := r2.1) dL_undo_7 (fun H locs h => ?_)
  obtain ⟨v4, ev4, hf⟩ := lt_e hf
  rw [← ev4] at h
  refine lv_goto (tgt := 14) hx hb dL_undo_8 (by decide) ?_
  refine lv_iconst (v := (0 : Int32)) hx hb dL_undo_14 (by decide) ?_
  have hf := sm_e hf
  exact xiret hC hr hlk h (by rw [← hf]) (by rw [← hf]) dL_undo_15
set_option maxHeartbeats 4000000 in
theorem x_L_undo_xISE (l : Launch) (hst : l.stackTraces = false) (G : xGl) (sa q : Nat → Nat) (v : xSt) {w : xSt} (hf : m_X8_undo_t v  = some (xISE, w)) : mRS l yL_undo (wMH yL_undo cL_undo 3 (some .int) [(0, 8, 11, 13)]) { frames := 7, cells := 1, slots := 6, locals := 120 } G sa (e2 430 (eBC G) (eLng G)) 431 q v [.ref (q 0), .ref (q 430)] (qI 1) (pu 0 430 v w) 1 6 := by
  refine xRSH (cc := cL_undo) (maxL := 3) (ret := some .int) (hh := [(0, 8, 11, 13)]) (by decide) rfl (Nat.le_of_ble_eq_true rfl) ?_
  intro p e s m below meth c ls A hC hht hr hlk h hT hl
  have hx := hC.1
  have hb := hC.2.1
  have hl : lv_has ls 3 [(0, .ref (q 0)), (1, .ref (q 430))] := hl
  obtain ⟨H, hH⟩ : ∃ H, H = s.heap := ⟨_, rfl⟩
  obtain ⟨locs, hlo⟩ : ∃ x : List Loc, x = [] := ⟨_, rfl⟩
  have h : hg G (e2 430 (eBC G) (eLng G)) 431 q v A s H locs := by rw [hH, hlo]; exact h
  rw [← hlo, ← hH]
  clear hH hlo
  refine lv_aload_n hx hb dL_undo_0 rfl (lv_at hl 1 rfl) ?_
  refine lv_iconst (v := (0 : Int32)) hx hb dL_undo_1 (by decide) ?_
  refine lv_aload_n hx hb dL_undo_2 rfl (lv_at hl 0 rfl) ?_
  refine xcth h 430 sWL_0 (Nat.le_of_ble_eq_true rfl) (vx_runV (As := []) (rest := [.int 0, .ref (q 430)]) hC (c_X8_undo_t l hst G sa q v  hf H.size) (xcgV hC wMH_in lk_L_64 in_X8 co_X8_undo im_X8_undo se_X8_undo rfl rfl dd_X8_undo ⟨Nat.le_of_ble_eq_true rfl, Nat.le_of_ble_eq_true rfl⟩) (preVT h hT 430 sWL_0 (Nat.le_of_ble_eq_true rfl) (Nat.le_of_ble_eq_true rfl) eWL_0 rfl []) rfl rfl hl.1 rfl (lv_room (Nat.le_of_ble_eq_true rfl)) dL_undo_3 ⟨Nat.le_of_ble_eq_true rfl, Nat.le_of_ble_eq_true rfl⟩) (fun ce q9 H locs h hce hcv hcl => ?_)
  refine vx_catch hC.2.2.2.1 [] ⟨0, 8, 11, 13⟩ [] (hht.trans rfl) (fun z hz => nomatch hz) (by decide) (by decide) (hC.2.2.2.2 _ (wMH_in _ ck_L_13)) (va_Nw.use rfl (hT.2.2.2.1.1 xISE (by decide))) hce hcv hcl ?_
  refine lv_astore_n (lv' := [(2, .ref q9), (0, .ref (q 0)), (1, .ref (q 430))]) hx hb dL_undo_11 rfl hl (by decide) rfl (fun ls hl => ?_)
  refine lv_iconst (v := (1 : Int32)) hx hb dL_undo_12 (by decide) ?_
  exact xiretc hC hr hlk h rfl rfl dL_undo_13
def m_L_read (v : xSt) (p1 : Int32) : Option (Int32 × xSt) := ob (m_X8_read_n v p1) (fun r2 => lt (st2 v 430 0 r2) (fun v3 => some ((0 : Int32), v3)))
set_option maxHeartbeats 4000000 in
set_option maxRecDepth 100000 in
theorem c_L_read (l : Launch) (G : xGl) (sa q : Nat → Nat) (v : xSt) (p1 : Int32) {z : (Int32 × xSt)} (hf : m_L_read v p1 = some z) : mRS l yL_read (wMH yL_read cL_read 4 (some .int) [(0, 9, 12, 24), (0, 9, 15, 13)]) { frames := 3, cells := 0, slots := 0, locals := 63 } G sa (e2 430 (eBC G) (eLng G)) 431 q v [.ref (q 0), .int p1, .ref (q 430)] (qI z.1) z.2 0 0 := by
  refine xRSH (cc := cL_read) (maxL := 4) (ret := (some .int)) (by decide) rfl (Nat.le_of_ble_eq_true rfl) ?_
  intro p e s m below meth c ls A hC hht hr hlk h hT hl
  have hx := hC.1
  have hb := hC.2.1
  have hl : lv_has ls 4 [(0, .ref (q 0)), (1, .int p1), (2, .ref (q 430))] := hl
  unfold m_L_read at hf
  obtain ⟨H, hH⟩ : ∃ H, H = s.heap := ⟨_, rfl⟩
  obtain ⟨locs, hlo⟩ : ∃ x : List Loc, x = [] := ⟨_, rfl⟩
  have h : hg G (e2 430 (eBC G) (eLng G)) 431 q v A s H locs := by rw [hH, hlo]; exact h
  rw [← hlo, ← hH]
  clear hH hlo
  refine lv_aload_n hx hb dL_read_0 rfl (lv_at hl 2 rfl) ?_
  refine lv_iconst (v := (0 : Int32)) hx hb dL_read_1 (by decide) ?_
  refine lv_aload_n hx hb dL_read_2 rfl (lv_at hl 0 rfl) ?_
  refine lv_iload_n hx hb dL_read_3 rfl (lv_at hl 1 rfl) ?_
  obtain ⟨r2, hy1, hf⟩ := ob_e hf
  refine xiG h (va_runV (As := [.int p1]) (rest := [.int (0 : Int32), .ref (q 430)]) hC (c_X8_read_n l G q v p1 hy1 H.size) (xcgV hC wMH_in lk_L_67 in_X8 co_X8_read im_X8_read se_X8_read rfl rfl dd_X8_read ⟨Nat.le_of_ble_eq_true rfl, Nat.le_of_ble_eq_true rfl⟩) (preVOp h.o 430 sWL_0 (Nat.le_of_ble_eq_true rfl) (Nat.le_of_ble_eq_true rfl) eWL_0 rfl [.int p1]) rfl rfl hl.1 rfl (lv_room (Nat.le_of_ble_eq_true rfl)) dL_read_4 ⟨Nat.zero_le _, Nat.zero_le _⟩) (fun H locs h => ?_)
  refine lv_i2l hx hb dL_read_7 rfl ?_
  refine xlast hC h 430 (Nat.le_of_ble_eq_true rfl) (fun _ => eWL_430) (x := r2) dL_read_8 (fun H locs h => ?_)
  obtain ⟨v3, ev3, hf⟩ := lt_e hf
  rw [← ev3] at h
  refine lv_goto (tgt := 18) hx hb dL_read_9 (by decide) ?_
  refine lv_iconst (v := (0 : Int32)) hx hb dL_read_18 (by decide) ?_
  have hf := sm_e hf
  exact xiret hC hr hlk h (by rw [← hf]) (by rw [← hf]) dL_read_19
set_option maxHeartbeats 4000000 in
theorem x_L_read_xIOB (l : Launch) (hst : l.stackTraces = false) (G : xGl) (sa q : Nat → Nat) (v : xSt) (p1 : Int32) {w : xSt} (hf : m_X8_read_t v p1 = some (xIOB, w)) : mRS l yL_read (wMH yL_read cL_read 4 (some .int) [(0, 9, 12, 24), (0, 9, 15, 13)]) { frames := 7, cells := 1, slots := 6, locals := 121 } G sa (e2 430 (eBC G) (eLng G)) 431 q v [.ref (q 0), .int p1, .ref (q 430)] (qI 1) (pu 0 430 v w) 1 6 := by
  refine xRSH (cc := cL_read) (maxL := 4) (ret := some .int) (hh := [(0, 9, 12, 24), (0, 9, 15, 13)]) (by decide) rfl (Nat.le_of_ble_eq_true rfl) ?_
  intro p e s m below meth c ls A hC hht hr hlk h hT hl
  have hx := hC.1
  have hb := hC.2.1
  have hl : lv_has ls 4 [(0, .ref (q 0)), (1, .int p1), (2, .ref (q 430))] := hl
  obtain ⟨H, hH⟩ : ∃ H, H = s.heap := ⟨_, rfl⟩
  obtain ⟨locs, hlo⟩ : ∃ x : List Loc, x = [] := ⟨_, rfl⟩
  have h : hg G (e2 430 (eBC G) (eLng G)) 431 q v A s H locs := by rw [hH, hlo]; exact h
  rw [← hlo, ← hH]
  clear hH hlo
  refine lv_aload_n hx hb dL_read_0 rfl (lv_at hl 2 rfl) ?_
  refine lv_iconst (v := (0 : Int32)) hx hb dL_read_1 (by decide) ?_
  refine lv_aload_n hx hb dL_read_2 rfl (lv_at hl 0 rfl) ?_
  refine lv_iload_n hx hb dL_read_3 rfl (lv_at hl 1 rfl) ?_
  refine xcth h 430 sWL_0 (Nat.le_of_ble_eq_true rfl) (vx_runV (As := [.int p1]) (rest := [.int 0, .ref (q 430)]) hC (c_X8_read_t l hst G sa q v p1 hf H.size) (xcgV hC wMH_in lk_L_67 in_X8 co_X8_read im_X8_read se_X8_read rfl rfl dd_X8_read ⟨Nat.le_of_ble_eq_true rfl, Nat.le_of_ble_eq_true rfl⟩) (preVT h hT 430 sWL_0 (Nat.le_of_ble_eq_true rfl) (Nat.le_of_ble_eq_true rfl) eWL_0 rfl [.int p1]) rfl rfl hl.1 rfl (lv_room (Nat.le_of_ble_eq_true rfl)) dL_read_4 ⟨Nat.le_of_ble_eq_true rfl, Nat.le_of_ble_eq_true rfl⟩) (fun ce q9 H locs h hce hcv hcl => ?_)
  refine vx_catch hC.2.2.2.1 [] ⟨0, 9, 12, 24⟩ [⟨0, 9, 15, 13⟩] (hht.trans rfl) (fun z hz => nomatch hz) (by decide) (by decide) (hC.2.2.2.2 _ (wMH_in _ ck_L_24)) (va_Nw.use rfl (hT.2.2.2.1.1 xIOB (by decide))) hce hcv hcl ?_
  refine lv_astore_n (lv' := [(3, .ref q9), (0, .ref (q 0)), (1, .int p1), (2, .ref (q 430))]) hx hb dL_read_12 rfl hl (by decide) rfl (fun ls hl => ?_)
  refine lv_iconst (v := (1 : Int32)) hx hb dL_read_13 (by decide) ?_
  exact xiretc hC hr hlk h rfl rfl dL_read_14
set_option maxHeartbeats 4000000 in
theorem x_L_read_xISE (l : Launch) (hst : l.stackTraces = false) (G : xGl) (sa q : Nat → Nat) (v : xSt) (p1 : Int32) {w : xSt} (hf : m_X8_read_t v p1 = some (xISE, w)) : mRS l yL_read (wMH yL_read cL_read 4 (some .int) [(0, 9, 12, 24), (0, 9, 15, 13)]) { frames := 7, cells := 1, slots := 6, locals := 121 } G sa (e2 430 (eBC G) (eLng G)) 431 q v [.ref (q 0), .int p1, .ref (q 430)] (qI 2) (pu 0 430 v w) 1 6 := by
  refine xRSH (cc := cL_read) (maxL := 4) (ret := some .int) (hh := [(0, 9, 12, 24), (0, 9, 15, 13)]) (by decide) rfl (Nat.le_of_ble_eq_true rfl) ?_
  intro p e s m below meth c ls A hC hht hr hlk h hT hl
  have hx := hC.1
  have hb := hC.2.1
  have hl : lv_has ls 4 [(0, .ref (q 0)), (1, .int p1), (2, .ref (q 430))] := hl
  obtain ⟨H, hH⟩ : ∃ H, H = s.heap := ⟨_, rfl⟩
  obtain ⟨locs, hlo⟩ : ∃ x : List Loc, x = [] := ⟨_, rfl⟩
  have h : hg G (e2 430 (eBC G) (eLng G)) 431 q v A s H locs := by rw [hH, hlo]; exact h
  rw [← hlo, ← hH]
  clear hH hlo
  refine lv_aload_n hx hb dL_read_0 rfl (lv_at hl 2 rfl) ?_
  refine lv_iconst (v := (0 : Int32)) hx hb dL_read_1 (by decide) ?_
  refine lv_aload_n hx hb dL_read_2 rfl (lv_at hl 0 rfl) ?_
  refine lv_iload_n hx hb dL_read_3 rfl (lv_at hl 1 rfl) ?_
  refine xcth h 430 sWL_0 (Nat.le_of_ble_eq_true rfl) (vx_runV (As := [.int p1]) (rest := [.int 0, .ref (q 430)]) hC (c_X8_read_t l hst G sa q v p1 hf H.size) (xcgV hC wMH_in lk_L_67 in_X8 co_X8_read im_X8_read se_X8_read rfl rfl dd_X8_read ⟨Nat.le_of_ble_eq_true rfl, Nat.le_of_ble_eq_true rfl⟩) (preVT h hT 430 sWL_0 (Nat.le_of_ble_eq_true rfl) (Nat.le_of_ble_eq_true rfl) eWL_0 rfl [.int p1]) rfl rfl hl.1 rfl (lv_room (Nat.le_of_ble_eq_true rfl)) dL_read_4 ⟨Nat.le_of_ble_eq_true rfl, Nat.le_of_ble_eq_true rfl⟩) (fun ce q9 H locs h hce hcv hcl => ?_)
  refine vx_catch hC.2.2.2.1 [⟨0, 9, 12, 24⟩] ⟨0, 9, 15, 13⟩ [] (hht.trans rfl) (List.forall_mem_singleton.mpr (Or.inr ⟨by decide, xIOB, hC.2.2.2.2 _ (wMH_in _ ck_L_24), hT.2.2.2.2.1 xISE (by decide) xIOB (by decide) (by decide +kernel)⟩)) (by decide) (by decide) (hC.2.2.2.2 _ (wMH_in _ ck_L_13)) (va_Nw.use rfl (hT.2.2.2.1.1 xISE (by decide))) hce hcv hcl ?_
  refine lv_astore_n (lv' := [(3, .ref q9), (0, .ref (q 0)), (1, .int p1), (2, .ref (q 430))]) hx hb dL_read_15 rfl hl (by decide) rfl (fun ls hl => ?_)
  refine lv_iconst (v := (2 : Int32)) hx hb dL_read_16 (by decide) ?_
  exact xiretc hC hr hlk h rfl rfl dL_read_17
def m_L_cell (v : xSt) (p1 : Int32) (p2 : Int32) : Option (Int32 × xSt) := ob (m_X8_cell_n v p1 p2) (fun r2 => lt (st2 v 430 0 r2) (fun v3 => some ((0 : Int32), v3)))
set_option maxHeartbeats 4000000 in
set_option maxRecDepth 100000 in
theorem c_L_cell (l : Launch) (G : xGl) (sa q : Nat → Nat) (v : xSt) (p1 : Int32) (p2 : Int32) {z : (Int32 × xSt)} (hf : m_L_cell v p1 p2 = some z) : mRS l yL_cell (wMH yL_cell cL_cell 5 (some .int) [(0, 10, 13, 24), (0, 10, 17, 19)]) { frames := 3, cells := 0, slots := 0, locals := 65 } G sa (e2 430 (eBC G) (eLng G)) 431 q v [.ref (q 0), .int p1, .int p2, .ref (q 430)] (qI z.1) z.2 0 0 := by
  refine xRSH (cc := cL_cell) (maxL := 5) (ret := (some .int)) (by decide) rfl (Nat.le_of_ble_eq_true rfl) ?_
  intro p e s m below meth c ls A hC hht hr hlk h hT hl
  have hx := hC.1
  have hb := hC.2.1
  have hl : lv_has ls 5 [(0, .ref (q 0)), (1, .int p1), (2, .int p2), (3, .ref (q 430))] := hl
  unfold m_L_cell at hf
  obtain ⟨H, hH⟩ : ∃ H, H = s.heap := ⟨_, rfl⟩
  obtain ⟨locs, hlo⟩ : ∃ x : List Loc, x = [] := ⟨_, rfl⟩
  have h : hg G (e2 430 (eBC G) (eLng G)) 431 q v A s H locs := by rw [hH, hlo]; exact h
  rw [← hlo, ← hH]
  clear hH hlo
  refine lv_aload_n hx hb dL_cell_0 rfl (lv_at hl 3 rfl) ?_
  refine lv_iconst (v := (0 : Int32)) hx hb dL_cell_1 (by decide) ?_
  refine lv_aload_n hx hb dL_cell_2 rfl (lv_at hl 0 rfl) ?_
  refine lv_iload_n hx hb dL_cell_3 rfl (lv_at hl 1 rfl) ?_
  refine lv_iload_n hx hb dL_cell_4 rfl (lv_at hl 2 rfl) ?_
  obtain ⟨r2, hy1, hf⟩ := ob_e hf
  refine xiG h (va_runV (As := [.int p1, .int p2]) (rest := [.int (0 : Int32), .ref (q 430)]) hC (c_X8_cell_n l G q v p1 p2 hy1 H.size) (xcgV hC wMH_in lk_L_70 in_X8 co_X8_cell im_X8_cell se_X8_cell rfl rfl dd_X8_cell ⟨Nat.le_of_ble_eq_true rfl, Nat.le_of_ble_eq_true rfl⟩) (preVOp h.o 430 sWL_0 (Nat.le_of_ble_eq_true rfl) (Nat.le_of_ble_eq_true rfl) eWL_0 rfl [.int p1, .int p2]) rfl rfl hl.1 rfl (lv_room (Nat.le_of_ble_eq_true rfl)) dL_cell_5 ⟨Nat.zero_le _, Nat.zero_le _⟩) (fun H locs h => ?_)
  refine lv_i2l hx hb dL_cell_8 rfl ?_
  refine xlast hC h 430 (Nat.le_of_ble_eq_true rfl) (fun _ => eWL_430) (x := r2) dL_cell_9 (fun H locs h => ?_)
  obtain ⟨v3, ev3, hf⟩ := lt_e hf
  rw [← ev3] at h
  refine lv_goto (tgt := 21) hx hb dL_cell_10 (by decide) ?_
  refine lv_iconst (v := (0 : Int32)) hx hb dL_cell_21 (by decide) ?_
  have hf := sm_e hf
  exact xiret hC hr hlk h (by rw [← hf]) (by rw [← hf]) dL_cell_22
set_option maxHeartbeats 4000000 in
theorem x_L_cell_xIOB (l : Launch) (hst : l.stackTraces = false) (G : xGl) (sa q : Nat → Nat) (v : xSt) (p1 : Int32) (p2 : Int32) {w : xSt} (hf : m_X8_cell_t v p1 p2 = some (xIOB, w)) : mRS l yL_cell (wMH yL_cell cL_cell 5 (some .int) [(0, 10, 13, 24), (0, 10, 17, 19)]) { frames := 7, cells := 1, slots := 6, locals := 122 } G sa (e2 430 (eBC G) (eLng G)) 431 q v [.ref (q 0), .int p1, .int p2, .ref (q 430)] (qI 1) (pu 0 430 v w) 1 6 := by
  refine xRSH (cc := cL_cell) (maxL := 5) (ret := some .int) (hh := [(0, 10, 13, 24), (0, 10, 17, 19)]) (by decide) rfl (Nat.le_of_ble_eq_true rfl) ?_
  intro p e s m below meth c ls A hC hht hr hlk h hT hl
  have hx := hC.1
  have hb := hC.2.1
  have hl : lv_has ls 5 [(0, .ref (q 0)), (1, .int p1), (2, .int p2), (3, .ref (q 430))] := hl
  obtain ⟨H, hH⟩ : ∃ H, H = s.heap := ⟨_, rfl⟩
  obtain ⟨locs, hlo⟩ : ∃ x : List Loc, x = [] := ⟨_, rfl⟩
  have h : hg G (e2 430 (eBC G) (eLng G)) 431 q v A s H locs := by rw [hH, hlo]; exact h
  rw [← hlo, ← hH]
  clear hH hlo
  refine lv_aload_n hx hb dL_cell_0 rfl (lv_at hl 3 rfl) ?_
  refine lv_iconst (v := (0 : Int32)) hx hb dL_cell_1 (by decide) ?_
  refine lv_aload_n hx hb dL_cell_2 rfl (lv_at hl 0 rfl) ?_
  refine lv_iload_n hx hb dL_cell_3 rfl (lv_at hl 1 rfl) ?_
  refine lv_iload_n hx hb dL_cell_4 rfl (lv_at hl 2 rfl) ?_
  refine xcth h 430 sWL_0 (Nat.le_of_ble_eq_true rfl) (vx_runV (As := [.int p1, .int p2]) (rest := [.int 0, .ref (q 430)]) hC (c_X8_cell_t l hst G sa q v p1 p2 hf H.size) (xcgV hC wMH_in lk_L_70 in_X8 co_X8_cell im_X8_cell se_X8_cell rfl rfl dd_X8_cell ⟨Nat.le_of_ble_eq_true rfl, Nat.le_of_ble_eq_true rfl⟩) (preVT h hT 430 sWL_0 (Nat.le_of_ble_eq_true rfl) (Nat.le_of_ble_eq_true rfl) eWL_0 rfl [.int p1, .int p2]) rfl rfl hl.1 rfl (lv_room (Nat.le_of_ble_eq_true rfl)) dL_cell_5 ⟨Nat.le_of_ble_eq_true rfl, Nat.le_of_ble_eq_true rfl⟩) (fun ce q9 H locs h hce hcv hcl => ?_)
  refine vx_catch hC.2.2.2.1 [] ⟨0, 10, 13, 24⟩ [⟨0, 10, 17, 19⟩] (hht.trans rfl) (fun z hz => nomatch hz) (by decide) (by decide) (hC.2.2.2.2 _ (wMH_in _ ck_L_24)) (va_Nw.use rfl (hT.2.2.2.1.1 xIOB (by decide))) hce hcv hcl ?_
  refine lv_astore (lv' := [(4, .ref q9), (0, .ref (q 0)), (1, .int p1), (2, .int p2), (3, .ref (q 430))]) hx hb dL_cell_13 hl (by decide) rfl (fun ls hl => ?_)
  refine lv_iconst (v := (1 : Int32)) hx hb dL_cell_15 (by decide) ?_
  exact xiretc hC hr hlk h rfl rfl dL_cell_16
set_option maxHeartbeats 4000000 in
theorem x_L_cell_xIAE (l : Launch) (hst : l.stackTraces = false) (G : xGl) (sa q : Nat → Nat) (v : xSt) (p1 : Int32) (p2 : Int32) {w : xSt} (hf : m_X8_cell_t v p1 p2 = some (xIAE, w)) : mRS l yL_cell (wMH yL_cell cL_cell 5 (some .int) [(0, 10, 13, 24), (0, 10, 17, 19)]) { frames := 7, cells := 1, slots := 6, locals := 122 } G sa (e2 430 (eBC G) (eLng G)) 431 q v [.ref (q 0), .int p1, .int p2, .ref (q 430)] (qI 2) (pu 0 430 v w) 1 6 := by
  refine xRSH (cc := cL_cell) (maxL := 5) (ret := some .int) (hh := [(0, 10, 13, 24), (0, 10, 17, 19)]) (by decide) rfl (Nat.le_of_ble_eq_true rfl) ?_
  intro p e s m below meth c ls A hC hht hr hlk h hT hl
  have hx := hC.1
  have hb := hC.2.1
  have hl : lv_has ls 5 [(0, .ref (q 0)), (1, .int p1), (2, .int p2), (3, .ref (q 430))] := hl
  obtain ⟨H, hH⟩ : ∃ H, H = s.heap := ⟨_, rfl⟩
  obtain ⟨locs, hlo⟩ : ∃ x : List Loc, x = [] := ⟨_, rfl⟩
  have h : hg G (e2 430 (eBC G) (eLng G)) 431 q v A s H locs := by rw [hH, hlo]; exact h
  rw [← hlo, ← hH]
  clear hH hlo
  refine lv_aload_n hx hb dL_cell_0 rfl (lv_at hl 3 rfl) ?_
  refine lv_iconst (v := (0 : Int32)) hx hb dL_cell_1 (by decide) ?_
  refine lv_aload_n hx hb dL_cell_2 rfl (lv_at hl 0 rfl) ?_
  refine lv_iload_n hx hb dL_cell_3 rfl (lv_at hl 1 rfl) ?_
  refine lv_iload_n hx hb dL_cell_4 rfl (lv_at hl 2 rfl) ?_
  refine xcth h 430 sWL_0 (Nat.le_of_ble_eq_true rfl) (vx_runV (As := [.int p1, .int p2]) (rest := [.int 0, .ref (q 430)]) hC (c_X8_cell_t l hst G sa q v p1 p2 hf H.size) (xcgV hC wMH_in lk_L_70 in_X8 co_X8_cell im_X8_cell se_X8_cell rfl rfl dd_X8_cell ⟨Nat.le_of_ble_eq_true rfl, Nat.le_of_ble_eq_true rfl⟩) (preVT h hT 430 sWL_0 (Nat.le_of_ble_eq_true rfl) (Nat.le_of_ble_eq_true rfl) eWL_0 rfl [.int p1, .int p2]) rfl rfl hl.1 rfl (lv_room (Nat.le_of_ble_eq_true rfl)) dL_cell_5 ⟨Nat.le_of_ble_eq_true rfl, Nat.le_of_ble_eq_true rfl⟩) (fun ce q9 H locs h hce hcv hcl => ?_)
  refine vx_catch hC.2.2.2.1 [⟨0, 10, 13, 24⟩] ⟨0, 10, 17, 19⟩ [] (hht.trans rfl) (List.forall_mem_singleton.mpr (Or.inr ⟨by decide, xIOB, hC.2.2.2.2 _ (wMH_in _ ck_L_24), hT.2.2.2.2.1 xIAE (by decide) xIOB (by decide) (by decide +kernel)⟩)) (by decide) (by decide) (hC.2.2.2.2 _ (wMH_in _ ck_L_19)) (va_Nw.use rfl (hT.2.2.2.1.1 xIAE (by decide))) hce hcv hcl ?_
  refine lv_astore (lv' := [(4, .ref q9), (0, .ref (q 0)), (1, .int p1), (2, .int p2), (3, .ref (q 430))]) hx hb dL_cell_17 hl (by decide) rfl (fun ls hl => ?_)
  refine lv_iconst (v := (2 : Int32)) hx hb dL_cell_19 (by decide) ?_
  exact xiretc hC hr hlk h rfl rfl dL_cell_20
def m_L_sector (v : xSt) (p1 : Int32) (p2 : Int32) : Option (Int32 × xSt) := ob (m_X8_sector_n v p1 p2) (fun r2 => lt (st2 v 430 0 r2) (fun v3 => some ((0 : Int32), v3)))
set_option maxHeartbeats 4000000 in
set_option maxRecDepth 100000 in
theorem c_L_sector (l : Launch) (G : xGl) (sa q : Nat → Nat) (v : xSt) (p1 : Int32) (p2 : Int32) {z : (Int32 × xSt)} (hf : m_L_sector v p1 p2 = some z) : mRS l yL_sector (wMH yL_sector cL_sector 5 (some .int) [(0, 10, 13, 24), (0, 10, 17, 19)]) { frames := 4, cells := 0, slots := 0, locals := 90 } G sa (e2 430 (eBC G) (eLng G)) 431 q v [.ref (q 0), .int p1, .int p2, .ref (q 430)] (qI z.1) z.2 0 0 := by
  refine xRSH (cc := cL_sector) (maxL := 5) (ret := (some .int)) (by decide) rfl (Nat.le_of_ble_eq_true rfl) ?_
  intro p e s m below meth c ls A hC hht hr hlk h hT hl
  have hx := hC.1
  have hb := hC.2.1
  have hl : lv_has ls 5 [(0, .ref (q 0)), (1, .int p1), (2, .int p2), (3, .ref (q 430))] := hl
  unfold m_L_sector at hf
  obtain ⟨H, hH⟩ : ∃ H, H = s.heap := ⟨_, rfl⟩
  obtain ⟨locs, hlo⟩ : ∃ x : List Loc, x = [] := ⟨_, rfl⟩
  have h : hg G (e2 430 (eBC G) (eLng G)) 431 q v A s H locs := by rw [hH, hlo]; exact h
  rw [← hlo, ← hH]
  clear hH hlo
  refine lv_aload_n hx hb dL_sector_0 rfl (lv_at hl 3 rfl) ?_
  refine lv_iconst (v := (0 : Int32)) hx hb dL_sector_1 (by decide) ?_
  refine lv_aload_n hx hb dL_sector_2 rfl (lv_at hl 0 rfl) ?_
  refine lv_iload_n hx hb dL_sector_3 rfl (lv_at hl 1 rfl) ?_
  refine lv_iload_n hx hb dL_sector_4 rfl (lv_at hl 2 rfl) ?_
  obtain ⟨r2, hy1, hf⟩ := ob_e hf
  refine xiG h (va_runV (As := [.int p1, .int p2]) (rest := [.int (0 : Int32), .ref (q 430)]) hC (c_X8_sector_n l G q v p1 p2 hy1 H.size) (xcgV hC wMH_in lk_L_73 in_X8 co_X8_sector im_X8_sector se_X8_sector rfl rfl dd_X8_sector ⟨Nat.le_of_ble_eq_true rfl, Nat.le_of_ble_eq_true rfl⟩) (preVOp h.o 430 sWL_0 (Nat.le_of_ble_eq_true rfl) (Nat.le_of_ble_eq_true rfl) eWL_0 rfl [.int p1, .int p2]) rfl rfl hl.1 rfl (lv_room (Nat.le_of_ble_eq_true rfl)) dL_sector_5 ⟨Nat.zero_le _, Nat.zero_le _⟩) (fun H locs h => ?_)
  refine lv_i2l hx hb dL_sector_8 rfl ?_
  refine xlast hC h 430 (Nat.le_of_ble_eq_true rfl) (fun _ => eWL_430) (x := r2) dL_sector_9 (fun H locs h => ?_)
  obtain ⟨v3, ev3, hf⟩ := lt_e hf
  rw [← ev3] at h
  refine lv_goto (tgt := 21) hx hb dL_sector_10 (by decide) ?_
  refine lv_iconst (v := (0 : Int32)) hx hb dL_sector_21 (by decide) ?_
  have hf := sm_e hf
  exact xiret hC hr hlk h (by rw [← hf]) (by rw [← hf]) dL_sector_22
set_option maxHeartbeats 4000000 in
theorem x_L_sector_xIOB (l : Launch) (hst : l.stackTraces = false) (G : xGl) (sa q : Nat → Nat) (v : xSt) (p1 : Int32) (p2 : Int32) {w : xSt} (hf : m_X8_sector_t v p1 p2 = some (xIOB, w)) : mRS l yL_sector (wMH yL_sector cL_sector 5 (some .int) [(0, 10, 13, 24), (0, 10, 17, 19)]) { frames := 7, cells := 1, slots := 6, locals := 122 } G sa (e2 430 (eBC G) (eLng G)) 431 q v [.ref (q 0), .int p1, .int p2, .ref (q 430)] (qI 1) (pu 0 430 v w) 1 6 := by
  refine xRSH (cc := cL_sector) (maxL := 5) (ret := some .int) (hh := [(0, 10, 13, 24), (0, 10, 17, 19)]) (by decide) rfl (Nat.le_of_ble_eq_true rfl) ?_
  intro p e s m below meth c ls A hC hht hr hlk h hT hl
  have hx := hC.1
  have hb := hC.2.1
  have hl : lv_has ls 5 [(0, .ref (q 0)), (1, .int p1), (2, .int p2), (3, .ref (q 430))] := hl
  obtain ⟨H, hH⟩ : ∃ H, H = s.heap := ⟨_, rfl⟩
  obtain ⟨locs, hlo⟩ : ∃ x : List Loc, x = [] := ⟨_, rfl⟩
  have h : hg G (e2 430 (eBC G) (eLng G)) 431 q v A s H locs := by rw [hH, hlo]; exact h
  rw [← hlo, ← hH]
  clear hH hlo
  refine lv_aload_n hx hb dL_sector_0 rfl (lv_at hl 3 rfl) ?_
  refine lv_iconst (v := (0 : Int32)) hx hb dL_sector_1 (by decide) ?_
  refine lv_aload_n hx hb dL_sector_2 rfl (lv_at hl 0 rfl) ?_
  refine lv_iload_n hx hb dL_sector_3 rfl (lv_at hl 1 rfl) ?_
  refine lv_iload_n hx hb dL_sector_4 rfl (lv_at hl 2 rfl) ?_
  refine xcth h 430 sWL_0 (Nat.le_of_ble_eq_true rfl) (vx_runV (As := [.int p1, .int p2]) (rest := [.int 0, .ref (q 430)]) hC (c_X8_sector_t l hst G sa q v p1 p2 hf H.size) (xcgV hC wMH_in lk_L_73 in_X8 co_X8_sector im_X8_sector se_X8_sector rfl rfl dd_X8_sector ⟨Nat.le_of_ble_eq_true rfl, Nat.le_of_ble_eq_true rfl⟩) (preVT h hT 430 sWL_0 (Nat.le_of_ble_eq_true rfl) (Nat.le_of_ble_eq_true rfl) eWL_0 rfl [.int p1, .int p2]) rfl rfl hl.1 rfl (lv_room (Nat.le_of_ble_eq_true rfl)) dL_sector_5 ⟨Nat.le_of_ble_eq_true rfl, Nat.le_of_ble_eq_true rfl⟩) (fun ce q9 H locs h hce hcv hcl => ?_)
  refine vx_catch hC.2.2.2.1 [] ⟨0, 10, 13, 24⟩ [⟨0, 10, 17, 19⟩] (hht.trans rfl) (fun z hz => nomatch hz) (by decide) (by decide) (hC.2.2.2.2 _ (wMH_in _ ck_L_24)) (va_Nw.use rfl (hT.2.2.2.1.1 xIOB (by decide))) hce hcv hcl ?_
  refine lv_astore (lv' := [(4, .ref q9), (0, .ref (q 0)), (1, .int p1), (2, .int p2), (3, .ref (q 430))]) hx hb dL_sector_13 hl (by decide) rfl (fun ls hl => ?_)
  refine lv_iconst (v := (1 : Int32)) hx hb dL_sector_15 (by decide) ?_
  exact xiretc hC hr hlk h rfl rfl dL_sector_16
set_option maxHeartbeats 4000000 in
theorem x_L_sector_xIAE (l : Launch) (hst : l.stackTraces = false) (G : xGl) (sa q : Nat → Nat) (v : xSt) (p1 : Int32) (p2 : Int32) {w : xSt} (hf : m_X8_sector_t v p1 p2 = some (xIAE, w)) : mRS l yL_sector (wMH yL_sector cL_sector 5 (some .int) [(0, 10, 13, 24), (0, 10, 17, 19)]) { frames := 7, cells := 1, slots := 6, locals := 122 } G sa (e2 430 (eBC G) (eLng G)) 431 q v [.ref (q 0), .int p1, .int p2, .ref (q 430)] (qI 2) (pu 0 430 v w) 1 6 := by
  refine xRSH (cc := cL_sector) (maxL := 5) (ret := some .int) (hh := [(0, 10, 13, 24), (0, 10, 17, 19)]) (by decide) rfl (Nat.le_of_ble_eq_true rfl) ?_
  intro p e s m below meth c ls A hC hht hr hlk h hT hl
  have hx := hC.1
  have hb := hC.2.1
  have hl : lv_has ls 5 [(0, .ref (q 0)), (1, .int p1), (2, .int p2), (3, .ref (q 430))] := hl
  obtain ⟨H, hH⟩ : ∃ H, H = s.heap := ⟨_, rfl⟩
  obtain ⟨locs, hlo⟩ : ∃ x : List Loc, x = [] := ⟨_, rfl⟩
  have h : hg G (e2 430 (eBC G) (eLng G)) 431 q v A s H locs := by rw [hH, hlo]; exact h
  rw [← hlo, ← hH]
  clear hH hlo
  refine lv_aload_n hx hb dL_sector_0 rfl (lv_at hl 3 rfl) ?_
  refine lv_iconst (v := (0 : Int32)) hx hb dL_sector_1 (by decide) ?_
  refine lv_aload_n hx hb dL_sector_2 rfl (lv_at hl 0 rfl) ?_
  refine lv_iload_n hx hb dL_sector_3 rfl (lv_at hl 1 rfl) ?_
  refine lv_iload_n hx hb dL_sector_4 rfl (lv_at hl 2 rfl) ?_
  refine xcth h 430 sWL_0 (Nat.le_of_ble_eq_true rfl) (vx_runV (As := [.int p1, .int p2]) (rest := [.int 0, .ref (q 430)]) hC (c_X8_sector_t l hst G sa q v p1 p2 hf H.size) (xcgV hC wMH_in lk_L_73 in_X8 co_X8_sector im_X8_sector se_X8_sector rfl rfl dd_X8_sector ⟨Nat.le_of_ble_eq_true rfl, Nat.le_of_ble_eq_true rfl⟩) (preVT h hT 430 sWL_0 (Nat.le_of_ble_eq_true rfl) (Nat.le_of_ble_eq_true rfl) eWL_0 rfl [.int p1, .int p2]) rfl rfl hl.1 rfl (lv_room (Nat.le_of_ble_eq_true rfl)) dL_sector_5 ⟨Nat.le_of_ble_eq_true rfl, Nat.le_of_ble_eq_true rfl⟩) (fun ce q9 H locs h hce hcv hcl => ?_)
  refine vx_catch hC.2.2.2.1 [⟨0, 10, 13, 24⟩] ⟨0, 10, 17, 19⟩ [] (hht.trans rfl) (List.forall_mem_singleton.mpr (Or.inr ⟨by decide, xIOB, hC.2.2.2.2 _ (wMH_in _ ck_L_24), hT.2.2.2.2.1 xIAE (by decide) xIOB (by decide) (by decide +kernel)⟩)) (by decide) (by decide) (hC.2.2.2.2 _ (wMH_in _ ck_L_19)) (va_Nw.use rfl (hT.2.2.2.1.1 xIAE (by decide))) hce hcv hcl ?_
  refine lv_astore (lv' := [(4, .ref q9), (0, .ref (q 0)), (1, .int p1), (2, .int p2), (3, .ref (q 430))]) hx hb dL_sector_17 hl (by decide) rfl (fun ls hl => ?_)
  refine lv_iconst (v := (2 : Int32)) hx hb dL_sector_19 (by decide) ?_
  exact xiretc hC hr hlk h rfl rfl dL_sector_20
def m_L_work (v : xSt) (p1 : Int32) (p2 : Int32) : Option (Int32 × xSt) := ob (m_X8_work_n v p1 p2) (fun r2 => lt (st2 v 430 0 r2) (fun v3 => some ((0 : Int32), v3)))
set_option maxHeartbeats 4000000 in
set_option maxRecDepth 100000 in
theorem c_L_work (l : Launch) (G : xGl) (sa q : Nat → Nat) (v : xSt) (p1 : Int32) (p2 : Int32) {z : (Int32 × xSt)} (hf : m_L_work v p1 p2 = some z) : mRS l yL_work (wMH yL_work cL_work 5 (some .int) [(0, 10, 13, 19)]) { frames := 2, cells := 0, slots := 0, locals := 45 } G sa (e2 430 (eBC G) (eLng G)) 431 q v [.ref (q 0), .int p1, .int p2, .ref (q 430)] (qI z.1) z.2 0 0 := by
  refine xRSH (cc := cL_work) (maxL := 5) (ret := (some .int)) (by decide) rfl (Nat.le_of_ble_eq_true rfl) ?_
  intro p e s m below meth c ls A hC hht hr hlk h hT hl
  have hx := hC.1
  have hb := hC.2.1
  have hl : lv_has ls 5 [(0, .ref (q 0)), (1, .int p1), (2, .int p2), (3, .ref (q 430))] := hl
  unfold m_L_work at hf
  obtain ⟨H, hH⟩ : ∃ H, H = s.heap := ⟨_, rfl⟩
  obtain ⟨locs, hlo⟩ : ∃ x : List Loc, x = [] := ⟨_, rfl⟩
  have h : hg G (e2 430 (eBC G) (eLng G)) 431 q v A s H locs := by rw [hH, hlo]; exact h
  rw [← hlo, ← hH]
  clear hH hlo
  refine lv_aload_n hx hb dL_work_0 rfl (lv_at hl 3 rfl) ?_
  refine lv_iconst (v := (0 : Int32)) hx hb dL_work_1 (by decide) ?_
  refine lv_aload_n hx hb dL_work_2 rfl (lv_at hl 0 rfl) ?_
  refine lv_iload_n hx hb dL_work_3 rfl (lv_at hl 1 rfl) ?_
  refine lv_iload_n hx hb dL_work_4 rfl (lv_at hl 2 rfl) ?_
  obtain ⟨r2, hy1, hf⟩ := ob_e hf
  refine xiG h (va_runV (As := [.int p1, .int p2]) (rest := [.int (0 : Int32), .ref (q 430)]) hC (c_X8_work_n l G q v p1 p2 hy1 H.size) (xcgV hC wMH_in lk_L_76 in_X8 co_X8_work im_X8_work se_X8_work rfl rfl dd_X8_work ⟨Nat.le_of_ble_eq_true rfl, Nat.le_of_ble_eq_true rfl⟩) (preVOp h.o 430 sWL_0 (Nat.le_of_ble_eq_true rfl) (Nat.le_of_ble_eq_true rfl) eWL_0 rfl [.int p1, .int p2]) rfl rfl hl.1 rfl (lv_room (Nat.le_of_ble_eq_true rfl)) dL_work_5 ⟨Nat.zero_le _, Nat.zero_le _⟩) (fun H locs h => ?_)
  refine lv_i2l hx hb dL_work_8 rfl ?_
  refine xlast hC h 430 (Nat.le_of_ble_eq_true rfl) (fun _ => eWL_430) (x := r2) dL_work_9 (fun H locs h => ?_)
  obtain ⟨v3, ev3, hf⟩ := lt_e hf
  rw [← ev3] at h
  refine lv_goto (tgt := 17) hx hb dL_work_10 (by decide) ?_
  refine lv_iconst (v := (0 : Int32)) hx hb dL_work_17 (by decide) ?_
  have hf := sm_e hf
  exact xiret hC hr hlk h (by rw [← hf]) (by rw [← hf]) dL_work_18
set_option maxHeartbeats 4000000 in
theorem x_L_work_xIAE (l : Launch) (hst : l.stackTraces = false) (G : xGl) (sa q : Nat → Nat) (v : xSt) (p1 : Int32) (p2 : Int32) {w : xSt} (hf : m_X8_work_t v p1 p2 = some (xIAE, w)) : mRS l yL_work (wMH yL_work cL_work 5 (some .int) [(0, 10, 13, 19)]) { frames := 7, cells := 1, slots := 6, locals := 123 } G sa (e2 430 (eBC G) (eLng G)) 431 q v [.ref (q 0), .int p1, .int p2, .ref (q 430)] (qI 1) (pu 0 430 v w) 1 6 := by
  refine xRSH (cc := cL_work) (maxL := 5) (ret := some .int) (hh := [(0, 10, 13, 19)]) (by decide) rfl (Nat.le_of_ble_eq_true rfl) ?_
  intro p e s m below meth c ls A hC hht hr hlk h hT hl
  have hx := hC.1
  have hb := hC.2.1
  have hl : lv_has ls 5 [(0, .ref (q 0)), (1, .int p1), (2, .int p2), (3, .ref (q 430))] := hl
  obtain ⟨H, hH⟩ : ∃ H, H = s.heap := ⟨_, rfl⟩
  obtain ⟨locs, hlo⟩ : ∃ x : List Loc, x = [] := ⟨_, rfl⟩
  have h : hg G (e2 430 (eBC G) (eLng G)) 431 q v A s H locs := by rw [hH, hlo]; exact h
  rw [← hlo, ← hH]
  clear hH hlo
  refine lv_aload_n hx hb dL_work_0 rfl (lv_at hl 3 rfl) ?_
  refine lv_iconst (v := (0 : Int32)) hx hb dL_work_1 (by decide) ?_
  refine lv_aload_n hx hb dL_work_2 rfl (lv_at hl 0 rfl) ?_
  refine lv_iload_n hx hb dL_work_3 rfl (lv_at hl 1 rfl) ?_
  refine lv_iload_n hx hb dL_work_4 rfl (lv_at hl 2 rfl) ?_
  refine xcth h 430 sWL_0 (Nat.le_of_ble_eq_true rfl) (vx_runV (As := [.int p1, .int p2]) (rest := [.int 0, .ref (q 430)]) hC (c_X8_work_t l hst G sa q v p1 p2 hf H.size) (xcgV hC wMH_in lk_L_76 in_X8 co_X8_work im_X8_work se_X8_work rfl rfl dd_X8_work ⟨Nat.le_of_ble_eq_true rfl, Nat.le_of_ble_eq_true rfl⟩) (preVT h hT 430 sWL_0 (Nat.le_of_ble_eq_true rfl) (Nat.le_of_ble_eq_true rfl) eWL_0 rfl [.int p1, .int p2]) rfl rfl hl.1 rfl (lv_room (Nat.le_of_ble_eq_true rfl)) dL_work_5 ⟨Nat.le_of_ble_eq_true rfl, Nat.le_of_ble_eq_true rfl⟩) (fun ce q9 H locs h hce hcv hcl => ?_)
  refine vx_catch hC.2.2.2.1 [] ⟨0, 10, 13, 19⟩ [] (hht.trans rfl) (fun z hz => nomatch hz) (by decide) (by decide) (hC.2.2.2.2 _ (wMH_in _ ck_L_19)) (va_Nw.use rfl (hT.2.2.2.1.1 xIAE (by decide))) hce hcv hcl ?_
  refine lv_astore (lv' := [(4, .ref q9), (0, .ref (q 0)), (1, .int p1), (2, .int p2), (3, .ref (q 430))]) hx hb dL_work_13 hl (by decide) rfl (fun ls hl => ?_)
  refine lv_iconst (v := (1 : Int32)) hx hb dL_work_15 (by decide) ?_
  exact xiretc hC hr hlk h rfl rfl dL_work_16
def m_L_order (v : xSt) (p1 : Int32) (p2 : Int32) : Option (Int32 × xSt) := ob (m_X8_order_n v p1 p2) (fun r2 => lt (st2 v 430 0 r2) (fun v3 => some ((0 : Int32), v3)))
set_option maxHeartbeats 4000000 in
set_option maxRecDepth 100000 in
theorem c_L_order (l : Launch) (G : xGl) (sa q : Nat → Nat) (v : xSt) (p1 : Int32) (p2 : Int32) {z : (Int32 × xSt)} (hf : m_L_order v p1 p2 = some z) : mRS l yL_order (wMH yL_order cL_order 5 (some .int) [(0, 10, 13, 24), (0, 10, 17, 19)]) { frames := 2, cells := 0, slots := 0, locals := 45 } G sa (e2 430 (eBC G) (eLng G)) 431 q v [.ref (q 0), .int p1, .int p2, .ref (q 430)] (qI z.1) z.2 0 0 := by
  refine xRSH (cc := cL_order) (maxL := 5) (ret := (some .int)) (by decide) rfl (Nat.le_of_ble_eq_true rfl) ?_
  intro p e s m below meth c ls A hC hht hr hlk h hT hl
  have hx := hC.1
  have hb := hC.2.1
  have hl : lv_has ls 5 [(0, .ref (q 0)), (1, .int p1), (2, .int p2), (3, .ref (q 430))] := hl
  unfold m_L_order at hf
  obtain ⟨H, hH⟩ : ∃ H, H = s.heap := ⟨_, rfl⟩
  obtain ⟨locs, hlo⟩ : ∃ x : List Loc, x = [] := ⟨_, rfl⟩
  have h : hg G (e2 430 (eBC G) (eLng G)) 431 q v A s H locs := by rw [hH, hlo]; exact h
  rw [← hlo, ← hH]
  clear hH hlo
  refine lv_aload_n hx hb dL_order_0 rfl (lv_at hl 3 rfl) ?_
  refine lv_iconst (v := (0 : Int32)) hx hb dL_order_1 (by decide) ?_
  refine lv_aload_n hx hb dL_order_2 rfl (lv_at hl 0 rfl) ?_
  refine lv_iload_n hx hb dL_order_3 rfl (lv_at hl 1 rfl) ?_
  refine lv_iload_n hx hb dL_order_4 rfl (lv_at hl 2 rfl) ?_
  obtain ⟨r2, hy1, hf⟩ := ob_e hf
  refine xiG h (va_runV (As := [.int p1, .int p2]) (rest := [.int (0 : Int32), .ref (q 430)]) hC (c_X8_order_n l G q v p1 p2 hy1 H.size) (xcgV hC wMH_in lk_L_79 in_X8 co_X8_order im_X8_order se_X8_order rfl rfl dd_X8_order ⟨Nat.le_of_ble_eq_true rfl, Nat.le_of_ble_eq_true rfl⟩) (preVOp h.o 430 sWL_0 (Nat.le_of_ble_eq_true rfl) (Nat.le_of_ble_eq_true rfl) eWL_0 rfl [.int p1, .int p2]) rfl rfl hl.1 rfl (lv_room (Nat.le_of_ble_eq_true rfl)) dL_order_5 ⟨Nat.zero_le _, Nat.zero_le _⟩) (fun H locs h => ?_)
  refine lv_i2l hx hb dL_order_8 rfl ?_
  refine xlast hC h 430 (Nat.le_of_ble_eq_true rfl) (fun _ => eWL_430) (x := r2) dL_order_9 (fun H locs h => ?_)
  obtain ⟨v3, ev3, hf⟩ := lt_e hf
  rw [← ev3] at h
  refine lv_goto (tgt := 21) hx hb dL_order_10 (by decide) ?_
  refine lv_iconst (v := (0 : Int32)) hx hb dL_order_21 (by decide) ?_
  have hf := sm_e hf
  exact xiret hC hr hlk h (by rw [← hf]) (by rw [← hf]) dL_order_22
set_option maxHeartbeats 4000000 in
theorem x_L_order_xIOB (l : Launch) (hst : l.stackTraces = false) (G : xGl) (sa q : Nat → Nat) (v : xSt) (p1 : Int32) (p2 : Int32) {w : xSt} (hf : m_X8_order_t v p1 p2 = some (xIOB, w)) : mRS l yL_order (wMH yL_order cL_order 5 (some .int) [(0, 10, 13, 24), (0, 10, 17, 19)]) { frames := 7, cells := 1, slots := 6, locals := 123 } G sa (e2 430 (eBC G) (eLng G)) 431 q v [.ref (q 0), .int p1, .int p2, .ref (q 430)] (qI 1) (pu 0 430 v w) 1 6 := by
  refine xRSH (cc := cL_order) (maxL := 5) (ret := some .int) (hh := [(0, 10, 13, 24), (0, 10, 17, 19)]) (by decide) rfl (Nat.le_of_ble_eq_true rfl) ?_
  intro p e s m below meth c ls A hC hht hr hlk h hT hl
  have hx := hC.1
  have hb := hC.2.1
  have hl : lv_has ls 5 [(0, .ref (q 0)), (1, .int p1), (2, .int p2), (3, .ref (q 430))] := hl
  obtain ⟨H, hH⟩ : ∃ H, H = s.heap := ⟨_, rfl⟩
  obtain ⟨locs, hlo⟩ : ∃ x : List Loc, x = [] := ⟨_, rfl⟩
  have h : hg G (e2 430 (eBC G) (eLng G)) 431 q v A s H locs := by rw [hH, hlo]; exact h
  rw [← hlo, ← hH]
  clear hH hlo
  refine lv_aload_n hx hb dL_order_0 rfl (lv_at hl 3 rfl) ?_
  refine lv_iconst (v := (0 : Int32)) hx hb dL_order_1 (by decide) ?_
  refine lv_aload_n hx hb dL_order_2 rfl (lv_at hl 0 rfl) ?_
  refine lv_iload_n hx hb dL_order_3 rfl (lv_at hl 1 rfl) ?_
  refine lv_iload_n hx hb dL_order_4 rfl (lv_at hl 2 rfl) ?_
  refine xcth h 430 sWL_0 (Nat.le_of_ble_eq_true rfl) (vx_runV (As := [.int p1, .int p2]) (rest := [.int 0, .ref (q 430)]) hC (c_X8_order_t l hst G sa q v p1 p2 hf H.size) (xcgV hC wMH_in lk_L_79 in_X8 co_X8_order im_X8_order se_X8_order rfl rfl dd_X8_order ⟨Nat.le_of_ble_eq_true rfl, Nat.le_of_ble_eq_true rfl⟩) (preVT h hT 430 sWL_0 (Nat.le_of_ble_eq_true rfl) (Nat.le_of_ble_eq_true rfl) eWL_0 rfl [.int p1, .int p2]) rfl rfl hl.1 rfl (lv_room (Nat.le_of_ble_eq_true rfl)) dL_order_5 ⟨Nat.le_of_ble_eq_true rfl, Nat.le_of_ble_eq_true rfl⟩) (fun ce q9 H locs h hce hcv hcl => ?_)
  refine vx_catch hC.2.2.2.1 [] ⟨0, 10, 13, 24⟩ [⟨0, 10, 17, 19⟩] (hht.trans rfl) (fun z hz => nomatch hz) (by decide) (by decide) (hC.2.2.2.2 _ (wMH_in _ ck_L_24)) (va_Nw.use rfl (hT.2.2.2.1.1 xIOB (by decide))) hce hcv hcl ?_
  refine lv_astore (lv' := [(4, .ref q9), (0, .ref (q 0)), (1, .int p1), (2, .int p2), (3, .ref (q 430))]) hx hb dL_order_13 hl (by decide) rfl (fun ls hl => ?_)
  refine lv_iconst (v := (1 : Int32)) hx hb dL_order_15 (by decide) ?_
  exact xiretc hC hr hlk h rfl rfl dL_order_16
set_option maxHeartbeats 4000000 in
theorem x_L_order_xIAE (l : Launch) (hst : l.stackTraces = false) (G : xGl) (sa q : Nat → Nat) (v : xSt) (p1 : Int32) (p2 : Int32) {w : xSt} (hf : m_X8_order_t v p1 p2 = some (xIAE, w)) : mRS l yL_order (wMH yL_order cL_order 5 (some .int) [(0, 10, 13, 24), (0, 10, 17, 19)]) { frames := 7, cells := 1, slots := 6, locals := 123 } G sa (e2 430 (eBC G) (eLng G)) 431 q v [.ref (q 0), .int p1, .int p2, .ref (q 430)] (qI 2) (pu 0 430 v w) 1 6 := by
  refine xRSH (cc := cL_order) (maxL := 5) (ret := some .int) (hh := [(0, 10, 13, 24), (0, 10, 17, 19)]) (by decide) rfl (Nat.le_of_ble_eq_true rfl) ?_
  intro p e s m below meth c ls A hC hht hr hlk h hT hl
  have hx := hC.1
  have hb := hC.2.1
  have hl : lv_has ls 5 [(0, .ref (q 0)), (1, .int p1), (2, .int p2), (3, .ref (q 430))] := hl
  obtain ⟨H, hH⟩ : ∃ H, H = s.heap := ⟨_, rfl⟩
  obtain ⟨locs, hlo⟩ : ∃ x : List Loc, x = [] := ⟨_, rfl⟩
  have h : hg G (e2 430 (eBC G) (eLng G)) 431 q v A s H locs := by rw [hH, hlo]; exact h
  rw [← hlo, ← hH]
  clear hH hlo
  refine lv_aload_n hx hb dL_order_0 rfl (lv_at hl 3 rfl) ?_
  refine lv_iconst (v := (0 : Int32)) hx hb dL_order_1 (by decide) ?_
  refine lv_aload_n hx hb dL_order_2 rfl (lv_at hl 0 rfl) ?_
  refine lv_iload_n hx hb dL_order_3 rfl (lv_at hl 1 rfl) ?_
  refine lv_iload_n hx hb dL_order_4 rfl (lv_at hl 2 rfl) ?_
  refine xcth h 430 sWL_0 (Nat.le_of_ble_eq_true rfl) (vx_runV (As := [.int p1, .int p2]) (rest := [.int 0, .ref (q 430)]) hC (c_X8_order_t l hst G sa q v p1 p2 hf H.size) (xcgV hC wMH_in lk_L_79 in_X8 co_X8_order im_X8_order se_X8_order rfl rfl dd_X8_order ⟨Nat.le_of_ble_eq_true rfl, Nat.le_of_ble_eq_true rfl⟩) (preVT h hT 430 sWL_0 (Nat.le_of_ble_eq_true rfl) (Nat.le_of_ble_eq_true rfl) eWL_0 rfl [.int p1, .int p2]) rfl rfl hl.1 rfl (lv_room (Nat.le_of_ble_eq_true rfl)) dL_order_5 ⟨Nat.le_of_ble_eq_true rfl, Nat.le_of_ble_eq_true rfl⟩) (fun ce q9 H locs h hce hcv hcl => ?_)
  refine vx_catch hC.2.2.2.1 [⟨0, 10, 13, 24⟩] ⟨0, 10, 17, 19⟩ [] (hht.trans rfl) (List.forall_mem_singleton.mpr (Or.inr ⟨by decide, xIOB, hC.2.2.2.2 _ (wMH_in _ ck_L_24), hT.2.2.2.2.1 xIAE (by decide) xIOB (by decide) (by decide +kernel)⟩)) (by decide) (by decide) (hC.2.2.2.2 _ (wMH_in _ ck_L_19)) (va_Nw.use rfl (hT.2.2.2.1.1 xIAE (by decide))) hce hcv hcl ?_
  refine lv_astore (lv' := [(4, .ref q9), (0, .ref (q 0)), (1, .int p1), (2, .int p2), (3, .ref (q 430))]) hx hb dL_order_17 hl (by decide) rfl (fun ls hl => ?_)
  refine lv_iconst (v := (2 : Int32)) hx hb dL_order_19 (by decide) ?_
  exact xiretc hC hr hlk h rfl rfl dL_order_20
def m_L_count (v : xSt) (p1 : Int32) : Option (Int32 × xSt) := ob (m_X8_count_n v p1) (fun r2 => lt (st2 v 430 0 r2) (fun v3 => some ((0 : Int32), v3)))
set_option maxHeartbeats 4000000 in
set_option maxRecDepth 100000 in
theorem c_L_count (l : Launch) (G : xGl) (sa q : Nat → Nat) (v : xSt) (p1 : Int32) {z : (Int32 × xSt)} (hf : m_L_count v p1 = some z) : mRS l yL_count (wMH yL_count cL_count 4 (some .int) [(0, 9, 12, 19)]) { frames := 3, cells := 0, slots := 0, locals := 66 } G sa (e2 430 (eBC G) (eLng G)) 431 q v [.ref (q 0), .int p1, .ref (q 430)] (qI z.1) z.2 0 0 := by
  refine xRSH (cc := cL_count) (maxL := 4) (ret := (some .int)) (by decide) rfl (Nat.le_of_ble_eq_true rfl) ?_
  intro p e s m below meth c ls A hC hht hr hlk h hT hl
  have hx := hC.1
  have hb := hC.2.1
  have hl : lv_has ls 4 [(0, .ref (q 0)), (1, .int p1), (2, .ref (q 430))] := hl
  unfold m_L_count at hf
  obtain ⟨H, hH⟩ : ∃ H, H = s.heap := ⟨_, rfl⟩
  obtain ⟨locs, hlo⟩ : ∃ x : List Loc, x = [] := ⟨_, rfl⟩
  have h : hg G (e2 430 (eBC G) (eLng G)) 431 q v A s H locs := by rw [hH, hlo]; exact h
  rw [← hlo, ← hH]
  clear hH hlo
  refine lv_aload_n hx hb dL_count_0 rfl (lv_at hl 2 rfl) ?_
  refine lv_iconst (v := (0 : Int32)) hx hb dL_count_1 (by decide) ?_
  refine lv_aload_n hx hb dL_count_2 rfl (lv_at hl 0 rfl) ?_
  refine lv_iload_n hx hb dL_count_3 rfl (lv_at hl 1 rfl) ?_
  obtain ⟨r2, hy1, hf⟩ := ob_e hf
  refine xiG h (va_runV (As := [.int p1]) (rest := [.int (0 : Int32), .ref (q 430)]) hC (c_X8_count_n l G q v p1 hy1 H.size) (xcgV hC wMH_in lk_L_82 in_X8 co_X8_count im_X8_count se_X8_count rfl rfl dd_X8_count ⟨Nat.le_of_ble_eq_true rfl, Nat.le_of_ble_eq_true rfl⟩) (preVOp h.o 430 sWL_0 (Nat.le_of_ble_eq_true rfl) (Nat.le_of_ble_eq_true rfl) eWL_0 rfl [.int p1]) rfl rfl hl.1 rfl (lv_room (Nat.le_of_ble_eq_true rfl)) dL_count_4 ⟨Nat.zero_le _, Nat.zero_le _⟩) (fun H locs h => ?_)
  refine lv_i2l hx hb dL_count_7 rfl ?_
  refine xlast hC h 430 (Nat.le_of_ble_eq_true rfl) (fun _ => eWL_430) (x := r2) dL_count_8 (fun H locs h => ?_)
  obtain ⟨v3, ev3, hf⟩ := lt_e hf
  rw [← ev3] at h
  refine lv_goto (tgt := 15) hx hb dL_count_9 (by decide) ?_
  refine lv_iconst (v := (0 : Int32)) hx hb dL_count_15 (by decide) ?_
  have hf := sm_e hf
  exact xiret hC hr hlk h (by rw [← hf]) (by rw [← hf]) dL_count_16
set_option maxHeartbeats 4000000 in
theorem x_L_count_xIAE (l : Launch) (hst : l.stackTraces = false) (G : xGl) (sa q : Nat → Nat) (v : xSt) (p1 : Int32) {w : xSt} (hf : m_X8_count_t v p1 = some (xIAE, w)) : mRS l yL_count (wMH yL_count cL_count 4 (some .int) [(0, 9, 12, 19)]) { frames := 7, cells := 1, slots := 6, locals := 121 } G sa (e2 430 (eBC G) (eLng G)) 431 q v [.ref (q 0), .int p1, .ref (q 430)] (qI 1) (pu 0 430 v w) 1 6 := by
  refine xRSH (cc := cL_count) (maxL := 4) (ret := some .int) (hh := [(0, 9, 12, 19)]) (by decide) rfl (Nat.le_of_ble_eq_true rfl) ?_
  intro p e s m below meth c ls A hC hht hr hlk h hT hl
  have hx := hC.1
  have hb := hC.2.1
  have hl : lv_has ls 4 [(0, .ref (q 0)), (1, .int p1), (2, .ref (q 430))] := hl
  obtain ⟨H, hH⟩ : ∃ H, H = s.heap := ⟨_, rfl⟩
  obtain ⟨locs, hlo⟩ : ∃ x : List Loc, x = [] := ⟨_, rfl⟩
  have h : hg G (e2 430 (eBC G) (eLng G)) 431 q v A s H locs := by rw [hH, hlo]; exact h
  rw [← hlo, ← hH]
  clear hH hlo
  refine lv_aload_n hx hb dL_count_0 rfl (lv_at hl 2 rfl) ?_
  refine lv_iconst (v := (0 : Int32)) hx hb dL_count_1 (by decide) ?_
  refine lv_aload_n hx hb dL_count_2 rfl (lv_at hl 0 rfl) ?_
  refine lv_iload_n hx hb dL_count_3 rfl (lv_at hl 1 rfl) ?_
  refine xcth h 430 sWL_0 (Nat.le_of_ble_eq_true rfl) (vx_runV (As := [.int p1]) (rest := [.int 0, .ref (q 430)]) hC (c_X8_count_t l hst G sa q v p1 hf H.size) (xcgV hC wMH_in lk_L_82 in_X8 co_X8_count im_X8_count se_X8_count rfl rfl dd_X8_count ⟨Nat.le_of_ble_eq_true rfl, Nat.le_of_ble_eq_true rfl⟩) (preVT h hT 430 sWL_0 (Nat.le_of_ble_eq_true rfl) (Nat.le_of_ble_eq_true rfl) eWL_0 rfl [.int p1]) rfl rfl hl.1 rfl (lv_room (Nat.le_of_ble_eq_true rfl)) dL_count_4 ⟨Nat.le_of_ble_eq_true rfl, Nat.le_of_ble_eq_true rfl⟩) (fun ce q9 H locs h hce hcv hcl => ?_)
  refine vx_catch hC.2.2.2.1 [] ⟨0, 9, 12, 19⟩ [] (hht.trans rfl) (fun z hz => nomatch hz) (by decide) (by decide) (hC.2.2.2.2 _ (wMH_in _ ck_L_19)) (va_Nw.use rfl (hT.2.2.2.1.1 xIAE (by decide))) hce hcv hcl ?_
  refine lv_astore_n (lv' := [(3, .ref q9), (0, .ref (q 0)), (1, .int p1), (2, .ref (q 430))]) hx hb dL_count_12 rfl hl (by decide) rfl (fun ls hl => ?_)
  refine lv_iconst (v := (1 : Int32)) hx hb dL_count_13 (by decide) ?_
  exact xiretc hC hr hlk h rfl rfl dL_count_14
def m_L_setting (v : xSt) (p1 : Int32) : Option (Int32 × xSt) := ob (m_X8_setting_n v p1) (fun r2 => lt (pu 0 430 v r2.2) (fun v3 => lt (st2 v3 430 0 r2.1) (fun v4 => some ((0 : Int32), v4))))
set_option maxHeartbeats 4000000 in
set_option maxRecDepth 100000 in
theorem c_L_setting (l : Launch) (G : xGl) (sa q : Nat → Nat) (v : xSt) (p1 : Int32) {z : (Int32 × xSt)} (hf : m_L_setting v p1 = some z) : mRS l yL_setting (wMH yL_setting cL_setting 4 (some .int) [(0, 9, 12, 24)]) { frames := 3, cells := 0, slots := 0, locals := 63 } G sa (e2 430 (eBC G) (eLng G)) 431 q v [.ref (q 0), .int p1, .ref (q 430)] (qI z.1) z.2 0 0 := by
  refine xRSH (cc := cL_setting) (maxL := 4) (ret := (some .int)) (by decide) rfl (Nat.le_of_ble_eq_true rfl) ?_
  intro p e s m below meth c ls A hC hht hr hlk h hT hl
  have hx := hC.1
  have hb := hC.2.1
  have hl : lv_has ls 4 [(0, .ref (q 0)), (1, .int p1), (2, .ref (q 430))] := hl
  unfold m_L_setting at hf
  obtain ⟨H, hH⟩ : ∃ H, H = s.heap := ⟨_, rfl⟩
  obtain ⟨locs, hlo⟩ : ∃ x : List Loc, x = [] := ⟨_, rfl⟩
  have h : hg G (e2 430 (eBC G) (eLng G)) 431 q v A s H locs := by rw [hH, hlo]; exact h
  rw [← hlo, ← hH]
  clear hH hlo
  refine lv_aload_n hx hb dL_setting_0 rfl (lv_at hl 2 rfl) ?_
  refine lv_iconst (v := (0 : Int32)) hx hb dL_setting_1 (by decide) ?_
  refine lv_aload_n hx hb dL_setting_2 rfl (lv_at hl 0 rfl) ?_
  refine lv_iload_n hx hb dL_setting_3 rfl (lv_at hl 1 rfl) ?_
  obtain ⟨r2, hy1, hf⟩ := ob_e hf
  refine xip h 430 sWL_0 (Nat.le_of_ble_eq_true rfl) (va_runV (As := [.int p1]) (rest := [.int (0 : Int32), .ref (q 430)]) hC (c_X8_setting_n l G sa q v p1 hy1 H.size) (xcgV hC wMH_in lk_L_85 in_X8 co_X8_setting im_X8_setting se_X8_setting rfl rfl dd_X8_setting ⟨Nat.le_of_ble_eq_true rfl, Nat.le_of_ble_eq_true rfl⟩) (preVT h hT 430 sWL_0 (Nat.le_of_ble_eq_true rfl) (Nat.le_of_ble_eq_true rfl) eWL_0 rfl [.int p1]) rfl rfl hl.1 rfl (lv_room (Nat.le_of_ble_eq_true rfl)) dL_setting_4 ⟨Nat.zero_le _, Nat.zero_le _⟩) (fun H locs h => ?_)
  obtain ⟨v3, ev3, hf⟩ := lt_e hf
  rw [← ev3] at h
  refine lv_i2l hx hb dL_setting_7 rfl ?_
  refine xlast hC h 430 (Nat.le_of_ble_eq_true rfl) (fun _ => eWL_430) (x := r2.1) dL_setting_8 (fun H locs h => ?_)
  obtain ⟨v4, ev4, hf⟩ := lt_e hf
  rw [← ev4] at h
  refine lv_goto (tgt := 15) hx hb dL_setting_9 (by decide) ?_
  refine lv_iconst (v := (0 : Int32)) hx hb dL_setting_15 (by decide) ?_
  have hf := sm_e hf
  exact xiret hC hr hlk h (by rw [← hf]) (by rw [← hf]) dL_setting_16
set_option maxHeartbeats 4000000 in
theorem x_L_setting_xIOB (l : Launch) (hst : l.stackTraces = false) (G : xGl) (sa q : Nat → Nat) (v : xSt) (p1 : Int32) {w : xSt} (hf : m_X8_setting_t v p1 = some (xIOB, w)) : mRS l yL_setting (wMH yL_setting cL_setting 4 (some .int) [(0, 9, 12, 24)]) { frames := 7, cells := 1, slots := 6, locals := 121 } G sa (e2 430 (eBC G) (eLng G)) 431 q v [.ref (q 0), .int p1, .ref (q 430)] (qI 1) (pu 0 430 v w) 1 6 := by
  refine xRSH (cc := cL_setting) (maxL := 4) (ret := some .int) (hh := [(0, 9, 12, 24)]) (by decide) rfl (Nat.le_of_ble_eq_true rfl) ?_
  intro p e s m below meth c ls A hC hht hr hlk h hT hl
  have hx := hC.1
  have hb := hC.2.1
  have hl : lv_has ls 4 [(0, .ref (q 0)), (1, .int p1), (2, .ref (q 430))] := hl
  obtain ⟨H, hH⟩ : ∃ H, H = s.heap := ⟨_, rfl⟩
  obtain ⟨locs, hlo⟩ : ∃ x : List Loc, x = [] := ⟨_, rfl⟩
  have h : hg G (e2 430 (eBC G) (eLng G)) 431 q v A s H locs := by rw [hH, hlo]; exact h
  rw [← hlo, ← hH]
  clear hH hlo
  refine lv_aload_n hx hb dL_setting_0 rfl (lv_at hl 2 rfl) ?_
  refine lv_iconst (v := (0 : Int32)) hx hb dL_setting_1 (by decide) ?_
  refine lv_aload_n hx hb dL_setting_2 rfl (lv_at hl 0 rfl) ?_
  refine lv_iload_n hx hb dL_setting_3 rfl (lv_at hl 1 rfl) ?_
  refine xcth h 430 sWL_0 (Nat.le_of_ble_eq_true rfl) (vx_runV (As := [.int p1]) (rest := [.int 0, .ref (q 430)]) hC (c_X8_setting_t l hst G sa q v p1 hf H.size) (xcgV hC wMH_in lk_L_85 in_X8 co_X8_setting im_X8_setting se_X8_setting rfl rfl dd_X8_setting ⟨Nat.le_of_ble_eq_true rfl, Nat.le_of_ble_eq_true rfl⟩) (preVT h hT 430 sWL_0 (Nat.le_of_ble_eq_true rfl) (Nat.le_of_ble_eq_true rfl) eWL_0 rfl [.int p1]) rfl rfl hl.1 rfl (lv_room (Nat.le_of_ble_eq_true rfl)) dL_setting_4 ⟨Nat.le_of_ble_eq_true rfl, Nat.le_of_ble_eq_true rfl⟩) (fun ce q9 H locs h hce hcv hcl => ?_)
  refine vx_catch hC.2.2.2.1 [] ⟨0, 9, 12, 24⟩ [] (hht.trans rfl) (fun z hz => nomatch hz) (by decide) (by decide) (hC.2.2.2.2 _ (wMH_in _ ck_L_24)) (va_Nw.use rfl (hT.2.2.2.1.1 xIOB (by decide))) hce hcv hcl ?_
  refine lv_astore_n (lv' := [(3, .ref q9), (0, .ref (q 0)), (1, .int p1), (2, .ref (q 430))]) hx hb dL_setting_12 rfl hl (by decide) rfl (fun ls hl => ?_)
  refine lv_iconst (v := (1 : Int32)) hx hb dL_setting_13 (by decide) ?_
  exact xiretc hC hr hlk h rfl rfl dL_setting_14
def m_L_why (v : xSt) (p1 : Int32) (p2 : Int32) : Option (Int32 × xSt) := ob (m_X8_why_n v p1 p2) (fun r2 => lt (st2 v 430 0 r2) (fun v3 => some ((0 : Int32), v3)))
set_option maxHeartbeats 4000000 in
set_option maxRecDepth 100000 in
theorem c_L_why (l : Launch) (G : xGl) (sa q : Nat → Nat) (v : xSt) (p1 : Int32) (p2 : Int32) {z : (Int32 × xSt)} (hf : m_L_why v p1 p2 = some z) : mRS l yL_why (wMH yL_why cL_why 5 (some .int) [(0, 10, 13, 19), (0, 10, 17, 24)]) { frames := 4, cells := 0, slots := 0, locals := 87 } G sa (e2 430 (eBC G) (eLng G)) 431 q v [.ref (q 0), .int p1, .int p2, .ref (q 430)] (qI z.1) z.2 0 0 := by
  refine xRSH (cc := cL_why) (maxL := 5) (ret := (some .int)) (by decide) rfl (Nat.le_of_ble_eq_true rfl) ?_
  intro p e s m below meth c ls A hC hht hr hlk h hT hl
  have hx := hC.1
  have hb := hC.2.1
  have hl : lv_has ls 5 [(0, .ref (q 0)), (1, .int p1), (2, .int p2), (3, .ref (q 430))] := hl
  unfold m_L_why at hf
  obtain ⟨H, hH⟩ : ∃ H, H = s.heap := ⟨_, rfl⟩
  obtain ⟨locs, hlo⟩ : ∃ x : List Loc, x = [] := ⟨_, rfl⟩
  have h : hg G (e2 430 (eBC G) (eLng G)) 431 q v A s H locs := by rw [hH, hlo]; exact h
  rw [← hlo, ← hH]
  clear hH hlo
  refine lv_aload_n hx hb dL_why_0 rfl (lv_at hl 3 rfl) ?_
  refine lv_iconst (v := (0 : Int32)) hx hb dL_why_1 (by decide) ?_
  refine lv_aload_n hx hb dL_why_2 rfl (lv_at hl 0 rfl) ?_
  refine lv_iload_n hx hb dL_why_3 rfl (lv_at hl 1 rfl) ?_
  refine lv_iload_n hx hb dL_why_4 rfl (lv_at hl 2 rfl) ?_
  obtain ⟨r2, hy1, hf⟩ := ob_e hf
  refine xiG h (va_runV (As := [.int p1, .int p2]) (rest := [.int (0 : Int32), .ref (q 430)]) hC (c_X8_why_n l G q v p1 p2 hy1 H.size) (xcgV hC wMH_in lk_L_88 in_X8 co_X8_why im_X8_why se_X8_why rfl rfl dd_X8_why ⟨Nat.le_of_ble_eq_true rfl, Nat.le_of_ble_eq_true rfl⟩) (preVOp h.o 430 sWL_0 (Nat.le_of_ble_eq_true rfl) (Nat.le_of_ble_eq_true rfl) eWL_0 rfl [.int p1, .int p2]) rfl rfl hl.1 rfl (lv_room (Nat.le_of_ble_eq_true rfl)) dL_why_5 ⟨Nat.zero_le _, Nat.zero_le _⟩) (fun H locs h => ?_)
  refine lv_i2l hx hb dL_why_8 rfl ?_
  refine xlast hC h 430 (Nat.le_of_ble_eq_true rfl) (fun _ => eWL_430) (x := r2) dL_why_9 (fun H locs h => ?_)
  obtain ⟨v3, ev3, hf⟩ := lt_e hf
  rw [← ev3] at h
  refine lv_goto (tgt := 21) hx hb dL_why_10 (by decide) ?_
  refine lv_iconst (v := (0 : Int32)) hx hb dL_why_21 (by decide) ?_
  have hf := sm_e hf
  exact xiret hC hr hlk h (by rw [← hf]) (by rw [← hf]) dL_why_22
set_option maxHeartbeats 4000000 in
theorem x_L_why_xIAE (l : Launch) (hst : l.stackTraces = false) (G : xGl) (sa q : Nat → Nat) (v : xSt) (p1 : Int32) (p2 : Int32) {w : xSt} (hf : m_X8_why_t v p1 p2 = some (xIAE, w)) : mRS l yL_why (wMH yL_why cL_why 5 (some .int) [(0, 10, 13, 19), (0, 10, 17, 24)]) { frames := 7, cells := 1, slots := 6, locals := 122 } G sa (e2 430 (eBC G) (eLng G)) 431 q v [.ref (q 0), .int p1, .int p2, .ref (q 430)] (qI 1) (pu 0 430 v w) 1 6 := by
  refine xRSH (cc := cL_why) (maxL := 5) (ret := some .int) (hh := [(0, 10, 13, 19), (0, 10, 17, 24)]) (by decide) rfl (Nat.le_of_ble_eq_true rfl) ?_
  intro p e s m below meth c ls A hC hht hr hlk h hT hl
  have hx := hC.1
  have hb := hC.2.1
  have hl : lv_has ls 5 [(0, .ref (q 0)), (1, .int p1), (2, .int p2), (3, .ref (q 430))] := hl
  obtain ⟨H, hH⟩ : ∃ H, H = s.heap := ⟨_, rfl⟩
  obtain ⟨locs, hlo⟩ : ∃ x : List Loc, x = [] := ⟨_, rfl⟩
  have h : hg G (e2 430 (eBC G) (eLng G)) 431 q v A s H locs := by rw [hH, hlo]; exact h
  rw [← hlo, ← hH]
  clear hH hlo
  refine lv_aload_n hx hb dL_why_0 rfl (lv_at hl 3 rfl) ?_
  refine lv_iconst (v := (0 : Int32)) hx hb dL_why_1 (by decide) ?_
  refine lv_aload_n hx hb dL_why_2 rfl (lv_at hl 0 rfl) ?_
  refine lv_iload_n hx hb dL_why_3 rfl (lv_at hl 1 rfl) ?_
  refine lv_iload_n hx hb dL_why_4 rfl (lv_at hl 2 rfl) ?_
  refine xcth h 430 sWL_0 (Nat.le_of_ble_eq_true rfl) (vx_runV (As := [.int p1, .int p2]) (rest := [.int 0, .ref (q 430)]) hC (c_X8_why_t l hst G sa q v p1 p2 hf H.size) (xcgV hC wMH_in lk_L_88 in_X8 co_X8_why im_X8_why se_X8_why rfl rfl dd_X8_why ⟨Nat.le_of_ble_eq_true rfl, Nat.le_of_ble_eq_true rfl⟩) (preVT h hT 430 sWL_0 (Nat.le_of_ble_eq_true rfl) (Nat.le_of_ble_eq_true rfl) eWL_0 rfl [.int p1, .int p2]) rfl rfl hl.1 rfl (lv_room (Nat.le_of_ble_eq_true rfl)) dL_why_5 ⟨Nat.le_of_ble_eq_true rfl, Nat.le_of_ble_eq_true rfl⟩) (fun ce q9 H locs h hce hcv hcl => ?_)
  refine vx_catch hC.2.2.2.1 [] ⟨0, 10, 13, 19⟩ [⟨0, 10, 17, 24⟩] (hht.trans rfl) (fun z hz => nomatch hz) (by decide) (by decide) (hC.2.2.2.2 _ (wMH_in _ ck_L_19)) (va_Nw.use rfl (hT.2.2.2.1.1 xIAE (by decide))) hce hcv hcl ?_
  refine lv_astore (lv' := [(4, .ref q9), (0, .ref (q 0)), (1, .int p1), (2, .int p2), (3, .ref (q 430))]) hx hb dL_why_13 hl (by decide) rfl (fun ls hl => ?_)
  refine lv_iconst (v := (1 : Int32)) hx hb dL_why_15 (by decide) ?_
  exact xiretc hC hr hlk h rfl rfl dL_why_16
set_option maxHeartbeats 4000000 in
theorem x_L_why_xIOB (l : Launch) (hst : l.stackTraces = false) (G : xGl) (sa q : Nat → Nat) (v : xSt) (p1 : Int32) (p2 : Int32) {w : xSt} (hf : m_X8_why_t v p1 p2 = some (xIOB, w)) : mRS l yL_why (wMH yL_why cL_why 5 (some .int) [(0, 10, 13, 19), (0, 10, 17, 24)]) { frames := 7, cells := 1, slots := 6, locals := 122 } G sa (e2 430 (eBC G) (eLng G)) 431 q v [.ref (q 0), .int p1, .int p2, .ref (q 430)] (qI 2) (pu 0 430 v w) 1 6 := by
  refine xRSH (cc := cL_why) (maxL := 5) (ret := some .int) (hh := [(0, 10, 13, 19), (0, 10, 17, 24)]) (by decide) rfl (Nat.le_of_ble_eq_true rfl) ?_
  intro p e s m below meth c ls A hC hht hr hlk h hT hl
  have hx := hC.1
  have hb := hC.2.1
  have hl : lv_has ls 5 [(0, .ref (q 0)), (1, .int p1), (2, .int p2), (3, .ref (q 430))] := hl
  obtain ⟨H, hH⟩ : ∃ H, H = s.heap := ⟨_, rfl⟩
  obtain ⟨locs, hlo⟩ : ∃ x : List Loc, x = [] := ⟨_, rfl⟩
  have h : hg G (e2 430 (eBC G) (eLng G)) 431 q v A s H locs := by rw [hH, hlo]; exact h
  rw [← hlo, ← hH]
  clear hH hlo
  refine lv_aload_n hx hb dL_why_0 rfl (lv_at hl 3 rfl) ?_
  refine lv_iconst (v := (0 : Int32)) hx hb dL_why_1 (by decide) ?_
  refine lv_aload_n hx hb dL_why_2 rfl (lv_at hl 0 rfl) ?_
  refine lv_iload_n hx hb dL_why_3 rfl (lv_at hl 1 rfl) ?_
  refine lv_iload_n hx hb dL_why_4 rfl (lv_at hl 2 rfl) ?_
  refine xcth h 430 sWL_0 (Nat.le_of_ble_eq_true rfl) (vx_runV (As := [.int p1, .int p2]) (rest := [.int 0, .ref (q 430)]) hC (c_X8_why_t l hst G sa q v p1 p2 hf H.size) (xcgV hC wMH_in lk_L_88 in_X8 co_X8_why im_X8_why se_X8_why rfl rfl dd_X8_why ⟨Nat.le_of_ble_eq_true rfl, Nat.le_of_ble_eq_true rfl⟩) (preVT h hT 430 sWL_0 (Nat.le_of_ble_eq_true rfl) (Nat.le_of_ble_eq_true rfl) eWL_0 rfl [.int p1, .int p2]) rfl rfl hl.1 rfl (lv_room (Nat.le_of_ble_eq_true rfl)) dL_why_5 ⟨Nat.le_of_ble_eq_true rfl, Nat.le_of_ble_eq_true rfl⟩) (fun ce q9 H locs h hce hcv hcl => ?_)
  refine vx_catch hC.2.2.2.1 [⟨0, 10, 13, 19⟩] ⟨0, 10, 17, 24⟩ [] (hht.trans rfl) (List.forall_mem_singleton.mpr (Or.inr ⟨by decide, xIAE, hC.2.2.2.2 _ (wMH_in _ ck_L_19), hT.2.2.2.2.1 xIOB (by decide) xIAE (by decide) (by decide +kernel)⟩)) (by decide) (by decide) (hC.2.2.2.2 _ (wMH_in _ ck_L_24)) (va_Nw.use rfl (hT.2.2.2.1.1 xIOB (by decide))) hce hcv hcl ?_
  refine lv_astore (lv' := [(4, .ref q9), (0, .ref (q 0)), (1, .int p1), (2, .int p2), (3, .ref (q 430))]) hx hb dL_why_17 hl (by decide) rfl (fun ls hl => ?_)
  refine lv_iconst (v := (2 : Int32)) hx hb dL_why_19 (by decide) ?_
  exact xiretc hC hr hlk h rfl rfl dL_why_20
def m_L_misses (v : xSt) (p1 : Int32) : Option (Int32 × xSt) := ob (m_X8_misses_n v p1) (fun r2 => lt (st2 v 430 0 r2) (fun v3 => some ((0 : Int32), v3)))
set_option maxHeartbeats 4000000 in
set_option maxRecDepth 100000 in
theorem c_L_misses (l : Launch) (G : xGl) (sa q : Nat → Nat) (v : xSt) (p1 : Int32) {z : (Int32 × xSt)} (hf : m_L_misses v p1 = some z) : mRS l yL_misses (wMH yL_misses cL_misses 4 (some .int) [(0, 9, 12, 24)]) { frames := 4, cells := 0, slots := 0, locals := 96 } G sa (e2 430 (eBC G) (eLng G)) 431 q v [.ref (q 0), .int p1, .ref (q 430)] (qI z.1) z.2 0 0 := by
  refine xRSH (cc := cL_misses) (maxL := 4) (ret := (some .int)) (by decide) rfl (Nat.le_of_ble_eq_true rfl) ?_
  intro p e s m below meth c ls A hC hht hr hlk h hT hl
  have hx := hC.1
  have hb := hC.2.1
  have hl : lv_has ls 4 [(0, .ref (q 0)), (1, .int p1), (2, .ref (q 430))] := hl
  unfold m_L_misses at hf
  obtain ⟨H, hH⟩ : ∃ H, H = s.heap := ⟨_, rfl⟩
  obtain ⟨locs, hlo⟩ : ∃ x : List Loc, x = [] := ⟨_, rfl⟩
  have h : hg G (e2 430 (eBC G) (eLng G)) 431 q v A s H locs := by rw [hH, hlo]; exact h
  rw [← hlo, ← hH]
  clear hH hlo
  refine lv_aload_n hx hb dL_misses_0 rfl (lv_at hl 2 rfl) ?_
  refine lv_iconst (v := (0 : Int32)) hx hb dL_misses_1 (by decide) ?_
  refine lv_aload_n hx hb dL_misses_2 rfl (lv_at hl 0 rfl) ?_
  refine lv_iload_n hx hb dL_misses_3 rfl (lv_at hl 1 rfl) ?_
  obtain ⟨r2, hy1, hf⟩ := ob_e hf
  refine xiG h (va_runV (As := [.int p1]) (rest := [.int (0 : Int32), .ref (q 430)]) hC (c_X8_misses_n l G q v p1 hy1 H.size) (xcgV hC wMH_in lk_L_91 in_X8 co_X8_misses im_X8_misses se_X8_misses rfl rfl dd_X8_misses ⟨Nat.le_of_ble_eq_true rfl, Nat.le_of_ble_eq_true rfl⟩) (preVOp h.o 430 sWL_0 (Nat.le_of_ble_eq_true rfl) (Nat.le_of_ble_eq_true rfl) eWL_0 rfl [.int p1]) rfl rfl hl.1 rfl (lv_room (Nat.le_of_ble_eq_true rfl)) dL_misses_4 ⟨Nat.zero_le _, Nat.zero_le _⟩) (fun H locs h => ?_)
  refine lv_i2l hx hb dL_misses_7 rfl ?_
  refine xlast hC h 430 (Nat.le_of_ble_eq_true rfl) (fun _ => eWL_430) (x := r2) dL_misses_8 (fun H locs h => ?_)
  obtain ⟨v3, ev3, hf⟩ := lt_e hf
  rw [← ev3] at h
  refine lv_goto (tgt := 15) hx hb dL_misses_9 (by decide) ?_
  refine lv_iconst (v := (0 : Int32)) hx hb dL_misses_15 (by decide) ?_
  have hf := sm_e hf
  exact xiret hC hr hlk h (by rw [← hf]) (by rw [← hf]) dL_misses_16
set_option maxHeartbeats 4000000 in
theorem x_L_misses_xIOB (l : Launch) (hst : l.stackTraces = false) (G : xGl) (sa q : Nat → Nat) (v : xSt) (p1 : Int32) {w : xSt} (hf : m_X8_misses_t v p1 = some (xIOB, w)) : mRS l yL_misses (wMH yL_misses cL_misses 4 (some .int) [(0, 9, 12, 24)]) { frames := 7, cells := 1, slots := 6, locals := 121 } G sa (e2 430 (eBC G) (eLng G)) 431 q v [.ref (q 0), .int p1, .ref (q 430)] (qI 1) (pu 0 430 v w) 1 6 := by
  refine xRSH (cc := cL_misses) (maxL := 4) (ret := some .int) (hh := [(0, 9, 12, 24)]) (by decide) rfl (Nat.le_of_ble_eq_true rfl) ?_
  intro p e s m below meth c ls A hC hht hr hlk h hT hl
  have hx := hC.1
  have hb := hC.2.1
  have hl : lv_has ls 4 [(0, .ref (q 0)), (1, .int p1), (2, .ref (q 430))] := hl
  obtain ⟨H, hH⟩ : ∃ H, H = s.heap := ⟨_, rfl⟩
  obtain ⟨locs, hlo⟩ : ∃ x : List Loc, x = [] := ⟨_, rfl⟩
  have h : hg G (e2 430 (eBC G) (eLng G)) 431 q v A s H locs := by rw [hH, hlo]; exact h
  rw [← hlo, ← hH]
  clear hH hlo
  refine lv_aload_n hx hb dL_misses_0 rfl (lv_at hl 2 rfl) ?_
  refine lv_iconst (v := (0 : Int32)) hx hb dL_misses_1 (by decide) ?_
  refine lv_aload_n hx hb dL_misses_2 rfl (lv_at hl 0 rfl) ?_
  refine lv_iload_n hx hb dL_misses_3 rfl (lv_at hl 1 rfl) ?_
  refine xcth h 430 sWL_0 (Nat.le_of_ble_eq_true rfl) (vx_runV (As := [.int p1]) (rest := [.int 0, .ref (q 430)]) hC (c_X8_misses_t l hst G sa q v p1 hf H.size) (xcgV hC wMH_in lk_L_91 in_X8 co_X8_misses im_X8_misses se_X8_misses rfl rfl dd_X8_misses ⟨Nat.le_of_ble_eq_true rfl, Nat.le_of_ble_eq_true rfl⟩) (preVT h hT 430 sWL_0 (Nat.le_of_ble_eq_true rfl) (Nat.le_of_ble_eq_true rfl) eWL_0 rfl [.int p1]) rfl rfl hl.1 rfl (lv_room (Nat.le_of_ble_eq_true rfl)) dL_misses_4 ⟨Nat.le_of_ble_eq_true rfl, Nat.le_of_ble_eq_true rfl⟩) (fun ce q9 H locs h hce hcv hcl => ?_)
  refine vx_catch hC.2.2.2.1 [] ⟨0, 9, 12, 24⟩ [] (hht.trans rfl) (fun z hz => nomatch hz) (by decide) (by decide) (hC.2.2.2.2 _ (wMH_in _ ck_L_24)) (va_Nw.use rfl (hT.2.2.2.1.1 xIOB (by decide))) hce hcv hcl ?_
  refine lv_astore_n (lv' := [(3, .ref q9), (0, .ref (q 0)), (1, .int p1), (2, .ref (q 430))]) hx hb dL_misses_12 rfl hl (by decide) rfl (fun ls hl => ?_)
  refine lv_iconst (v := (1 : Int32)) hx hb dL_misses_13 (by decide) ?_
  exact xiretc hC hr hlk h rfl rfl dL_misses_14
