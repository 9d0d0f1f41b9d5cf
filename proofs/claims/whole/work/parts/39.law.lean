/-! THE LAW'S CASES: each from its first row to the loop's step -/
def xthE (E : String) (m : Option (String × xSt)) : Option xSt := match m with | some (E', w) => if E' = E then some w else none | none => none
theorem xthE_e {E : String} {m : Option (String × xSt)} {w : xSt} (h : xthE E m = some w) : m = some (E, w) := by
  match m, h with
  | some (E', w'), h =>
    simp only [xthE] at h
    by_cases hE : E' = E
    · rw [if_pos hE] at h
      cases h
      rw [hE]
    · rw [if_neg hE] at h
      cases h
theorem xus {Ts : List Cond} (hin : ∀ w ∈ wG, w ∈ Ts) {L : List Cond} (h : ∀ w ∈ L, w ∈ wG) : ∀ w ∈ L, w ∈ Ts := fun w hw => hin w (h w hw)
theorem wG_law : ∀ w ∈ wG, w ∈ lw_tbl := fun _ h => (List.mem_filter.mp h).1
section XK
variable {p : Program} {l : Launch} {e : Env} {R : Room} {s : State} {m : MethodId} {args : Array Value} {below : List Frame} {meth : Method} {c : Code} {H : Heap} {locs : List Loc} {cells slots : Nat} {Q : State → Prop} {pcc : Nat} {ls : Array Slot} {rest : List Value}
theorem lv_nmD {x z : UInt64} (h : z = x) (k : W p l e R s m args below meth c H locs cells slots Q (F0 m pcc ls (.double z :: rest))) : W p l e R s m args below meth c H locs cells slots Q (F0 m pcc ls (.double x :: rest)) := h ▸ k
end XK
def LW (G : xGl) : xLay := e2 431 (e2 430 (eBC G) (eLng G)) (eMod G)
theorem eLW_0 {G : xGl} {q : Nat → Nat} {s : Nat → Int32} : LW G q 0 s = .inr (8, [.ref (q 7), .ref (q 54), .ref (q 101), .int (s 3), .ref (q 1), .int (s 5), .ref (q 2), .int (s 7), .ref (q 3), .ref (q 6)]) := rfl
theorem eLW_430 {G : xGl} {q : Nat → Nat} {s : Nat → Int32} : LW G q 430 s = .inl (G.2 4, 1, .inr (.inl (fun k => (s k).toInt64))) := rfl
theorem eLW_431 {G : xGl} {q : Nat → Nat} {s : Nat → Int32} : LW G q 431 s = .inr (9, [.ref (q (431 + 1)), .ref (q (431 + 2)), .ref (q (431 + 3)), .int (s 3), .ref (q (431 + 4)), .int (s 5), .ref (q (431 + 5)), .int (s 7), .int (s 8), .int (s 9), .int (s 10), .int (s 11), .int (s 12), .int (s 13), .int (s 14), .ref (q (431 + 6)), .ref (q (431 + 7))]) := rfl
theorem sLW_0 {G : xGl} {q : Nat → Nat} : ∀ i, i < 431 → ∀ z, LW G q (0 + i) z = e2 430 (eBC G) (eLng G) (sh 0 q) i z := x2a
theorem sLW_0b {G : xGl} {q : Nat → Nat} : ∀ i, i < 430 → ∀ z, LW G q (0 + i) z = eBC G (sh 0 q) i z := by
  intro i hi z
  have h1 := sLW_0 (G := G) (q := q) i (by omega) z
  have h2 := sWL_0 (G := G) (q := sh 0 q) i hi z
  rw [Nat.zero_add] at h2
  rw [h1, h2]
  simp only [sh_0]
theorem sLW_431 {G : xGl} {q : Nat → Nat} : ∀ i, i < 8 → ∀ z, LW G q (431 + i) z = eMod G (sh 431 q) i z := x2b (n2 := 8)
theorem in_L : Cond.initialized RL ∈ wG := wG_t 0 (by decide +kernel) rfl
theorem co_L_arm : Cond.codeWith yL_arm cL_arm 3 (some .int) [(0, 8, 11, 13)] ∈ wG := wG_t 844 (by decide +kernel) rfl
theorem dd_L_arm : yL_arm.cls ≠ "java/lang/invoke/MethodHandle" ∧ yL_arm.cls ≠ "java/lang/invoke/VarHandle" ∧ (parseMethodDescriptor yL_arm.desc).map (fun d => d.parameters.length) = some 2 := by decide +kernel
theorem st_L_arm : Cond.static yL_arm ∈ wG := wG_t 843 (by decide +kernel) rfl
theorem lk_L_98 : Cond.methodLink RL 98 yL_arm ∈ wG := wG_t 842 (by decide +kernel) rfl
theorem co_X9_arm : Cond.code yX9_arm cX9_arm 2 (some .int) ∈ wG := wG_t 1181 (by decide +kernel) rfl
theorem dd_X9_arm : yX9_arm.cls ≠ "java/lang/invoke/MethodHandle" ∧ yX9_arm.cls ≠ "java/lang/invoke/VarHandle" ∧ (parseMethodDescriptor yX9_arm.desc).map (fun d => d.parameters.length) = some 0 := by decide +kernel
theorem lk_L_103 : Cond.methodLink RL 103 yX9_arm ∈ wG := wG_t 1178 (by decide +kernel) rfl
theorem im_X9_arm : Cond.instanceMethod yX9_arm ∈ wG := wG_t 1179 (by decide +kernel) rfl
theorem se_X9_arm : Cond.selects RX9 yX9_arm yX9_arm ∈ wG := wG_t 1180 (by decide +kernel) rfl
theorem co_X9_thrown : Cond.code yX9_thrown cX9_thrown 1 (some .int) ∈ wG := wG_t 1177 (by decide +kernel) rfl
theorem dd_X9_thrown : yX9_thrown.cls ≠ "java/lang/invoke/MethodHandle" ∧ yX9_thrown.cls ≠ "java/lang/invoke/VarHandle" ∧ (parseMethodDescriptor yX9_thrown.desc).map (fun d => d.parameters.length) = some 0 := by decide +kernel
theorem lk_L_104 : Cond.methodLink RL 104 yX9_thrown ∈ wG := wG_t 1174 (by decide +kernel) rfl
theorem im_X9_thrown : Cond.instanceMethod yX9_thrown ∈ wG := wG_t 1175 (by decide +kernel) rfl
theorem se_X9_thrown : Cond.selects RX9 yX9_thrown yX9_thrown ∈ wG := wG_t 1176 (by decide +kernel) rfl
theorem co_L_load : Cond.codeWith yL_load cL_load 4 (some .int) [(0, 9, 12, 19), (0, 9, 15, 13)] ∈ wG := wG_t 869 (by decide +kernel) rfl
theorem dd_L_load : yL_load.cls ≠ "java/lang/invoke/MethodHandle" ∧ yL_load.cls ≠ "java/lang/invoke/VarHandle" ∧ (parseMethodDescriptor yL_load.desc).map (fun d => d.parameters.length) = some 3 := by decide +kernel
theorem st_L_load : Cond.static yL_load ∈ wG := wG_t 868 (by decide +kernel) rfl
theorem lk_L_107 : Cond.methodLink RL 107 yL_load ∈ wG := wG_t 867 (by decide +kernel) rfl
theorem co_X9_load : Cond.code yX9_load cX9_load 2 (some .int) ∈ wG := wG_t 1204 (by decide +kernel) rfl
theorem dd_X9_load : yX9_load.cls ≠ "java/lang/invoke/MethodHandle" ∧ yX9_load.cls ≠ "java/lang/invoke/VarHandle" ∧ (parseMethodDescriptor yX9_load.desc).map (fun d => d.parameters.length) = some 1 := by decide +kernel
theorem lk_L_110 : Cond.methodLink RL 110 yX9_load ∈ wG := wG_t 1201 (by decide +kernel) rfl
theorem im_X9_load : Cond.instanceMethod yX9_load ∈ wG := wG_t 1202 (by decide +kernel) rfl
theorem se_X9_load : Cond.selects RX9 yX9_load yX9_load ∈ wG := wG_t 1203 (by decide +kernel) rfl
theorem co_X8_unload : Cond.code yX8_unload cX8_unload 2 (some .int) ∈ wG := wG_t 347 (by decide +kernel) rfl
theorem dd_X8_unload : yX8_unload.cls ≠ "java/lang/invoke/MethodHandle" ∧ yX8_unload.cls ≠ "java/lang/invoke/VarHandle" ∧ (parseMethodDescriptor yX8_unload.desc).map (fun d => d.parameters.length) = some 0 := by decide +kernel
theorem lk_L_111 : Cond.methodLink RL 111 yX8_unload ∈ wG := wG_t 344 (by decide +kernel) rfl
theorem im_X8_unload : Cond.instanceMethod yX8_unload ∈ wG := wG_t 345 (by decide +kernel) rfl
theorem se_X8_unload : Cond.selects RX8 yX8_unload yX8_unload ∈ wG := wG_t 346 (by decide +kernel) rfl
theorem co_X9_unload : Cond.code yX9_unload cX9_unload 2 (some .int) ∈ wG := wG_t 1211 (by decide +kernel) rfl
theorem dd_X9_unload : yX9_unload.cls ≠ "java/lang/invoke/MethodHandle" ∧ yX9_unload.cls ≠ "java/lang/invoke/VarHandle" ∧ (parseMethodDescriptor yX9_unload.desc).map (fun d => d.parameters.length) = some 0 := by decide +kernel
theorem lk_L_114 : Cond.methodLink RL 114 yX9_unload ∈ wG := wG_t 1208 (by decide +kernel) rfl
theorem im_X9_unload : Cond.instanceMethod yX9_unload ∈ wG := wG_t 1209 (by decide +kernel) rfl
theorem se_X9_unload : Cond.selects RX9 yX9_unload yX9_unload ∈ wG := wG_t 1210 (by decide +kernel) rfl
theorem co_L_write : Cond.codeWith yL_write cL_write 4 (some .int) [(0, 9, 12, 24), (0, 9, 15, 13)] ∈ wG := wG_t 880 (by decide +kernel) rfl
theorem dd_L_write : yL_write.cls ≠ "java/lang/invoke/MethodHandle" ∧ yL_write.cls ≠ "java/lang/invoke/VarHandle" ∧ (parseMethodDescriptor yL_write.desc).map (fun d => d.parameters.length) = some 3 := by decide +kernel
theorem st_L_write : Cond.static yL_write ∈ wG := wG_t 879 (by decide +kernel) rfl
theorem lk_L_115 : Cond.methodLink RL 115 yL_write ∈ wG := wG_t 878 (by decide +kernel) rfl
theorem co_X9_write : Cond.code yX9_write cX9_write 3 (some .int) ∈ wG := wG_t 1219 (by decide +kernel) rfl
theorem dd_X9_write : yX9_write.cls ≠ "java/lang/invoke/MethodHandle" ∧ yX9_write.cls ≠ "java/lang/invoke/VarHandle" ∧ (parseMethodDescriptor yX9_write.desc).map (fun d => d.parameters.length) = some 1 := by decide +kernel
theorem lk_L_117 : Cond.methodLink RL 117 yX9_write ∈ wG := wG_t 1216 (by decide +kernel) rfl
theorem im_X9_write : Cond.instanceMethod yX9_write ∈ wG := wG_t 1217 (by decide +kernel) rfl
theorem se_X9_write : Cond.selects RX9 yX9_write yX9_write ∈ wG := wG_t 1218 (by decide +kernel) rfl
theorem co_L_erase : Cond.codeWith yL_erase cL_erase 4 (some .int) [(0, 9, 12, 24), (0, 9, 15, 13)] ∈ wG := wG_t 895 (by decide +kernel) rfl
theorem dd_L_erase : yL_erase.cls ≠ "java/lang/invoke/MethodHandle" ∧ yL_erase.cls ≠ "java/lang/invoke/VarHandle" ∧ (parseMethodDescriptor yL_erase.desc).map (fun d => d.parameters.length) = some 3 := by decide +kernel
theorem st_L_erase : Cond.static yL_erase ∈ wG := wG_t 894 (by decide +kernel) rfl
theorem lk_L_118 : Cond.methodLink RL 118 yL_erase ∈ wG := wG_t 893 (by decide +kernel) rfl
theorem co_X9_erase : Cond.code yX9_erase cX9_erase 2 (some .int) ∈ wG := wG_t 1262 (by decide +kernel) rfl
theorem dd_X9_erase : yX9_erase.cls ≠ "java/lang/invoke/MethodHandle" ∧ yX9_erase.cls ≠ "java/lang/invoke/VarHandle" ∧ (parseMethodDescriptor yX9_erase.desc).map (fun d => d.parameters.length) = some 1 := by decide +kernel
theorem lk_L_120 : Cond.methodLink RL 120 yX9_erase ∈ wG := wG_t 1259 (by decide +kernel) rfl
theorem im_X9_erase : Cond.instanceMethod yX9_erase ∈ wG := wG_t 1260 (by decide +kernel) rfl
theorem se_X9_erase : Cond.selects RX9 yX9_erase yX9_erase ∈ wG := wG_t 1261 (by decide +kernel) rfl
theorem co_L_lock : Cond.codeWith yL_lock cL_lock 5 (some .int) [(0, 10, 13, 19), (0, 10, 17, 13)] ∈ wG := wG_t 904 (by decide +kernel) rfl
theorem dd_L_lock : yL_lock.cls ≠ "java/lang/invoke/MethodHandle" ∧ yL_lock.cls ≠ "java/lang/invoke/VarHandle" ∧ (parseMethodDescriptor yL_lock.desc).map (fun d => d.parameters.length) = some 4 := by decide +kernel
theorem st_L_lock : Cond.static yL_lock ∈ wG := wG_t 903 (by decide +kernel) rfl
theorem lk_L_121 : Cond.methodLink RL 121 yL_lock ∈ wG := wG_t 902 (by decide +kernel) rfl
theorem co_X9_lock : Cond.code yX9_lock cX9_lock 3 (some .int) ∈ wG := wG_t 1277 (by decide +kernel) rfl
theorem dd_X9_lock : yX9_lock.cls ≠ "java/lang/invoke/MethodHandle" ∧ yX9_lock.cls ≠ "java/lang/invoke/VarHandle" ∧ (parseMethodDescriptor yX9_lock.desc).map (fun d => d.parameters.length) = some 2 := by decide +kernel
theorem lk_L_124 : Cond.methodLink RL 124 yX9_lock ∈ wG := wG_t 1274 (by decide +kernel) rfl
theorem im_X9_lock : Cond.instanceMethod yX9_lock ∈ wG := wG_t 1275 (by decide +kernel) rfl
theorem se_X9_lock : Cond.selects RX9 yX9_lock yX9_lock ∈ wG := wG_t 1276 (by decide +kernel) rfl
theorem co_L_freeze : Cond.codeWith yL_freeze cL_freeze 3 (some .int) [(0, 8, 11, 13)] ∈ wG := wG_t 913 (by decide +kernel) rfl
theorem dd_L_freeze : yL_freeze.cls ≠ "java/lang/invoke/MethodHandle" ∧ yL_freeze.cls ≠ "java/lang/invoke/VarHandle" ∧ (parseMethodDescriptor yL_freeze.desc).map (fun d => d.parameters.length) = some 2 := by decide +kernel
theorem st_L_freeze : Cond.static yL_freeze ∈ wG := wG_t 912 (by decide +kernel) rfl
theorem lk_L_125 : Cond.methodLink RL 125 yL_freeze ∈ wG := wG_t 911 (by decide +kernel) rfl
theorem co_X9_freeze : Cond.code yX9_freeze cX9_freeze 2 (some .int) ∈ wG := wG_t 1285 (by decide +kernel) rfl
theorem dd_X9_freeze : yX9_freeze.cls ≠ "java/lang/invoke/MethodHandle" ∧ yX9_freeze.cls ≠ "java/lang/invoke/VarHandle" ∧ (parseMethodDescriptor yX9_freeze.desc).map (fun d => d.parameters.length) = some 0 := by decide +kernel
theorem lk_L_127 : Cond.methodLink RL 127 yX9_freeze ∈ wG := wG_t 1282 (by decide +kernel) rfl
theorem im_X9_freeze : Cond.instanceMethod yX9_freeze ∈ wG := wG_t 1283 (by decide +kernel) rfl
theorem se_X9_freeze : Cond.selects RX9 yX9_freeze yX9_freeze ∈ wG := wG_t 1284 (by decide +kernel) rfl
theorem co_L_suspend : Cond.codeWith yL_suspend cL_suspend 3 (some .int) [(0, 8, 11, 13)] ∈ wG := wG_t 920 (by decide +kernel) rfl
theorem dd_L_suspend : yL_suspend.cls ≠ "java/lang/invoke/MethodHandle" ∧ yL_suspend.cls ≠ "java/lang/invoke/VarHandle" ∧ (parseMethodDescriptor yL_suspend.desc).map (fun d => d.parameters.length) = some 2 := by decide +kernel
theorem st_L_suspend : Cond.static yL_suspend ∈ wG := wG_t 919 (by decide +kernel) rfl
theorem lk_L_128 : Cond.methodLink RL 128 yL_suspend ∈ wG := wG_t 918 (by decide +kernel) rfl
theorem co_X9_suspend : Cond.code yX9_suspend cX9_suspend 1 (some .int) ∈ wG := wG_t 1289 (by decide +kernel) rfl
theorem dd_X9_suspend : yX9_suspend.cls ≠ "java/lang/invoke/MethodHandle" ∧ yX9_suspend.cls ≠ "java/lang/invoke/VarHandle" ∧ (parseMethodDescriptor yX9_suspend.desc).map (fun d => d.parameters.length) = some 0 := by decide +kernel
theorem lk_L_130 : Cond.methodLink RL 130 yX9_suspend ∈ wG := wG_t 1286 (by decide +kernel) rfl
theorem im_X9_suspend : Cond.instanceMethod yX9_suspend ∈ wG := wG_t 1287 (by decide +kernel) rfl
theorem se_X9_suspend : Cond.selects RX9 yX9_suspend yX9_suspend ∈ wG := wG_t 1288 (by decide +kernel) rfl
theorem co_L_resume : Cond.codeWith yL_resume cL_resume 3 (some .int) [(0, 8, 11, 13)] ∈ wG := wG_t 929 (by decide +kernel) rfl
theorem dd_L_resume : yL_resume.cls ≠ "java/lang/invoke/MethodHandle" ∧ yL_resume.cls ≠ "java/lang/invoke/VarHandle" ∧ (parseMethodDescriptor yL_resume.desc).map (fun d => d.parameters.length) = some 2 := by decide +kernel
theorem st_L_resume : Cond.static yL_resume ∈ wG := wG_t 928 (by decide +kernel) rfl
theorem lk_L_131 : Cond.methodLink RL 131 yL_resume ∈ wG := wG_t 927 (by decide +kernel) rfl
theorem co_X9_resume : Cond.code yX9_resume cX9_resume 1 (some .int) ∈ wG := wG_t 1297 (by decide +kernel) rfl
theorem dd_X9_resume : yX9_resume.cls ≠ "java/lang/invoke/MethodHandle" ∧ yX9_resume.cls ≠ "java/lang/invoke/VarHandle" ∧ (parseMethodDescriptor yX9_resume.desc).map (fun d => d.parameters.length) = some 0 := by decide +kernel
theorem lk_L_133 : Cond.methodLink RL 133 yX9_resume ∈ wG := wG_t 1294 (by decide +kernel) rfl
theorem im_X9_resume : Cond.instanceMethod yX9_resume ∈ wG := wG_t 1295 (by decide +kernel) rfl
theorem se_X9_resume : Cond.selects RX9 yX9_resume yX9_resume ∈ wG := wG_t 1296 (by decide +kernel) rfl
theorem co_X8_cut : Cond.code yX8_cut cX8_cut 1 (some .int) ∈ wG := wG_t 406 (by decide +kernel) rfl
theorem dd_X8_cut : yX8_cut.cls ≠ "java/lang/invoke/MethodHandle" ∧ yX8_cut.cls ≠ "java/lang/invoke/VarHandle" ∧ (parseMethodDescriptor yX8_cut.desc).map (fun d => d.parameters.length) = some 0 := by decide +kernel
theorem lk_L_134 : Cond.methodLink RL 134 yX8_cut ∈ wG := wG_t 403 (by decide +kernel) rfl
theorem im_X8_cut : Cond.instanceMethod yX8_cut ∈ wG := wG_t 404 (by decide +kernel) rfl
theorem se_X8_cut : Cond.selects RX8 yX8_cut yX8_cut ∈ wG := wG_t 405 (by decide +kernel) rfl
theorem co_X9_cut : Cond.code yX9_cut cX9_cut 2 (some .int) ∈ wG := wG_t 1305 (by decide +kernel) rfl
theorem dd_X9_cut : yX9_cut.cls ≠ "java/lang/invoke/MethodHandle" ∧ yX9_cut.cls ≠ "java/lang/invoke/VarHandle" ∧ (parseMethodDescriptor yX9_cut.desc).map (fun d => d.parameters.length) = some 0 := by decide +kernel
theorem lk_L_137 : Cond.methodLink RL 137 yX9_cut ∈ wG := wG_t 1302 (by decide +kernel) rfl
theorem im_X9_cut : Cond.instanceMethod yX9_cut ∈ wG := wG_t 1303 (by decide +kernel) rfl
theorem se_X9_cut : Cond.selects RX9 yX9_cut yX9_cut ∈ wG := wG_t 1304 (by decide +kernel) rfl
theorem co_L_post : Cond.codeWith yL_post cL_post 6 (some .int) [(0, 12, 15, 19), (0, 12, 19, 24), (0, 12, 23, 13)] ∈ wG := wG_t 938 (by decide +kernel) rfl
theorem dd_L_post : yL_post.cls ≠ "java/lang/invoke/MethodHandle" ∧ yL_post.cls ≠ "java/lang/invoke/VarHandle" ∧ (parseMethodDescriptor yL_post.desc).map (fun d => d.parameters.length) = some 5 := by decide +kernel
theorem st_L_post : Cond.static yL_post ∈ wG := wG_t 937 (by decide +kernel) rfl
theorem lk_L_138 : Cond.methodLink RL 138 yL_post ∈ wG := wG_t 936 (by decide +kernel) rfl
theorem co_X9_post : Cond.code yX9_post cX9_post 6 (some .int) ∈ wG := wG_t 1313 (by decide +kernel) rfl
theorem dd_X9_post : yX9_post.cls ≠ "java/lang/invoke/MethodHandle" ∧ yX9_post.cls ≠ "java/lang/invoke/VarHandle" ∧ (parseMethodDescriptor yX9_post.desc).map (fun d => d.parameters.length) = some 3 := by decide +kernel
theorem lk_L_141 : Cond.methodLink RL 141 yX9_post ∈ wG := wG_t 1310 (by decide +kernel) rfl
theorem im_X9_post : Cond.instanceMethod yX9_post ∈ wG := wG_t 1311 (by decide +kernel) rfl
theorem se_X9_post : Cond.selects RX9 yX9_post yX9_post ∈ wG := wG_t 1312 (by decide +kernel) rfl
theorem co_L_withdraw : Cond.codeWith yL_withdraw cL_withdraw 4 (some .int) [(0, 9, 12, 24)] ∈ wG := wG_t 970 (by decide +kernel) rfl
theorem dd_L_withdraw : yL_withdraw.cls ≠ "java/lang/invoke/MethodHandle" ∧ yL_withdraw.cls ≠ "java/lang/invoke/VarHandle" ∧ (parseMethodDescriptor yL_withdraw.desc).map (fun d => d.parameters.length) = some 3 := by decide +kernel
theorem st_L_withdraw : Cond.static yL_withdraw ∈ wG := wG_t 969 (by decide +kernel) rfl
theorem lk_L_142 : Cond.methodLink RL 142 yL_withdraw ∈ wG := wG_t 968 (by decide +kernel) rfl
theorem co_X9_withdraw : Cond.code yX9_withdraw cX9_withdraw 3 (some .int) ∈ wG := wG_t 1325 (by decide +kernel) rfl
theorem dd_X9_withdraw : yX9_withdraw.cls ≠ "java/lang/invoke/MethodHandle" ∧ yX9_withdraw.cls ≠ "java/lang/invoke/VarHandle" ∧ (parseMethodDescriptor yX9_withdraw.desc).map (fun d => d.parameters.length) = some 1 := by decide +kernel
theorem lk_L_144 : Cond.methodLink RL 144 yX9_withdraw ∈ wG := wG_t 1322 (by decide +kernel) rfl
theorem im_X9_withdraw : Cond.instanceMethod yX9_withdraw ∈ wG := wG_t 1323 (by decide +kernel) rfl
theorem se_X9_withdraw : Cond.selects RX9 yX9_withdraw yX9_withdraw ∈ wG := wG_t 1324 (by decide +kernel) rfl
theorem co_L_pass : Cond.codeWith yL_pass cL_pass 4 (some .int) [(0, 9, 12, 19)] ∈ wG := wG_t 980 (by decide +kernel) rfl
theorem dd_L_pass : yL_pass.cls ≠ "java/lang/invoke/MethodHandle" ∧ yL_pass.cls ≠ "java/lang/invoke/VarHandle" ∧ (parseMethodDescriptor yL_pass.desc).map (fun d => d.parameters.length) = some 3 := by decide +kernel
theorem st_L_pass : Cond.static yL_pass ∈ wG := wG_t 979 (by decide +kernel) rfl
theorem lk_L_145 : Cond.methodLink RL 145 yL_pass ∈ wG := wG_t 978 (by decide +kernel) rfl
theorem co_X9_pass : Cond.code yX9_pass cX9_pass 2 (some .int) ∈ wG := wG_t 1337 (by decide +kernel) rfl
theorem dd_X9_pass : yX9_pass.cls ≠ "java/lang/invoke/MethodHandle" ∧ yX9_pass.cls ≠ "java/lang/invoke/VarHandle" ∧ (parseMethodDescriptor yX9_pass.desc).map (fun d => d.parameters.length) = some 1 := by decide +kernel
theorem lk_L_147 : Cond.methodLink RL 147 yX9_pass ∈ wG := wG_t 1334 (by decide +kernel) rfl
theorem im_X9_pass : Cond.instanceMethod yX9_pass ∈ wG := wG_t 1335 (by decide +kernel) rfl
theorem se_X9_pass : Cond.selects RX9 yX9_pass yX9_pass ∈ wG := wG_t 1336 (by decide +kernel) rfl
theorem co_L_set : Cond.codeWith yL_set cL_set 5 (some .int) [(0, 10, 13, 24), (0, 10, 17, 19)] ∈ wG := wG_t 988 (by decide +kernel) rfl
theorem dd_L_set : yL_set.cls ≠ "java/lang/invoke/MethodHandle" ∧ yL_set.cls ≠ "java/lang/invoke/VarHandle" ∧ (parseMethodDescriptor yL_set.desc).map (fun d => d.parameters.length) = some 4 := by decide +kernel
theorem st_L_set : Cond.static yL_set ∈ wG := wG_t 987 (by decide +kernel) rfl
theorem lk_L_148 : Cond.methodLink RL 148 yL_set ∈ wG := wG_t 986 (by decide +kernel) rfl
theorem co_X9_set : Cond.code yX9_set cX9_set 4 (some .int) ∈ wG := wG_t 1396 (by decide +kernel) rfl
theorem dd_X9_set : yX9_set.cls ≠ "java/lang/invoke/MethodHandle" ∧ yX9_set.cls ≠ "java/lang/invoke/VarHandle" ∧ (parseMethodDescriptor yX9_set.desc).map (fun d => d.parameters.length) = some 2 := by decide +kernel
theorem lk_L_150 : Cond.methodLink RL 150 yX9_set ∈ wG := wG_t 1393 (by decide +kernel) rfl
theorem im_X9_set : Cond.instanceMethod yX9_set ∈ wG := wG_t 1394 (by decide +kernel) rfl
theorem se_X9_set : Cond.selects RX9 yX9_set yX9_set ∈ wG := wG_t 1395 (by decide +kernel) rfl
theorem co_L_append : Cond.codeWith yL_append cL_append 4 (some .int) [(0, 9, 12, 19), (0, 9, 15, 13)] ∈ wG := wG_t 1005 (by decide +kernel) rfl
theorem dd_L_append : yL_append.cls ≠ "java/lang/invoke/MethodHandle" ∧ yL_append.cls ≠ "java/lang/invoke/VarHandle" ∧ (parseMethodDescriptor yL_append.desc).map (fun d => d.parameters.length) = some 3 := by decide +kernel
theorem st_L_append : Cond.static yL_append ∈ wG := wG_t 1004 (by decide +kernel) rfl
theorem lk_L_151 : Cond.methodLink RL 151 yL_append ∈ wG := wG_t 1003 (by decide +kernel) rfl
theorem co_X9_append : Cond.code yX9_append cX9_append 2 (some .int) ∈ wG := wG_t 1403 (by decide +kernel) rfl
theorem dd_X9_append : yX9_append.cls ≠ "java/lang/invoke/MethodHandle" ∧ yX9_append.cls ≠ "java/lang/invoke/VarHandle" ∧ (parseMethodDescriptor yX9_append.desc).map (fun d => d.parameters.length) = some 1 := by decide +kernel
theorem lk_L_153 : Cond.methodLink RL 153 yX9_append ∈ wG := wG_t 1400 (by decide +kernel) rfl
theorem im_X9_append : Cond.instanceMethod yX9_append ∈ wG := wG_t 1401 (by decide +kernel) rfl
theorem se_X9_append : Cond.selects RX9 yX9_append yX9_append ∈ wG := wG_t 1402 (by decide +kernel) rfl
theorem co_X8_clearBuffer : Cond.code yX8_clearBuffer cX8_clearBuffer 2 (some .int) ∈ wG := wG_t 437 (by decide +kernel) rfl
theorem dd_X8_clearBuffer : yX8_clearBuffer.cls ≠ "java/lang/invoke/MethodHandle" ∧ yX8_clearBuffer.cls ≠ "java/lang/invoke/VarHandle" ∧ (parseMethodDescriptor yX8_clearBuffer.desc).map (fun d => d.parameters.length) = some 0 := by decide +kernel
theorem lk_L_154 : Cond.methodLink RL 154 yX8_clearBuffer ∈ wG := wG_t 434 (by decide +kernel) rfl
theorem im_X8_clearBuffer : Cond.instanceMethod yX8_clearBuffer ∈ wG := wG_t 435 (by decide +kernel) rfl
theorem se_X8_clearBuffer : Cond.selects RX8 yX8_clearBuffer yX8_clearBuffer ∈ wG := wG_t 436 (by decide +kernel) rfl
theorem co_X9_clearBuffer : Cond.code yX9_clearBuffer cX9_clearBuffer 2 (some .int) ∈ wG := wG_t 1407 (by decide +kernel) rfl
theorem dd_X9_clearBuffer : yX9_clearBuffer.cls ≠ "java/lang/invoke/MethodHandle" ∧ yX9_clearBuffer.cls ≠ "java/lang/invoke/VarHandle" ∧ (parseMethodDescriptor yX9_clearBuffer.desc).map (fun d => d.parameters.length) = some 0 := by decide +kernel
theorem lk_L_157 : Cond.methodLink RL 157 yX9_clearBuffer ∈ wG := wG_t 1404 (by decide +kernel) rfl
theorem im_X9_clearBuffer : Cond.instanceMethod yX9_clearBuffer ∈ wG := wG_t 1405 (by decide +kernel) rfl
theorem se_X9_clearBuffer : Cond.selects RX9 yX9_clearBuffer yX9_clearBuffer ∈ wG := wG_t 1406 (by decide +kernel) rfl
theorem lk_L_158 : Cond.methodLink RL 158 yX8_firstError ∈ wG := wG_t 438 (by decide +kernel) rfl
theorem co_X9_firstError : Cond.code yX9_firstError cX9_firstError 1 (some .int) ∈ wG := wG_t 1411 (by decide +kernel) rfl
theorem dd_X9_firstError : yX9_firstError.cls ≠ "java/lang/invoke/MethodHandle" ∧ yX9_firstError.cls ≠ "java/lang/invoke/VarHandle" ∧ (parseMethodDescriptor yX9_firstError.desc).map (fun d => d.parameters.length) = some 0 := by decide +kernel
theorem lk_L_161 : Cond.methodLink RL 161 yX9_firstError ∈ wG := wG_t 1408 (by decide +kernel) rfl
theorem im_X9_firstError : Cond.instanceMethod yX9_firstError ∈ wG := wG_t 1409 (by decide +kernel) rfl
theorem se_X9_firstError : Cond.selects RX9 yX9_firstError yX9_firstError ∈ wG := wG_t 1410 (by decide +kernel) rfl
theorem co_L_obey : Cond.codeWith yL_obey cL_obey 3 (some .int) [(0, 8, 11, 19)] ∈ wG := wG_t 1014 (by decide +kernel) rfl
theorem dd_L_obey : yL_obey.cls ≠ "java/lang/invoke/MethodHandle" ∧ yL_obey.cls ≠ "java/lang/invoke/VarHandle" ∧ (parseMethodDescriptor yL_obey.desc).map (fun d => d.parameters.length) = some 2 := by decide +kernel
theorem st_L_obey : Cond.static yL_obey ∈ wG := wG_t 1013 (by decide +kernel) rfl
theorem lk_L_162 : Cond.methodLink RL 162 yL_obey ∈ wG := wG_t 1012 (by decide +kernel) rfl
theorem co_X9_obey : Cond.code yX9_obey cX9_obey 3 (some .int) ∈ wG := wG_t 1446 (by decide +kernel) rfl
theorem dd_X9_obey : yX9_obey.cls ≠ "java/lang/invoke/MethodHandle" ∧ yX9_obey.cls ≠ "java/lang/invoke/VarHandle" ∧ (parseMethodDescriptor yX9_obey.desc).map (fun d => d.parameters.length) = some 0 := by decide +kernel
theorem lk_L_164 : Cond.methodLink RL 164 yX9_obey ∈ wG := wG_t 1443 (by decide +kernel) rfl
theorem im_X9_obey : Cond.instanceMethod yX9_obey ∈ wG := wG_t 1444 (by decide +kernel) rfl
theorem se_X9_obey : Cond.selects RX9 yX9_obey yX9_obey ∈ wG := wG_t 1445 (by decide +kernel) rfl
theorem co_X8_keep : Cond.code yX8_keep cX8_keep 1 (some .int) ∈ wG := wG_t 500 (by decide +kernel) rfl
theorem dd_X8_keep : yX8_keep.cls ≠ "java/lang/invoke/MethodHandle" ∧ yX8_keep.cls ≠ "java/lang/invoke/VarHandle" ∧ (parseMethodDescriptor yX8_keep.desc).map (fun d => d.parameters.length) = some 0 := by decide +kernel
theorem lk_L_165 : Cond.methodLink RL 165 yX8_keep ∈ wG := wG_t 497 (by decide +kernel) rfl
theorem im_X8_keep : Cond.instanceMethod yX8_keep ∈ wG := wG_t 498 (by decide +kernel) rfl
theorem se_X8_keep : Cond.selects RX8 yX8_keep yX8_keep ∈ wG := wG_t 499 (by decide +kernel) rfl
theorem co_X9_keep : Cond.code yX9_keep cX9_keep 1 (some .int) ∈ wG := wG_t 1454 (by decide +kernel) rfl
theorem dd_X9_keep : yX9_keep.cls ≠ "java/lang/invoke/MethodHandle" ∧ yX9_keep.cls ≠ "java/lang/invoke/VarHandle" ∧ (parseMethodDescriptor yX9_keep.desc).map (fun d => d.parameters.length) = some 0 := by decide +kernel
theorem lk_L_168 : Cond.methodLink RL 168 yX9_keep ∈ wG := wG_t 1451 (by decide +kernel) rfl
theorem im_X9_keep : Cond.instanceMethod yX9_keep ∈ wG := wG_t 1452 (by decide +kernel) rfl
theorem se_X9_keep : Cond.selects RX9 yX9_keep yX9_keep ∈ wG := wG_t 1453 (by decide +kernel) rfl
theorem co_L_goBack : Cond.codeWith yL_goBack cL_goBack 3 (some .int) [(0, 8, 11, 13)] ∈ wG := wG_t 1031 (by decide +kernel) rfl
theorem dd_L_goBack : yL_goBack.cls ≠ "java/lang/invoke/MethodHandle" ∧ yL_goBack.cls ≠ "java/lang/invoke/VarHandle" ∧ (parseMethodDescriptor yL_goBack.desc).map (fun d => d.parameters.length) = some 2 := by decide +kernel
theorem st_L_goBack : Cond.static yL_goBack ∈ wG := wG_t 1030 (by decide +kernel) rfl
theorem lk_L_169 : Cond.methodLink RL 169 yL_goBack ∈ wG := wG_t 1029 (by decide +kernel) rfl
theorem co_X9_goBack : Cond.code yX9_goBack cX9_goBack 1 (some .int) ∈ wG := wG_t 1458 (by decide +kernel) rfl
theorem dd_X9_goBack : yX9_goBack.cls ≠ "java/lang/invoke/MethodHandle" ∧ yX9_goBack.cls ≠ "java/lang/invoke/VarHandle" ∧ (parseMethodDescriptor yX9_goBack.desc).map (fun d => d.parameters.length) = some 0 := by decide +kernel
theorem lk_L_171 : Cond.methodLink RL 171 yX9_goBack ∈ wG := wG_t 1455 (by decide +kernel) rfl
theorem im_X9_goBack : Cond.instanceMethod yX9_goBack ∈ wG := wG_t 1456 (by decide +kernel) rfl
theorem se_X9_goBack : Cond.selects RX9 yX9_goBack yX9_goBack ∈ wG := wG_t 1457 (by decide +kernel) rfl
theorem co_L_undo : Cond.codeWith yL_undo cL_undo 3 (some .int) [(0, 8, 11, 13)] ∈ wG := wG_t 1039 (by decide +kernel) rfl
theorem dd_L_undo : yL_undo.cls ≠ "java/lang/invoke/MethodHandle" ∧ yL_undo.cls ≠ "java/lang/invoke/VarHandle" ∧ (parseMethodDescriptor yL_undo.desc).map (fun d => d.parameters.length) = some 2 := by decide +kernel
theorem st_L_undo : Cond.static yL_undo ∈ wG := wG_t 1038 (by decide +kernel) rfl
theorem lk_L_172 : Cond.methodLink RL 172 yL_undo ∈ wG := wG_t 1037 (by decide +kernel) rfl
theorem co_X9_undo : Cond.code yX9_undo cX9_undo 1 (some .int) ∈ wG := wG_t 1462 (by decide +kernel) rfl
theorem dd_X9_undo : yX9_undo.cls ≠ "java/lang/invoke/MethodHandle" ∧ yX9_undo.cls ≠ "java/lang/invoke/VarHandle" ∧ (parseMethodDescriptor yX9_undo.desc).map (fun d => d.parameters.length) = some 0 := by decide +kernel
theorem lk_L_174 : Cond.methodLink RL 174 yX9_undo ∈ wG := wG_t 1459 (by decide +kernel) rfl
theorem im_X9_undo : Cond.instanceMethod yX9_undo ∈ wG := wG_t 1460 (by decide +kernel) rfl
theorem se_X9_undo : Cond.selects RX9 yX9_undo yX9_undo ∈ wG := wG_t 1461 (by decide +kernel) rfl
theorem co_L_read : Cond.codeWith yL_read cL_read 4 (some .int) [(0, 9, 12, 24), (0, 9, 15, 13)] ∈ wG := wG_t 1051 (by decide +kernel) rfl
theorem dd_L_read : yL_read.cls ≠ "java/lang/invoke/MethodHandle" ∧ yL_read.cls ≠ "java/lang/invoke/VarHandle" ∧ (parseMethodDescriptor yL_read.desc).map (fun d => d.parameters.length) = some 3 := by decide +kernel
theorem st_L_read : Cond.static yL_read ∈ wG := wG_t 1050 (by decide +kernel) rfl
theorem lk_L_175 : Cond.methodLink RL 175 yL_read ∈ wG := wG_t 1049 (by decide +kernel) rfl
theorem co_X9_read : Cond.code yX9_read cX9_read 2 (some .int) ∈ wG := wG_t 1466 (by decide +kernel) rfl
theorem dd_X9_read : yX9_read.cls ≠ "java/lang/invoke/MethodHandle" ∧ yX9_read.cls ≠ "java/lang/invoke/VarHandle" ∧ (parseMethodDescriptor yX9_read.desc).map (fun d => d.parameters.length) = some 1 := by decide +kernel
theorem lk_L_177 : Cond.methodLink RL 177 yX9_read ∈ wG := wG_t 1463 (by decide +kernel) rfl
theorem im_X9_read : Cond.instanceMethod yX9_read ∈ wG := wG_t 1464 (by decide +kernel) rfl
theorem se_X9_read : Cond.selects RX9 yX9_read yX9_read ∈ wG := wG_t 1465 (by decide +kernel) rfl
theorem co_L_cell : Cond.codeWith yL_cell cL_cell 5 (some .int) [(0, 10, 13, 24), (0, 10, 17, 19)] ∈ wG := wG_t 1063 (by decide +kernel) rfl
theorem dd_L_cell : yL_cell.cls ≠ "java/lang/invoke/MethodHandle" ∧ yL_cell.cls ≠ "java/lang/invoke/VarHandle" ∧ (parseMethodDescriptor yL_cell.desc).map (fun d => d.parameters.length) = some 4 := by decide +kernel
theorem st_L_cell : Cond.static yL_cell ∈ wG := wG_t 1062 (by decide +kernel) rfl
theorem lk_L_178 : Cond.methodLink RL 178 yL_cell ∈ wG := wG_t 1061 (by decide +kernel) rfl
theorem co_X9_cell : Cond.code yX9_cell cX9_cell 3 (some .int) ∈ wG := wG_t 1474 (by decide +kernel) rfl
theorem dd_X9_cell : yX9_cell.cls ≠ "java/lang/invoke/MethodHandle" ∧ yX9_cell.cls ≠ "java/lang/invoke/VarHandle" ∧ (parseMethodDescriptor yX9_cell.desc).map (fun d => d.parameters.length) = some 2 := by decide +kernel
theorem lk_L_180 : Cond.methodLink RL 180 yX9_cell ∈ wG := wG_t 1471 (by decide +kernel) rfl
theorem im_X9_cell : Cond.instanceMethod yX9_cell ∈ wG := wG_t 1472 (by decide +kernel) rfl
theorem se_X9_cell : Cond.selects RX9 yX9_cell yX9_cell ∈ wG := wG_t 1473 (by decide +kernel) rfl
theorem co_L_sector : Cond.codeWith yL_sector cL_sector 5 (some .int) [(0, 10, 13, 24), (0, 10, 17, 19)] ∈ wG := wG_t 1076 (by decide +kernel) rfl
theorem dd_L_sector : yL_sector.cls ≠ "java/lang/invoke/MethodHandle" ∧ yL_sector.cls ≠ "java/lang/invoke/VarHandle" ∧ (parseMethodDescriptor yL_sector.desc).map (fun d => d.parameters.length) = some 4 := by decide +kernel
theorem st_L_sector : Cond.static yL_sector ∈ wG := wG_t 1075 (by decide +kernel) rfl
theorem lk_L_181 : Cond.methodLink RL 181 yL_sector ∈ wG := wG_t 1074 (by decide +kernel) rfl
theorem co_X9_sector : Cond.code yX9_sector cX9_sector 3 (some .int) ∈ wG := wG_t 1486 (by decide +kernel) rfl
theorem dd_X9_sector : yX9_sector.cls ≠ "java/lang/invoke/MethodHandle" ∧ yX9_sector.cls ≠ "java/lang/invoke/VarHandle" ∧ (parseMethodDescriptor yX9_sector.desc).map (fun d => d.parameters.length) = some 2 := by decide +kernel
theorem lk_L_183 : Cond.methodLink RL 183 yX9_sector ∈ wG := wG_t 1483 (by decide +kernel) rfl
theorem im_X9_sector : Cond.instanceMethod yX9_sector ∈ wG := wG_t 1484 (by decide +kernel) rfl
theorem se_X9_sector : Cond.selects RX9 yX9_sector yX9_sector ∈ wG := wG_t 1485 (by decide +kernel) rfl
theorem co_L_work : Cond.codeWith yL_work cL_work 5 (some .int) [(0, 10, 13, 19)] ∈ wG := wG_t 1080 (by decide +kernel) rfl
theorem dd_L_work : yL_work.cls ≠ "java/lang/invoke/MethodHandle" ∧ yL_work.cls ≠ "java/lang/invoke/VarHandle" ∧ (parseMethodDescriptor yL_work.desc).map (fun d => d.parameters.length) = some 4 := by decide +kernel
theorem st_L_work : Cond.static yL_work ∈ wG := wG_t 1079 (by decide +kernel) rfl
theorem lk_L_184 : Cond.methodLink RL 184 yL_work ∈ wG := wG_t 1078 (by decide +kernel) rfl
theorem co_X9_work : Cond.code yX9_work cX9_work 3 (some .int) ∈ wG := wG_t 1510 (by decide +kernel) rfl
theorem dd_X9_work : yX9_work.cls ≠ "java/lang/invoke/MethodHandle" ∧ yX9_work.cls ≠ "java/lang/invoke/VarHandle" ∧ (parseMethodDescriptor yX9_work.desc).map (fun d => d.parameters.length) = some 2 := by decide +kernel
theorem lk_L_186 : Cond.methodLink RL 186 yX9_work ∈ wG := wG_t 1507 (by decide +kernel) rfl
theorem im_X9_work : Cond.instanceMethod yX9_work ∈ wG := wG_t 1508 (by decide +kernel) rfl
theorem se_X9_work : Cond.selects RX9 yX9_work yX9_work ∈ wG := wG_t 1509 (by decide +kernel) rfl
theorem co_L_order : Cond.codeWith yL_order cL_order 5 (some .int) [(0, 10, 13, 24), (0, 10, 17, 19)] ∈ wG := wG_t 1084 (by decide +kernel) rfl
theorem dd_L_order : yL_order.cls ≠ "java/lang/invoke/MethodHandle" ∧ yL_order.cls ≠ "java/lang/invoke/VarHandle" ∧ (parseMethodDescriptor yL_order.desc).map (fun d => d.parameters.length) = some 4 := by decide +kernel
theorem st_L_order : Cond.static yL_order ∈ wG := wG_t 1083 (by decide +kernel) rfl
theorem lk_L_187 : Cond.methodLink RL 187 yL_order ∈ wG := wG_t 1082 (by decide +kernel) rfl
theorem co_X9_order : Cond.code yX9_order cX9_order 3 (some .int) ∈ wG := wG_t 1518 (by decide +kernel) rfl
theorem dd_X9_order : yX9_order.cls ≠ "java/lang/invoke/MethodHandle" ∧ yX9_order.cls ≠ "java/lang/invoke/VarHandle" ∧ (parseMethodDescriptor yX9_order.desc).map (fun d => d.parameters.length) = some 2 := by decide +kernel
theorem lk_L_189 : Cond.methodLink RL 189 yX9_order ∈ wG := wG_t 1515 (by decide +kernel) rfl
theorem im_X9_order : Cond.instanceMethod yX9_order ∈ wG := wG_t 1516 (by decide +kernel) rfl
theorem se_X9_order : Cond.selects RX9 yX9_order yX9_order ∈ wG := wG_t 1517 (by decide +kernel) rfl
theorem co_L_count : Cond.codeWith yL_count cL_count 4 (some .int) [(0, 9, 12, 19)] ∈ wG := wG_t 1088 (by decide +kernel) rfl
theorem dd_L_count : yL_count.cls ≠ "java/lang/invoke/MethodHandle" ∧ yL_count.cls ≠ "java/lang/invoke/VarHandle" ∧ (parseMethodDescriptor yL_count.desc).map (fun d => d.parameters.length) = some 3 := by decide +kernel
theorem st_L_count : Cond.static yL_count ∈ wG := wG_t 1087 (by decide +kernel) rfl
theorem lk_L_190 : Cond.methodLink RL 190 yL_count ∈ wG := wG_t 1086 (by decide +kernel) rfl
theorem co_X9_count : Cond.code yX9_count cX9_count 2 (some .int) ∈ wG := wG_t 1526 (by decide +kernel) rfl
theorem dd_X9_count : yX9_count.cls ≠ "java/lang/invoke/MethodHandle" ∧ yX9_count.cls ≠ "java/lang/invoke/VarHandle" ∧ (parseMethodDescriptor yX9_count.desc).map (fun d => d.parameters.length) = some 1 := by decide +kernel
theorem lk_L_192 : Cond.methodLink RL 192 yX9_count ∈ wG := wG_t 1523 (by decide +kernel) rfl
theorem im_X9_count : Cond.instanceMethod yX9_count ∈ wG := wG_t 1524 (by decide +kernel) rfl
theorem se_X9_count : Cond.selects RX9 yX9_count yX9_count ∈ wG := wG_t 1525 (by decide +kernel) rfl
theorem co_L_setting : Cond.codeWith yL_setting cL_setting 4 (some .int) [(0, 9, 12, 24)] ∈ wG := wG_t 1092 (by decide +kernel) rfl
theorem dd_L_setting : yL_setting.cls ≠ "java/lang/invoke/MethodHandle" ∧ yL_setting.cls ≠ "java/lang/invoke/VarHandle" ∧ (parseMethodDescriptor yL_setting.desc).map (fun d => d.parameters.length) = some 3 := by decide +kernel
theorem st_L_setting : Cond.static yL_setting ∈ wG := wG_t 1091 (by decide +kernel) rfl
theorem lk_L_193 : Cond.methodLink RL 193 yL_setting ∈ wG := wG_t 1090 (by decide +kernel) rfl
theorem co_X9_setting : Cond.code yX9_setting cX9_setting 2 (some .int) ∈ wG := wG_t 1542 (by decide +kernel) rfl
theorem dd_X9_setting : yX9_setting.cls ≠ "java/lang/invoke/MethodHandle" ∧ yX9_setting.cls ≠ "java/lang/invoke/VarHandle" ∧ (parseMethodDescriptor yX9_setting.desc).map (fun d => d.parameters.length) = some 1 := by decide +kernel
theorem lk_L_195 : Cond.methodLink RL 195 yX9_setting ∈ wG := wG_t 1539 (by decide +kernel) rfl
theorem im_X9_setting : Cond.instanceMethod yX9_setting ∈ wG := wG_t 1540 (by decide +kernel) rfl
theorem se_X9_setting : Cond.selects RX9 yX9_setting yX9_setting ∈ wG := wG_t 1541 (by decide +kernel) rfl
theorem co_L_why : Cond.codeWith yL_why cL_why 5 (some .int) [(0, 10, 13, 19), (0, 10, 17, 24)] ∈ wG := wG_t 1099 (by decide +kernel) rfl
theorem dd_L_why : yL_why.cls ≠ "java/lang/invoke/MethodHandle" ∧ yL_why.cls ≠ "java/lang/invoke/VarHandle" ∧ (parseMethodDescriptor yL_why.desc).map (fun d => d.parameters.length) = some 4 := by decide +kernel
theorem st_L_why : Cond.static yL_why ∈ wG := wG_t 1098 (by decide +kernel) rfl
theorem lk_L_196 : Cond.methodLink RL 196 yL_why ∈ wG := wG_t 1097 (by decide +kernel) rfl
theorem co_X9_why : Cond.code yX9_why cX9_why 3 (some .int) ∈ wG := wG_t 1546 (by decide +kernel) rfl
theorem dd_X9_why : yX9_why.cls ≠ "java/lang/invoke/MethodHandle" ∧ yX9_why.cls ≠ "java/lang/invoke/VarHandle" ∧ (parseMethodDescriptor yX9_why.desc).map (fun d => d.parameters.length) = some 2 := by decide +kernel
theorem lk_L_198 : Cond.methodLink RL 198 yX9_why ∈ wG := wG_t 1543 (by decide +kernel) rfl
theorem im_X9_why : Cond.instanceMethod yX9_why ∈ wG := wG_t 1544 (by decide +kernel) rfl
theorem se_X9_why : Cond.selects RX9 yX9_why yX9_why ∈ wG := wG_t 1545 (by decide +kernel) rfl
theorem co_L_misses : Cond.codeWith yL_misses cL_misses 4 (some .int) [(0, 9, 12, 24)] ∈ wG := wG_t 1111 (by decide +kernel) rfl
theorem dd_L_misses : yL_misses.cls ≠ "java/lang/invoke/MethodHandle" ∧ yL_misses.cls ≠ "java/lang/invoke/VarHandle" ∧ (parseMethodDescriptor yL_misses.desc).map (fun d => d.parameters.length) = some 3 := by decide +kernel
theorem st_L_misses : Cond.static yL_misses ∈ wG := wG_t 1110 (by decide +kernel) rfl
theorem lk_L_199 : Cond.methodLink RL 199 yL_misses ∈ wG := wG_t 1109 (by decide +kernel) rfl
theorem co_X9_misses : Cond.code yX9_misses cX9_misses 2 (some .int) ∈ wG := wG_t 1550 (by decide +kernel) rfl
theorem dd_X9_misses : yX9_misses.cls ≠ "java/lang/invoke/MethodHandle" ∧ yX9_misses.cls ≠ "java/lang/invoke/VarHandle" ∧ (parseMethodDescriptor yX9_misses.desc).map (fun d => d.parameters.length) = some 1 := by decide +kernel
theorem lk_L_201 : Cond.methodLink RL 201 yX9_misses ∈ wG := wG_t 1547 (by decide +kernel) rfl
theorem im_X9_misses : Cond.instanceMethod yX9_misses ∈ wG := wG_t 1548 (by decide +kernel) rfl
theorem se_X9_misses : Cond.selects RX9 yX9_misses yX9_misses ∈ wG := wG_t 1549 (by decide +kernel) rfl
theorem lk_L_202 : Cond.methodLink RL 202 yX8_fits ∈ wG := wG_t 501 (by decide +kernel) rfl
theorem co_X9_fits : Cond.code yX9_fits cX9_fits 1 (some .int) ∈ wG := wG_t 1558 (by decide +kernel) rfl
theorem dd_X9_fits : yX9_fits.cls ≠ "java/lang/invoke/MethodHandle" ∧ yX9_fits.cls ≠ "java/lang/invoke/VarHandle" ∧ (parseMethodDescriptor yX9_fits.desc).map (fun d => d.parameters.length) = some 0 := by decide +kernel
theorem lk_L_205 : Cond.methodLink RL 205 yX9_fits ∈ wG := wG_t 1555 (by decide +kernel) rfl
theorem im_X9_fits : Cond.instanceMethod yX9_fits ∈ wG := wG_t 1556 (by decide +kernel) rfl
theorem se_X9_fits : Cond.selects RX9 yX9_fits yX9_fits ∈ wG := wG_t 1557 (by decide +kernel) rfl
theorem lk_L_206 : Cond.methodLink RL 206 yX8_freeIn ∈ wG := wG_t 528 (by decide +kernel) rfl
theorem co_X9_freeIn : Cond.code yX9_freeIn cX9_freeIn 1 (some .int) ∈ wG := wG_t 1566 (by decide +kernel) rfl
theorem dd_X9_freeIn : yX9_freeIn.cls ≠ "java/lang/invoke/MethodHandle" ∧ yX9_freeIn.cls ≠ "java/lang/invoke/VarHandle" ∧ (parseMethodDescriptor yX9_freeIn.desc).map (fun d => d.parameters.length) = some 0 := by decide +kernel
theorem lk_L_209 : Cond.methodLink RL 209 yX9_freeIn ∈ wG := wG_t 1563 (by decide +kernel) rfl
theorem im_X9_freeIn : Cond.instanceMethod yX9_freeIn ∈ wG := wG_t 1564 (by decide +kernel) rfl
theorem se_X9_freeIn : Cond.selects RX9 yX9_freeIn yX9_freeIn ∈ wG := wG_t 1565 (by decide +kernel) rfl
theorem lk_L_210 : Cond.methodLink RL 210 yX8_leastWorn ∈ wG := wG_t 630 (by decide +kernel) rfl
theorem co_X9_leastWorn : Cond.code yX9_leastWorn cX9_leastWorn 1 (some .int) ∈ wG := wG_t 1578 (by decide +kernel) rfl
theorem dd_X9_leastWorn : yX9_leastWorn.cls ≠ "java/lang/invoke/MethodHandle" ∧ yX9_leastWorn.cls ≠ "java/lang/invoke/VarHandle" ∧ (parseMethodDescriptor yX9_leastWorn.desc).map (fun d => d.parameters.length) = some 0 := by decide +kernel
theorem lk_L_213 : Cond.methodLink RL 213 yX9_leastWorn ∈ wG := wG_t 1575 (by decide +kernel) rfl
theorem im_X9_leastWorn : Cond.instanceMethod yX9_leastWorn ∈ wG := wG_t 1576 (by decide +kernel) rfl
theorem se_X9_leastWorn : Cond.selects RX9 yX9_leastWorn yX9_leastWorn ∈ wG := wG_t 1577 (by decide +kernel) rfl
theorem lk_L_214 : Cond.methodLink RL 214 yX8_commonest ∈ wG := wG_t 635 (by decide +kernel) rfl
theorem co_X9_commonest : Cond.code yX9_commonest cX9_commonest 1 (some .int) ∈ wG := wG_t 1586 (by decide +kernel) rfl
theorem dd_X9_commonest : yX9_commonest.cls ≠ "java/lang/invoke/MethodHandle" ∧ yX9_commonest.cls ≠ "java/lang/invoke/VarHandle" ∧ (parseMethodDescriptor yX9_commonest.desc).map (fun d => d.parameters.length) = some 0 := by decide +kernel
theorem lk_L_217 : Cond.methodLink RL 217 yX9_commonest ∈ wG := wG_t 1583 (by decide +kernel) rfl
theorem im_X9_commonest : Cond.instanceMethod yX9_commonest ∈ wG := wG_t 1584 (by decide +kernel) rfl
theorem se_X9_commonest : Cond.selects RX9 yX9_commonest yX9_commonest ∈ wG := wG_t 1585 (by decide +kernel) rfl
theorem co_X8_onesShare : Cond.code yX8_onesShare cX8_onesShare 1 (some .double) ∈ wG := wG_t 644 (by decide +kernel) rfl
theorem dd_X8_onesShare : yX8_onesShare.cls ≠ "java/lang/invoke/MethodHandle" ∧ yX8_onesShare.cls ≠ "java/lang/invoke/VarHandle" ∧ (parseMethodDescriptor yX8_onesShare.desc).map (fun d => d.parameters.length) = some 0 := by decide +kernel
theorem lk_L_218 : Cond.methodLink RL 218 yX8_onesShare ∈ wG := wG_t 641 (by decide +kernel) rfl
theorem im_X8_onesShare : Cond.instanceMethod yX8_onesShare ∈ wG := wG_t 642 (by decide +kernel) rfl
theorem se_X8_onesShare : Cond.selects RX8 yX8_onesShare yX8_onesShare ∈ wG := wG_t 643 (by decide +kernel) rfl
theorem co_X9_onesShare : Cond.code yX9_onesShare cX9_onesShare 1 (some .double) ∈ wG := wG_t 1594 (by decide +kernel) rfl
theorem dd_X9_onesShare : yX9_onesShare.cls ≠ "java/lang/invoke/MethodHandle" ∧ yX9_onesShare.cls ≠ "java/lang/invoke/VarHandle" ∧ (parseMethodDescriptor yX9_onesShare.desc).map (fun d => d.parameters.length) = some 0 := by decide +kernel
theorem lk_L_222 : Cond.methodLink RL 222 yX9_onesShare ∈ wG := wG_t 1591 (by decide +kernel) rfl
theorem im_X9_onesShare : Cond.instanceMethod yX9_onesShare ∈ wG := wG_t 1592 (by decide +kernel) rfl
theorem se_X9_onesShare : Cond.selects RX9 yX9_onesShare yX9_onesShare ∈ wG := wG_t 1593 (by decide +kernel) rfl
theorem co_X8_meanWear : Cond.code yX8_meanWear cX8_meanWear 1 (some .float) ∈ wG := wG_t 653 (by decide +kernel) rfl
theorem dd_X8_meanWear : yX8_meanWear.cls ≠ "java/lang/invoke/MethodHandle" ∧ yX8_meanWear.cls ≠ "java/lang/invoke/VarHandle" ∧ (parseMethodDescriptor yX8_meanWear.desc).map (fun d => d.parameters.length) = some 0 := by decide +kernel
theorem lk_L_223 : Cond.methodLink RL 223 yX8_meanWear ∈ wG := wG_t 650 (by decide +kernel) rfl
theorem im_X8_meanWear : Cond.instanceMethod yX8_meanWear ∈ wG := wG_t 651 (by decide +kernel) rfl
theorem se_X8_meanWear : Cond.selects RX8 yX8_meanWear yX8_meanWear ∈ wG := wG_t 652 (by decide +kernel) rfl
theorem co_X9_meanWear : Cond.code yX9_meanWear cX9_meanWear 1 (some .float) ∈ wG := wG_t 1603 (by decide +kernel) rfl
theorem dd_X9_meanWear : yX9_meanWear.cls ≠ "java/lang/invoke/MethodHandle" ∧ yX9_meanWear.cls ≠ "java/lang/invoke/VarHandle" ∧ (parseMethodDescriptor yX9_meanWear.desc).map (fun d => d.parameters.length) = some 0 := by decide +kernel
theorem lk_L_227 : Cond.methodLink RL 227 yX9_meanWear ∈ wG := wG_t 1600 (by decide +kernel) rfl
theorem im_X9_meanWear : Cond.instanceMethod yX9_meanWear ∈ wG := wG_t 1601 (by decide +kernel) rfl
theorem se_X9_meanWear : Cond.selects RX9 yX9_meanWear yX9_meanWear ∈ wG := wG_t 1602 (by decide +kernel) rfl
theorem co_X8_digest : Cond.code yX8_digest cX8_digest 3 (some .long) ∈ wG := wG_t 662 (by decide +kernel) rfl
theorem dd_X8_digest : yX8_digest.cls ≠ "java/lang/invoke/MethodHandle" ∧ yX8_digest.cls ≠ "java/lang/invoke/VarHandle" ∧ (parseMethodDescriptor yX8_digest.desc).map (fun d => d.parameters.length) = some 0 := by decide +kernel
theorem lk_L_228 : Cond.methodLink RL 228 yX8_digest ∈ wG := wG_t 659 (by decide +kernel) rfl
theorem im_X8_digest : Cond.instanceMethod yX8_digest ∈ wG := wG_t 660 (by decide +kernel) rfl
theorem se_X8_digest : Cond.selects RX8 yX8_digest yX8_digest ∈ wG := wG_t 661 (by decide +kernel) rfl
theorem co_X9_digest : Cond.code yX9_digest cX9_digest 4 (some .long) ∈ wG := wG_t 1612 (by decide +kernel) rfl
theorem dd_X9_digest : yX9_digest.cls ≠ "java/lang/invoke/MethodHandle" ∧ yX9_digest.cls ≠ "java/lang/invoke/VarHandle" ∧ (parseMethodDescriptor yX9_digest.desc).map (fun d => d.parameters.length) = some 0 := by decide +kernel
theorem lk_L_232 : Cond.methodLink RL 232 yX9_digest ∈ wG := wG_t 1609 (by decide +kernel) rfl
theorem im_X9_digest : Cond.instanceMethod yX9_digest ∈ wG := wG_t 1610 (by decide +kernel) rfl
theorem se_X9_digest : Cond.selects RX9 yX9_digest yX9_digest ∈ wG := wG_t 1611 (by decide +kernel) rfl
def m_law_0 (v : xSt) (xs : Nat → Int32) (L : Nat) (i : Int32) : Option xSt := ob (m_L_arm v ) (fun r1 => lt (pu 0 431 v r1.2) (fun v3 => ob (m_X9_arm (sh 431 v3)) (fun r5 => lt (pu 431 8 v3 r5.2) (fun v6 => ob (m_X9_thrown (sh 431 v6)) (fun r8 => (if r8 = r1.1 then (if r1.1 = 0 then (if (lg_cmp ((v6 430 0).toInt64) ((r5.1).toInt64)) = 0 then some v6 else none) else some v6) else none))))))
set_option maxHeartbeats 4000000 in
set_option maxRecDepth 100000 in
theorem k_law_0 {p : Program} {l : Launch} {e : Env} {R : Room} {s : State} {m : MethodId} {args : Array Value} {below : List Frame} {meth : Method} {c : Code} {H : Heap} {locs : List Loc} {cells slots : Nat} {Q : State → Prop} {G : xGl} {sa q : Nat → Nat} {v : xSt} {A : Nat → Prop} {ls : Array Slot} {b L : Nat} {xs : Nat → Int32} {i : Int32} (hst : l.stackTraces = false) (hC : CallFix p m c cL_law 9 s args lw_tbl RL) (hin : ∀ w ∈ wG, w ∈ lw_tbl) (hT : xT G sa A s s.heap) (hX : va_X b L xs s s.heap) (hbl : b < s.heap.size) (hbA : ¬ A b) (hcs : cells + 1 ≤ room_1.cells ∧ slots + 6 ≤ room_1.slots) (h : hg G (LW G) 439 q v A s H locs) (hl : lv_has ls 9 [(0, .ref b), (1, .ref (q 0)), (2, .ref (q 431)), (3, .ref (q 430)), (4, .int i)]) {z : xSt} (hf : m_law_0 v xs L i = some z) (kk : ∀ (H : Heap) (locs : List Loc) (ls : Array Slot), hg G (LW G) 439 q z A s H locs → lv_has ls 9 [(0, .ref b), (1, .ref (q 0)), (2, .ref (q 431)), (3, .ref (q 430)), (4, .int i)] → W p l e room_1 s m args below meth c H locs (cells + 1) (slots + 6) Q (F0 m 1839 ls [])) : W p l e room_1 s m args below meth c H locs cells slots Q (F0 m 200 ls []) := by
  have hx := hC.1
  have hb := hC.2.1
  have hc0 : cells ≤ room_1.cells ∧ slots ≤ room_1.slots := ⟨Nat.le_of_succ_le hcs.1, Nat.le_trans (Nat.le_add_right _ _) hcs.2⟩
  unfold m_law_0 at hf
  refine lv_aload_n hx hb dL_law_200 rfl (lv_at hl 1 rfl) ?_
  refine lv_aload_n hx hb dL_law_201 rfl (lv_at hl 3 rfl) ?_
  obtain ⟨r1, hy2, hf⟩ := ob_e hf
  refine xipc h 431 sLW_0 (Nat.le_of_ble_eq_true rfl) (vx_runSW (As := [.ref (q 0), .ref (q 430)]) (rest := []) hC (c_L_arm l G sa q v  hy2 H.size) (xcgSW hC hin lk_L_98 in_L co_L_arm st_L_arm rfl rfl dd_L_arm ⟨Nat.le_of_ble_eq_true rfl, Nat.le_of_ble_eq_true rfl⟩) (preSP h hT 431 sLW_0 (Nat.le_of_ble_eq_true rfl) [.ref (q 0), .ref (q 430)]) rfl rfl hl.1 rfl (lv_room (Nat.le_of_ble_eq_true rfl)) dL_law_202 ⟨Nat.le_of_succ_le hcs.1, Nat.le_trans (Nat.le_add_right _ _) hcs.2⟩) (fun H locs h => ?_)
  obtain ⟨v3, ev3, hf⟩ := lt_e hf
  rw [← ev3] at h
  refine lv_istore (lv' := [(5, .int r1.1), (0, .ref b), (1, .ref (q 0)), (2, .ref (q 431)), (3, .ref (q 430)), (4, .int i)]) hx hb dL_law_205 hl (by decide) rfl (fun ls hl => ?_)
  refine lv_aload_n hx hb dL_law_207 rfl (lv_at hl 3 rfl) ?_
  obtain ⟨r5, hy4, hf⟩ := ob_e hf
  refine xi1 h 431 8 sLW_431 (Nat.le_of_ble_eq_true rfl) (va_runV (As := []) (rest := []) hC (c_X9_arm l G (sh 431 q) (sh 431 v3) hy4 H.size) (xcgV hC hin lk_L_103 in_X9 co_X9_arm im_X9_arm se_X9_arm rfl rfl dd_X9_arm ⟨Nat.le_of_ble_eq_true rfl, Nat.le_of_ble_eq_true rfl⟩) (preV1 h 431 8 sLW_431 (Nat.le_of_ble_eq_true rfl) (Nat.le_of_ble_eq_true rfl) eLW_431 rfl []) rfl rfl hl.1 rfl (lv_room (Nat.le_of_ble_eq_true rfl)) dL_law_208 hc0) (fun H locs h => ?_)
  obtain ⟨v6, ev6, hf⟩ := lt_e hf
  rw [← ev6] at h
  refine lv_istore (lv' := [(6, .int r5.1), (5, .int r1.1), (0, .ref b), (1, .ref (q 0)), (2, .ref (q 431)), (3, .ref (q 430)), (4, .int i)]) hx hb dL_law_211 hl (by decide) rfl (fun ls hl => ?_)
  refine lv_aload_n hx hb dL_law_213 rfl (lv_at hl 4 rfl) ?_
  obtain ⟨r8, hy7, hf⟩ := ob_e hf
  refine xiG h (va_runV (As := []) (rest := []) hC (c_X9_thrown l G (sh 431 q) (sh 431 v6) hy7 H.size) (xcgV hC hin lk_L_104 in_X9 co_X9_thrown im_X9_thrown se_X9_thrown rfl rfl dd_X9_thrown ⟨Nat.le_of_ble_eq_true rfl, Nat.le_of_ble_eq_true rfl⟩) (preVO h.o 431 8 sLW_431 (Nat.le_of_ble_eq_true rfl) (Nat.le_of_ble_eq_true rfl) eLW_431 rfl []) rfl rfl hl.1 rfl (lv_room (Nat.le_of_ble_eq_true rfl)) dL_law_214 hc0) (fun H locs h => ?_)
  refine lv_iload hx hb dL_law_217 (lv_at hl 1 rfl) ?_
  refine lv_icmp_eq (tgt := 224) hx hb dL_law_219 (by decide) (fun c9 => ?_) (fun c9 => ?_)
  · have hf := it_t c9 hf
    refine lv_iload hx hb dL_law_224 (lv_at hl 1 rfl) ?_
    refine lv_if_ne (tgt := 241) hx hb dL_law_226 (by decide) (fun c10 => ?_) (fun c10 => ?_)
    · have hf := it_f c10 hf
      refine lv_goto (tgt := 1839) hx hb dL_law_241 (by decide) ?_
      have hf := sm_e hf
      subst hf
      refine W.widen (k := cells + 1) (n := slots + 6) (by omega) (by omega) ?_
      exact kk H locs ls h (lv_sub hl [2, 3, 4, 5, 6] rfl)
    · have hf := it_t c10 hf
      refine lv_aload_n hx hb dL_law_229 rfl (lv_at hl 5 rfl) ?_
      refine lv_iconst (v := (0 : Int32)) hx hb dL_law_230 (by decide) ?_
      refine xlald hC h.o 430 (Nat.le_of_ble_eq_true rfl) eLW_430 dL_law_231 ?_
      refine lv_iload hx hb dL_law_232 (lv_at hl 0 rfl) ?_
      refine lv_i2l hx hb dL_law_234 rfl ?_
      refine W.lcmp hx hb dL_law_235 ?_
      refine lv_if_eq (tgt := 241) hx hb dL_law_236 (by decide) (fun c11 => ?_) (fun c11 => ?_)
      · have hf := it_t c11 hf
        refine lv_goto (tgt := 1839) hx hb dL_law_241 (by decide) ?_
        have hf := sm_e hf
        subst hf
        refine W.widen (k := cells + 1) (n := slots + 6) (by omega) (by omega) ?_
        exact kk H locs ls h (lv_sub hl [2, 3, 4, 5, 6] rfl)
      · have hf := it_f c11 hf
        cases hf
  · have hf := it_f c9 hf
    cases hf
def m_law_0_xISE (v : xSt) (xs : Nat → Int32) (L : Nat) (i : Int32) : Option xSt := ob (xthE xISE (m_X8_arm_t v )) (fun r1 => lt (pu 0 431 v (pu 0 430 v r1)) (fun v3 => ob (m_X9_arm (sh 431 v3)) (fun r5 => lt (pu 431 8 v3 r5.2) (fun v6 => ob (m_X9_thrown (sh 431 v6)) (fun r8 => (if r8 = (1 : Int32) then (if (1 : Int32) = 0 then (if (lg_cmp ((v6 430 0).toInt64) ((r5.1).toInt64)) = 0 then some v6 else none) else some v6) else none))))))
set_option maxHeartbeats 4000000 in
set_option maxRecDepth 100000 in
theorem k_law_0_xISE {p : Program} {l : Launch} {e : Env} {R : Room} {s : State} {m : MethodId} {args : Array Value} {below : List Frame} {meth : Method} {c : Code} {H : Heap} {locs : List Loc} {cells slots : Nat} {Q : State → Prop} {G : xGl} {sa q : Nat → Nat} {v : xSt} {A : Nat → Prop} {ls : Array Slot} {b L : Nat} {xs : Nat → Int32} {i : Int32} (hst : l.stackTraces = false) (hC : CallFix p m c cL_law 9 s args lw_tbl RL) (hin : ∀ w ∈ wG, w ∈ lw_tbl) (hT : xT G sa A s s.heap) (hX : va_X b L xs s s.heap) (hbl : b < s.heap.size) (hbA : ¬ A b) (hcs : cells + 1 ≤ room_1.cells ∧ slots + 6 ≤ room_1.slots) (h : hg G (LW G) 439 q v A s H locs) (hl : lv_has ls 9 [(0, .ref b), (1, .ref (q 0)), (2, .ref (q 431)), (3, .ref (q 430)), (4, .int i)]) {z : xSt} (hf : m_law_0_xISE v xs L i = some z) (kk : ∀ (H : Heap) (locs : List Loc) (ls : Array Slot), hg G (LW G) 439 q z A s H locs → lv_has ls 9 [(0, .ref b), (1, .ref (q 0)), (2, .ref (q 431)), (3, .ref (q 430)), (4, .int i)] → W p l e room_1 s m args below meth c H locs (cells + 1) (slots + 6) Q (F0 m 1839 ls [])) : W p l e room_1 s m args below meth c H locs cells slots Q (F0 m 200 ls []) := by
  have hx := hC.1
  have hb := hC.2.1
  have hc0 : cells ≤ room_1.cells ∧ slots ≤ room_1.slots := ⟨Nat.le_of_succ_le hcs.1, Nat.le_trans (Nat.le_add_right _ _) hcs.2⟩
  unfold m_law_0_xISE at hf
  refine lv_aload_n hx hb dL_law_200 rfl (lv_at hl 1 rfl) ?_
  refine lv_aload_n hx hb dL_law_201 rfl (lv_at hl 3 rfl) ?_
  obtain ⟨r1, hy2, hf⟩ := ob_e hf
  refine xipc h 431 sLW_0 (Nat.le_of_ble_eq_true rfl) (vx_runSW (As := [.ref (q 0), .ref (q 430)]) (rest := []) hC (x_L_arm_xISE l hst G sa q v  (xthE_e hy2) H.size) (xcgSW hC hin lk_L_98 in_L co_L_arm st_L_arm rfl rfl dd_L_arm ⟨Nat.le_of_ble_eq_true rfl, Nat.le_of_ble_eq_true rfl⟩) (preSP h hT 431 sLW_0 (Nat.le_of_ble_eq_true rfl) [.ref (q 0), .ref (q 430)]) rfl rfl hl.1 rfl (lv_room (Nat.le_of_ble_eq_true rfl)) dL_law_202 hcs) (fun H locs h => ?_)
  obtain ⟨v3, ev3, hf⟩ := lt_e hf
  rw [← ev3] at h
  refine lv_istore (lv' := [(5, .int (1 : Int32)), (0, .ref b), (1, .ref (q 0)), (2, .ref (q 431)), (3, .ref (q 430)), (4, .int i)]) hx hb dL_law_205 hl (by decide) rfl (fun ls hl => ?_)
  refine lv_aload_n hx hb dL_law_207 rfl (lv_at hl 3 rfl) ?_
  obtain ⟨r5, hy4, hf⟩ := ob_e hf
  refine xi1 h 431 8 sLW_431 (Nat.le_of_ble_eq_true rfl) (va_runV (As := []) (rest := []) hC (c_X9_arm l G (sh 431 q) (sh 431 v3) hy4 H.size) (xcgV hC hin lk_L_103 in_X9 co_X9_arm im_X9_arm se_X9_arm rfl rfl dd_X9_arm ⟨Nat.le_of_ble_eq_true rfl, Nat.le_of_ble_eq_true rfl⟩) (preV1 h 431 8 sLW_431 (Nat.le_of_ble_eq_true rfl) (Nat.le_of_ble_eq_true rfl) eLW_431 rfl []) rfl rfl hl.1 rfl (lv_room (Nat.le_of_ble_eq_true rfl)) dL_law_208 hcs) (fun H locs h => ?_)
  obtain ⟨v6, ev6, hf⟩ := lt_e hf
  rw [← ev6] at h
  refine lv_istore (lv' := [(6, .int r5.1), (5, .int (1 : Int32)), (0, .ref b), (1, .ref (q 0)), (2, .ref (q 431)), (3, .ref (q 430)), (4, .int i)]) hx hb dL_law_211 hl (by decide) rfl (fun ls hl => ?_)
  refine lv_aload_n hx hb dL_law_213 rfl (lv_at hl 4 rfl) ?_
  obtain ⟨r8, hy7, hf⟩ := ob_e hf
  refine xiG h (va_runV (As := []) (rest := []) hC (c_X9_thrown l G (sh 431 q) (sh 431 v6) hy7 H.size) (xcgV hC hin lk_L_104 in_X9 co_X9_thrown im_X9_thrown se_X9_thrown rfl rfl dd_X9_thrown ⟨Nat.le_of_ble_eq_true rfl, Nat.le_of_ble_eq_true rfl⟩) (preVO h.o 431 8 sLW_431 (Nat.le_of_ble_eq_true rfl) (Nat.le_of_ble_eq_true rfl) eLW_431 rfl []) rfl rfl hl.1 rfl (lv_room (Nat.le_of_ble_eq_true rfl)) dL_law_214 hcs) (fun H locs h => ?_)
  refine lv_iload hx hb dL_law_217 (lv_at hl 1 rfl) ?_
  refine lv_icmp_eq (tgt := 224) hx hb dL_law_219 (by decide) (fun c9 => ?_) (fun c9 => ?_)
  · have hf := it_t c9 hf
    refine lv_iload hx hb dL_law_224 (lv_at hl 1 rfl) ?_
    refine lv_if_ne (tgt := 241) hx hb dL_law_226 (by decide) (fun c10 => ?_) (fun c10 => ?_)
    · have hf := it_f c10 hf
      refine lv_goto (tgt := 1839) hx hb dL_law_241 (by decide) ?_
      have hf := sm_e hf
      subst hf
      refine W.widen (k := cells + 1) (n := slots + 6) (by omega) (by omega) ?_
      exact kk H locs ls h (lv_sub hl [2, 3, 4, 5, 6] rfl)
    · have hf := it_t c10 hf
      refine lv_aload_n hx hb dL_law_229 rfl (lv_at hl 5 rfl) ?_
      refine lv_iconst (v := (0 : Int32)) hx hb dL_law_230 (by decide) ?_
      refine xlald hC h.o 430 (Nat.le_of_ble_eq_true rfl) eLW_430 dL_law_231 ?_
      refine lv_iload hx hb dL_law_232 (lv_at hl 0 rfl) ?_
      refine lv_i2l hx hb dL_law_234 rfl ?_
      refine W.lcmp hx hb dL_law_235 ?_
      refine lv_if_eq (tgt := 241) hx hb dL_law_236 (by decide) (fun c11 => ?_) (fun c11 => ?_)
      · have hf := it_t c11 hf
        refine lv_goto (tgt := 1839) hx hb dL_law_241 (by decide) ?_
        have hf := sm_e hf
        subst hf
        refine W.widen (k := cells + 1) (n := slots + 6) (by omega) (by omega) ?_
        exact kk H locs ls h (lv_sub hl [2, 3, 4, 5, 6] rfl)
      · have hf := it_f c11 hf
        cases hf
  · have hf := it_f c9 hf
    cases hf
def m_law_1 (v : xSt) (xs : Nat → Int32) (L : Nat) (i : Int32) : Option xSt := ck (¬ ((i + (1 : Int32)) < 0 ∨ L ≤ (i + (1 : Int32)).toNatClampNeg)) (ob (m_L_load v (xs (i + (1 : Int32)).toNatClampNeg)) (fun r2 => lt (pu 0 431 v r2.2) (fun v4 => ck (¬ ((i + (1 : Int32)) < 0 ∨ L ≤ (i + (1 : Int32)).toNatClampNeg)) (ob (m_X9_load (sh 431 v4) (xs (i + (1 : Int32)).toNatClampNeg)) (fun r7 => lt (pu 431 8 v4 r7.2) (fun v8 => ob (m_X9_thrown (sh 431 v8)) (fun r10 => (if r10 = r2.1 then (if r2.1 = 0 then (if (lg_cmp ((v8 430 0).toInt64) ((r7.1).toInt64)) = 0 then some v8 else none) else some v8) else none))))))))
set_option maxHeartbeats 4000000 in
set_option maxRecDepth 100000 in
theorem k_law_1 {p : Program} {l : Launch} {e : Env} {R : Room} {s : State} {m : MethodId} {args : Array Value} {below : List Frame} {meth : Method} {c : Code} {H : Heap} {locs : List Loc} {cells slots : Nat} {Q : State → Prop} {G : xGl} {sa q : Nat → Nat} {v : xSt} {A : Nat → Prop} {ls : Array Slot} {b L : Nat} {xs : Nat → Int32} {i : Int32} (hst : l.stackTraces = false) (hC : CallFix p m c cL_law 9 s args lw_tbl RL) (hin : ∀ w ∈ wG, w ∈ lw_tbl) (hT : xT G sa A s s.heap) (hX : va_X b L xs s s.heap) (hbl : b < s.heap.size) (hbA : ¬ A b) (hcs : cells + 1 ≤ room_1.cells ∧ slots + 6 ≤ room_1.slots) (h : hg G (LW G) 439 q v A s H locs) (hl : lv_has ls 9 [(0, .ref b), (1, .ref (q 0)), (2, .ref (q 431)), (3, .ref (q 430)), (4, .int i)]) {z : xSt} (hf : m_law_1 v xs L i = some z) (kk : ∀ (H : Heap) (locs : List Loc) (ls : Array Slot), hg G (LW G) 439 q z A s H locs → lv_has ls 9 [(0, .ref b), (1, .ref (q 0)), (2, .ref (q 431)), (3, .ref (q 430)), (4, .int i)] → W p l e room_1 s m args below meth c H locs (cells + 1) (slots + 6) Q (F0 m 1839 ls [])) : W p l e room_1 s m args below meth c H locs cells slots Q (F0 m 244 ls []) := by
  have hx := hC.1
  have hb := hC.2.1
  have hc0 : cells ≤ room_1.cells ∧ slots ≤ room_1.slots := ⟨Nat.le_of_succ_le hcs.1, Nat.le_trans (Nat.le_add_right _ _) hcs.2⟩
  unfold m_law_1 at hf
  refine lv_aload_n hx hb dL_law_244 rfl (lv_at hl 1 rfl) ?_
  refine lv_aload_n hx hb dL_law_245 rfl (lv_at hl 0 rfl) ?_
  refine lv_iload hx hb dL_law_246 (lv_at hl 4 rfl) ?_
  refine lv_iconst (v := (1 : Int32)) hx hb dL_law_248 (by decide) ?_
  refine lv_iadd hx hb dL_law_249 ?_
  obtain ⟨hi1, hf⟩ := ck_e hf
  refine va_sld hx hb hX hbl hbA h.1.2.2.1 hi1 dL_law_250 ?_
  refine lv_aload_n hx hb dL_law_251 rfl (lv_at hl 3 rfl) ?_
  obtain ⟨r2, hy3, hf⟩ := ob_e hf
  refine xipc h 431 sLW_0 (Nat.le_of_ble_eq_true rfl) (vx_runSW (As := [.ref (q 0), .int (xs (i + (1 : Int32)).toNatClampNeg), .ref (q 430)]) (rest := []) hC (c_L_load l G sa q v (xs (i + (1 : Int32)).toNatClampNeg) hy3 H.size) (xcgSW hC hin lk_L_107 in_L co_L_load st_L_load rfl rfl dd_L_load ⟨Nat.le_of_ble_eq_true rfl, Nat.le_of_ble_eq_true rfl⟩) (preSP h hT 431 sLW_0 (Nat.le_of_ble_eq_true rfl) [.ref (q 0), .int (xs (i + (1 : Int32)).toNatClampNeg), .ref (q 430)]) rfl rfl hl.1 rfl (lv_room (Nat.le_of_ble_eq_true rfl)) dL_law_252 ⟨Nat.le_of_succ_le hcs.1, Nat.le_trans (Nat.le_add_right _ _) hcs.2⟩) (fun H locs h => ?_)
  obtain ⟨v4, ev4, hf⟩ := lt_e hf
  rw [← ev4] at h
  refine lv_istore (lv' := [(5, .int r2.1), (0, .ref b), (1, .ref (q 0)), (2, .ref (q 431)), (3, .ref (q 430)), (4, .int i)]) hx hb dL_law_255 hl (by decide) rfl (fun ls hl => ?_)
  refine lv_aload_n hx hb dL_law_257 rfl (lv_at hl 3 rfl) ?_
  refine lv_aload_n hx hb dL_law_258 rfl (lv_at hl 1 rfl) ?_
  refine lv_iload hx hb dL_law_259 (lv_at hl 5 rfl) ?_
  refine lv_iconst (v := (1 : Int32)) hx hb dL_law_261 (by decide) ?_
  refine lv_iadd hx hb dL_law_262 ?_
  obtain ⟨hi5, hf⟩ := ck_e hf
  refine va_sld hx hb hX hbl hbA h.1.2.2.1 hi5 dL_law_263 ?_
  obtain ⟨r7, hy6, hf⟩ := ob_e hf
  refine xi1 h 431 8 sLW_431 (Nat.le_of_ble_eq_true rfl) (va_runV (As := [.int (xs (i + (1 : Int32)).toNatClampNeg)]) (rest := []) hC (c_X9_load l G (sh 431 q) (sh 431 v4) (xs (i + (1 : Int32)).toNatClampNeg) hy6 H.size) (xcgV hC hin lk_L_110 in_X9 co_X9_load im_X9_load se_X9_load rfl rfl dd_X9_load ⟨Nat.le_of_ble_eq_true rfl, Nat.le_of_ble_eq_true rfl⟩) (preV1 h 431 8 sLW_431 (Nat.le_of_ble_eq_true rfl) (Nat.le_of_ble_eq_true rfl) eLW_431 rfl [.int (xs (i + (1 : Int32)).toNatClampNeg)]) rfl rfl hl.1 rfl (lv_room (Nat.le_of_ble_eq_true rfl)) dL_law_264 hc0) (fun H locs h => ?_)
  obtain ⟨v8, ev8, hf⟩ := lt_e hf
  rw [← ev8] at h
  refine lv_istore (lv' := [(6, .int r7.1), (5, .int r2.1), (0, .ref b), (1, .ref (q 0)), (2, .ref (q 431)), (3, .ref (q 430)), (4, .int i)]) hx hb dL_law_267 hl (by decide) rfl (fun ls hl => ?_)
  refine lv_aload_n hx hb dL_law_269 rfl (lv_at hl 4 rfl) ?_
  obtain ⟨r10, hy9, hf⟩ := ob_e hf
  refine xiG h (va_runV (As := []) (rest := []) hC (c_X9_thrown l G (sh 431 q) (sh 431 v8) hy9 H.size) (xcgV hC hin lk_L_104 in_X9 co_X9_thrown im_X9_thrown se_X9_thrown rfl rfl dd_X9_thrown ⟨Nat.le_of_ble_eq_true rfl, Nat.le_of_ble_eq_true rfl⟩) (preVO h.o 431 8 sLW_431 (Nat.le_of_ble_eq_true rfl) (Nat.le_of_ble_eq_true rfl) eLW_431 rfl []) rfl rfl hl.1 rfl (lv_room (Nat.le_of_ble_eq_true rfl)) dL_law_270 hc0) (fun H locs h => ?_)
  refine lv_iload hx hb dL_law_273 (lv_at hl 1 rfl) ?_
  refine lv_icmp_eq (tgt := 280) hx hb dL_law_275 (by decide) (fun c11 => ?_) (fun c11 => ?_)
  · have hf := it_t c11 hf
    refine lv_iload hx hb dL_law_280 (lv_at hl 1 rfl) ?_
    refine lv_if_ne (tgt := 297) hx hb dL_law_282 (by decide) (fun c12 => ?_) (fun c12 => ?_)
    · have hf := it_f c12 hf
      refine lv_goto (tgt := 1839) hx hb dL_law_297 (by decide) ?_
      have hf := sm_e hf
      subst hf
      refine W.widen (k := cells + 1) (n := slots + 6) (by omega) (by omega) ?_
      exact kk H locs ls h (lv_sub hl [2, 3, 4, 5, 6] rfl)
    · have hf := it_t c12 hf
      refine lv_aload_n hx hb dL_law_285 rfl (lv_at hl 5 rfl) ?_
      refine lv_iconst (v := (0 : Int32)) hx hb dL_law_286 (by decide) ?_
      refine xlald hC h.o 430 (Nat.le_of_ble_eq_true rfl) eLW_430 dL_law_287 ?_
      refine lv_iload hx hb dL_law_288 (lv_at hl 0 rfl) ?_
      refine lv_i2l hx hb dL_law_290 rfl ?_
      refine W.lcmp hx hb dL_law_291 ?_
      refine lv_if_eq (tgt := 297) hx hb dL_law_292 (by decide) (fun c13 => ?_) (fun c13 => ?_)
      · have hf := it_t c13 hf
        refine lv_goto (tgt := 1839) hx hb dL_law_297 (by decide) ?_
        have hf := sm_e hf
        subst hf
        refine W.widen (k := cells + 1) (n := slots + 6) (by omega) (by omega) ?_
        exact kk H locs ls h (lv_sub hl [2, 3, 4, 5, 6] rfl)
      · have hf := it_f c13 hf
        cases hf
  · have hf := it_f c11 hf
    cases hf
def m_law_1_xIAE (v : xSt) (xs : Nat → Int32) (L : Nat) (i : Int32) : Option xSt := ck (¬ ((i + (1 : Int32)) < 0 ∨ L ≤ (i + (1 : Int32)).toNatClampNeg)) (ob (xthE xIAE (m_X8_load_t v (xs (i + (1 : Int32)).toNatClampNeg))) (fun r2 => lt (pu 0 431 v (pu 0 430 v r2)) (fun v4 => ck (¬ ((i + (1 : Int32)) < 0 ∨ L ≤ (i + (1 : Int32)).toNatClampNeg)) (ob (m_X9_load (sh 431 v4) (xs (i + (1 : Int32)).toNatClampNeg)) (fun r7 => lt (pu 431 8 v4 r7.2) (fun v8 => ob (m_X9_thrown (sh 431 v8)) (fun r10 => (if r10 = (1 : Int32) then (if (1 : Int32) = 0 then (if (lg_cmp ((v8 430 0).toInt64) ((r7.1).toInt64)) = 0 then some v8 else none) else some v8) else none))))))))
set_option maxHeartbeats 4000000 in
set_option maxRecDepth 100000 in
theorem k_law_1_xIAE {p : Program} {l : Launch} {e : Env} {R : Room} {s : State} {m : MethodId} {args : Array Value} {below : List Frame} {meth : Method} {c : Code} {H : Heap} {locs : List Loc} {cells slots : Nat} {Q : State → Prop} {G : xGl} {sa q : Nat → Nat} {v : xSt} {A : Nat → Prop} {ls : Array Slot} {b L : Nat} {xs : Nat → Int32} {i : Int32} (hst : l.stackTraces = false) (hC : CallFix p m c cL_law 9 s args lw_tbl RL) (hin : ∀ w ∈ wG, w ∈ lw_tbl) (hT : xT G sa A s s.heap) (hX : va_X b L xs s s.heap) (hbl : b < s.heap.size) (hbA : ¬ A b) (hcs : cells + 1 ≤ room_1.cells ∧ slots + 6 ≤ room_1.slots) (h : hg G (LW G) 439 q v A s H locs) (hl : lv_has ls 9 [(0, .ref b), (1, .ref (q 0)), (2, .ref (q 431)), (3, .ref (q 430)), (4, .int i)]) {z : xSt} (hf : m_law_1_xIAE v xs L i = some z) (kk : ∀ (H : Heap) (locs : List Loc) (ls : Array Slot), hg G (LW G) 439 q z A s H locs → lv_has ls 9 [(0, .ref b), (1, .ref (q 0)), (2, .ref (q 431)), (3, .ref (q 430)), (4, .int i)] → W p l e room_1 s m args below meth c H locs (cells + 1) (slots + 6) Q (F0 m 1839 ls [])) : W p l e room_1 s m args below meth c H locs cells slots Q (F0 m 244 ls []) := by
  have hx := hC.1
  have hb := hC.2.1
  have hc0 : cells ≤ room_1.cells ∧ slots ≤ room_1.slots := ⟨Nat.le_of_succ_le hcs.1, Nat.le_trans (Nat.le_add_right _ _) hcs.2⟩
  unfold m_law_1_xIAE at hf
  refine lv_aload_n hx hb dL_law_244 rfl (lv_at hl 1 rfl) ?_
  refine lv_aload_n hx hb dL_law_245 rfl (lv_at hl 0 rfl) ?_
  refine lv_iload hx hb dL_law_246 (lv_at hl 4 rfl) ?_
  refine lv_iconst (v := (1 : Int32)) hx hb dL_law_248 (by decide) ?_
  refine lv_iadd hx hb dL_law_249 ?_
  obtain ⟨hi1, hf⟩ := ck_e hf
  refine va_sld hx hb hX hbl hbA h.1.2.2.1 hi1 dL_law_250 ?_
  refine lv_aload_n hx hb dL_law_251 rfl (lv_at hl 3 rfl) ?_
  obtain ⟨r2, hy3, hf⟩ := ob_e hf
  refine xipc h 431 sLW_0 (Nat.le_of_ble_eq_true rfl) (vx_runSW (As := [.ref (q 0), .int (xs (i + (1 : Int32)).toNatClampNeg), .ref (q 430)]) (rest := []) hC (x_L_load_xIAE l hst G sa q v (xs (i + (1 : Int32)).toNatClampNeg) (xthE_e hy3) H.size) (xcgSW hC hin lk_L_107 in_L co_L_load st_L_load rfl rfl dd_L_load ⟨Nat.le_of_ble_eq_true rfl, Nat.le_of_ble_eq_true rfl⟩) (preSP h hT 431 sLW_0 (Nat.le_of_ble_eq_true rfl) [.ref (q 0), .int (xs (i + (1 : Int32)).toNatClampNeg), .ref (q 430)]) rfl rfl hl.1 rfl (lv_room (Nat.le_of_ble_eq_true rfl)) dL_law_252 hcs) (fun H locs h => ?_)
  obtain ⟨v4, ev4, hf⟩ := lt_e hf
  rw [← ev4] at h
  refine lv_istore (lv' := [(5, .int (1 : Int32)), (0, .ref b), (1, .ref (q 0)), (2, .ref (q 431)), (3, .ref (q 430)), (4, .int i)]) hx hb dL_law_255 hl (by decide) rfl (fun ls hl => ?_)
  refine lv_aload_n hx hb dL_law_257 rfl (lv_at hl 3 rfl) ?_
  refine lv_aload_n hx hb dL_law_258 rfl (lv_at hl 1 rfl) ?_
  refine lv_iload hx hb dL_law_259 (lv_at hl 5 rfl) ?_
  refine lv_iconst (v := (1 : Int32)) hx hb dL_law_261 (by decide) ?_
  refine lv_iadd hx hb dL_law_262 ?_
  obtain ⟨hi5, hf⟩ := ck_e hf
  refine va_sld hx hb hX hbl hbA h.1.2.2.1 hi5 dL_law_263 ?_
  obtain ⟨r7, hy6, hf⟩ := ob_e hf
  refine xi1 h 431 8 sLW_431 (Nat.le_of_ble_eq_true rfl) (va_runV (As := [.int (xs (i + (1 : Int32)).toNatClampNeg)]) (rest := []) hC (c_X9_load l G (sh 431 q) (sh 431 v4) (xs (i + (1 : Int32)).toNatClampNeg) hy6 H.size) (xcgV hC hin lk_L_110 in_X9 co_X9_load im_X9_load se_X9_load rfl rfl dd_X9_load ⟨Nat.le_of_ble_eq_true rfl, Nat.le_of_ble_eq_true rfl⟩) (preV1 h 431 8 sLW_431 (Nat.le_of_ble_eq_true rfl) (Nat.le_of_ble_eq_true rfl) eLW_431 rfl [.int (xs (i + (1 : Int32)).toNatClampNeg)]) rfl rfl hl.1 rfl (lv_room (Nat.le_of_ble_eq_true rfl)) dL_law_264 hcs) (fun H locs h => ?_)
  obtain ⟨v8, ev8, hf⟩ := lt_e hf
  rw [← ev8] at h
  refine lv_istore (lv' := [(6, .int r7.1), (5, .int (1 : Int32)), (0, .ref b), (1, .ref (q 0)), (2, .ref (q 431)), (3, .ref (q 430)), (4, .int i)]) hx hb dL_law_267 hl (by decide) rfl (fun ls hl => ?_)
  refine lv_aload_n hx hb dL_law_269 rfl (lv_at hl 4 rfl) ?_
  obtain ⟨r10, hy9, hf⟩ := ob_e hf
  refine xiG h (va_runV (As := []) (rest := []) hC (c_X9_thrown l G (sh 431 q) (sh 431 v8) hy9 H.size) (xcgV hC hin lk_L_104 in_X9 co_X9_thrown im_X9_thrown se_X9_thrown rfl rfl dd_X9_thrown ⟨Nat.le_of_ble_eq_true rfl, Nat.le_of_ble_eq_true rfl⟩) (preVO h.o 431 8 sLW_431 (Nat.le_of_ble_eq_true rfl) (Nat.le_of_ble_eq_true rfl) eLW_431 rfl []) rfl rfl hl.1 rfl (lv_room (Nat.le_of_ble_eq_true rfl)) dL_law_270 hcs) (fun H locs h => ?_)
  refine lv_iload hx hb dL_law_273 (lv_at hl 1 rfl) ?_
  refine lv_icmp_eq (tgt := 280) hx hb dL_law_275 (by decide) (fun c11 => ?_) (fun c11 => ?_)
  · have hf := it_t c11 hf
    refine lv_iload hx hb dL_law_280 (lv_at hl 1 rfl) ?_
    refine lv_if_ne (tgt := 297) hx hb dL_law_282 (by decide) (fun c12 => ?_) (fun c12 => ?_)
    · have hf := it_f c12 hf
      refine lv_goto (tgt := 1839) hx hb dL_law_297 (by decide) ?_
      have hf := sm_e hf
      subst hf
      refine W.widen (k := cells + 1) (n := slots + 6) (by omega) (by omega) ?_
      exact kk H locs ls h (lv_sub hl [2, 3, 4, 5, 6] rfl)
    · have hf := it_t c12 hf
      refine lv_aload_n hx hb dL_law_285 rfl (lv_at hl 5 rfl) ?_
      refine lv_iconst (v := (0 : Int32)) hx hb dL_law_286 (by decide) ?_
      refine xlald hC h.o 430 (Nat.le_of_ble_eq_true rfl) eLW_430 dL_law_287 ?_
      refine lv_iload hx hb dL_law_288 (lv_at hl 0 rfl) ?_
      refine lv_i2l hx hb dL_law_290 rfl ?_
      refine W.lcmp hx hb dL_law_291 ?_
      refine lv_if_eq (tgt := 297) hx hb dL_law_292 (by decide) (fun c13 => ?_) (fun c13 => ?_)
      · have hf := it_t c13 hf
        refine lv_goto (tgt := 1839) hx hb dL_law_297 (by decide) ?_
        have hf := sm_e hf
        subst hf
        refine W.widen (k := cells + 1) (n := slots + 6) (by omega) (by omega) ?_
        exact kk H locs ls h (lv_sub hl [2, 3, 4, 5, 6] rfl)
      · have hf := it_f c13 hf
        cases hf
  · have hf := it_f c11 hf
    cases hf
def m_law_1_xISE (v : xSt) (xs : Nat → Int32) (L : Nat) (i : Int32) : Option xSt := ck (¬ ((i + (1 : Int32)) < 0 ∨ L ≤ (i + (1 : Int32)).toNatClampNeg)) (ob (xthE xISE (m_X8_load_t v (xs (i + (1 : Int32)).toNatClampNeg))) (fun r2 => lt (pu 0 431 v (pu 0 430 v r2)) (fun v4 => ck (¬ ((i + (1 : Int32)) < 0 ∨ L ≤ (i + (1 : Int32)).toNatClampNeg)) (ob (m_X9_load (sh 431 v4) (xs (i + (1 : Int32)).toNatClampNeg)) (fun r7 => lt (pu 431 8 v4 r7.2) (fun v8 => ob (m_X9_thrown (sh 431 v8)) (fun r10 => (if r10 = (2 : Int32) then (if (2 : Int32) = 0 then (if (lg_cmp ((v8 430 0).toInt64) ((r7.1).toInt64)) = 0 then some v8 else none) else some v8) else none))))))))
set_option maxHeartbeats 4000000 in
set_option maxRecDepth 100000 in
theorem k_law_1_xISE {p : Program} {l : Launch} {e : Env} {R : Room} {s : State} {m : MethodId} {args : Array Value} {below : List Frame} {meth : Method} {c : Code} {H : Heap} {locs : List Loc} {cells slots : Nat} {Q : State → Prop} {G : xGl} {sa q : Nat → Nat} {v : xSt} {A : Nat → Prop} {ls : Array Slot} {b L : Nat} {xs : Nat → Int32} {i : Int32} (hst : l.stackTraces = false) (hC : CallFix p m c cL_law 9 s args lw_tbl RL) (hin : ∀ w ∈ wG, w ∈ lw_tbl) (hT : xT G sa A s s.heap) (hX : va_X b L xs s s.heap) (hbl : b < s.heap.size) (hbA : ¬ A b) (hcs : cells + 1 ≤ room_1.cells ∧ slots + 6 ≤ room_1.slots) (h : hg G (LW G) 439 q v A s H locs) (hl : lv_has ls 9 [(0, .ref b), (1, .ref (q 0)), (2, .ref (q 431)), (3, .ref (q 430)), (4, .int i)]) {z : xSt} (hf : m_law_1_xISE v xs L i = some z) (kk : ∀ (H : Heap) (locs : List Loc) (ls : Array Slot), hg G (LW G) 439 q z A s H locs → lv_has ls 9 [(0, .ref b), (1, .ref (q 0)), (2, .ref (q 431)), (3, .ref (q 430)), (4, .int i)] → W p l e room_1 s m args below meth c H locs (cells + 1) (slots + 6) Q (F0 m 1839 ls [])) : W p l e room_1 s m args below meth c H locs cells slots Q (F0 m 244 ls []) := by
  have hx := hC.1
  have hb := hC.2.1
  have hc0 : cells ≤ room_1.cells ∧ slots ≤ room_1.slots := ⟨Nat.le_of_succ_le hcs.1, Nat.le_trans (Nat.le_add_right _ _) hcs.2⟩
  unfold m_law_1_xISE at hf
  refine lv_aload_n hx hb dL_law_244 rfl (lv_at hl 1 rfl) ?_
  refine lv_aload_n hx hb dL_law_245 rfl (lv_at hl 0 rfl) ?_
  refine lv_iload hx hb dL_law_246 (lv_at hl 4 rfl) ?_
  refine lv_iconst (v := (1 : Int32)) hx hb dL_law_248 (by decide) ?_
  refine lv_iadd hx hb dL_law_249 ?_
  obtain ⟨hi1, hf⟩ := ck_e hf
  refine va_sld hx hb hX hbl hbA h.1.2.2.1 hi1 dL_law_250 ?_
  refine lv_aload_n hx hb dL_law_251 rfl (lv_at hl 3 rfl) ?_
  obtain ⟨r2, hy3, hf⟩ := ob_e hf
  refine xipc h 431 sLW_0 (Nat.le_of_ble_eq_true rfl) (vx_runSW (As := [.ref (q 0), .int (xs (i + (1 : Int32)).toNatClampNeg), .ref (q 430)]) (rest := []) hC (x_L_load_xISE l hst G sa q v (xs (i + (1 : Int32)).toNatClampNeg) (xthE_e hy3) H.size) (xcgSW hC hin lk_L_107 in_L co_L_load st_L_load rfl rfl dd_L_load ⟨Nat.le_of_ble_eq_true rfl, Nat.le_of_ble_eq_true rfl⟩) (preSP h hT 431 sLW_0 (Nat.le_of_ble_eq_true rfl) [.ref (q 0), .int (xs (i + (1 : Int32)).toNatClampNeg), .ref (q 430)]) rfl rfl hl.1 rfl (lv_room (Nat.le_of_ble_eq_true rfl)) dL_law_252 hcs) (fun H locs h => ?_)
  obtain ⟨v4, ev4, hf⟩ := lt_e hf
  rw [← ev4] at h
  refine lv_istore (lv' := [(5, .int (2 : Int32)), (0, .ref b), (1, .ref (q 0)), (2, .ref (q 431)), (3, .ref (q 430)), (4, .int i)]) hx hb dL_law_255 hl (by decide) rfl (fun ls hl => ?_)
  refine lv_aload_n hx hb dL_law_257 rfl (lv_at hl 3 rfl) ?_
  refine lv_aload_n hx hb dL_law_258 rfl (lv_at hl 1 rfl) ?_
  refine lv_iload hx hb dL_law_259 (lv_at hl 5 rfl) ?_
  refine lv_iconst (v := (1 : Int32)) hx hb dL_law_261 (by decide) ?_
  refine lv_iadd hx hb dL_law_262 ?_
  obtain ⟨hi5, hf⟩ := ck_e hf
  refine va_sld hx hb hX hbl hbA h.1.2.2.1 hi5 dL_law_263 ?_
  obtain ⟨r7, hy6, hf⟩ := ob_e hf
  refine xi1 h 431 8 sLW_431 (Nat.le_of_ble_eq_true rfl) (va_runV (As := [.int (xs (i + (1 : Int32)).toNatClampNeg)]) (rest := []) hC (c_X9_load l G (sh 431 q) (sh 431 v4) (xs (i + (1 : Int32)).toNatClampNeg) hy6 H.size) (xcgV hC hin lk_L_110 in_X9 co_X9_load im_X9_load se_X9_load rfl rfl dd_X9_load ⟨Nat.le_of_ble_eq_true rfl, Nat.le_of_ble_eq_true rfl⟩) (preV1 h 431 8 sLW_431 (Nat.le_of_ble_eq_true rfl) (Nat.le_of_ble_eq_true rfl) eLW_431 rfl [.int (xs (i + (1 : Int32)).toNatClampNeg)]) rfl rfl hl.1 rfl (lv_room (Nat.le_of_ble_eq_true rfl)) dL_law_264 hcs) (fun H locs h => ?_)
  obtain ⟨v8, ev8, hf⟩ := lt_e hf
  rw [← ev8] at h
  refine lv_istore (lv' := [(6, .int r7.1), (5, .int (2 : Int32)), (0, .ref b), (1, .ref (q 0)), (2, .ref (q 431)), (3, .ref (q 430)), (4, .int i)]) hx hb dL_law_267 hl (by decide) rfl (fun ls hl => ?_)
  refine lv_aload_n hx hb dL_law_269 rfl (lv_at hl 4 rfl) ?_
  obtain ⟨r10, hy9, hf⟩ := ob_e hf
  refine xiG h (va_runV (As := []) (rest := []) hC (c_X9_thrown l G (sh 431 q) (sh 431 v8) hy9 H.size) (xcgV hC hin lk_L_104 in_X9 co_X9_thrown im_X9_thrown se_X9_thrown rfl rfl dd_X9_thrown ⟨Nat.le_of_ble_eq_true rfl, Nat.le_of_ble_eq_true rfl⟩) (preVO h.o 431 8 sLW_431 (Nat.le_of_ble_eq_true rfl) (Nat.le_of_ble_eq_true rfl) eLW_431 rfl []) rfl rfl hl.1 rfl (lv_room (Nat.le_of_ble_eq_true rfl)) dL_law_270 hcs) (fun H locs h => ?_)
  refine lv_iload hx hb dL_law_273 (lv_at hl 1 rfl) ?_
  refine lv_icmp_eq (tgt := 280) hx hb dL_law_275 (by decide) (fun c11 => ?_) (fun c11 => ?_)
  · have hf := it_t c11 hf
    refine lv_iload hx hb dL_law_280 (lv_at hl 1 rfl) ?_
    refine lv_if_ne (tgt := 297) hx hb dL_law_282 (by decide) (fun c12 => ?_) (fun c12 => ?_)
    · have hf := it_f c12 hf
      refine lv_goto (tgt := 1839) hx hb dL_law_297 (by decide) ?_
      have hf := sm_e hf
      subst hf
      refine W.widen (k := cells + 1) (n := slots + 6) (by omega) (by omega) ?_
      exact kk H locs ls h (lv_sub hl [2, 3, 4, 5, 6] rfl)
    · have hf := it_t c12 hf
      refine lv_aload_n hx hb dL_law_285 rfl (lv_at hl 5 rfl) ?_
      refine lv_iconst (v := (0 : Int32)) hx hb dL_law_286 (by decide) ?_
      refine xlald hC h.o 430 (Nat.le_of_ble_eq_true rfl) eLW_430 dL_law_287 ?_
      refine lv_iload hx hb dL_law_288 (lv_at hl 0 rfl) ?_
      refine lv_i2l hx hb dL_law_290 rfl ?_
      refine W.lcmp hx hb dL_law_291 ?_
      refine lv_if_eq (tgt := 297) hx hb dL_law_292 (by decide) (fun c13 => ?_) (fun c13 => ?_)
      · have hf := it_t c13 hf
        refine lv_goto (tgt := 1839) hx hb dL_law_297 (by decide) ?_
        have hf := sm_e hf
        subst hf
        refine W.widen (k := cells + 1) (n := slots + 6) (by omega) (by omega) ?_
        exact kk H locs ls h (lv_sub hl [2, 3, 4, 5, 6] rfl)
      · have hf := it_f c13 hf
        cases hf
  · have hf := it_f c11 hf
    cases hf
def m_law_2 (v : xSt) (xs : Nat → Int32) (L : Nat) (i : Int32) : Option xSt := ob (m_X8_unload v) (fun r2 => lt (pu 0 430 v r2.2) (fun v3 => ob (m_X9_unload (sh 431 v3)) (fun r5 => lt (pu 431 8 v3 r5.2) (fun v6 => (if r2.1 = r5.1 then some v6 else none)))))
set_option maxHeartbeats 4000000 in
set_option maxRecDepth 100000 in
theorem k_law_2 {p : Program} {l : Launch} {e : Env} {R : Room} {s : State} {m : MethodId} {args : Array Value} {below : List Frame} {meth : Method} {c : Code} {H : Heap} {locs : List Loc} {cells slots : Nat} {Q : State → Prop} {G : xGl} {sa q : Nat → Nat} {v : xSt} {A : Nat → Prop} {ls : Array Slot} {b L : Nat} {xs : Nat → Int32} {i : Int32} (hst : l.stackTraces = false) (hC : CallFix p m c cL_law 9 s args lw_tbl RL) (hin : ∀ w ∈ wG, w ∈ lw_tbl) (hT : xT G sa A s s.heap) (hX : va_X b L xs s s.heap) (hbl : b < s.heap.size) (hbA : ¬ A b) (hcs : cells + 1 ≤ room_1.cells ∧ slots + 6 ≤ room_1.slots) (h : hg G (LW G) 439 q v A s H locs) (hl : lv_has ls 9 [(0, .ref b), (1, .ref (q 0)), (2, .ref (q 431)), (3, .ref (q 430)), (4, .int i)]) {z : xSt} (hf : m_law_2 v xs L i = some z) (kk : ∀ (H : Heap) (locs : List Loc) (ls : Array Slot), hg G (LW G) 439 q z A s H locs → lv_has ls 9 [(0, .ref b), (1, .ref (q 0)), (2, .ref (q 431)), (3, .ref (q 430)), (4, .int i)] → W p l e room_1 s m args below meth c H locs (cells + 1) (slots + 6) Q (F0 m 1839 ls [])) : W p l e room_1 s m args below meth c H locs cells slots Q (F0 m 300 ls []) := by
  have hx := hC.1
  have hb := hC.2.1
  have hc0 : cells ≤ room_1.cells ∧ slots ≤ room_1.slots := ⟨Nat.le_of_succ_le hcs.1, Nat.le_trans (Nat.le_add_right _ _) hcs.2⟩
  unfold m_law_2 at hf
  refine lv_aload_n hx hb dL_law_300 rfl (lv_at hl 1 rfl) ?_
  obtain ⟨r2, hy1, hf⟩ := ob_e hf
  refine xip h 430 sLW_0b (Nat.le_of_ble_eq_true rfl) (va_runV (As := []) (rest := []) hC (c_X8_unload l G q v hy1 H.size) (xcgV hC hin lk_L_111 in_X8 co_X8_unload im_X8_unload se_X8_unload rfl rfl dd_X8_unload ⟨Nat.le_of_ble_eq_true rfl, Nat.le_of_ble_eq_true rfl⟩) (preVp h 430 sLW_0b (Nat.le_of_ble_eq_true rfl) (Nat.le_of_ble_eq_true rfl) eLW_0 rfl []) rfl rfl hl.1 rfl (lv_room (Nat.le_of_ble_eq_true rfl)) dL_law_301 hc0) (fun H locs h => ?_)
  obtain ⟨v3, ev3, hf⟩ := lt_e hf
  rw [← ev3] at h
  refine lv_aload_n hx hb dL_law_304 rfl (lv_at hl 2 rfl) ?_
  obtain ⟨r5, hy4, hf⟩ := ob_e hf
  refine xi1 h 431 8 sLW_431 (Nat.le_of_ble_eq_true rfl) (va_runV (As := []) (rest := [.int r2.1]) hC (c_X9_unload l G (sh 431 q) (sh 431 v3) hy4 H.size) (xcgV hC hin lk_L_114 in_X9 co_X9_unload im_X9_unload se_X9_unload rfl rfl dd_X9_unload ⟨Nat.le_of_ble_eq_true rfl, Nat.le_of_ble_eq_true rfl⟩) (preV1 h 431 8 sLW_431 (Nat.le_of_ble_eq_true rfl) (Nat.le_of_ble_eq_true rfl) eLW_431 rfl []) rfl rfl hl.1 rfl (lv_room (Nat.le_of_ble_eq_true rfl)) dL_law_305 hc0) (fun H locs h => ?_)
  obtain ⟨v6, ev6, hf⟩ := lt_e hf
  rw [← ev6] at h
  refine lv_icmp_eq (tgt := 1839) hx hb dL_law_308 (by decide) (fun c7 => ?_) (fun c7 => ?_)
  · have hf := it_t c7 hf
    have hf := sm_e hf
    subst hf
    refine W.widen (k := cells + 1) (n := slots + 6) (by omega) (by omega) ?_
    exact kk H locs ls h (lv_sub hl [0, 1, 2, 3, 4] rfl)
  · have hf := it_f c7 hf
    cases hf
def m_law_3 (v : xSt) (xs : Nat → Int32) (L : Nat) (i : Int32) : Option xSt := ck (¬ ((i + (1 : Int32)) < 0 ∨ L ≤ (i + (1 : Int32)).toNatClampNeg)) (ob (m_L_write v (xs (i + (1 : Int32)).toNatClampNeg)) (fun r2 => lt (pu 0 431 v r2.2) (fun v4 => ck (¬ ((i + (1 : Int32)) < 0 ∨ L ≤ (i + (1 : Int32)).toNatClampNeg)) (ob (m_X9_write (sh 431 v4) (xs (i + (1 : Int32)).toNatClampNeg)) (fun r7 => lt (pu 431 8 v4 r7.2) (fun v8 => ob (m_X9_thrown (sh 431 v8)) (fun r10 => (if r10 = r2.1 then (if r2.1 = 0 then (if (lg_cmp ((v8 430 0).toInt64) ((r7.1).toInt64)) = 0 then some v8 else none) else some v8) else none))))))))
set_option maxHeartbeats 4000000 in
set_option maxRecDepth 100000 in
theorem k_law_3 {p : Program} {l : Launch} {e : Env} {R : Room} {s : State} {m : MethodId} {args : Array Value} {below : List Frame} {meth : Method} {c : Code} {H : Heap} {locs : List Loc} {cells slots : Nat} {Q : State → Prop} {G : xGl} {sa q : Nat → Nat} {v : xSt} {A : Nat → Prop} {ls : Array Slot} {b L : Nat} {xs : Nat → Int32} {i : Int32} (hst : l.stackTraces = false) (hC : CallFix p m c cL_law 9 s args lw_tbl RL) (hin : ∀ w ∈ wG, w ∈ lw_tbl) (hT : xT G sa A s s.heap) (hX : va_X b L xs s s.heap) (hbl : b < s.heap.size) (hbA : ¬ A b) (hcs : cells + 1 ≤ room_1.cells ∧ slots + 6 ≤ room_1.slots) (h : hg G (LW G) 439 q v A s H locs) (hl : lv_has ls 9 [(0, .ref b), (1, .ref (q 0)), (2, .ref (q 431)), (3, .ref (q 430)), (4, .int i)]) {z : xSt} (hf : m_law_3 v xs L i = some z) (kk : ∀ (H : Heap) (locs : List Loc) (ls : Array Slot), hg G (LW G) 439 q z A s H locs → lv_has ls 9 [(0, .ref b), (1, .ref (q 0)), (2, .ref (q 431)), (3, .ref (q 430)), (4, .int i)] → W p l e room_1 s m args below meth c H locs (cells + 1) (slots + 6) Q (F0 m 1839 ls [])) : W p l e room_1 s m args below meth c H locs cells slots Q (F0 m 313 ls []) := by
  have hx := hC.1
  have hb := hC.2.1
  have hc0 : cells ≤ room_1.cells ∧ slots ≤ room_1.slots := ⟨Nat.le_of_succ_le hcs.1, Nat.le_trans (Nat.le_add_right _ _) hcs.2⟩
  unfold m_law_3 at hf
  refine lv_aload_n hx hb dL_law_313 rfl (lv_at hl 1 rfl) ?_
  refine lv_aload_n hx hb dL_law_314 rfl (lv_at hl 0 rfl) ?_
  refine lv_iload hx hb dL_law_315 (lv_at hl 4 rfl) ?_
  refine lv_iconst (v := (1 : Int32)) hx hb dL_law_317 (by decide) ?_
  refine lv_iadd hx hb dL_law_318 ?_
  obtain ⟨hi1, hf⟩ := ck_e hf
  refine va_sld hx hb hX hbl hbA h.1.2.2.1 hi1 dL_law_319 ?_
  refine lv_aload_n hx hb dL_law_320 rfl (lv_at hl 3 rfl) ?_
  obtain ⟨r2, hy3, hf⟩ := ob_e hf
  refine xipc h 431 sLW_0 (Nat.le_of_ble_eq_true rfl) (vx_runSW (As := [.ref (q 0), .int (xs (i + (1 : Int32)).toNatClampNeg), .ref (q 430)]) (rest := []) hC (c_L_write l G sa q v (xs (i + (1 : Int32)).toNatClampNeg) hy3 H.size) (xcgSW hC hin lk_L_115 in_L co_L_write st_L_write rfl rfl dd_L_write ⟨Nat.le_of_ble_eq_true rfl, Nat.le_of_ble_eq_true rfl⟩) (preSP h hT 431 sLW_0 (Nat.le_of_ble_eq_true rfl) [.ref (q 0), .int (xs (i + (1 : Int32)).toNatClampNeg), .ref (q 430)]) rfl rfl hl.1 rfl (lv_room (Nat.le_of_ble_eq_true rfl)) dL_law_321 ⟨Nat.le_of_succ_le hcs.1, Nat.le_trans (Nat.le_add_right _ _) hcs.2⟩) (fun H locs h => ?_)
  obtain ⟨v4, ev4, hf⟩ := lt_e hf
  rw [← ev4] at h
  refine lv_istore (lv' := [(5, .int r2.1), (0, .ref b), (1, .ref (q 0)), (2, .ref (q 431)), (3, .ref (q 430)), (4, .int i)]) hx hb dL_law_324 hl (by decide) rfl (fun ls hl => ?_)
  refine lv_aload_n hx hb dL_law_326 rfl (lv_at hl 3 rfl) ?_
  refine lv_aload_n hx hb dL_law_327 rfl (lv_at hl 1 rfl) ?_
  refine lv_iload hx hb dL_law_328 (lv_at hl 5 rfl) ?_
  refine lv_iconst (v := (1 : Int32)) hx hb dL_law_330 (by decide) ?_
  refine lv_iadd hx hb dL_law_331 ?_
  obtain ⟨hi5, hf⟩ := ck_e hf
  refine va_sld hx hb hX hbl hbA h.1.2.2.1 hi5 dL_law_332 ?_
  obtain ⟨r7, hy6, hf⟩ := ob_e hf
  refine xi1 h 431 8 sLW_431 (Nat.le_of_ble_eq_true rfl) (va_runV (As := [.int (xs (i + (1 : Int32)).toNatClampNeg)]) (rest := []) hC (c_X9_write l G (sh 431 q) (sh 431 v4) (xs (i + (1 : Int32)).toNatClampNeg) hy6 H.size) (xcgV hC hin lk_L_117 in_X9 co_X9_write im_X9_write se_X9_write rfl rfl dd_X9_write ⟨Nat.le_of_ble_eq_true rfl, Nat.le_of_ble_eq_true rfl⟩) (preV1 h 431 8 sLW_431 (Nat.le_of_ble_eq_true rfl) (Nat.le_of_ble_eq_true rfl) eLW_431 rfl [.int (xs (i + (1 : Int32)).toNatClampNeg)]) rfl rfl hl.1 rfl (lv_room (Nat.le_of_ble_eq_true rfl)) dL_law_333 hc0) (fun H locs h => ?_)
  obtain ⟨v8, ev8, hf⟩ := lt_e hf
  rw [← ev8] at h
  refine lv_istore (lv' := [(6, .int r7.1), (5, .int r2.1), (0, .ref b), (1, .ref (q 0)), (2, .ref (q 431)), (3, .ref (q 430)), (4, .int i)]) hx hb dL_law_336 hl (by decide) rfl (fun ls hl => ?_)
  refine lv_aload_n hx hb dL_law_338 rfl (lv_at hl 4 rfl) ?_
  obtain ⟨r10, hy9, hf⟩ := ob_e hf
  refine xiG h (va_runV (As := []) (rest := []) hC (c_X9_thrown l G (sh 431 q) (sh 431 v8) hy9 H.size) (xcgV hC hin lk_L_104 in_X9 co_X9_thrown im_X9_thrown se_X9_thrown rfl rfl dd_X9_thrown ⟨Nat.le_of_ble_eq_true rfl, Nat.le_of_ble_eq_true rfl⟩) (preVO h.o 431 8 sLW_431 (Nat.le_of_ble_eq_true rfl) (Nat.le_of_ble_eq_true rfl) eLW_431 rfl []) rfl rfl hl.1 rfl (lv_room (Nat.le_of_ble_eq_true rfl)) dL_law_339 hc0) (fun H locs h => ?_)
  refine lv_iload hx hb dL_law_342 (lv_at hl 1 rfl) ?_
  refine lv_icmp_eq (tgt := 349) hx hb dL_law_344 (by decide) (fun c11 => ?_) (fun c11 => ?_)
  · have hf := it_t c11 hf
    refine lv_iload hx hb dL_law_349 (lv_at hl 1 rfl) ?_
    refine lv_if_ne (tgt := 366) hx hb dL_law_351 (by decide) (fun c12 => ?_) (fun c12 => ?_)
    · have hf := it_f c12 hf
      refine lv_goto (tgt := 1839) hx hb dL_law_366 (by decide) ?_
      have hf := sm_e hf
      subst hf
      refine W.widen (k := cells + 1) (n := slots + 6) (by omega) (by omega) ?_
      exact kk H locs ls h (lv_sub hl [2, 3, 4, 5, 6] rfl)
    · have hf := it_t c12 hf
      refine lv_aload_n hx hb dL_law_354 rfl (lv_at hl 5 rfl) ?_
      refine lv_iconst (v := (0 : Int32)) hx hb dL_law_355 (by decide) ?_
      refine xlald hC h.o 430 (Nat.le_of_ble_eq_true rfl) eLW_430 dL_law_356 ?_
      refine lv_iload hx hb dL_law_357 (lv_at hl 0 rfl) ?_
      refine lv_i2l hx hb dL_law_359 rfl ?_
      refine W.lcmp hx hb dL_law_360 ?_
      refine lv_if_eq (tgt := 366) hx hb dL_law_361 (by decide) (fun c13 => ?_) (fun c13 => ?_)
      · have hf := it_t c13 hf
        refine lv_goto (tgt := 1839) hx hb dL_law_366 (by decide) ?_
        have hf := sm_e hf
        subst hf
        refine W.widen (k := cells + 1) (n := slots + 6) (by omega) (by omega) ?_
        exact kk H locs ls h (lv_sub hl [2, 3, 4, 5, 6] rfl)
      · have hf := it_f c13 hf
        cases hf
  · have hf := it_f c11 hf
    cases hf
def m_law_3_xIOB (v : xSt) (xs : Nat → Int32) (L : Nat) (i : Int32) : Option xSt := ck (¬ ((i + (1 : Int32)) < 0 ∨ L ≤ (i + (1 : Int32)).toNatClampNeg)) (ob (xthE xIOB (m_X8_write_t v (xs (i + (1 : Int32)).toNatClampNeg))) (fun r2 => lt (pu 0 431 v (pu 0 430 v r2)) (fun v4 => ck (¬ ((i + (1 : Int32)) < 0 ∨ L ≤ (i + (1 : Int32)).toNatClampNeg)) (ob (m_X9_write (sh 431 v4) (xs (i + (1 : Int32)).toNatClampNeg)) (fun r7 => lt (pu 431 8 v4 r7.2) (fun v8 => ob (m_X9_thrown (sh 431 v8)) (fun r10 => (if r10 = (1 : Int32) then (if (1 : Int32) = 0 then (if (lg_cmp ((v8 430 0).toInt64) ((r7.1).toInt64)) = 0 then some v8 else none) else some v8) else none))))))))
set_option maxHeartbeats 4000000 in
set_option maxRecDepth 100000 in
theorem k_law_3_xIOB {p : Program} {l : Launch} {e : Env} {R : Room} {s : State} {m : MethodId} {args : Array Value} {below : List Frame} {meth : Method} {c : Code} {H : Heap} {locs : List Loc} {cells slots : Nat} {Q : State → Prop} {G : xGl} {sa q : Nat → Nat} {v : xSt} {A : Nat → Prop} {ls : Array Slot} {b L : Nat} {xs : Nat → Int32} {i : Int32} (hst : l.stackTraces = false) (hC : CallFix p m c cL_law 9 s args lw_tbl RL) (hin : ∀ w ∈ wG, w ∈ lw_tbl) (hT : xT G sa A s s.heap) (hX : va_X b L xs s s.heap) (hbl : b < s.heap.size) (hbA : ¬ A b) (hcs : cells + 1 ≤ room_1.cells ∧ slots + 6 ≤ room_1.slots) (h : hg G (LW G) 439 q v A s H locs) (hl : lv_has ls 9 [(0, .ref b), (1, .ref (q 0)), (2, .ref (q 431)), (3, .ref (q 430)), (4, .int i)]) {z : xSt} (hf : m_law_3_xIOB v xs L i = some z) (kk : ∀ (H : Heap) (locs : List Loc) (ls : Array Slot), hg G (LW G) 439 q z A s H locs → lv_has ls 9 [(0, .ref b), (1, .ref (q 0)), (2, .ref (q 431)), (3, .ref (q 430)), (4, .int i)] → W p l e room_1 s m args below meth c H locs (cells + 1) (slots + 6) Q (F0 m 1839 ls [])) : W p l e room_1 s m args below meth c H locs cells slots Q (F0 m 313 ls []) := by
  have hx := hC.1
  have hb := hC.2.1
  have hc0 : cells ≤ room_1.cells ∧ slots ≤ room_1.slots := ⟨Nat.le_of_succ_le hcs.1, Nat.le_trans (Nat.le_add_right _ _) hcs.2⟩
  unfold m_law_3_xIOB at hf
  refine lv_aload_n hx hb dL_law_313 rfl (lv_at hl 1 rfl) ?_
  refine lv_aload_n hx hb dL_law_314 rfl (lv_at hl 0 rfl) ?_
  refine lv_iload hx hb dL_law_315 (lv_at hl 4 rfl) ?_
  refine lv_iconst (v := (1 : Int32)) hx hb dL_law_317 (by decide) ?_
  refine lv_iadd hx hb dL_law_318 ?_
  obtain ⟨hi1, hf⟩ := ck_e hf
  refine va_sld hx hb hX hbl hbA h.1.2.2.1 hi1 dL_law_319 ?_
  refine lv_aload_n hx hb dL_law_320 rfl (lv_at hl 3 rfl) ?_
  obtain ⟨r2, hy3, hf⟩ := ob_e hf
  refine xipc h 431 sLW_0 (Nat.le_of_ble_eq_true rfl) (vx_runSW (As := [.ref (q 0), .int (xs (i + (1 : Int32)).toNatClampNeg), .ref (q 430)]) (rest := []) hC (x_L_write_xIOB l hst G sa q v (xs (i + (1 : Int32)).toNatClampNeg) (xthE_e hy3) H.size) (xcgSW hC hin lk_L_115 in_L co_L_write st_L_write rfl rfl dd_L_write ⟨Nat.le_of_ble_eq_true rfl, Nat.le_of_ble_eq_true rfl⟩) (preSP h hT 431 sLW_0 (Nat.le_of_ble_eq_true rfl) [.ref (q 0), .int (xs (i + (1 : Int32)).toNatClampNeg), .ref (q 430)]) rfl rfl hl.1 rfl (lv_room (Nat.le_of_ble_eq_true rfl)) dL_law_321 hcs) (fun H locs h => ?_)
  obtain ⟨v4, ev4, hf⟩ := lt_e hf
  rw [← ev4] at h
  refine lv_istore (lv' := [(5, .int (1 : Int32)), (0, .ref b), (1, .ref (q 0)), (2, .ref (q 431)), (3, .ref (q 430)), (4, .int i)]) hx hb dL_law_324 hl (by decide) rfl (fun ls hl => ?_)
  refine lv_aload_n hx hb dL_law_326 rfl (lv_at hl 3 rfl) ?_
  refine lv_aload_n hx hb dL_law_327 rfl (lv_at hl 1 rfl) ?_
  refine lv_iload hx hb dL_law_328 (lv_at hl 5 rfl) ?_
  refine lv_iconst (v := (1 : Int32)) hx hb dL_law_330 (by decide) ?_
  refine lv_iadd hx hb dL_law_331 ?_
  obtain ⟨hi5, hf⟩ := ck_e hf
  refine va_sld hx hb hX hbl hbA h.1.2.2.1 hi5 dL_law_332 ?_
  obtain ⟨r7, hy6, hf⟩ := ob_e hf
  refine xi1 h 431 8 sLW_431 (Nat.le_of_ble_eq_true rfl) (va_runV (As := [.int (xs (i + (1 : Int32)).toNatClampNeg)]) (rest := []) hC (c_X9_write l G (sh 431 q) (sh 431 v4) (xs (i + (1 : Int32)).toNatClampNeg) hy6 H.size) (xcgV hC hin lk_L_117 in_X9 co_X9_write im_X9_write se_X9_write rfl rfl dd_X9_write ⟨Nat.le_of_ble_eq_true rfl, Nat.le_of_ble_eq_true rfl⟩) (preV1 h 431 8 sLW_431 (Nat.le_of_ble_eq_true rfl) (Nat.le_of_ble_eq_true rfl) eLW_431 rfl [.int (xs (i + (1 : Int32)).toNatClampNeg)]) rfl rfl hl.1 rfl (lv_room (Nat.le_of_ble_eq_true rfl)) dL_law_333 hcs) (fun H locs h => ?_)
  obtain ⟨v8, ev8, hf⟩ := lt_e hf
  rw [← ev8] at h
  refine lv_istore (lv' := [(6, .int r7.1), (5, .int (1 : Int32)), (0, .ref b), (1, .ref (q 0)), (2, .ref (q 431)), (3, .ref (q 430)), (4, .int i)]) hx hb dL_law_336 hl (by decide) rfl (fun ls hl => ?_)
  refine lv_aload_n hx hb dL_law_338 rfl (lv_at hl 4 rfl) ?_
  obtain ⟨r10, hy9, hf⟩ := ob_e hf
  refine xiG h (va_runV (As := []) (rest := []) hC (c_X9_thrown l G (sh 431 q) (sh 431 v8) hy9 H.size) (xcgV hC hin lk_L_104 in_X9 co_X9_thrown im_X9_thrown se_X9_thrown rfl rfl dd_X9_thrown ⟨Nat.le_of_ble_eq_true rfl, Nat.le_of_ble_eq_true rfl⟩) (preVO h.o 431 8 sLW_431 (Nat.le_of_ble_eq_true rfl) (Nat.le_of_ble_eq_true rfl) eLW_431 rfl []) rfl rfl hl.1 rfl (lv_room (Nat.le_of_ble_eq_true rfl)) dL_law_339 hcs) (fun H locs h => ?_)
  refine lv_iload hx hb dL_law_342 (lv_at hl 1 rfl) ?_
  refine lv_icmp_eq (tgt := 349) hx hb dL_law_344 (by decide) (fun c11 => ?_) (fun c11 => ?_)
  · have hf := it_t c11 hf
    refine lv_iload hx hb dL_law_349 (lv_at hl 1 rfl) ?_
    refine lv_if_ne (tgt := 366) hx hb dL_law_351 (by decide) (fun c12 => ?_) (fun c12 => ?_)
    · have hf := it_f c12 hf
      refine lv_goto (tgt := 1839) hx hb dL_law_366 (by decide) ?_
      have hf := sm_e hf
      subst hf
      refine W.widen (k := cells + 1) (n := slots + 6) (by omega) (by omega) ?_
      exact kk H locs ls h (lv_sub hl [2, 3, 4, 5, 6] rfl)
    · have hf := it_t c12 hf
      refine lv_aload_n hx hb dL_law_354 rfl (lv_at hl 5 rfl) ?_
      refine lv_iconst (v := (0 : Int32)) hx hb dL_law_355 (by decide) ?_
      refine xlald hC h.o 430 (Nat.le_of_ble_eq_true rfl) eLW_430 dL_law_356 ?_
      refine lv_iload hx hb dL_law_357 (lv_at hl 0 rfl) ?_
      refine lv_i2l hx hb dL_law_359 rfl ?_
      refine W.lcmp hx hb dL_law_360 ?_
      refine lv_if_eq (tgt := 366) hx hb dL_law_361 (by decide) (fun c13 => ?_) (fun c13 => ?_)
      · have hf := it_t c13 hf
        refine lv_goto (tgt := 1839) hx hb dL_law_366 (by decide) ?_
        have hf := sm_e hf
        subst hf
        refine W.widen (k := cells + 1) (n := slots + 6) (by omega) (by omega) ?_
        exact kk H locs ls h (lv_sub hl [2, 3, 4, 5, 6] rfl)
      · have hf := it_f c13 hf
        cases hf
  · have hf := it_f c11 hf
    cases hf
def m_law_3_xISE (v : xSt) (xs : Nat → Int32) (L : Nat) (i : Int32) : Option xSt := ck (¬ ((i + (1 : Int32)) < 0 ∨ L ≤ (i + (1 : Int32)).toNatClampNeg)) (ob (xthE xISE (m_X8_write_t v (xs (i + (1 : Int32)).toNatClampNeg))) (fun r2 => lt (pu 0 431 v (pu 0 430 v r2)) (fun v4 => ck (¬ ((i + (1 : Int32)) < 0 ∨ L ≤ (i + (1 : Int32)).toNatClampNeg)) (ob (m_X9_write (sh 431 v4) (xs (i + (1 : Int32)).toNatClampNeg)) (fun r7 => lt (pu 431 8 v4 r7.2) (fun v8 => ob (m_X9_thrown (sh 431 v8)) (fun r10 => (if r10 = (2 : Int32) then (if (2 : Int32) = 0 then (if (lg_cmp ((v8 430 0).toInt64) ((r7.1).toInt64)) = 0 then some v8 else none) else some v8) else none))))))))
set_option maxHeartbeats 4000000 in
set_option maxRecDepth 100000 in
theorem k_law_3_xISE {p : Program} {l : Launch} {e : Env} {R : Room} {s : State} {m : MethodId} {args : Array Value} {below : List Frame} {meth : Method} {c : Code} {H : Heap} {locs : List Loc} {cells slots : Nat} {Q : State → Prop} {G : xGl} {sa q : Nat → Nat} {v : xSt} {A : Nat → Prop} {ls : Array Slot} {b L : Nat} {xs : Nat → Int32} {i : Int32} (hst : l.stackTraces = false) (hC : CallFix p m c cL_law 9 s args lw_tbl RL) (hin : ∀ w ∈ wG, w ∈ lw_tbl) (hT : xT G sa A s s.heap) (hX : va_X b L xs s s.heap) (hbl : b < s.heap.size) (hbA : ¬ A b) (hcs : cells + 1 ≤ room_1.cells ∧ slots + 6 ≤ room_1.slots) (h : hg G (LW G) 439 q v A s H locs) (hl : lv_has ls 9 [(0, .ref b), (1, .ref (q 0)), (2, .ref (q 431)), (3, .ref (q 430)), (4, .int i)]) {z : xSt} (hf : m_law_3_xISE v xs L i = some z) (kk : ∀ (H : Heap) (locs : List Loc) (ls : Array Slot), hg G (LW G) 439 q z A s H locs → lv_has ls 9 [(0, .ref b), (1, .ref (q 0)), (2, .ref (q 431)), (3, .ref (q 430)), (4, .int i)] → W p l e room_1 s m args below meth c H locs (cells + 1) (slots + 6) Q (F0 m 1839 ls [])) : W p l e room_1 s m args below meth c H locs cells slots Q (F0 m 313 ls []) := by
  have hx := hC.1
  have hb := hC.2.1
  have hc0 : cells ≤ room_1.cells ∧ slots ≤ room_1.slots := ⟨Nat.le_of_succ_le hcs.1, Nat.le_trans (Nat.le_add_right _ _) hcs.2⟩
  unfold m_law_3_xISE at hf
  refine lv_aload_n hx hb dL_law_313 rfl (lv_at hl 1 rfl) ?_
  refine lv_aload_n hx hb dL_law_314 rfl (lv_at hl 0 rfl) ?_
  refine lv_iload hx hb dL_law_315 (lv_at hl 4 rfl) ?_
  refine lv_iconst (v := (1 : Int32)) hx hb dL_law_317 (by decide) ?_
  refine lv_iadd hx hb dL_law_318 ?_
  obtain ⟨hi1, hf⟩ := ck_e hf
  refine va_sld hx hb hX hbl hbA h.1.2.2.1 hi1 dL_law_319 ?_
  refine lv_aload_n hx hb dL_law_320 rfl (lv_at hl 3 rfl) ?_
  obtain ⟨r2, hy3, hf⟩ := ob_e hf
  refine xipc h 431 sLW_0 (Nat.le_of_ble_eq_true rfl) (vx_runSW (As := [.ref (q 0), .int (xs (i + (1 : Int32)).toNatClampNeg), .ref (q 430)]) (rest := []) hC (x_L_write_xISE l hst G sa q v (xs (i + (1 : Int32)).toNatClampNeg) (xthE_e hy3) H.size) (xcgSW hC hin lk_L_115 in_L co_L_write st_L_write rfl rfl dd_L_write ⟨Nat.le_of_ble_eq_true rfl, Nat.le_of_ble_eq_true rfl⟩) (preSP h hT 431 sLW_0 (Nat.le_of_ble_eq_true rfl) [.ref (q 0), .int (xs (i + (1 : Int32)).toNatClampNeg), .ref (q 430)]) rfl rfl hl.1 rfl (lv_room (Nat.le_of_ble_eq_true rfl)) dL_law_321 hcs) (fun H locs h => ?_)
  obtain ⟨v4, ev4, hf⟩ := lt_e hf
  rw [← ev4] at h
  refine lv_istore (lv' := [(5, .int (2 : Int32)), (0, .ref b), (1, .ref (q 0)), (2, .ref (q 431)), (3, .ref (q 430)), (4, .int i)]) hx hb dL_law_324 hl (by decide) rfl (fun ls hl => ?_)
  refine lv_aload_n hx hb dL_law_326 rfl (lv_at hl 3 rfl) ?_
  refine lv_aload_n hx hb dL_law_327 rfl (lv_at hl 1 rfl) ?_
  refine lv_iload hx hb dL_law_328 (lv_at hl 5 rfl) ?_
  refine lv_iconst (v := (1 : Int32)) hx hb dL_law_330 (by decide) ?_
  refine lv_iadd hx hb dL_law_331 ?_
  obtain ⟨hi5, hf⟩ := ck_e hf
  refine va_sld hx hb hX hbl hbA h.1.2.2.1 hi5 dL_law_332 ?_
  obtain ⟨r7, hy6, hf⟩ := ob_e hf
  refine xi1 h 431 8 sLW_431 (Nat.le_of_ble_eq_true rfl) (va_runV (As := [.int (xs (i + (1 : Int32)).toNatClampNeg)]) (rest := []) hC (c_X9_write l G (sh 431 q) (sh 431 v4) (xs (i + (1 : Int32)).toNatClampNeg) hy6 H.size) (xcgV hC hin lk_L_117 in_X9 co_X9_write im_X9_write se_X9_write rfl rfl dd_X9_write ⟨Nat.le_of_ble_eq_true rfl, Nat.le_of_ble_eq_true rfl⟩) (preV1 h 431 8 sLW_431 (Nat.le_of_ble_eq_true rfl) (Nat.le_of_ble_eq_true rfl) eLW_431 rfl [.int (xs (i + (1 : Int32)).toNatClampNeg)]) rfl rfl hl.1 rfl (lv_room (Nat.le_of_ble_eq_true rfl)) dL_law_333 hcs) (fun H locs h => ?_)
  obtain ⟨v8, ev8, hf⟩ := lt_e hf
  rw [← ev8] at h
  refine lv_istore (lv' := [(6, .int r7.1), (5, .int (2 : Int32)), (0, .ref b), (1, .ref (q 0)), (2, .ref (q 431)), (3, .ref (q 430)), (4, .int i)]) hx hb dL_law_336 hl (by decide) rfl (fun ls hl => ?_)
  refine lv_aload_n hx hb dL_law_338 rfl (lv_at hl 4 rfl) ?_
  obtain ⟨r10, hy9, hf⟩ := ob_e hf
  refine xiG h (va_runV (As := []) (rest := []) hC (c_X9_thrown l G (sh 431 q) (sh 431 v8) hy9 H.size) (xcgV hC hin lk_L_104 in_X9 co_X9_thrown im_X9_thrown se_X9_thrown rfl rfl dd_X9_thrown ⟨Nat.le_of_ble_eq_true rfl, Nat.le_of_ble_eq_true rfl⟩) (preVO h.o 431 8 sLW_431 (Nat.le_of_ble_eq_true rfl) (Nat.le_of_ble_eq_true rfl) eLW_431 rfl []) rfl rfl hl.1 rfl (lv_room (Nat.le_of_ble_eq_true rfl)) dL_law_339 hcs) (fun H locs h => ?_)
  refine lv_iload hx hb dL_law_342 (lv_at hl 1 rfl) ?_
  refine lv_icmp_eq (tgt := 349) hx hb dL_law_344 (by decide) (fun c11 => ?_) (fun c11 => ?_)
  · have hf := it_t c11 hf
    refine lv_iload hx hb dL_law_349 (lv_at hl 1 rfl) ?_
    refine lv_if_ne (tgt := 366) hx hb dL_law_351 (by decide) (fun c12 => ?_) (fun c12 => ?_)
    · have hf := it_f c12 hf
      refine lv_goto (tgt := 1839) hx hb dL_law_366 (by decide) ?_
      have hf := sm_e hf
      subst hf
      refine W.widen (k := cells + 1) (n := slots + 6) (by omega) (by omega) ?_
      exact kk H locs ls h (lv_sub hl [2, 3, 4, 5, 6] rfl)
    · have hf := it_t c12 hf
      refine lv_aload_n hx hb dL_law_354 rfl (lv_at hl 5 rfl) ?_
      refine lv_iconst (v := (0 : Int32)) hx hb dL_law_355 (by decide) ?_
      refine xlald hC h.o 430 (Nat.le_of_ble_eq_true rfl) eLW_430 dL_law_356 ?_
      refine lv_iload hx hb dL_law_357 (lv_at hl 0 rfl) ?_
      refine lv_i2l hx hb dL_law_359 rfl ?_
      refine W.lcmp hx hb dL_law_360 ?_
      refine lv_if_eq (tgt := 366) hx hb dL_law_361 (by decide) (fun c13 => ?_) (fun c13 => ?_)
      · have hf := it_t c13 hf
        refine lv_goto (tgt := 1839) hx hb dL_law_366 (by decide) ?_
        have hf := sm_e hf
        subst hf
        refine W.widen (k := cells + 1) (n := slots + 6) (by omega) (by omega) ?_
        exact kk H locs ls h (lv_sub hl [2, 3, 4, 5, 6] rfl)
      · have hf := it_f c13 hf
        cases hf
  · have hf := it_f c11 hf
    cases hf
def m_law_4 (v : xSt) (xs : Nat → Int32) (L : Nat) (i : Int32) : Option xSt := ck (¬ ((i + (1 : Int32)) < 0 ∨ L ≤ (i + (1 : Int32)).toNatClampNeg)) (ob (m_L_erase v (xs (i + (1 : Int32)).toNatClampNeg)) (fun r2 => lt (pu 0 431 v r2.2) (fun v4 => ck (¬ ((i + (1 : Int32)) < 0 ∨ L ≤ (i + (1 : Int32)).toNatClampNeg)) (ob (m_X9_erase (sh 431 v4) (xs (i + (1 : Int32)).toNatClampNeg)) (fun r7 => lt (pu 431 8 v4 r7.2) (fun v8 => ob (m_X9_thrown (sh 431 v8)) (fun r10 => (if r10 = r2.1 then (if r2.1 = 0 then (if (lg_cmp ((v8 430 0).toInt64) ((r7.1).toInt64)) = 0 then some v8 else none) else some v8) else none))))))))
set_option maxHeartbeats 4000000 in
set_option maxRecDepth 100000 in
theorem k_law_4 {p : Program} {l : Launch} {e : Env} {R : Room} {s : State} {m : MethodId} {args : Array Value} {below : List Frame} {meth : Method} {c : Code} {H : Heap} {locs : List Loc} {cells slots : Nat} {Q : State → Prop} {G : xGl} {sa q : Nat → Nat} {v : xSt} {A : Nat → Prop} {ls : Array Slot} {b L : Nat} {xs : Nat → Int32} {i : Int32} (hst : l.stackTraces = false) (hC : CallFix p m c cL_law 9 s args lw_tbl RL) (hin : ∀ w ∈ wG, w ∈ lw_tbl) (hT : xT G sa A s s.heap) (hX : va_X b L xs s s.heap) (hbl : b < s.heap.size) (hbA : ¬ A b) (hcs : cells + 1 ≤ room_1.cells ∧ slots + 6 ≤ room_1.slots) (h : hg G (LW G) 439 q v A s H locs) (hl : lv_has ls 9 [(0, .ref b), (1, .ref (q 0)), (2, .ref (q 431)), (3, .ref (q 430)), (4, .int i)]) {z : xSt} (hf : m_law_4 v xs L i = some z) (kk : ∀ (H : Heap) (locs : List Loc) (ls : Array Slot), hg G (LW G) 439 q z A s H locs → lv_has ls 9 [(0, .ref b), (1, .ref (q 0)), (2, .ref (q 431)), (3, .ref (q 430)), (4, .int i)] → W p l e room_1 s m args below meth c H locs (cells + 1) (slots + 6) Q (F0 m 1839 ls [])) : W p l e room_1 s m args below meth c H locs cells slots Q (F0 m 369 ls []) := by
  have hx := hC.1
  have hb := hC.2.1
  have hc0 : cells ≤ room_1.cells ∧ slots ≤ room_1.slots := ⟨Nat.le_of_succ_le hcs.1, Nat.le_trans (Nat.le_add_right _ _) hcs.2⟩
  unfold m_law_4 at hf
  refine lv_aload_n hx hb dL_law_369 rfl (lv_at hl 1 rfl) ?_
  refine lv_aload_n hx hb dL_law_370 rfl (lv_at hl 0 rfl) ?_
  refine lv_iload hx hb dL_law_371 (lv_at hl 4 rfl) ?_
  refine lv_iconst (v := (1 : Int32)) hx hb dL_law_373 (by decide) ?_
  refine lv_iadd hx hb dL_law_374 ?_
  obtain ⟨hi1, hf⟩ := ck_e hf
  refine va_sld hx hb hX hbl hbA h.1.2.2.1 hi1 dL_law_375 ?_
  refine lv_aload_n hx hb dL_law_376 rfl (lv_at hl 3 rfl) ?_
  obtain ⟨r2, hy3, hf⟩ := ob_e hf
  refine xipc h 431 sLW_0 (Nat.le_of_ble_eq_true rfl) (vx_runSW (As := [.ref (q 0), .int (xs (i + (1 : Int32)).toNatClampNeg), .ref (q 430)]) (rest := []) hC (c_L_erase l G sa q v (xs (i + (1 : Int32)).toNatClampNeg) hy3 H.size) (xcgSW hC hin lk_L_118 in_L co_L_erase st_L_erase rfl rfl dd_L_erase ⟨Nat.le_of_ble_eq_true rfl, Nat.le_of_ble_eq_true rfl⟩) (preSP h hT 431 sLW_0 (Nat.le_of_ble_eq_true rfl) [.ref (q 0), .int (xs (i + (1 : Int32)).toNatClampNeg), .ref (q 430)]) rfl rfl hl.1 rfl (lv_room (Nat.le_of_ble_eq_true rfl)) dL_law_377 ⟨Nat.le_of_succ_le hcs.1, Nat.le_trans (Nat.le_add_right _ _) hcs.2⟩) (fun H locs h => ?_)
  obtain ⟨v4, ev4, hf⟩ := lt_e hf
  rw [← ev4] at h
  refine lv_istore (lv' := [(5, .int r2.1), (0, .ref b), (1, .ref (q 0)), (2, .ref (q 431)), (3, .ref (q 430)), (4, .int i)]) hx hb dL_law_380 hl (by decide) rfl (fun ls hl => ?_)
  refine lv_aload_n hx hb dL_law_382 rfl (lv_at hl 3 rfl) ?_
  refine lv_aload_n hx hb dL_law_383 rfl (lv_at hl 1 rfl) ?_
  refine lv_iload hx hb dL_law_384 (lv_at hl 5 rfl) ?_
  refine lv_iconst (v := (1 : Int32)) hx hb dL_law_386 (by decide) ?_
  refine lv_iadd hx hb dL_law_387 ?_
  obtain ⟨hi5, hf⟩ := ck_e hf
  refine va_sld hx hb hX hbl hbA h.1.2.2.1 hi5 dL_law_388 ?_
  obtain ⟨r7, hy6, hf⟩ := ob_e hf
  refine xi1 h 431 8 sLW_431 (Nat.le_of_ble_eq_true rfl) (va_runV (As := [.int (xs (i + (1 : Int32)).toNatClampNeg)]) (rest := []) hC (c_X9_erase l G (sh 431 q) (sh 431 v4) (xs (i + (1 : Int32)).toNatClampNeg) hy6 H.size) (xcgV hC hin lk_L_120 in_X9 co_X9_erase im_X9_erase se_X9_erase rfl rfl dd_X9_erase ⟨Nat.le_of_ble_eq_true rfl, Nat.le_of_ble_eq_true rfl⟩) (preV1 h 431 8 sLW_431 (Nat.le_of_ble_eq_true rfl) (Nat.le_of_ble_eq_true rfl) eLW_431 rfl [.int (xs (i + (1 : Int32)).toNatClampNeg)]) rfl rfl hl.1 rfl (lv_room (Nat.le_of_ble_eq_true rfl)) dL_law_389 hc0) (fun H locs h => ?_)
  obtain ⟨v8, ev8, hf⟩ := lt_e hf
  rw [← ev8] at h
  refine lv_istore (lv' := [(6, .int r7.1), (5, .int r2.1), (0, .ref b), (1, .ref (q 0)), (2, .ref (q 431)), (3, .ref (q 430)), (4, .int i)]) hx hb dL_law_392 hl (by decide) rfl (fun ls hl => ?_)
  refine lv_aload_n hx hb dL_law_394 rfl (lv_at hl 4 rfl) ?_
  obtain ⟨r10, hy9, hf⟩ := ob_e hf
  refine xiG h (va_runV (As := []) (rest := []) hC (c_X9_thrown l G (sh 431 q) (sh 431 v8) hy9 H.size) (xcgV hC hin lk_L_104 in_X9 co_X9_thrown im_X9_thrown se_X9_thrown rfl rfl dd_X9_thrown ⟨Nat.le_of_ble_eq_true rfl, Nat.le_of_ble_eq_true rfl⟩) (preVO h.o 431 8 sLW_431 (Nat.le_of_ble_eq_true rfl) (Nat.le_of_ble_eq_true rfl) eLW_431 rfl []) rfl rfl hl.1 rfl (lv_room (Nat.le_of_ble_eq_true rfl)) dL_law_395 hc0) (fun H locs h => ?_)
  refine lv_iload hx hb dL_law_398 (lv_at hl 1 rfl) ?_
  refine lv_icmp_eq (tgt := 405) hx hb dL_law_400 (by decide) (fun c11 => ?_) (fun c11 => ?_)
  · have hf := it_t c11 hf
    refine lv_iload hx hb dL_law_405 (lv_at hl 1 rfl) ?_
    refine lv_if_ne (tgt := 422) hx hb dL_law_407 (by decide) (fun c12 => ?_) (fun c12 => ?_)
    · have hf := it_f c12 hf
      refine lv_goto (tgt := 1839) hx hb dL_law_422 (by decide) ?_
      have hf := sm_e hf
      subst hf
      refine W.widen (k := cells + 1) (n := slots + 6) (by omega) (by omega) ?_
      exact kk H locs ls h (lv_sub hl [2, 3, 4, 5, 6] rfl)
    · have hf := it_t c12 hf
      refine lv_aload_n hx hb dL_law_410 rfl (lv_at hl 5 rfl) ?_
      refine lv_iconst (v := (0 : Int32)) hx hb dL_law_411 (by decide) ?_
      refine xlald hC h.o 430 (Nat.le_of_ble_eq_true rfl) eLW_430 dL_law_412 ?_
      refine lv_iload hx hb dL_law_413 (lv_at hl 0 rfl) ?_
      refine lv_i2l hx hb dL_law_415 rfl ?_
      refine W.lcmp hx hb dL_law_416 ?_
      refine lv_if_eq (tgt := 422) hx hb dL_law_417 (by decide) (fun c13 => ?_) (fun c13 => ?_)
      · have hf := it_t c13 hf
        refine lv_goto (tgt := 1839) hx hb dL_law_422 (by decide) ?_
        have hf := sm_e hf
        subst hf
        refine W.widen (k := cells + 1) (n := slots + 6) (by omega) (by omega) ?_
        exact kk H locs ls h (lv_sub hl [2, 3, 4, 5, 6] rfl)
      · have hf := it_f c13 hf
        cases hf
  · have hf := it_f c11 hf
    cases hf
def m_law_4_xIOB (v : xSt) (xs : Nat → Int32) (L : Nat) (i : Int32) : Option xSt := ck (¬ ((i + (1 : Int32)) < 0 ∨ L ≤ (i + (1 : Int32)).toNatClampNeg)) (ob (xthE xIOB (m_X8_erase_t v (xs (i + (1 : Int32)).toNatClampNeg))) (fun r2 => lt (pu 0 431 v (pu 0 430 v r2)) (fun v4 => ck (¬ ((i + (1 : Int32)) < 0 ∨ L ≤ (i + (1 : Int32)).toNatClampNeg)) (ob (m_X9_erase (sh 431 v4) (xs (i + (1 : Int32)).toNatClampNeg)) (fun r7 => lt (pu 431 8 v4 r7.2) (fun v8 => ob (m_X9_thrown (sh 431 v8)) (fun r10 => (if r10 = (1 : Int32) then (if (1 : Int32) = 0 then (if (lg_cmp ((v8 430 0).toInt64) ((r7.1).toInt64)) = 0 then some v8 else none) else some v8) else none))))))))
set_option maxHeartbeats 4000000 in
set_option maxRecDepth 100000 in
theorem k_law_4_xIOB {p : Program} {l : Launch} {e : Env} {R : Room} {s : State} {m : MethodId} {args : Array Value} {below : List Frame} {meth : Method} {c : Code} {H : Heap} {locs : List Loc} {cells slots : Nat} {Q : State → Prop} {G : xGl} {sa q : Nat → Nat} {v : xSt} {A : Nat → Prop} {ls : Array Slot} {b L : Nat} {xs : Nat → Int32} {i : Int32} (hst : l.stackTraces = false) (hC : CallFix p m c cL_law 9 s args lw_tbl RL) (hin : ∀ w ∈ wG, w ∈ lw_tbl) (hT : xT G sa A s s.heap) (hX : va_X b L xs s s.heap) (hbl : b < s.heap.size) (hbA : ¬ A b) (hcs : cells + 1 ≤ room_1.cells ∧ slots + 6 ≤ room_1.slots) (h : hg G (LW G) 439 q v A s H locs) (hl : lv_has ls 9 [(0, .ref b), (1, .ref (q 0)), (2, .ref (q 431)), (3, .ref (q 430)), (4, .int i)]) {z : xSt} (hf : m_law_4_xIOB v xs L i = some z) (kk : ∀ (H : Heap) (locs : List Loc) (ls : Array Slot), hg G (LW G) 439 q z A s H locs → lv_has ls 9 [(0, .ref b), (1, .ref (q 0)), (2, .ref (q 431)), (3, .ref (q 430)), (4, .int i)] → W p l e room_1 s m args below meth c H locs (cells + 1) (slots + 6) Q (F0 m 1839 ls [])) : W p l e room_1 s m args below meth c H locs cells slots Q (F0 m 369 ls []) := by
  have hx := hC.1
  have hb := hC.2.1
  have hc0 : cells ≤ room_1.cells ∧ slots ≤ room_1.slots := ⟨Nat.le_of_succ_le hcs.1, Nat.le_trans (Nat.le_add_right _ _) hcs.2⟩
  unfold m_law_4_xIOB at hf
  refine lv_aload_n hx hb dL_law_369 rfl (lv_at hl 1 rfl) ?_
  refine lv_aload_n hx hb dL_law_370 rfl (lv_at hl 0 rfl) ?_
  refine lv_iload hx hb dL_law_371 (lv_at hl 4 rfl) ?_
  refine lv_iconst (v := (1 : Int32)) hx hb dL_law_373 (by decide) ?_
  refine lv_iadd hx hb dL_law_374 ?_
  obtain ⟨hi1, hf⟩ := ck_e hf
  refine va_sld hx hb hX hbl hbA h.1.2.2.1 hi1 dL_law_375 ?_
  refine lv_aload_n hx hb dL_law_376 rfl (lv_at hl 3 rfl) ?_
  obtain ⟨r2, hy3, hf⟩ := ob_e hf
  refine xipc h 431 sLW_0 (Nat.le_of_ble_eq_true rfl) (vx_runSW (As := [.ref (q 0), .int (xs (i + (1 : Int32)).toNatClampNeg), .ref (q 430)]) (rest := []) hC (x_L_erase_xIOB l hst G sa q v (xs (i + (1 : Int32)).toNatClampNeg) (xthE_e hy3) H.size) (xcgSW hC hin lk_L_118 in_L co_L_erase st_L_erase rfl rfl dd_L_erase ⟨Nat.le_of_ble_eq_true rfl, Nat.le_of_ble_eq_true rfl⟩) (preSP h hT 431 sLW_0 (Nat.le_of_ble_eq_true rfl) [.ref (q 0), .int (xs (i + (1 : Int32)).toNatClampNeg), .ref (q 430)]) rfl rfl hl.1 rfl (lv_room (Nat.le_of_ble_eq_true rfl)) dL_law_377 hcs) (fun H locs h => ?_)
  obtain ⟨v4, ev4, hf⟩ := lt_e hf
  rw [← ev4] at h
  refine lv_istore (lv' := [(5, .int (1 : Int32)), (0, .ref b), (1, .ref (q 0)), (2, .ref (q 431)), (3, .ref (q 430)), (4, .int i)]) hx hb dL_law_380 hl (by decide) rfl (fun ls hl => ?_)
  refine lv_aload_n hx hb dL_law_382 rfl (lv_at hl 3 rfl) ?_
  refine lv_aload_n hx hb dL_law_383 rfl (lv_at hl 1 rfl) ?_
  refine lv_iload hx hb dL_law_384 (lv_at hl 5 rfl) ?_
  refine lv_iconst (v := (1 : Int32)) hx hb dL_law_386 (by decide) ?_
  refine lv_iadd hx hb dL_law_387 ?_
  obtain ⟨hi5, hf⟩ := ck_e hf
  refine va_sld hx hb hX hbl hbA h.1.2.2.1 hi5 dL_law_388 ?_
  obtain ⟨r7, hy6, hf⟩ := ob_e hf
  refine xi1 h 431 8 sLW_431 (Nat.le_of_ble_eq_true rfl) (va_runV (As := [.int (xs (i + (1 : Int32)).toNatClampNeg)]) (rest := []) hC (c_X9_erase l G (sh 431 q) (sh 431 v4) (xs (i + (1 : Int32)).toNatClampNeg) hy6 H.size) (xcgV hC hin lk_L_120 in_X9 co_X9_erase im_X9_erase se_X9_erase rfl rfl dd_X9_erase ⟨Nat.le_of_ble_eq_true rfl, Nat.le_of_ble_eq_true rfl⟩) (preV1 h 431 8 sLW_431 (Nat.le_of_ble_eq_true rfl) (Nat.le_of_ble_eq_true rfl) eLW_431 rfl [.int (xs (i + (1 : Int32)).toNatClampNeg)]) rfl rfl hl.1 rfl (lv_room (Nat.le_of_ble_eq_true rfl)) dL_law_389 hcs) (fun H locs h => ?_)
  obtain ⟨v8, ev8, hf⟩ := lt_e hf
  rw [← ev8] at h
  refine lv_istore (lv' := [(6, .int r7.1), (5, .int (1 : Int32)), (0, .ref b), (1, .ref (q 0)), (2, .ref (q 431)), (3, .ref (q 430)), (4, .int i)]) hx hb dL_law_392 hl (by decide) rfl (fun ls hl => ?_)
  refine lv_aload_n hx hb dL_law_394 rfl (lv_at hl 4 rfl) ?_
  obtain ⟨r10, hy9, hf⟩ := ob_e hf
  refine xiG h (va_runV (As := []) (rest := []) hC (c_X9_thrown l G (sh 431 q) (sh 431 v8) hy9 H.size) (xcgV hC hin lk_L_104 in_X9 co_X9_thrown im_X9_thrown se_X9_thrown rfl rfl dd_X9_thrown ⟨Nat.le_of_ble_eq_true rfl, Nat.le_of_ble_eq_true rfl⟩) (preVO h.o 431 8 sLW_431 (Nat.le_of_ble_eq_true rfl) (Nat.le_of_ble_eq_true rfl) eLW_431 rfl []) rfl rfl hl.1 rfl (lv_room (Nat.le_of_ble_eq_true rfl)) dL_law_395 hcs) (fun H locs h => ?_)
  refine lv_iload hx hb dL_law_398 (lv_at hl 1 rfl) ?_
  refine lv_icmp_eq (tgt := 405) hx hb dL_law_400 (by decide) (fun c11 => ?_) (fun c11 => ?_)
  · have hf := it_t c11 hf
    refine lv_iload hx hb dL_law_405 (lv_at hl 1 rfl) ?_
    refine lv_if_ne (tgt := 422) hx hb dL_law_407 (by decide) (fun c12 => ?_) (fun c12 => ?_)
    · have hf := it_f c12 hf
      refine lv_goto (tgt := 1839) hx hb dL_law_422 (by decide) ?_
      have hf := sm_e hf
      subst hf
      refine W.widen (k := cells + 1) (n := slots + 6) (by omega) (by omega) ?_
      exact kk H locs ls h (lv_sub hl [2, 3, 4, 5, 6] rfl)
    · have hf := it_t c12 hf
      refine lv_aload_n hx hb dL_law_410 rfl (lv_at hl 5 rfl) ?_
      refine lv_iconst (v := (0 : Int32)) hx hb dL_law_411 (by decide) ?_
      refine xlald hC h.o 430 (Nat.le_of_ble_eq_true rfl) eLW_430 dL_law_412 ?_
      refine lv_iload hx hb dL_law_413 (lv_at hl 0 rfl) ?_
      refine lv_i2l hx hb dL_law_415 rfl ?_
      refine W.lcmp hx hb dL_law_416 ?_
      refine lv_if_eq (tgt := 422) hx hb dL_law_417 (by decide) (fun c13 => ?_) (fun c13 => ?_)
      · have hf := it_t c13 hf
        refine lv_goto (tgt := 1839) hx hb dL_law_422 (by decide) ?_
        have hf := sm_e hf
        subst hf
        refine W.widen (k := cells + 1) (n := slots + 6) (by omega) (by omega) ?_
        exact kk H locs ls h (lv_sub hl [2, 3, 4, 5, 6] rfl)
      · have hf := it_f c13 hf
        cases hf
  · have hf := it_f c11 hf
    cases hf
def m_law_4_xISE (v : xSt) (xs : Nat → Int32) (L : Nat) (i : Int32) : Option xSt := ck (¬ ((i + (1 : Int32)) < 0 ∨ L ≤ (i + (1 : Int32)).toNatClampNeg)) (ob (xthE xISE (m_X8_erase_t v (xs (i + (1 : Int32)).toNatClampNeg))) (fun r2 => lt (pu 0 431 v (pu 0 430 v r2)) (fun v4 => ck (¬ ((i + (1 : Int32)) < 0 ∨ L ≤ (i + (1 : Int32)).toNatClampNeg)) (ob (m_X9_erase (sh 431 v4) (xs (i + (1 : Int32)).toNatClampNeg)) (fun r7 => lt (pu 431 8 v4 r7.2) (fun v8 => ob (m_X9_thrown (sh 431 v8)) (fun r10 => (if r10 = (2 : Int32) then (if (2 : Int32) = 0 then (if (lg_cmp ((v8 430 0).toInt64) ((r7.1).toInt64)) = 0 then some v8 else none) else some v8) else none))))))))
set_option maxHeartbeats 4000000 in
set_option maxRecDepth 100000 in
theorem k_law_4_xISE {p : Program} {l : Launch} {e : Env} {R : Room} {s : State} {m : MethodId} {args : Array Value} {below : List Frame} {meth : Method} {c : Code} {H : Heap} {locs : List Loc} {cells slots : Nat} {Q : State → Prop} {G : xGl} {sa q : Nat → Nat} {v : xSt} {A : Nat → Prop} {ls : Array Slot} {b L : Nat} {xs : Nat → Int32} {i : Int32} (hst : l.stackTraces = false) (hC : CallFix p m c cL_law 9 s args lw_tbl RL) (hin : ∀ w ∈ wG, w ∈ lw_tbl) (hT : xT G sa A s s.heap) (hX : va_X b L xs s s.heap) (hbl : b < s.heap.size) (hbA : ¬ A b) (hcs : cells + 1 ≤ room_1.cells ∧ slots + 6 ≤ room_1.slots) (h : hg G (LW G) 439 q v A s H locs) (hl : lv_has ls 9 [(0, .ref b), (1, .ref (q 0)), (2, .ref (q 431)), (3, .ref (q 430)), (4, .int i)]) {z : xSt} (hf : m_law_4_xISE v xs L i = some z) (kk : ∀ (H : Heap) (locs : List Loc) (ls : Array Slot), hg G (LW G) 439 q z A s H locs → lv_has ls 9 [(0, .ref b), (1, .ref (q 0)), (2, .ref (q 431)), (3, .ref (q 430)), (4, .int i)] → W p l e room_1 s m args below meth c H locs (cells + 1) (slots + 6) Q (F0 m 1839 ls [])) : W p l e room_1 s m args below meth c H locs cells slots Q (F0 m 369 ls []) := by
  have hx := hC.1
  have hb := hC.2.1
  have hc0 : cells ≤ room_1.cells ∧ slots ≤ room_1.slots := ⟨Nat.le_of_succ_le hcs.1, Nat.le_trans (Nat.le_add_right _ _) hcs.2⟩
  unfold m_law_4_xISE at hf
  refine lv_aload_n hx hb dL_law_369 rfl (lv_at hl 1 rfl) ?_
  refine lv_aload_n hx hb dL_law_370 rfl (lv_at hl 0 rfl) ?_
  refine lv_iload hx hb dL_law_371 (lv_at hl 4 rfl) ?_
  refine lv_iconst (v := (1 : Int32)) hx hb dL_law_373 (by decide) ?_
  refine lv_iadd hx hb dL_law_374 ?_
  obtain ⟨hi1, hf⟩ := ck_e hf
  refine va_sld hx hb hX hbl hbA h.1.2.2.1 hi1 dL_law_375 ?_
  refine lv_aload_n hx hb dL_law_376 rfl (lv_at hl 3 rfl) ?_
  obtain ⟨r2, hy3, hf⟩ := ob_e hf
  refine xipc h 431 sLW_0 (Nat.le_of_ble_eq_true rfl) (vx_runSW (As := [.ref (q 0), .int (xs (i + (1 : Int32)).toNatClampNeg), .ref (q 430)]) (rest := []) hC (x_L_erase_xISE l hst G sa q v (xs (i + (1 : Int32)).toNatClampNeg) (xthE_e hy3) H.size) (xcgSW hC hin lk_L_118 in_L co_L_erase st_L_erase rfl rfl dd_L_erase ⟨Nat.le_of_ble_eq_true rfl, Nat.le_of_ble_eq_true rfl⟩) (preSP h hT 431 sLW_0 (Nat.le_of_ble_eq_true rfl) [.ref (q 0), .int (xs (i + (1 : Int32)).toNatClampNeg), .ref (q 430)]) rfl rfl hl.1 rfl (lv_room (Nat.le_of_ble_eq_true rfl)) dL_law_377 hcs) (fun H locs h => ?_)
  obtain ⟨v4, ev4, hf⟩ := lt_e hf
  rw [← ev4] at h
  refine lv_istore (lv' := [(5, .int (2 : Int32)), (0, .ref b), (1, .ref (q 0)), (2, .ref (q 431)), (3, .ref (q 430)), (4, .int i)]) hx hb dL_law_380 hl (by decide) rfl (fun ls hl => ?_)
  refine lv_aload_n hx hb dL_law_382 rfl (lv_at hl 3 rfl) ?_
  refine lv_aload_n hx hb dL_law_383 rfl (lv_at hl 1 rfl) ?_
  refine lv_iload hx hb dL_law_384 (lv_at hl 5 rfl) ?_
  refine lv_iconst (v := (1 : Int32)) hx hb dL_law_386 (by decide) ?_
  refine lv_iadd hx hb dL_law_387 ?_
  obtain ⟨hi5, hf⟩ := ck_e hf
  refine va_sld hx hb hX hbl hbA h.1.2.2.1 hi5 dL_law_388 ?_
  obtain ⟨r7, hy6, hf⟩ := ob_e hf
  refine xi1 h 431 8 sLW_431 (Nat.le_of_ble_eq_true rfl) (va_runV (As := [.int (xs (i + (1 : Int32)).toNatClampNeg)]) (rest := []) hC (c_X9_erase l G (sh 431 q) (sh 431 v4) (xs (i + (1 : Int32)).toNatClampNeg) hy6 H.size) (xcgV hC hin lk_L_120 in_X9 co_X9_erase im_X9_erase se_X9_erase rfl rfl dd_X9_erase ⟨Nat.le_of_ble_eq_true rfl, Nat.le_of_ble_eq_true rfl⟩) (preV1 h 431 8 sLW_431 (Nat.le_of_ble_eq_true rfl) (Nat.le_of_ble_eq_true rfl) eLW_431 rfl [.int (xs (i + (1 : Int32)).toNatClampNeg)]) rfl rfl hl.1 rfl (lv_room (Nat.le_of_ble_eq_true rfl)) dL_law_389 hcs) (fun H locs h => ?_)
  obtain ⟨v8, ev8, hf⟩ := lt_e hf
  rw [← ev8] at h
  refine lv_istore (lv' := [(6, .int r7.1), (5, .int (2 : Int32)), (0, .ref b), (1, .ref (q 0)), (2, .ref (q 431)), (3, .ref (q 430)), (4, .int i)]) hx hb dL_law_392 hl (by decide) rfl (fun ls hl => ?_)
  refine lv_aload_n hx hb dL_law_394 rfl (lv_at hl 4 rfl) ?_
  obtain ⟨r10, hy9, hf⟩ := ob_e hf
  refine xiG h (va_runV (As := []) (rest := []) hC (c_X9_thrown l G (sh 431 q) (sh 431 v8) hy9 H.size) (xcgV hC hin lk_L_104 in_X9 co_X9_thrown im_X9_thrown se_X9_thrown rfl rfl dd_X9_thrown ⟨Nat.le_of_ble_eq_true rfl, Nat.le_of_ble_eq_true rfl⟩) (preVO h.o 431 8 sLW_431 (Nat.le_of_ble_eq_true rfl) (Nat.le_of_ble_eq_true rfl) eLW_431 rfl []) rfl rfl hl.1 rfl (lv_room (Nat.le_of_ble_eq_true rfl)) dL_law_395 hcs) (fun H locs h => ?_)
  refine lv_iload hx hb dL_law_398 (lv_at hl 1 rfl) ?_
  refine lv_icmp_eq (tgt := 405) hx hb dL_law_400 (by decide) (fun c11 => ?_) (fun c11 => ?_)
  · have hf := it_t c11 hf
    refine lv_iload hx hb dL_law_405 (lv_at hl 1 rfl) ?_
    refine lv_if_ne (tgt := 422) hx hb dL_law_407 (by decide) (fun c12 => ?_) (fun c12 => ?_)
    · have hf := it_f c12 hf
      refine lv_goto (tgt := 1839) hx hb dL_law_422 (by decide) ?_
      have hf := sm_e hf
      subst hf
      refine W.widen (k := cells + 1) (n := slots + 6) (by omega) (by omega) ?_
      exact kk H locs ls h (lv_sub hl [2, 3, 4, 5, 6] rfl)
    · have hf := it_t c12 hf
      refine lv_aload_n hx hb dL_law_410 rfl (lv_at hl 5 rfl) ?_
      refine lv_iconst (v := (0 : Int32)) hx hb dL_law_411 (by decide) ?_
      refine xlald hC h.o 430 (Nat.le_of_ble_eq_true rfl) eLW_430 dL_law_412 ?_
      refine lv_iload hx hb dL_law_413 (lv_at hl 0 rfl) ?_
      refine lv_i2l hx hb dL_law_415 rfl ?_
      refine W.lcmp hx hb dL_law_416 ?_
      refine lv_if_eq (tgt := 422) hx hb dL_law_417 (by decide) (fun c13 => ?_) (fun c13 => ?_)
      · have hf := it_t c13 hf
        refine lv_goto (tgt := 1839) hx hb dL_law_422 (by decide) ?_
        have hf := sm_e hf
        subst hf
        refine W.widen (k := cells + 1) (n := slots + 6) (by omega) (by omega) ?_
        exact kk H locs ls h (lv_sub hl [2, 3, 4, 5, 6] rfl)
      · have hf := it_f c13 hf
        cases hf
  · have hf := it_f c11 hf
    cases hf
def m_law_5 (v : xSt) (xs : Nat → Int32) (L : Nat) (i : Int32) : Option xSt := ck (¬ ((i + (1 : Int32)) < 0 ∨ L ≤ (i + (1 : Int32)).toNatClampNeg)) (ck (¬ ((i + (2 : Int32)) < 0 ∨ L ≤ (i + (2 : Int32)).toNatClampNeg)) (ob (m_L_lock v (xs (i + (1 : Int32)).toNatClampNeg) (xs (i + (2 : Int32)).toNatClampNeg)) (fun r3 => lt (pu 0 431 v r3.2) (fun v5 => ck (¬ ((i + (1 : Int32)) < 0 ∨ L ≤ (i + (1 : Int32)).toNatClampNeg)) (ck (¬ ((i + (2 : Int32)) < 0 ∨ L ≤ (i + (2 : Int32)).toNatClampNeg)) (ob (m_X9_lock (sh 431 v5) (xs (i + (1 : Int32)).toNatClampNeg) (xs (i + (2 : Int32)).toNatClampNeg)) (fun r9 => lt (pu 431 8 v5 r9.2) (fun v10 => ob (m_X9_thrown (sh 431 v10)) (fun r12 => (if r12 = r3.1 then (if r3.1 = 0 then (if (lg_cmp ((v10 430 0).toInt64) ((r9.1).toInt64)) = 0 then some v10 else none) else some v10) else none))))))))))
set_option maxHeartbeats 4000000 in
set_option maxRecDepth 100000 in
theorem k_law_5 {p : Program} {l : Launch} {e : Env} {R : Room} {s : State} {m : MethodId} {args : Array Value} {below : List Frame} {meth : Method} {c : Code} {H : Heap} {locs : List Loc} {cells slots : Nat} {Q : State → Prop} {G : xGl} {sa q : Nat → Nat} {v : xSt} {A : Nat → Prop} {ls : Array Slot} {b L : Nat} {xs : Nat → Int32} {i : Int32} (hst : l.stackTraces = false) (hC : CallFix p m c cL_law 9 s args lw_tbl RL) (hin : ∀ w ∈ wG, w ∈ lw_tbl) (hT : xT G sa A s s.heap) (hX : va_X b L xs s s.heap) (hbl : b < s.heap.size) (hbA : ¬ A b) (hcs : cells + 1 ≤ room_1.cells ∧ slots + 6 ≤ room_1.slots) (h : hg G (LW G) 439 q v A s H locs) (hl : lv_has ls 9 [(0, .ref b), (1, .ref (q 0)), (2, .ref (q 431)), (3, .ref (q 430)), (4, .int i)]) {z : xSt} (hf : m_law_5 v xs L i = some z) (kk : ∀ (H : Heap) (locs : List Loc) (ls : Array Slot), hg G (LW G) 439 q z A s H locs → lv_has ls 9 [(0, .ref b), (1, .ref (q 0)), (2, .ref (q 431)), (3, .ref (q 430)), (4, .int i)] → W p l e room_1 s m args below meth c H locs (cells + 1) (slots + 6) Q (F0 m 1839 ls [])) : W p l e room_1 s m args below meth c H locs cells slots Q (F0 m 425 ls []) := by
  have hx := hC.1
  have hb := hC.2.1
  have hc0 : cells ≤ room_1.cells ∧ slots ≤ room_1.slots := ⟨Nat.le_of_succ_le hcs.1, Nat.le_trans (Nat.le_add_right _ _) hcs.2⟩
  unfold m_law_5 at hf
  refine lv_aload_n hx hb dL_law_425 rfl (lv_at hl 1 rfl) ?_
  refine lv_aload_n hx hb dL_law_426 rfl (lv_at hl 0 rfl) ?_
  refine lv_iload hx hb dL_law_427 (lv_at hl 4 rfl) ?_
  refine lv_iconst (v := (1 : Int32)) hx hb dL_law_429 (by decide) ?_
  refine lv_iadd hx hb dL_law_430 ?_
  obtain ⟨hi1, hf⟩ := ck_e hf
  refine va_sld hx hb hX hbl hbA h.1.2.2.1 hi1 dL_law_431 ?_
  refine lv_aload_n hx hb dL_law_432 rfl (lv_at hl 0 rfl) ?_
  refine lv_iload hx hb dL_law_433 (lv_at hl 4 rfl) ?_
  refine lv_iconst (v := (2 : Int32)) hx hb dL_law_435 (by decide) ?_
  refine lv_iadd hx hb dL_law_436 ?_
  obtain ⟨hi2, hf⟩ := ck_e hf
  refine va_sld hx hb hX hbl hbA h.1.2.2.1 hi2 dL_law_437 ?_
  refine lv_aload_n hx hb dL_law_438 rfl (lv_at hl 3 rfl) ?_
  obtain ⟨r3, hy4, hf⟩ := ob_e hf
  refine xipc h 431 sLW_0 (Nat.le_of_ble_eq_true rfl) (vx_runSW (As := [.ref (q 0), .int (xs (i + (1 : Int32)).toNatClampNeg), .int (xs (i + (2 : Int32)).toNatClampNeg), .ref (q 430)]) (rest := []) hC (c_L_lock l G sa q v (xs (i + (1 : Int32)).toNatClampNeg) (xs (i + (2 : Int32)).toNatClampNeg) hy4 H.size) (xcgSW hC hin lk_L_121 in_L co_L_lock st_L_lock rfl rfl dd_L_lock ⟨Nat.le_of_ble_eq_true rfl, Nat.le_of_ble_eq_true rfl⟩) (preSP h hT 431 sLW_0 (Nat.le_of_ble_eq_true rfl) [.ref (q 0), .int (xs (i + (1 : Int32)).toNatClampNeg), .int (xs (i + (2 : Int32)).toNatClampNeg), .ref (q 430)]) rfl rfl hl.1 rfl (lv_room (Nat.le_of_ble_eq_true rfl)) dL_law_439 ⟨Nat.le_of_succ_le hcs.1, Nat.le_trans (Nat.le_add_right _ _) hcs.2⟩) (fun H locs h => ?_)
  obtain ⟨v5, ev5, hf⟩ := lt_e hf
  rw [← ev5] at h
  refine lv_istore (lv' := [(5, .int r3.1), (0, .ref b), (1, .ref (q 0)), (2, .ref (q 431)), (3, .ref (q 430)), (4, .int i)]) hx hb dL_law_442 hl (by decide) rfl (fun ls hl => ?_)
  refine lv_aload_n hx hb dL_law_444 rfl (lv_at hl 3 rfl) ?_
  refine lv_aload_n hx hb dL_law_445 rfl (lv_at hl 1 rfl) ?_
  refine lv_iload hx hb dL_law_446 (lv_at hl 5 rfl) ?_
  refine lv_iconst (v := (1 : Int32)) hx hb dL_law_448 (by decide) ?_
  refine lv_iadd hx hb dL_law_449 ?_
  obtain ⟨hi6, hf⟩ := ck_e hf
  refine va_sld hx hb hX hbl hbA h.1.2.2.1 hi6 dL_law_450 ?_
  refine lv_aload_n hx hb dL_law_451 rfl (lv_at hl 1 rfl) ?_
  refine lv_iload hx hb dL_law_452 (lv_at hl 5 rfl) ?_
  refine lv_iconst (v := (2 : Int32)) hx hb dL_law_454 (by decide) ?_
  refine lv_iadd hx hb dL_law_455 ?_
  obtain ⟨hi7, hf⟩ := ck_e hf
  refine va_sld hx hb hX hbl hbA h.1.2.2.1 hi7 dL_law_456 ?_
  obtain ⟨r9, hy8, hf⟩ := ob_e hf
  refine xi1 h 431 8 sLW_431 (Nat.le_of_ble_eq_true rfl) (va_runV (As := [.int (xs (i + (1 : Int32)).toNatClampNeg), .int (xs (i + (2 : Int32)).toNatClampNeg)]) (rest := []) hC (c_X9_lock l G (sh 431 q) (sh 431 v5) (xs (i + (1 : Int32)).toNatClampNeg) (xs (i + (2 : Int32)).toNatClampNeg) hy8 H.size) (xcgV hC hin lk_L_124 in_X9 co_X9_lock im_X9_lock se_X9_lock rfl rfl dd_X9_lock ⟨Nat.le_of_ble_eq_true rfl, Nat.le_of_ble_eq_true rfl⟩) (preV1 h 431 8 sLW_431 (Nat.le_of_ble_eq_true rfl) (Nat.le_of_ble_eq_true rfl) eLW_431 rfl [.int (xs (i + (1 : Int32)).toNatClampNeg), .int (xs (i + (2 : Int32)).toNatClampNeg)]) rfl rfl hl.1 rfl (lv_room (Nat.le_of_ble_eq_true rfl)) dL_law_457 hc0) (fun H locs h => ?_)
  obtain ⟨v10, ev10, hf⟩ := lt_e hf
  rw [← ev10] at h
  refine lv_istore (lv' := [(6, .int r9.1), (5, .int r3.1), (0, .ref b), (1, .ref (q 0)), (2, .ref (q 431)), (3, .ref (q 430)), (4, .int i)]) hx hb dL_law_460 hl (by decide) rfl (fun ls hl => ?_)
  refine lv_aload_n hx hb dL_law_462 rfl (lv_at hl 4 rfl) ?_
  obtain ⟨r12, hy11, hf⟩ := ob_e hf
  refine xiG h (va_runV (As := []) (rest := []) hC (c_X9_thrown l G (sh 431 q) (sh 431 v10) hy11 H.size) (xcgV hC hin lk_L_104 in_X9 co_X9_thrown im_X9_thrown se_X9_thrown rfl rfl dd_X9_thrown ⟨Nat.le_of_ble_eq_true rfl, Nat.le_of_ble_eq_true rfl⟩) (preVO h.o 431 8 sLW_431 (Nat.le_of_ble_eq_true rfl) (Nat.le_of_ble_eq_true rfl) eLW_431 rfl []) rfl rfl hl.1 rfl (lv_room (Nat.le_of_ble_eq_true rfl)) dL_law_463 hc0) (fun H locs h => ?_)
  refine lv_iload hx hb dL_law_466 (lv_at hl 1 rfl) ?_
  refine lv_icmp_eq (tgt := 473) hx hb dL_law_468 (by decide) (fun c13 => ?_) (fun c13 => ?_)
  · have hf := it_t c13 hf
    refine lv_iload hx hb dL_law_473 (lv_at hl 1 rfl) ?_
    refine lv_if_ne (tgt := 490) hx hb dL_law_475 (by decide) (fun c14 => ?_) (fun c14 => ?_)
    · have hf := it_f c14 hf
      refine lv_goto (tgt := 1839) hx hb dL_law_490 (by decide) ?_
      have hf := sm_e hf
      subst hf
      refine W.widen (k := cells + 1) (n := slots + 6) (by omega) (by omega) ?_
      exact kk H locs ls h (lv_sub hl [2, 3, 4, 5, 6] rfl)
    · have hf := it_t c14 hf
      refine lv_aload_n hx hb dL_law_478 rfl (lv_at hl 5 rfl) ?_
      refine lv_iconst (v := (0 : Int32)) hx hb dL_law_479 (by decide) ?_
      refine xlald hC h.o 430 (Nat.le_of_ble_eq_true rfl) eLW_430 dL_law_480 ?_
      refine lv_iload hx hb dL_law_481 (lv_at hl 0 rfl) ?_
      refine lv_i2l hx hb dL_law_483 rfl ?_
      refine W.lcmp hx hb dL_law_484 ?_
      refine lv_if_eq (tgt := 490) hx hb dL_law_485 (by decide) (fun c15 => ?_) (fun c15 => ?_)
      · have hf := it_t c15 hf
        refine lv_goto (tgt := 1839) hx hb dL_law_490 (by decide) ?_
        have hf := sm_e hf
        subst hf
        refine W.widen (k := cells + 1) (n := slots + 6) (by omega) (by omega) ?_
        exact kk H locs ls h (lv_sub hl [2, 3, 4, 5, 6] rfl)
      · have hf := it_f c15 hf
        cases hf
  · have hf := it_f c13 hf
    cases hf
def m_law_5_xIAE (v : xSt) (xs : Nat → Int32) (L : Nat) (i : Int32) : Option xSt := ck (¬ ((i + (1 : Int32)) < 0 ∨ L ≤ (i + (1 : Int32)).toNatClampNeg)) (ck (¬ ((i + (2 : Int32)) < 0 ∨ L ≤ (i + (2 : Int32)).toNatClampNeg)) (ob (xthE xIAE (m_X8_lock_t v (xs (i + (1 : Int32)).toNatClampNeg) (xs (i + (2 : Int32)).toNatClampNeg))) (fun r3 => lt (pu 0 431 v (pu 0 430 v r3)) (fun v5 => ck (¬ ((i + (1 : Int32)) < 0 ∨ L ≤ (i + (1 : Int32)).toNatClampNeg)) (ck (¬ ((i + (2 : Int32)) < 0 ∨ L ≤ (i + (2 : Int32)).toNatClampNeg)) (ob (m_X9_lock (sh 431 v5) (xs (i + (1 : Int32)).toNatClampNeg) (xs (i + (2 : Int32)).toNatClampNeg)) (fun r9 => lt (pu 431 8 v5 r9.2) (fun v10 => ob (m_X9_thrown (sh 431 v10)) (fun r12 => (if r12 = (1 : Int32) then (if (1 : Int32) = 0 then (if (lg_cmp ((v10 430 0).toInt64) ((r9.1).toInt64)) = 0 then some v10 else none) else some v10) else none))))))))))
set_option maxHeartbeats 4000000 in
set_option maxRecDepth 100000 in
theorem k_law_5_xIAE {p : Program} {l : Launch} {e : Env} {R : Room} {s : State} {m : MethodId} {args : Array Value} {below : List Frame} {meth : Method} {c : Code} {H : Heap} {locs : List Loc} {cells slots : Nat} {Q : State → Prop} {G : xGl} {sa q : Nat → Nat} {v : xSt} {A : Nat → Prop} {ls : Array Slot} {b L : Nat} {xs : Nat → Int32} {i : Int32} (hst : l.stackTraces = false) (hC : CallFix p m c cL_law 9 s args lw_tbl RL) (hin : ∀ w ∈ wG, w ∈ lw_tbl) (hT : xT G sa A s s.heap) (hX : va_X b L xs s s.heap) (hbl : b < s.heap.size) (hbA : ¬ A b) (hcs : cells + 1 ≤ room_1.cells ∧ slots + 6 ≤ room_1.slots) (h : hg G (LW G) 439 q v A s H locs) (hl : lv_has ls 9 [(0, .ref b), (1, .ref (q 0)), (2, .ref (q 431)), (3, .ref (q 430)), (4, .int i)]) {z : xSt} (hf : m_law_5_xIAE v xs L i = some z) (kk : ∀ (H : Heap) (locs : List Loc) (ls : Array Slot), hg G (LW G) 439 q z A s H locs → lv_has ls 9 [(0, .ref b), (1, .ref (q 0)), (2, .ref (q 431)), (3, .ref (q 430)), (4, .int i)] → W p l e room_1 s m args below meth c H locs (cells + 1) (slots + 6) Q (F0 m 1839 ls [])) : W p l e room_1 s m args below meth c H locs cells slots Q (F0 m 425 ls []) := by
  have hx := hC.1
  have hb := hC.2.1
  have hc0 : cells ≤ room_1.cells ∧ slots ≤ room_1.slots := ⟨Nat.le_of_succ_le hcs.1, Nat.le_trans (Nat.le_add_right _ _) hcs.2⟩
  unfold m_law_5_xIAE at hf
  refine lv_aload_n hx hb dL_law_425 rfl (lv_at hl 1 rfl) ?_
  refine lv_aload_n hx hb dL_law_426 rfl (lv_at hl 0 rfl) ?_
  refine lv_iload hx hb dL_law_427 (lv_at hl 4 rfl) ?_
  refine lv_iconst (v := (1 : Int32)) hx hb dL_law_429 (by decide) ?_
  refine lv_iadd hx hb dL_law_430 ?_
  obtain ⟨hi1, hf⟩ := ck_e hf
  refine va_sld hx hb hX hbl hbA h.1.2.2.1 hi1 dL_law_431 ?_
  refine lv_aload_n hx hb dL_law_432 rfl (lv_at hl 0 rfl) ?_
  refine lv_iload hx hb dL_law_433 (lv_at hl 4 rfl) ?_
  refine lv_iconst (v := (2 : Int32)) hx hb dL_law_435 (by decide) ?_
  refine lv_iadd hx hb dL_law_436 ?_
  obtain ⟨hi2, hf⟩ := ck_e hf
  refine va_sld hx hb hX hbl hbA h.1.2.2.1 hi2 dL_law_437 ?_
  refine lv_aload_n hx hb dL_law_438 rfl (lv_at hl 3 rfl) ?_
  obtain ⟨r3, hy4, hf⟩ := ob_e hf
  refine xipc h 431 sLW_0 (Nat.le_of_ble_eq_true rfl) (vx_runSW (As := [.ref (q 0), .int (xs (i + (1 : Int32)).toNatClampNeg), .int (xs (i + (2 : Int32)).toNatClampNeg), .ref (q 430)]) (rest := []) hC (x_L_lock_xIAE l hst G sa q v (xs (i + (1 : Int32)).toNatClampNeg) (xs (i + (2 : Int32)).toNatClampNeg) (xthE_e hy4) H.size) (xcgSW hC hin lk_L_121 in_L co_L_lock st_L_lock rfl rfl dd_L_lock ⟨Nat.le_of_ble_eq_true rfl, Nat.le_of_ble_eq_true rfl⟩) (preSP h hT 431 sLW_0 (Nat.le_of_ble_eq_true rfl) [.ref (q 0), .int (xs (i + (1 : Int32)).toNatClampNeg), .int (xs (i + (2 : Int32)).toNatClampNeg), .ref (q 430)]) rfl rfl hl.1 rfl (lv_room (Nat.le_of_ble_eq_true rfl)) dL_law_439 hcs) (fun H locs h => ?_)
  obtain ⟨v5, ev5, hf⟩ := lt_e hf
  rw [← ev5] at h
  refine lv_istore (lv' := [(5, .int (1 : Int32)), (0, .ref b), (1, .ref (q 0)), (2, .ref (q 431)), (3, .ref (q 430)), (4, .int i)]) hx hb dL_law_442 hl (by decide) rfl (fun ls hl => ?_)
  refine lv_aload_n hx hb dL_law_444 rfl (lv_at hl 3 rfl) ?_
  refine lv_aload_n hx hb dL_law_445 rfl (lv_at hl 1 rfl) ?_
  refine lv_iload hx hb dL_law_446 (lv_at hl 5 rfl) ?_
  refine lv_iconst (v := (1 : Int32)) hx hb dL_law_448 (by decide) ?_
  refine lv_iadd hx hb dL_law_449 ?_
  obtain ⟨hi6, hf⟩ := ck_e hf
  refine va_sld hx hb hX hbl hbA h.1.2.2.1 hi6 dL_law_450 ?_
  refine lv_aload_n hx hb dL_law_451 rfl (lv_at hl 1 rfl) ?_
  refine lv_iload hx hb dL_law_452 (lv_at hl 5 rfl) ?_
  refine lv_iconst (v := (2 : Int32)) hx hb dL_law_454 (by decide) ?_
  refine lv_iadd hx hb dL_law_455 ?_
  obtain ⟨hi7, hf⟩ := ck_e hf
  refine va_sld hx hb hX hbl hbA h.1.2.2.1 hi7 dL_law_456 ?_
  obtain ⟨r9, hy8, hf⟩ := ob_e hf
  refine xi1 h 431 8 sLW_431 (Nat.le_of_ble_eq_true rfl) (va_runV (As := [.int (xs (i + (1 : Int32)).toNatClampNeg), .int (xs (i + (2 : Int32)).toNatClampNeg)]) (rest := []) hC (c_X9_lock l G (sh 431 q) (sh 431 v5) (xs (i + (1 : Int32)).toNatClampNeg) (xs (i + (2 : Int32)).toNatClampNeg) hy8 H.size) (xcgV hC hin lk_L_124 in_X9 co_X9_lock im_X9_lock se_X9_lock rfl rfl dd_X9_lock ⟨Nat.le_of_ble_eq_true rfl, Nat.le_of_ble_eq_true rfl⟩) (preV1 h 431 8 sLW_431 (Nat.le_of_ble_eq_true rfl) (Nat.le_of_ble_eq_true rfl) eLW_431 rfl [.int (xs (i + (1 : Int32)).toNatClampNeg), .int (xs (i + (2 : Int32)).toNatClampNeg)]) rfl rfl hl.1 rfl (lv_room (Nat.le_of_ble_eq_true rfl)) dL_law_457 hcs) (fun H locs h => ?_)
  obtain ⟨v10, ev10, hf⟩ := lt_e hf
  rw [← ev10] at h
  refine lv_istore (lv' := [(6, .int r9.1), (5, .int (1 : Int32)), (0, .ref b), (1, .ref (q 0)), (2, .ref (q 431)), (3, .ref (q 430)), (4, .int i)]) hx hb dL_law_460 hl (by decide) rfl (fun ls hl => ?_)
  refine lv_aload_n hx hb dL_law_462 rfl (lv_at hl 4 rfl) ?_
  obtain ⟨r12, hy11, hf⟩ := ob_e hf
  refine xiG h (va_runV (As := []) (rest := []) hC (c_X9_thrown l G (sh 431 q) (sh 431 v10) hy11 H.size) (xcgV hC hin lk_L_104 in_X9 co_X9_thrown im_X9_thrown se_X9_thrown rfl rfl dd_X9_thrown ⟨Nat.le_of_ble_eq_true rfl, Nat.le_of_ble_eq_true rfl⟩) (preVO h.o 431 8 sLW_431 (Nat.le_of_ble_eq_true rfl) (Nat.le_of_ble_eq_true rfl) eLW_431 rfl []) rfl rfl hl.1 rfl (lv_room (Nat.le_of_ble_eq_true rfl)) dL_law_463 hcs) (fun H locs h => ?_)
  refine lv_iload hx hb dL_law_466 (lv_at hl 1 rfl) ?_
  refine lv_icmp_eq (tgt := 473) hx hb dL_law_468 (by decide) (fun c13 => ?_) (fun c13 => ?_)
  · have hf := it_t c13 hf
    refine lv_iload hx hb dL_law_473 (lv_at hl 1 rfl) ?_
    refine lv_if_ne (tgt := 490) hx hb dL_law_475 (by decide) (fun c14 => ?_) (fun c14 => ?_)
    · have hf := it_f c14 hf
      refine lv_goto (tgt := 1839) hx hb dL_law_490 (by decide) ?_
      have hf := sm_e hf
      subst hf
      refine W.widen (k := cells + 1) (n := slots + 6) (by omega) (by omega) ?_
      exact kk H locs ls h (lv_sub hl [2, 3, 4, 5, 6] rfl)
    · have hf := it_t c14 hf
      refine lv_aload_n hx hb dL_law_478 rfl (lv_at hl 5 rfl) ?_
      refine lv_iconst (v := (0 : Int32)) hx hb dL_law_479 (by decide) ?_
      refine xlald hC h.o 430 (Nat.le_of_ble_eq_true rfl) eLW_430 dL_law_480 ?_
      refine lv_iload hx hb dL_law_481 (lv_at hl 0 rfl) ?_
      refine lv_i2l hx hb dL_law_483 rfl ?_
      refine W.lcmp hx hb dL_law_484 ?_
      refine lv_if_eq (tgt := 490) hx hb dL_law_485 (by decide) (fun c15 => ?_) (fun c15 => ?_)
      · have hf := it_t c15 hf
        refine lv_goto (tgt := 1839) hx hb dL_law_490 (by decide) ?_
        have hf := sm_e hf
        subst hf
        refine W.widen (k := cells + 1) (n := slots + 6) (by omega) (by omega) ?_
        exact kk H locs ls h (lv_sub hl [2, 3, 4, 5, 6] rfl)
      · have hf := it_f c15 hf
        cases hf
  · have hf := it_f c13 hf
    cases hf
def m_law_5_xISE (v : xSt) (xs : Nat → Int32) (L : Nat) (i : Int32) : Option xSt := ck (¬ ((i + (1 : Int32)) < 0 ∨ L ≤ (i + (1 : Int32)).toNatClampNeg)) (ck (¬ ((i + (2 : Int32)) < 0 ∨ L ≤ (i + (2 : Int32)).toNatClampNeg)) (ob (xthE xISE (m_X8_lock_t v (xs (i + (1 : Int32)).toNatClampNeg) (xs (i + (2 : Int32)).toNatClampNeg))) (fun r3 => lt (pu 0 431 v (pu 0 430 v r3)) (fun v5 => ck (¬ ((i + (1 : Int32)) < 0 ∨ L ≤ (i + (1 : Int32)).toNatClampNeg)) (ck (¬ ((i + (2 : Int32)) < 0 ∨ L ≤ (i + (2 : Int32)).toNatClampNeg)) (ob (m_X9_lock (sh 431 v5) (xs (i + (1 : Int32)).toNatClampNeg) (xs (i + (2 : Int32)).toNatClampNeg)) (fun r9 => lt (pu 431 8 v5 r9.2) (fun v10 => ob (m_X9_thrown (sh 431 v10)) (fun r12 => (if r12 = (2 : Int32) then (if (2 : Int32) = 0 then (if (lg_cmp ((v10 430 0).toInt64) ((r9.1).toInt64)) = 0 then some v10 else none) else some v10) else none))))))))))
set_option maxHeartbeats 4000000 in
set_option maxRecDepth 100000 in
theorem k_law_5_xISE {p : Program} {l : Launch} {e : Env} {R : Room} {s : State} {m : MethodId} {args : Array Value} {below : List Frame} {meth : Method} {c : Code} {H : Heap} {locs : List Loc} {cells slots : Nat} {Q : State → Prop} {G : xGl} {sa q : Nat → Nat} {v : xSt} {A : Nat → Prop} {ls : Array Slot} {b L : Nat} {xs : Nat → Int32} {i : Int32} (hst : l.stackTraces = false) (hC : CallFix p m c cL_law 9 s args lw_tbl RL) (hin : ∀ w ∈ wG, w ∈ lw_tbl) (hT : xT G sa A s s.heap) (hX : va_X b L xs s s.heap) (hbl : b < s.heap.size) (hbA : ¬ A b) (hcs : cells + 1 ≤ room_1.cells ∧ slots + 6 ≤ room_1.slots) (h : hg G (LW G) 439 q v A s H locs) (hl : lv_has ls 9 [(0, .ref b), (1, .ref (q 0)), (2, .ref (q 431)), (3, .ref (q 430)), (4, .int i)]) {z : xSt} (hf : m_law_5_xISE v xs L i = some z) (kk : ∀ (H : Heap) (locs : List Loc) (ls : Array Slot), hg G (LW G) 439 q z A s H locs → lv_has ls 9 [(0, .ref b), (1, .ref (q 0)), (2, .ref (q 431)), (3, .ref (q 430)), (4, .int i)] → W p l e room_1 s m args below meth c H locs (cells + 1) (slots + 6) Q (F0 m 1839 ls [])) : W p l e room_1 s m args below meth c H locs cells slots Q (F0 m 425 ls []) := by
  have hx := hC.1
  have hb := hC.2.1
  have hc0 : cells ≤ room_1.cells ∧ slots ≤ room_1.slots := ⟨Nat.le_of_succ_le hcs.1, Nat.le_trans (Nat.le_add_right _ _) hcs.2⟩
  unfold m_law_5_xISE at hf
  refine lv_aload_n hx hb dL_law_425 rfl (lv_at hl 1 rfl) ?_
  refine lv_aload_n hx hb dL_law_426 rfl (lv_at hl 0 rfl) ?_
  refine lv_iload hx hb dL_law_427 (lv_at hl 4 rfl) ?_
  refine lv_iconst (v := (1 : Int32)) hx hb dL_law_429 (by decide) ?_
  refine lv_iadd hx hb dL_law_430 ?_
  obtain ⟨hi1, hf⟩ := ck_e hf
  refine va_sld hx hb hX hbl hbA h.1.2.2.1 hi1 dL_law_431 ?_
  refine lv_aload_n hx hb dL_law_432 rfl (lv_at hl 0 rfl) ?_
  refine lv_iload hx hb dL_law_433 (lv_at hl 4 rfl) ?_
  refine lv_iconst (v := (2 : Int32)) hx hb dL_law_435 (by decide) ?_
  refine lv_iadd hx hb dL_law_436 ?_
  obtain ⟨hi2, hf⟩ := ck_e hf
  refine va_sld hx hb hX hbl hbA h.1.2.2.1 hi2 dL_law_437 ?_
  refine lv_aload_n hx hb dL_law_438 rfl (lv_at hl 3 rfl) ?_
  obtain ⟨r3, hy4, hf⟩ := ob_e hf
  refine xipc h 431 sLW_0 (Nat.le_of_ble_eq_true rfl) (vx_runSW (As := [.ref (q 0), .int (xs (i + (1 : Int32)).toNatClampNeg), .int (xs (i + (2 : Int32)).toNatClampNeg), .ref (q 430)]) (rest := []) hC (x_L_lock_xISE l hst G sa q v (xs (i + (1 : Int32)).toNatClampNeg) (xs (i + (2 : Int32)).toNatClampNeg) (xthE_e hy4) H.size) (xcgSW hC hin lk_L_121 in_L co_L_lock st_L_lock rfl rfl dd_L_lock ⟨Nat.le_of_ble_eq_true rfl, Nat.le_of_ble_eq_true rfl⟩) (preSP h hT 431 sLW_0 (Nat.le_of_ble_eq_true rfl) [.ref (q 0), .int (xs (i + (1 : Int32)).toNatClampNeg), .int (xs (i + (2 : Int32)).toNatClampNeg), .ref (q 430)]) rfl rfl hl.1 rfl (lv_room (Nat.le_of_ble_eq_true rfl)) dL_law_439 hcs) (fun H locs h => ?_)
  obtain ⟨v5, ev5, hf⟩ := lt_e hf
  rw [← ev5] at h
  refine lv_istore (lv' := [(5, .int (2 : Int32)), (0, .ref b), (1, .ref (q 0)), (2, .ref (q 431)), (3, .ref (q 430)), (4, .int i)]) hx hb dL_law_442 hl (by decide) rfl (fun ls hl => ?_)
  refine lv_aload_n hx hb dL_law_444 rfl (lv_at hl 3 rfl) ?_
  refine lv_aload_n hx hb dL_law_445 rfl (lv_at hl 1 rfl) ?_
  refine lv_iload hx hb dL_law_446 (lv_at hl 5 rfl) ?_
  refine lv_iconst (v := (1 : Int32)) hx hb dL_law_448 (by decide) ?_
  refine lv_iadd hx hb dL_law_449 ?_
  obtain ⟨hi6, hf⟩ := ck_e hf
  refine va_sld hx hb hX hbl hbA h.1.2.2.1 hi6 dL_law_450 ?_
  refine lv_aload_n hx hb dL_law_451 rfl (lv_at hl 1 rfl) ?_
  refine lv_iload hx hb dL_law_452 (lv_at hl 5 rfl) ?_
  refine lv_iconst (v := (2 : Int32)) hx hb dL_law_454 (by decide) ?_
  refine lv_iadd hx hb dL_law_455 ?_
  obtain ⟨hi7, hf⟩ := ck_e hf
  refine va_sld hx hb hX hbl hbA h.1.2.2.1 hi7 dL_law_456 ?_
  obtain ⟨r9, hy8, hf⟩ := ob_e hf
  refine xi1 h 431 8 sLW_431 (Nat.le_of_ble_eq_true rfl) (va_runV (As := [.int (xs (i + (1 : Int32)).toNatClampNeg), .int (xs (i + (2 : Int32)).toNatClampNeg)]) (rest := []) hC (c_X9_lock l G (sh 431 q) (sh 431 v5) (xs (i + (1 : Int32)).toNatClampNeg) (xs (i + (2 : Int32)).toNatClampNeg) hy8 H.size) (xcgV hC hin lk_L_124 in_X9 co_X9_lock im_X9_lock se_X9_lock rfl rfl dd_X9_lock ⟨Nat.le_of_ble_eq_true rfl, Nat.le_of_ble_eq_true rfl⟩) (preV1 h 431 8 sLW_431 (Nat.le_of_ble_eq_true rfl) (Nat.le_of_ble_eq_true rfl) eLW_431 rfl [.int (xs (i + (1 : Int32)).toNatClampNeg), .int (xs (i + (2 : Int32)).toNatClampNeg)]) rfl rfl hl.1 rfl (lv_room (Nat.le_of_ble_eq_true rfl)) dL_law_457 hcs) (fun H locs h => ?_)
  obtain ⟨v10, ev10, hf⟩ := lt_e hf
  rw [← ev10] at h
  refine lv_istore (lv' := [(6, .int r9.1), (5, .int (2 : Int32)), (0, .ref b), (1, .ref (q 0)), (2, .ref (q 431)), (3, .ref (q 430)), (4, .int i)]) hx hb dL_law_460 hl (by decide) rfl (fun ls hl => ?_)
  refine lv_aload_n hx hb dL_law_462 rfl (lv_at hl 4 rfl) ?_
  obtain ⟨r12, hy11, hf⟩ := ob_e hf
  refine xiG h (va_runV (As := []) (rest := []) hC (c_X9_thrown l G (sh 431 q) (sh 431 v10) hy11 H.size) (xcgV hC hin lk_L_104 in_X9 co_X9_thrown im_X9_thrown se_X9_thrown rfl rfl dd_X9_thrown ⟨Nat.le_of_ble_eq_true rfl, Nat.le_of_ble_eq_true rfl⟩) (preVO h.o 431 8 sLW_431 (Nat.le_of_ble_eq_true rfl) (Nat.le_of_ble_eq_true rfl) eLW_431 rfl []) rfl rfl hl.1 rfl (lv_room (Nat.le_of_ble_eq_true rfl)) dL_law_463 hcs) (fun H locs h => ?_)
  refine lv_iload hx hb dL_law_466 (lv_at hl 1 rfl) ?_
  refine lv_icmp_eq (tgt := 473) hx hb dL_law_468 (by decide) (fun c13 => ?_) (fun c13 => ?_)
  · have hf := it_t c13 hf
    refine lv_iload hx hb dL_law_473 (lv_at hl 1 rfl) ?_
    refine lv_if_ne (tgt := 490) hx hb dL_law_475 (by decide) (fun c14 => ?_) (fun c14 => ?_)
    · have hf := it_f c14 hf
      refine lv_goto (tgt := 1839) hx hb dL_law_490 (by decide) ?_
      have hf := sm_e hf
      subst hf
      refine W.widen (k := cells + 1) (n := slots + 6) (by omega) (by omega) ?_
      exact kk H locs ls h (lv_sub hl [2, 3, 4, 5, 6] rfl)
    · have hf := it_t c14 hf
      refine lv_aload_n hx hb dL_law_478 rfl (lv_at hl 5 rfl) ?_
      refine lv_iconst (v := (0 : Int32)) hx hb dL_law_479 (by decide) ?_
      refine xlald hC h.o 430 (Nat.le_of_ble_eq_true rfl) eLW_430 dL_law_480 ?_
      refine lv_iload hx hb dL_law_481 (lv_at hl 0 rfl) ?_
      refine lv_i2l hx hb dL_law_483 rfl ?_
      refine W.lcmp hx hb dL_law_484 ?_
      refine lv_if_eq (tgt := 490) hx hb dL_law_485 (by decide) (fun c15 => ?_) (fun c15 => ?_)
      · have hf := it_t c15 hf
        refine lv_goto (tgt := 1839) hx hb dL_law_490 (by decide) ?_
        have hf := sm_e hf
        subst hf
        refine W.widen (k := cells + 1) (n := slots + 6) (by omega) (by omega) ?_
        exact kk H locs ls h (lv_sub hl [2, 3, 4, 5, 6] rfl)
      · have hf := it_f c15 hf
        cases hf
  · have hf := it_f c13 hf
    cases hf
def m_law_6 (v : xSt) (xs : Nat → Int32) (L : Nat) (i : Int32) : Option xSt := ob (m_L_freeze v ) (fun r1 => lt (pu 0 431 v r1.2) (fun v3 => ob (m_X9_freeze (sh 431 v3)) (fun r5 => lt (pu 431 8 v3 r5.2) (fun v6 => ob (m_X9_thrown (sh 431 v6)) (fun r8 => (if r8 = r1.1 then (if r1.1 = 0 then (if (lg_cmp ((v6 430 0).toInt64) ((r5.1).toInt64)) = 0 then some v6 else none) else some v6) else none))))))
set_option maxHeartbeats 4000000 in
set_option maxRecDepth 100000 in
theorem k_law_6 {p : Program} {l : Launch} {e : Env} {R : Room} {s : State} {m : MethodId} {args : Array Value} {below : List Frame} {meth : Method} {c : Code} {H : Heap} {locs : List Loc} {cells slots : Nat} {Q : State → Prop} {G : xGl} {sa q : Nat → Nat} {v : xSt} {A : Nat → Prop} {ls : Array Slot} {b L : Nat} {xs : Nat → Int32} {i : Int32} (hst : l.stackTraces = false) (hC : CallFix p m c cL_law 9 s args lw_tbl RL) (hin : ∀ w ∈ wG, w ∈ lw_tbl) (hT : xT G sa A s s.heap) (hX : va_X b L xs s s.heap) (hbl : b < s.heap.size) (hbA : ¬ A b) (hcs : cells + 1 ≤ room_1.cells ∧ slots + 6 ≤ room_1.slots) (h : hg G (LW G) 439 q v A s H locs) (hl : lv_has ls 9 [(0, .ref b), (1, .ref (q 0)), (2, .ref (q 431)), (3, .ref (q 430)), (4, .int i)]) {z : xSt} (hf : m_law_6 v xs L i = some z) (kk : ∀ (H : Heap) (locs : List Loc) (ls : Array Slot), hg G (LW G) 439 q z A s H locs → lv_has ls 9 [(0, .ref b), (1, .ref (q 0)), (2, .ref (q 431)), (3, .ref (q 430)), (4, .int i)] → W p l e room_1 s m args below meth c H locs (cells + 1) (slots + 6) Q (F0 m 1839 ls [])) : W p l e room_1 s m args below meth c H locs cells slots Q (F0 m 493 ls []) := by
  have hx := hC.1
  have hb := hC.2.1
  have hc0 : cells ≤ room_1.cells ∧ slots ≤ room_1.slots := ⟨Nat.le_of_succ_le hcs.1, Nat.le_trans (Nat.le_add_right _ _) hcs.2⟩
  unfold m_law_6 at hf
  refine lv_aload_n hx hb dL_law_493 rfl (lv_at hl 1 rfl) ?_
  refine lv_aload_n hx hb dL_law_494 rfl (lv_at hl 3 rfl) ?_
  obtain ⟨r1, hy2, hf⟩ := ob_e hf
  refine xipc h 431 sLW_0 (Nat.le_of_ble_eq_true rfl) (vx_runSW (As := [.ref (q 0), .ref (q 430)]) (rest := []) hC (c_L_freeze l G sa q v  hy2 H.size) (xcgSW hC hin lk_L_125 in_L co_L_freeze st_L_freeze rfl rfl dd_L_freeze ⟨Nat.le_of_ble_eq_true rfl, Nat.le_of_ble_eq_true rfl⟩) (preSP h hT 431 sLW_0 (Nat.le_of_ble_eq_true rfl) [.ref (q 0), .ref (q 430)]) rfl rfl hl.1 rfl (lv_room (Nat.le_of_ble_eq_true rfl)) dL_law_495 ⟨Nat.le_of_succ_le hcs.1, Nat.le_trans (Nat.le_add_right _ _) hcs.2⟩) (fun H locs h => ?_)
  obtain ⟨v3, ev3, hf⟩ := lt_e hf
  rw [← ev3] at h
  refine lv_istore (lv' := [(5, .int r1.1), (0, .ref b), (1, .ref (q 0)), (2, .ref (q 431)), (3, .ref (q 430)), (4, .int i)]) hx hb dL_law_498 hl (by decide) rfl (fun ls hl => ?_)
  refine lv_aload_n hx hb dL_law_500 rfl (lv_at hl 3 rfl) ?_
  obtain ⟨r5, hy4, hf⟩ := ob_e hf
  refine xi1 h 431 8 sLW_431 (Nat.le_of_ble_eq_true rfl) (va_runV (As := []) (rest := []) hC (c_X9_freeze l G (sh 431 q) (sh 431 v3) hy4 H.size) (xcgV hC hin lk_L_127 in_X9 co_X9_freeze im_X9_freeze se_X9_freeze rfl rfl dd_X9_freeze ⟨Nat.le_of_ble_eq_true rfl, Nat.le_of_ble_eq_true rfl⟩) (preV1 h 431 8 sLW_431 (Nat.le_of_ble_eq_true rfl) (Nat.le_of_ble_eq_true rfl) eLW_431 rfl []) rfl rfl hl.1 rfl (lv_room (Nat.le_of_ble_eq_true rfl)) dL_law_501 hc0) (fun H locs h => ?_)
  obtain ⟨v6, ev6, hf⟩ := lt_e hf
  rw [← ev6] at h
  refine lv_istore (lv' := [(6, .int r5.1), (5, .int r1.1), (0, .ref b), (1, .ref (q 0)), (2, .ref (q 431)), (3, .ref (q 430)), (4, .int i)]) hx hb dL_law_504 hl (by decide) rfl (fun ls hl => ?_)
  refine lv_aload_n hx hb dL_law_506 rfl (lv_at hl 4 rfl) ?_
  obtain ⟨r8, hy7, hf⟩ := ob_e hf
  refine xiG h (va_runV (As := []) (rest := []) hC (c_X9_thrown l G (sh 431 q) (sh 431 v6) hy7 H.size) (xcgV hC hin lk_L_104 in_X9 co_X9_thrown im_X9_thrown se_X9_thrown rfl rfl dd_X9_thrown ⟨Nat.le_of_ble_eq_true rfl, Nat.le_of_ble_eq_true rfl⟩) (preVO h.o 431 8 sLW_431 (Nat.le_of_ble_eq_true rfl) (Nat.le_of_ble_eq_true rfl) eLW_431 rfl []) rfl rfl hl.1 rfl (lv_room (Nat.le_of_ble_eq_true rfl)) dL_law_507 hc0) (fun H locs h => ?_)
  refine lv_iload hx hb dL_law_510 (lv_at hl 1 rfl) ?_
  refine lv_icmp_eq (tgt := 517) hx hb dL_law_512 (by decide) (fun c9 => ?_) (fun c9 => ?_)
  · have hf := it_t c9 hf
    refine lv_iload hx hb dL_law_517 (lv_at hl 1 rfl) ?_
    refine lv_if_ne (tgt := 534) hx hb dL_law_519 (by decide) (fun c10 => ?_) (fun c10 => ?_)
    · have hf := it_f c10 hf
      refine lv_goto (tgt := 1839) hx hb dL_law_534 (by decide) ?_
      have hf := sm_e hf
      subst hf
      refine W.widen (k := cells + 1) (n := slots + 6) (by omega) (by omega) ?_
      exact kk H locs ls h (lv_sub hl [2, 3, 4, 5, 6] rfl)
    · have hf := it_t c10 hf
      refine lv_aload_n hx hb dL_law_522 rfl (lv_at hl 5 rfl) ?_
      refine lv_iconst (v := (0 : Int32)) hx hb dL_law_523 (by decide) ?_
      refine xlald hC h.o 430 (Nat.le_of_ble_eq_true rfl) eLW_430 dL_law_524 ?_
      refine lv_iload hx hb dL_law_525 (lv_at hl 0 rfl) ?_
      refine lv_i2l hx hb dL_law_527 rfl ?_
      refine W.lcmp hx hb dL_law_528 ?_
      refine lv_if_eq (tgt := 534) hx hb dL_law_529 (by decide) (fun c11 => ?_) (fun c11 => ?_)
      · have hf := it_t c11 hf
        refine lv_goto (tgt := 1839) hx hb dL_law_534 (by decide) ?_
        have hf := sm_e hf
        subst hf
        refine W.widen (k := cells + 1) (n := slots + 6) (by omega) (by omega) ?_
        exact kk H locs ls h (lv_sub hl [2, 3, 4, 5, 6] rfl)
      · have hf := it_f c11 hf
        cases hf
  · have hf := it_f c9 hf
    cases hf
def m_law_6_xISE (v : xSt) (xs : Nat → Int32) (L : Nat) (i : Int32) : Option xSt := ob (xthE xISE (m_X8_freeze_t v )) (fun r1 => lt (pu 0 431 v (pu 0 430 v r1)) (fun v3 => ob (m_X9_freeze (sh 431 v3)) (fun r5 => lt (pu 431 8 v3 r5.2) (fun v6 => ob (m_X9_thrown (sh 431 v6)) (fun r8 => (if r8 = (1 : Int32) then (if (1 : Int32) = 0 then (if (lg_cmp ((v6 430 0).toInt64) ((r5.1).toInt64)) = 0 then some v6 else none) else some v6) else none))))))
set_option maxHeartbeats 4000000 in
set_option maxRecDepth 100000 in
theorem k_law_6_xISE {p : Program} {l : Launch} {e : Env} {R : Room} {s : State} {m : MethodId} {args : Array Value} {below : List Frame} {meth : Method} {c : Code} {H : Heap} {locs : List Loc} {cells slots : Nat} {Q : State → Prop} {G : xGl} {sa q : Nat → Nat} {v : xSt} {A : Nat → Prop} {ls : Array Slot} {b L : Nat} {xs : Nat → Int32} {i : Int32} (hst : l.stackTraces = false) (hC : CallFix p m c cL_law 9 s args lw_tbl RL) (hin : ∀ w ∈ wG, w ∈ lw_tbl) (hT : xT G sa A s s.heap) (hX : va_X b L xs s s.heap) (hbl : b < s.heap.size) (hbA : ¬ A b) (hcs : cells + 1 ≤ room_1.cells ∧ slots + 6 ≤ room_1.slots) (h : hg G (LW G) 439 q v A s H locs) (hl : lv_has ls 9 [(0, .ref b), (1, .ref (q 0)), (2, .ref (q 431)), (3, .ref (q 430)), (4, .int i)]) {z : xSt} (hf : m_law_6_xISE v xs L i = some z) (kk : ∀ (H : Heap) (locs : List Loc) (ls : Array Slot), hg G (LW G) 439 q z A s H locs → lv_has ls 9 [(0, .ref b), (1, .ref (q 0)), (2, .ref (q 431)), (3, .ref (q 430)), (4, .int i)] → W p l e room_1 s m args below meth c H locs (cells + 1) (slots + 6) Q (F0 m 1839 ls [])) : W p l e room_1 s m args below meth c H locs cells slots Q (F0 m 493 ls []) := by
  have hx := hC.1
  have hb := hC.2.1
  have hc0 : cells ≤ room_1.cells ∧ slots ≤ room_1.slots := ⟨Nat.le_of_succ_le hcs.1, Nat.le_trans (Nat.le_add_right _ _) hcs.2⟩
  unfold m_law_6_xISE at hf
  refine lv_aload_n hx hb dL_law_493 rfl (lv_at hl 1 rfl) ?_
  refine lv_aload_n hx hb dL_law_494 rfl (lv_at hl 3 rfl) ?_
  obtain ⟨r1, hy2, hf⟩ := ob_e hf
  refine xipc h 431 sLW_0 (Nat.le_of_ble_eq_true rfl) (vx_runSW (As := [.ref (q 0), .ref (q 430)]) (rest := []) hC (x_L_freeze_xISE l hst G sa q v  (xthE_e hy2) H.size) (xcgSW hC hin lk_L_125 in_L co_L_freeze st_L_freeze rfl rfl dd_L_freeze ⟨Nat.le_of_ble_eq_true rfl, Nat.le_of_ble_eq_true rfl⟩) (preSP h hT 431 sLW_0 (Nat.le_of_ble_eq_true rfl) [.ref (q 0), .ref (q 430)]) rfl rfl hl.1 rfl (lv_room (Nat.le_of_ble_eq_true rfl)) dL_law_495 hcs) (fun H locs h => ?_)
  obtain ⟨v3, ev3, hf⟩ := lt_e hf
  rw [← ev3] at h
  refine lv_istore (lv' := [(5, .int (1 : Int32)), (0, .ref b), (1, .ref (q 0)), (2, .ref (q 431)), (3, .ref (q 430)), (4, .int i)]) hx hb dL_law_498 hl (by decide) rfl (fun ls hl => ?_)
  refine lv_aload_n hx hb dL_law_500 rfl (lv_at hl 3 rfl) ?_
  obtain ⟨r5, hy4, hf⟩ := ob_e hf
  refine xi1 h 431 8 sLW_431 (Nat.le_of_ble_eq_true rfl) (va_runV (As := []) (rest := []) hC (c_X9_freeze l G (sh 431 q) (sh 431 v3) hy4 H.size) (xcgV hC hin lk_L_127 in_X9 co_X9_freeze im_X9_freeze se_X9_freeze rfl rfl dd_X9_freeze ⟨Nat.le_of_ble_eq_true rfl, Nat.le_of_ble_eq_true rfl⟩) (preV1 h 431 8 sLW_431 (Nat.le_of_ble_eq_true rfl) (Nat.le_of_ble_eq_true rfl) eLW_431 rfl []) rfl rfl hl.1 rfl (lv_room (Nat.le_of_ble_eq_true rfl)) dL_law_501 hcs) (fun H locs h => ?_)
  obtain ⟨v6, ev6, hf⟩ := lt_e hf
  rw [← ev6] at h
  refine lv_istore (lv' := [(6, .int r5.1), (5, .int (1 : Int32)), (0, .ref b), (1, .ref (q 0)), (2, .ref (q 431)), (3, .ref (q 430)), (4, .int i)]) hx hb dL_law_504 hl (by decide) rfl (fun ls hl => ?_)
  refine lv_aload_n hx hb dL_law_506 rfl (lv_at hl 4 rfl) ?_
  obtain ⟨r8, hy7, hf⟩ := ob_e hf
  refine xiG h (va_runV (As := []) (rest := []) hC (c_X9_thrown l G (sh 431 q) (sh 431 v6) hy7 H.size) (xcgV hC hin lk_L_104 in_X9 co_X9_thrown im_X9_thrown se_X9_thrown rfl rfl dd_X9_thrown ⟨Nat.le_of_ble_eq_true rfl, Nat.le_of_ble_eq_true rfl⟩) (preVO h.o 431 8 sLW_431 (Nat.le_of_ble_eq_true rfl) (Nat.le_of_ble_eq_true rfl) eLW_431 rfl []) rfl rfl hl.1 rfl (lv_room (Nat.le_of_ble_eq_true rfl)) dL_law_507 hcs) (fun H locs h => ?_)
  refine lv_iload hx hb dL_law_510 (lv_at hl 1 rfl) ?_
  refine lv_icmp_eq (tgt := 517) hx hb dL_law_512 (by decide) (fun c9 => ?_) (fun c9 => ?_)
  · have hf := it_t c9 hf
    refine lv_iload hx hb dL_law_517 (lv_at hl 1 rfl) ?_
    refine lv_if_ne (tgt := 534) hx hb dL_law_519 (by decide) (fun c10 => ?_) (fun c10 => ?_)
    · have hf := it_f c10 hf
      refine lv_goto (tgt := 1839) hx hb dL_law_534 (by decide) ?_
      have hf := sm_e hf
      subst hf
      refine W.widen (k := cells + 1) (n := slots + 6) (by omega) (by omega) ?_
      exact kk H locs ls h (lv_sub hl [2, 3, 4, 5, 6] rfl)
    · have hf := it_t c10 hf
      refine lv_aload_n hx hb dL_law_522 rfl (lv_at hl 5 rfl) ?_
      refine lv_iconst (v := (0 : Int32)) hx hb dL_law_523 (by decide) ?_
      refine xlald hC h.o 430 (Nat.le_of_ble_eq_true rfl) eLW_430 dL_law_524 ?_
      refine lv_iload hx hb dL_law_525 (lv_at hl 0 rfl) ?_
      refine lv_i2l hx hb dL_law_527 rfl ?_
      refine W.lcmp hx hb dL_law_528 ?_
      refine lv_if_eq (tgt := 534) hx hb dL_law_529 (by decide) (fun c11 => ?_) (fun c11 => ?_)
      · have hf := it_t c11 hf
        refine lv_goto (tgt := 1839) hx hb dL_law_534 (by decide) ?_
        have hf := sm_e hf
        subst hf
        refine W.widen (k := cells + 1) (n := slots + 6) (by omega) (by omega) ?_
        exact kk H locs ls h (lv_sub hl [2, 3, 4, 5, 6] rfl)
      · have hf := it_f c11 hf
        cases hf
  · have hf := it_f c9 hf
    cases hf
def m_law_7 (v : xSt) (xs : Nat → Int32) (L : Nat) (i : Int32) : Option xSt := ob (m_L_suspend v ) (fun r1 => lt (pu 0 431 v r1.2) (fun v3 => ob (m_X9_suspend (sh 431 v3)) (fun r5 => lt (pu 431 8 v3 r5.2) (fun v6 => ob (m_X9_thrown (sh 431 v6)) (fun r8 => (if r8 = r1.1 then (if r1.1 = 0 then (if (lg_cmp ((v6 430 0).toInt64) ((r5.1).toInt64)) = 0 then some v6 else none) else some v6) else none))))))
set_option maxHeartbeats 4000000 in
set_option maxRecDepth 100000 in
theorem k_law_7 {p : Program} {l : Launch} {e : Env} {R : Room} {s : State} {m : MethodId} {args : Array Value} {below : List Frame} {meth : Method} {c : Code} {H : Heap} {locs : List Loc} {cells slots : Nat} {Q : State → Prop} {G : xGl} {sa q : Nat → Nat} {v : xSt} {A : Nat → Prop} {ls : Array Slot} {b L : Nat} {xs : Nat → Int32} {i : Int32} (hst : l.stackTraces = false) (hC : CallFix p m c cL_law 9 s args lw_tbl RL) (hin : ∀ w ∈ wG, w ∈ lw_tbl) (hT : xT G sa A s s.heap) (hX : va_X b L xs s s.heap) (hbl : b < s.heap.size) (hbA : ¬ A b) (hcs : cells + 1 ≤ room_1.cells ∧ slots + 6 ≤ room_1.slots) (h : hg G (LW G) 439 q v A s H locs) (hl : lv_has ls 9 [(0, .ref b), (1, .ref (q 0)), (2, .ref (q 431)), (3, .ref (q 430)), (4, .int i)]) {z : xSt} (hf : m_law_7 v xs L i = some z) (kk : ∀ (H : Heap) (locs : List Loc) (ls : Array Slot), hg G (LW G) 439 q z A s H locs → lv_has ls 9 [(0, .ref b), (1, .ref (q 0)), (2, .ref (q 431)), (3, .ref (q 430)), (4, .int i)] → W p l e room_1 s m args below meth c H locs (cells + 1) (slots + 6) Q (F0 m 1839 ls [])) : W p l e room_1 s m args below meth c H locs cells slots Q (F0 m 537 ls []) := by
  have hx := hC.1
  have hb := hC.2.1
  have hc0 : cells ≤ room_1.cells ∧ slots ≤ room_1.slots := ⟨Nat.le_of_succ_le hcs.1, Nat.le_trans (Nat.le_add_right _ _) hcs.2⟩
  unfold m_law_7 at hf
  refine lv_aload_n hx hb dL_law_537 rfl (lv_at hl 1 rfl) ?_
  refine lv_aload_n hx hb dL_law_538 rfl (lv_at hl 3 rfl) ?_
  obtain ⟨r1, hy2, hf⟩ := ob_e hf
  refine xipc h 431 sLW_0 (Nat.le_of_ble_eq_true rfl) (vx_runSW (As := [.ref (q 0), .ref (q 430)]) (rest := []) hC (c_L_suspend l G sa q v  hy2 H.size) (xcgSW hC hin lk_L_128 in_L co_L_suspend st_L_suspend rfl rfl dd_L_suspend ⟨Nat.le_of_ble_eq_true rfl, Nat.le_of_ble_eq_true rfl⟩) (preSP h hT 431 sLW_0 (Nat.le_of_ble_eq_true rfl) [.ref (q 0), .ref (q 430)]) rfl rfl hl.1 rfl (lv_room (Nat.le_of_ble_eq_true rfl)) dL_law_539 ⟨Nat.le_of_succ_le hcs.1, Nat.le_trans (Nat.le_add_right _ _) hcs.2⟩) (fun H locs h => ?_)
  obtain ⟨v3, ev3, hf⟩ := lt_e hf
  rw [← ev3] at h
  refine lv_istore (lv' := [(5, .int r1.1), (0, .ref b), (1, .ref (q 0)), (2, .ref (q 431)), (3, .ref (q 430)), (4, .int i)]) hx hb dL_law_542 hl (by decide) rfl (fun ls hl => ?_)
  refine lv_aload_n hx hb dL_law_544 rfl (lv_at hl 3 rfl) ?_
  obtain ⟨r5, hy4, hf⟩ := ob_e hf
  refine xi1 h 431 8 sLW_431 (Nat.le_of_ble_eq_true rfl) (va_runV (As := []) (rest := []) hC (c_X9_suspend l G (sh 431 q) (sh 431 v3) hy4 H.size) (xcgV hC hin lk_L_130 in_X9 co_X9_suspend im_X9_suspend se_X9_suspend rfl rfl dd_X9_suspend ⟨Nat.le_of_ble_eq_true rfl, Nat.le_of_ble_eq_true rfl⟩) (preV1 h 431 8 sLW_431 (Nat.le_of_ble_eq_true rfl) (Nat.le_of_ble_eq_true rfl) eLW_431 rfl []) rfl rfl hl.1 rfl (lv_room (Nat.le_of_ble_eq_true rfl)) dL_law_545 hc0) (fun H locs h => ?_)
  obtain ⟨v6, ev6, hf⟩ := lt_e hf
  rw [← ev6] at h
  refine lv_istore (lv' := [(6, .int r5.1), (5, .int r1.1), (0, .ref b), (1, .ref (q 0)), (2, .ref (q 431)), (3, .ref (q 430)), (4, .int i)]) hx hb dL_law_548 hl (by decide) rfl (fun ls hl => ?_)
  refine lv_aload_n hx hb dL_law_550 rfl (lv_at hl 4 rfl) ?_
  obtain ⟨r8, hy7, hf⟩ := ob_e hf
  refine xiG h (va_runV (As := []) (rest := []) hC (c_X9_thrown l G (sh 431 q) (sh 431 v6) hy7 H.size) (xcgV hC hin lk_L_104 in_X9 co_X9_thrown im_X9_thrown se_X9_thrown rfl rfl dd_X9_thrown ⟨Nat.le_of_ble_eq_true rfl, Nat.le_of_ble_eq_true rfl⟩) (preVO h.o 431 8 sLW_431 (Nat.le_of_ble_eq_true rfl) (Nat.le_of_ble_eq_true rfl) eLW_431 rfl []) rfl rfl hl.1 rfl (lv_room (Nat.le_of_ble_eq_true rfl)) dL_law_551 hc0) (fun H locs h => ?_)
  refine lv_iload hx hb dL_law_554 (lv_at hl 1 rfl) ?_
  refine lv_icmp_eq (tgt := 561) hx hb dL_law_556 (by decide) (fun c9 => ?_) (fun c9 => ?_)
  · have hf := it_t c9 hf
    refine lv_iload hx hb dL_law_561 (lv_at hl 1 rfl) ?_
    refine lv_if_ne (tgt := 578) hx hb dL_law_563 (by decide) (fun c10 => ?_) (fun c10 => ?_)
    · have hf := it_f c10 hf
      refine lv_goto (tgt := 1839) hx hb dL_law_578 (by decide) ?_
      have hf := sm_e hf
      subst hf
      refine W.widen (k := cells + 1) (n := slots + 6) (by omega) (by omega) ?_
      exact kk H locs ls h (lv_sub hl [2, 3, 4, 5, 6] rfl)
    · have hf := it_t c10 hf
      refine lv_aload_n hx hb dL_law_566 rfl (lv_at hl 5 rfl) ?_
      refine lv_iconst (v := (0 : Int32)) hx hb dL_law_567 (by decide) ?_
      refine xlald hC h.o 430 (Nat.le_of_ble_eq_true rfl) eLW_430 dL_law_568 ?_
      refine lv_iload hx hb dL_law_569 (lv_at hl 0 rfl) ?_
      refine lv_i2l hx hb dL_law_571 rfl ?_
      refine W.lcmp hx hb dL_law_572 ?_
      refine lv_if_eq (tgt := 578) hx hb dL_law_573 (by decide) (fun c11 => ?_) (fun c11 => ?_)
      · have hf := it_t c11 hf
        refine lv_goto (tgt := 1839) hx hb dL_law_578 (by decide) ?_
        have hf := sm_e hf
        subst hf
        refine W.widen (k := cells + 1) (n := slots + 6) (by omega) (by omega) ?_
        exact kk H locs ls h (lv_sub hl [2, 3, 4, 5, 6] rfl)
      · have hf := it_f c11 hf
        cases hf
  · have hf := it_f c9 hf
    cases hf
def m_law_7_xISE (v : xSt) (xs : Nat → Int32) (L : Nat) (i : Int32) : Option xSt := ob (xthE xISE (m_X8_suspend_t v )) (fun r1 => lt (pu 0 431 v (pu 0 430 v r1)) (fun v3 => ob (m_X9_suspend (sh 431 v3)) (fun r5 => lt (pu 431 8 v3 r5.2) (fun v6 => ob (m_X9_thrown (sh 431 v6)) (fun r8 => (if r8 = (1 : Int32) then (if (1 : Int32) = 0 then (if (lg_cmp ((v6 430 0).toInt64) ((r5.1).toInt64)) = 0 then some v6 else none) else some v6) else none))))))
set_option maxHeartbeats 4000000 in
set_option maxRecDepth 100000 in
theorem k_law_7_xISE {p : Program} {l : Launch} {e : Env} {R : Room} {s : State} {m : MethodId} {args : Array Value} {below : List Frame} {meth : Method} {c : Code} {H : Heap} {locs : List Loc} {cells slots : Nat} {Q : State → Prop} {G : xGl} {sa q : Nat → Nat} {v : xSt} {A : Nat → Prop} {ls : Array Slot} {b L : Nat} {xs : Nat → Int32} {i : Int32} (hst : l.stackTraces = false) (hC : CallFix p m c cL_law 9 s args lw_tbl RL) (hin : ∀ w ∈ wG, w ∈ lw_tbl) (hT : xT G sa A s s.heap) (hX : va_X b L xs s s.heap) (hbl : b < s.heap.size) (hbA : ¬ A b) (hcs : cells + 1 ≤ room_1.cells ∧ slots + 6 ≤ room_1.slots) (h : hg G (LW G) 439 q v A s H locs) (hl : lv_has ls 9 [(0, .ref b), (1, .ref (q 0)), (2, .ref (q 431)), (3, .ref (q 430)), (4, .int i)]) {z : xSt} (hf : m_law_7_xISE v xs L i = some z) (kk : ∀ (H : Heap) (locs : List Loc) (ls : Array Slot), hg G (LW G) 439 q z A s H locs → lv_has ls 9 [(0, .ref b), (1, .ref (q 0)), (2, .ref (q 431)), (3, .ref (q 430)), (4, .int i)] → W p l e room_1 s m args below meth c H locs (cells + 1) (slots + 6) Q (F0 m 1839 ls [])) : W p l e room_1 s m args below meth c H locs cells slots Q (F0 m 537 ls []) := by
  have hx := hC.1
  have hb := hC.2.1
  have hc0 : cells ≤ room_1.cells ∧ slots ≤ room_1.slots := ⟨Nat.le_of_succ_le hcs.1, Nat.le_trans (Nat.le_add_right _ _) hcs.2⟩
  unfold m_law_7_xISE at hf
  refine lv_aload_n hx hb dL_law_537 rfl (lv_at hl 1 rfl) ?_
  refine lv_aload_n hx hb dL_law_538 rfl (lv_at hl 3 rfl) ?_
  obtain ⟨r1, hy2, hf⟩ := ob_e hf
  refine xipc h 431 sLW_0 (Nat.le_of_ble_eq_true rfl) (vx_runSW (As := [.ref (q 0), .ref (q 430)]) (rest := []) hC (x_L_suspend_xISE l hst G sa q v  (xthE_e hy2) H.size) (xcgSW hC hin lk_L_128 in_L co_L_suspend st_L_suspend rfl rfl dd_L_suspend ⟨Nat.le_of_ble_eq_true rfl, Nat.le_of_ble_eq_true rfl⟩) (preSP h hT 431 sLW_0 (Nat.le_of_ble_eq_true rfl) [.ref (q 0), .ref (q 430)]) rfl rfl hl.1 rfl (lv_room (Nat.le_of_ble_eq_true rfl)) dL_law_539 hcs) (fun H locs h => ?_)
  obtain ⟨v3, ev3, hf⟩ := lt_e hf
  rw [← ev3] at h
  refine lv_istore (lv' := [(5, .int (1 : Int32)), (0, .ref b), (1, .ref (q 0)), (2, .ref (q 431)), (3, .ref (q 430)), (4, .int i)]) hx hb dL_law_542 hl (by decide) rfl (fun ls hl => ?_)
  refine lv_aload_n hx hb dL_law_544 rfl (lv_at hl 3 rfl) ?_
  obtain ⟨r5, hy4, hf⟩ := ob_e hf
  refine xi1 h 431 8 sLW_431 (Nat.le_of_ble_eq_true rfl) (va_runV (As := []) (rest := []) hC (c_X9_suspend l G (sh 431 q) (sh 431 v3) hy4 H.size) (xcgV hC hin lk_L_130 in_X9 co_X9_suspend im_X9_suspend se_X9_suspend rfl rfl dd_X9_suspend ⟨Nat.le_of_ble_eq_true rfl, Nat.le_of_ble_eq_true rfl⟩) (preV1 h 431 8 sLW_431 (Nat.le_of_ble_eq_true rfl) (Nat.le_of_ble_eq_true rfl) eLW_431 rfl []) rfl rfl hl.1 rfl (lv_room (Nat.le_of_ble_eq_true rfl)) dL_law_545 hcs) (fun H locs h => ?_)
  obtain ⟨v6, ev6, hf⟩ := lt_e hf
  rw [← ev6] at h
  refine lv_istore (lv' := [(6, .int r5.1), (5, .int (1 : Int32)), (0, .ref b), (1, .ref (q 0)), (2, .ref (q 431)), (3, .ref (q 430)), (4, .int i)]) hx hb dL_law_548 hl (by decide) rfl (fun ls hl => ?_)
  refine lv_aload_n hx hb dL_law_550 rfl (lv_at hl 4 rfl) ?_
  obtain ⟨r8, hy7, hf⟩ := ob_e hf
  refine xiG h (va_runV (As := []) (rest := []) hC (c_X9_thrown l G (sh 431 q) (sh 431 v6) hy7 H.size) (xcgV hC hin lk_L_104 in_X9 co_X9_thrown im_X9_thrown se_X9_thrown rfl rfl dd_X9_thrown ⟨Nat.le_of_ble_eq_true rfl, Nat.le_of_ble_eq_true rfl⟩) (preVO h.o 431 8 sLW_431 (Nat.le_of_ble_eq_true rfl) (Nat.le_of_ble_eq_true rfl) eLW_431 rfl []) rfl rfl hl.1 rfl (lv_room (Nat.le_of_ble_eq_true rfl)) dL_law_551 hcs) (fun H locs h => ?_)
  refine lv_iload hx hb dL_law_554 (lv_at hl 1 rfl) ?_
  refine lv_icmp_eq (tgt := 561) hx hb dL_law_556 (by decide) (fun c9 => ?_) (fun c9 => ?_)
  · have hf := it_t c9 hf
    refine lv_iload hx hb dL_law_561 (lv_at hl 1 rfl) ?_
    refine lv_if_ne (tgt := 578) hx hb dL_law_563 (by decide) (fun c10 => ?_) (fun c10 => ?_)
    · have hf := it_f c10 hf
      refine lv_goto (tgt := 1839) hx hb dL_law_578 (by decide) ?_
      have hf := sm_e hf
      subst hf
      refine W.widen (k := cells + 1) (n := slots + 6) (by omega) (by omega) ?_
      exact kk H locs ls h (lv_sub hl [2, 3, 4, 5, 6] rfl)
    · have hf := it_t c10 hf
      refine lv_aload_n hx hb dL_law_566 rfl (lv_at hl 5 rfl) ?_
      refine lv_iconst (v := (0 : Int32)) hx hb dL_law_567 (by decide) ?_
      refine xlald hC h.o 430 (Nat.le_of_ble_eq_true rfl) eLW_430 dL_law_568 ?_
      refine lv_iload hx hb dL_law_569 (lv_at hl 0 rfl) ?_
      refine lv_i2l hx hb dL_law_571 rfl ?_
      refine W.lcmp hx hb dL_law_572 ?_
      refine lv_if_eq (tgt := 578) hx hb dL_law_573 (by decide) (fun c11 => ?_) (fun c11 => ?_)
      · have hf := it_t c11 hf
        refine lv_goto (tgt := 1839) hx hb dL_law_578 (by decide) ?_
        have hf := sm_e hf
        subst hf
        refine W.widen (k := cells + 1) (n := slots + 6) (by omega) (by omega) ?_
        exact kk H locs ls h (lv_sub hl [2, 3, 4, 5, 6] rfl)
      · have hf := it_f c11 hf
        cases hf
  · have hf := it_f c9 hf
    cases hf
def m_law_8 (v : xSt) (xs : Nat → Int32) (L : Nat) (i : Int32) : Option xSt := ob (m_L_resume v ) (fun r1 => lt (pu 0 431 v r1.2) (fun v3 => ob (m_X9_resume (sh 431 v3)) (fun r5 => lt (pu 431 8 v3 r5.2) (fun v6 => ob (m_X9_thrown (sh 431 v6)) (fun r8 => (if r8 = r1.1 then (if r1.1 = 0 then (if (lg_cmp ((v6 430 0).toInt64) ((r5.1).toInt64)) = 0 then some v6 else none) else some v6) else none))))))
set_option maxHeartbeats 4000000 in
set_option maxRecDepth 100000 in
theorem k_law_8 {p : Program} {l : Launch} {e : Env} {R : Room} {s : State} {m : MethodId} {args : Array Value} {below : List Frame} {meth : Method} {c : Code} {H : Heap} {locs : List Loc} {cells slots : Nat} {Q : State → Prop} {G : xGl} {sa q : Nat → Nat} {v : xSt} {A : Nat → Prop} {ls : Array Slot} {b L : Nat} {xs : Nat → Int32} {i : Int32} (hst : l.stackTraces = false) (hC : CallFix p m c cL_law 9 s args lw_tbl RL) (hin : ∀ w ∈ wG, w ∈ lw_tbl) (hT : xT G sa A s s.heap) (hX : va_X b L xs s s.heap) (hbl : b < s.heap.size) (hbA : ¬ A b) (hcs : cells + 1 ≤ room_1.cells ∧ slots + 6 ≤ room_1.slots) (h : hg G (LW G) 439 q v A s H locs) (hl : lv_has ls 9 [(0, .ref b), (1, .ref (q 0)), (2, .ref (q 431)), (3, .ref (q 430)), (4, .int i)]) {z : xSt} (hf : m_law_8 v xs L i = some z) (kk : ∀ (H : Heap) (locs : List Loc) (ls : Array Slot), hg G (LW G) 439 q z A s H locs → lv_has ls 9 [(0, .ref b), (1, .ref (q 0)), (2, .ref (q 431)), (3, .ref (q 430)), (4, .int i)] → W p l e room_1 s m args below meth c H locs (cells + 1) (slots + 6) Q (F0 m 1839 ls [])) : W p l e room_1 s m args below meth c H locs cells slots Q (F0 m 581 ls []) := by
  have hx := hC.1
  have hb := hC.2.1
  have hc0 : cells ≤ room_1.cells ∧ slots ≤ room_1.slots := ⟨Nat.le_of_succ_le hcs.1, Nat.le_trans (Nat.le_add_right _ _) hcs.2⟩
  unfold m_law_8 at hf
  refine lv_aload_n hx hb dL_law_581 rfl (lv_at hl 1 rfl) ?_
  refine lv_aload_n hx hb dL_law_582 rfl (lv_at hl 3 rfl) ?_
  obtain ⟨r1, hy2, hf⟩ := ob_e hf
  refine xipc h 431 sLW_0 (Nat.le_of_ble_eq_true rfl) (vx_runSW (As := [.ref (q 0), .ref (q 430)]) (rest := []) hC (c_L_resume l G sa q v  hy2 H.size) (xcgSW hC hin lk_L_131 in_L co_L_resume st_L_resume rfl rfl dd_L_resume ⟨Nat.le_of_ble_eq_true rfl, Nat.le_of_ble_eq_true rfl⟩) (preSP h hT 431 sLW_0 (Nat.le_of_ble_eq_true rfl) [.ref (q 0), .ref (q 430)]) rfl rfl hl.1 rfl (lv_room (Nat.le_of_ble_eq_true rfl)) dL_law_583 ⟨Nat.le_of_succ_le hcs.1, Nat.le_trans (Nat.le_add_right _ _) hcs.2⟩) (fun H locs h => ?_)
  obtain ⟨v3, ev3, hf⟩ := lt_e hf
  rw [← ev3] at h
  refine lv_istore (lv' := [(5, .int r1.1), (0, .ref b), (1, .ref (q 0)), (2, .ref (q 431)), (3, .ref (q 430)), (4, .int i)]) hx hb dL_law_586 hl (by decide) rfl (fun ls hl => ?_)
  refine lv_aload_n hx hb dL_law_588 rfl (lv_at hl 3 rfl) ?_
  obtain ⟨r5, hy4, hf⟩ := ob_e hf
  refine xi1 h 431 8 sLW_431 (Nat.le_of_ble_eq_true rfl) (va_runV (As := []) (rest := []) hC (c_X9_resume l G (sh 431 q) (sh 431 v3) hy4 H.size) (xcgV hC hin lk_L_133 in_X9 co_X9_resume im_X9_resume se_X9_resume rfl rfl dd_X9_resume ⟨Nat.le_of_ble_eq_true rfl, Nat.le_of_ble_eq_true rfl⟩) (preV1 h 431 8 sLW_431 (Nat.le_of_ble_eq_true rfl) (Nat.le_of_ble_eq_true rfl) eLW_431 rfl []) rfl rfl hl.1 rfl (lv_room (Nat.le_of_ble_eq_true rfl)) dL_law_589 hc0) (fun H locs h => ?_)
  obtain ⟨v6, ev6, hf⟩ := lt_e hf
  rw [← ev6] at h
  refine lv_istore (lv' := [(6, .int r5.1), (5, .int r1.1), (0, .ref b), (1, .ref (q 0)), (2, .ref (q 431)), (3, .ref (q 430)), (4, .int i)]) hx hb dL_law_592 hl (by decide) rfl (fun ls hl => ?_)
  refine lv_aload_n hx hb dL_law_594 rfl (lv_at hl 4 rfl) ?_
  obtain ⟨r8, hy7, hf⟩ := ob_e hf
  refine xiG h (va_runV (As := []) (rest := []) hC (c_X9_thrown l G (sh 431 q) (sh 431 v6) hy7 H.size) (xcgV hC hin lk_L_104 in_X9 co_X9_thrown im_X9_thrown se_X9_thrown rfl rfl dd_X9_thrown ⟨Nat.le_of_ble_eq_true rfl, Nat.le_of_ble_eq_true rfl⟩) (preVO h.o 431 8 sLW_431 (Nat.le_of_ble_eq_true rfl) (Nat.le_of_ble_eq_true rfl) eLW_431 rfl []) rfl rfl hl.1 rfl (lv_room (Nat.le_of_ble_eq_true rfl)) dL_law_595 hc0) (fun H locs h => ?_)
  refine lv_iload hx hb dL_law_598 (lv_at hl 1 rfl) ?_
  refine lv_icmp_eq (tgt := 605) hx hb dL_law_600 (by decide) (fun c9 => ?_) (fun c9 => ?_)
  · have hf := it_t c9 hf
    refine lv_iload hx hb dL_law_605 (lv_at hl 1 rfl) ?_
    refine lv_if_ne (tgt := 622) hx hb dL_law_607 (by decide) (fun c10 => ?_) (fun c10 => ?_)
    · have hf := it_f c10 hf
      refine lv_goto (tgt := 1839) hx hb dL_law_622 (by decide) ?_
      have hf := sm_e hf
      subst hf
      refine W.widen (k := cells + 1) (n := slots + 6) (by omega) (by omega) ?_
      exact kk H locs ls h (lv_sub hl [2, 3, 4, 5, 6] rfl)
    · have hf := it_t c10 hf
      refine lv_aload_n hx hb dL_law_610 rfl (lv_at hl 5 rfl) ?_
      refine lv_iconst (v := (0 : Int32)) hx hb dL_law_611 (by decide) ?_
      refine xlald hC h.o 430 (Nat.le_of_ble_eq_true rfl) eLW_430 dL_law_612 ?_
      refine lv_iload hx hb dL_law_613 (lv_at hl 0 rfl) ?_
      refine lv_i2l hx hb dL_law_615 rfl ?_
      refine W.lcmp hx hb dL_law_616 ?_
      refine lv_if_eq (tgt := 622) hx hb dL_law_617 (by decide) (fun c11 => ?_) (fun c11 => ?_)
      · have hf := it_t c11 hf
        refine lv_goto (tgt := 1839) hx hb dL_law_622 (by decide) ?_
        have hf := sm_e hf
        subst hf
        refine W.widen (k := cells + 1) (n := slots + 6) (by omega) (by omega) ?_
        exact kk H locs ls h (lv_sub hl [2, 3, 4, 5, 6] rfl)
      · have hf := it_f c11 hf
        cases hf
  · have hf := it_f c9 hf
    cases hf
def m_law_8_xISE (v : xSt) (xs : Nat → Int32) (L : Nat) (i : Int32) : Option xSt := ob (xthE xISE (m_X8_resume_t v )) (fun r1 => lt (pu 0 431 v (pu 0 430 v r1)) (fun v3 => ob (m_X9_resume (sh 431 v3)) (fun r5 => lt (pu 431 8 v3 r5.2) (fun v6 => ob (m_X9_thrown (sh 431 v6)) (fun r8 => (if r8 = (1 : Int32) then (if (1 : Int32) = 0 then (if (lg_cmp ((v6 430 0).toInt64) ((r5.1).toInt64)) = 0 then some v6 else none) else some v6) else none))))))
set_option maxHeartbeats 4000000 in
set_option maxRecDepth 100000 in
theorem k_law_8_xISE {p : Program} {l : Launch} {e : Env} {R : Room} {s : State} {m : MethodId} {args : Array Value} {below : List Frame} {meth : Method} {c : Code} {H : Heap} {locs : List Loc} {cells slots : Nat} {Q : State → Prop} {G : xGl} {sa q : Nat → Nat} {v : xSt} {A : Nat → Prop} {ls : Array Slot} {b L : Nat} {xs : Nat → Int32} {i : Int32} (hst : l.stackTraces = false) (hC : CallFix p m c cL_law 9 s args lw_tbl RL) (hin : ∀ w ∈ wG, w ∈ lw_tbl) (hT : xT G sa A s s.heap) (hX : va_X b L xs s s.heap) (hbl : b < s.heap.size) (hbA : ¬ A b) (hcs : cells + 1 ≤ room_1.cells ∧ slots + 6 ≤ room_1.slots) (h : hg G (LW G) 439 q v A s H locs) (hl : lv_has ls 9 [(0, .ref b), (1, .ref (q 0)), (2, .ref (q 431)), (3, .ref (q 430)), (4, .int i)]) {z : xSt} (hf : m_law_8_xISE v xs L i = some z) (kk : ∀ (H : Heap) (locs : List Loc) (ls : Array Slot), hg G (LW G) 439 q z A s H locs → lv_has ls 9 [(0, .ref b), (1, .ref (q 0)), (2, .ref (q 431)), (3, .ref (q 430)), (4, .int i)] → W p l e room_1 s m args below meth c H locs (cells + 1) (slots + 6) Q (F0 m 1839 ls [])) : W p l e room_1 s m args below meth c H locs cells slots Q (F0 m 581 ls []) := by
  have hx := hC.1
  have hb := hC.2.1
  have hc0 : cells ≤ room_1.cells ∧ slots ≤ room_1.slots := ⟨Nat.le_of_succ_le hcs.1, Nat.le_trans (Nat.le_add_right _ _) hcs.2⟩
  unfold m_law_8_xISE at hf
  refine lv_aload_n hx hb dL_law_581 rfl (lv_at hl 1 rfl) ?_
  refine lv_aload_n hx hb dL_law_582 rfl (lv_at hl 3 rfl) ?_
  obtain ⟨r1, hy2, hf⟩ := ob_e hf
  refine xipc h 431 sLW_0 (Nat.le_of_ble_eq_true rfl) (vx_runSW (As := [.ref (q 0), .ref (q 430)]) (rest := []) hC (x_L_resume_xISE l hst G sa q v  (xthE_e hy2) H.size) (xcgSW hC hin lk_L_131 in_L co_L_resume st_L_resume rfl rfl dd_L_resume ⟨Nat.le_of_ble_eq_true rfl, Nat.le_of_ble_eq_true rfl⟩) (preSP h hT 431 sLW_0 (Nat.le_of_ble_eq_true rfl) [.ref (q 0), .ref (q 430)]) rfl rfl hl.1 rfl (lv_room (Nat.le_of_ble_eq_true rfl)) dL_law_583 hcs) (fun H locs h => ?_)
  obtain ⟨v3, ev3, hf⟩ := lt_e hf
  rw [← ev3] at h
  refine lv_istore (lv' := [(5, .int (1 : Int32)), (0, .ref b), (1, .ref (q 0)), (2, .ref (q 431)), (3, .ref (q 430)), (4, .int i)]) hx hb dL_law_586 hl (by decide) rfl (fun ls hl => ?_)
  refine lv_aload_n hx hb dL_law_588 rfl (lv_at hl 3 rfl) ?_
  obtain ⟨r5, hy4, hf⟩ := ob_e hf
  refine xi1 h 431 8 sLW_431 (Nat.le_of_ble_eq_true rfl) (va_runV (As := []) (rest := []) hC (c_X9_resume l G (sh 431 q) (sh 431 v3) hy4 H.size) (xcgV hC hin lk_L_133 in_X9 co_X9_resume im_X9_resume se_X9_resume rfl rfl dd_X9_resume ⟨Nat.le_of_ble_eq_true rfl, Nat.le_of_ble_eq_true rfl⟩) (preV1 h 431 8 sLW_431 (Nat.le_of_ble_eq_true rfl) (Nat.le_of_ble_eq_true rfl) eLW_431 rfl []) rfl rfl hl.1 rfl (lv_room (Nat.le_of_ble_eq_true rfl)) dL_law_589 hcs) (fun H locs h => ?_)
  obtain ⟨v6, ev6, hf⟩ := lt_e hf
  rw [← ev6] at h
  refine lv_istore (lv' := [(6, .int r5.1), (5, .int (1 : Int32)), (0, .ref b), (1, .ref (q 0)), (2, .ref (q 431)), (3, .ref (q 430)), (4, .int i)]) hx hb dL_law_592 hl (by decide) rfl (fun ls hl => ?_)
  refine lv_aload_n hx hb dL_law_594 rfl (lv_at hl 4 rfl) ?_
  obtain ⟨r8, hy7, hf⟩ := ob_e hf
  refine xiG h (va_runV (As := []) (rest := []) hC (c_X9_thrown l G (sh 431 q) (sh 431 v6) hy7 H.size) (xcgV hC hin lk_L_104 in_X9 co_X9_thrown im_X9_thrown se_X9_thrown rfl rfl dd_X9_thrown ⟨Nat.le_of_ble_eq_true rfl, Nat.le_of_ble_eq_true rfl⟩) (preVO h.o 431 8 sLW_431 (Nat.le_of_ble_eq_true rfl) (Nat.le_of_ble_eq_true rfl) eLW_431 rfl []) rfl rfl hl.1 rfl (lv_room (Nat.le_of_ble_eq_true rfl)) dL_law_595 hcs) (fun H locs h => ?_)
  refine lv_iload hx hb dL_law_598 (lv_at hl 1 rfl) ?_
  refine lv_icmp_eq (tgt := 605) hx hb dL_law_600 (by decide) (fun c9 => ?_) (fun c9 => ?_)
  · have hf := it_t c9 hf
    refine lv_iload hx hb dL_law_605 (lv_at hl 1 rfl) ?_
    refine lv_if_ne (tgt := 622) hx hb dL_law_607 (by decide) (fun c10 => ?_) (fun c10 => ?_)
    · have hf := it_f c10 hf
      refine lv_goto (tgt := 1839) hx hb dL_law_622 (by decide) ?_
      have hf := sm_e hf
      subst hf
      refine W.widen (k := cells + 1) (n := slots + 6) (by omega) (by omega) ?_
      exact kk H locs ls h (lv_sub hl [2, 3, 4, 5, 6] rfl)
    · have hf := it_t c10 hf
      refine lv_aload_n hx hb dL_law_610 rfl (lv_at hl 5 rfl) ?_
      refine lv_iconst (v := (0 : Int32)) hx hb dL_law_611 (by decide) ?_
      refine xlald hC h.o 430 (Nat.le_of_ble_eq_true rfl) eLW_430 dL_law_612 ?_
      refine lv_iload hx hb dL_law_613 (lv_at hl 0 rfl) ?_
      refine lv_i2l hx hb dL_law_615 rfl ?_
      refine W.lcmp hx hb dL_law_616 ?_
      refine lv_if_eq (tgt := 622) hx hb dL_law_617 (by decide) (fun c11 => ?_) (fun c11 => ?_)
      · have hf := it_t c11 hf
        refine lv_goto (tgt := 1839) hx hb dL_law_622 (by decide) ?_
        have hf := sm_e hf
        subst hf
        refine W.widen (k := cells + 1) (n := slots + 6) (by omega) (by omega) ?_
        exact kk H locs ls h (lv_sub hl [2, 3, 4, 5, 6] rfl)
      · have hf := it_f c11 hf
        cases hf
  · have hf := it_f c9 hf
    cases hf
def m_law_9 (v : xSt) (xs : Nat → Int32) (L : Nat) (i : Int32) : Option xSt := ob (m_X8_cut v) (fun r2 => lt (pu 0 430 v r2.2) (fun v3 => ob (m_X9_cut (sh 431 v3)) (fun r5 => lt (pu 431 8 v3 r5.2) (fun v6 => (if r2.1 = r5.1 then some v6 else none)))))
set_option maxHeartbeats 4000000 in
set_option maxRecDepth 100000 in
theorem k_law_9 {p : Program} {l : Launch} {e : Env} {R : Room} {s : State} {m : MethodId} {args : Array Value} {below : List Frame} {meth : Method} {c : Code} {H : Heap} {locs : List Loc} {cells slots : Nat} {Q : State → Prop} {G : xGl} {sa q : Nat → Nat} {v : xSt} {A : Nat → Prop} {ls : Array Slot} {b L : Nat} {xs : Nat → Int32} {i : Int32} (hst : l.stackTraces = false) (hC : CallFix p m c cL_law 9 s args lw_tbl RL) (hin : ∀ w ∈ wG, w ∈ lw_tbl) (hT : xT G sa A s s.heap) (hX : va_X b L xs s s.heap) (hbl : b < s.heap.size) (hbA : ¬ A b) (hcs : cells + 1 ≤ room_1.cells ∧ slots + 6 ≤ room_1.slots) (h : hg G (LW G) 439 q v A s H locs) (hl : lv_has ls 9 [(0, .ref b), (1, .ref (q 0)), (2, .ref (q 431)), (3, .ref (q 430)), (4, .int i)]) {z : xSt} (hf : m_law_9 v xs L i = some z) (kk : ∀ (H : Heap) (locs : List Loc) (ls : Array Slot), hg G (LW G) 439 q z A s H locs → lv_has ls 9 [(0, .ref b), (1, .ref (q 0)), (2, .ref (q 431)), (3, .ref (q 430)), (4, .int i)] → W p l e room_1 s m args below meth c H locs (cells + 1) (slots + 6) Q (F0 m 1839 ls [])) : W p l e room_1 s m args below meth c H locs cells slots Q (F0 m 625 ls []) := by
  have hx := hC.1
  have hb := hC.2.1
  have hc0 : cells ≤ room_1.cells ∧ slots ≤ room_1.slots := ⟨Nat.le_of_succ_le hcs.1, Nat.le_trans (Nat.le_add_right _ _) hcs.2⟩
  unfold m_law_9 at hf
  refine lv_aload_n hx hb dL_law_625 rfl (lv_at hl 1 rfl) ?_
  obtain ⟨r2, hy1, hf⟩ := ob_e hf
  refine xip h 430 sLW_0b (Nat.le_of_ble_eq_true rfl) (va_runV (As := []) (rest := []) hC (c_X8_cut l G q v hy1 H.size) (xcgV hC hin lk_L_134 in_X8 co_X8_cut im_X8_cut se_X8_cut rfl rfl dd_X8_cut ⟨Nat.le_of_ble_eq_true rfl, Nat.le_of_ble_eq_true rfl⟩) (preVp h 430 sLW_0b (Nat.le_of_ble_eq_true rfl) (Nat.le_of_ble_eq_true rfl) eLW_0 rfl []) rfl rfl hl.1 rfl (lv_room (Nat.le_of_ble_eq_true rfl)) dL_law_626 hc0) (fun H locs h => ?_)
  obtain ⟨v3, ev3, hf⟩ := lt_e hf
  rw [← ev3] at h
  refine lv_aload_n hx hb dL_law_629 rfl (lv_at hl 2 rfl) ?_
  obtain ⟨r5, hy4, hf⟩ := ob_e hf
  refine xi1 h 431 8 sLW_431 (Nat.le_of_ble_eq_true rfl) (va_runV (As := []) (rest := [.int r2.1]) hC (c_X9_cut l G (sh 431 q) (sh 431 v3) hy4 H.size) (xcgV hC hin lk_L_137 in_X9 co_X9_cut im_X9_cut se_X9_cut rfl rfl dd_X9_cut ⟨Nat.le_of_ble_eq_true rfl, Nat.le_of_ble_eq_true rfl⟩) (preV1 h 431 8 sLW_431 (Nat.le_of_ble_eq_true rfl) (Nat.le_of_ble_eq_true rfl) eLW_431 rfl []) rfl rfl hl.1 rfl (lv_room (Nat.le_of_ble_eq_true rfl)) dL_law_630 hc0) (fun H locs h => ?_)
  obtain ⟨v6, ev6, hf⟩ := lt_e hf
  rw [← ev6] at h
  refine lv_icmp_eq (tgt := 1839) hx hb dL_law_633 (by decide) (fun c7 => ?_) (fun c7 => ?_)
  · have hf := it_t c7 hf
    have hf := sm_e hf
    subst hf
    refine W.widen (k := cells + 1) (n := slots + 6) (by omega) (by omega) ?_
    exact kk H locs ls h (lv_sub hl [0, 1, 2, 3, 4] rfl)
  · have hf := it_f c7 hf
    cases hf
def m_law_10 (v : xSt) (xs : Nat → Int32) (L : Nat) (i : Int32) : Option xSt := ck (¬ ((i + (1 : Int32)) < 0 ∨ L ≤ (i + (1 : Int32)).toNatClampNeg)) (ck (¬ ((i + (2 : Int32)) < 0 ∨ L ≤ (i + (2 : Int32)).toNatClampNeg)) (ck (¬ ((i + (3 : Int32)) < 0 ∨ L ≤ (i + (3 : Int32)).toNatClampNeg)) (ob (m_L_post v (xs (i + (1 : Int32)).toNatClampNeg) (xs (i + (2 : Int32)).toNatClampNeg) (xs (i + (3 : Int32)).toNatClampNeg)) (fun r4 => lt (pu 0 431 v r4.2) (fun v6 => ck (¬ ((i + (1 : Int32)) < 0 ∨ L ≤ (i + (1 : Int32)).toNatClampNeg)) (ck (¬ ((i + (2 : Int32)) < 0 ∨ L ≤ (i + (2 : Int32)).toNatClampNeg)) (ck (¬ ((i + (3 : Int32)) < 0 ∨ L ≤ (i + (3 : Int32)).toNatClampNeg)) (ob (m_X9_post (sh 431 v6) (xs (i + (1 : Int32)).toNatClampNeg) (xs (i + (2 : Int32)).toNatClampNeg) (xs (i + (3 : Int32)).toNatClampNeg)) (fun r11 => lt (pu 431 8 v6 r11.2) (fun v12 => ob (m_X9_thrown (sh 431 v12)) (fun r14 => (if r14 = r4.1 then (if r4.1 = 0 then (if (lg_cmp ((v12 430 0).toInt64) ((r11.1).toInt64)) = 0 then some v12 else none) else some v12) else none))))))))))))
set_option maxHeartbeats 4000000 in
set_option maxRecDepth 100000 in
theorem k_law_10 {p : Program} {l : Launch} {e : Env} {R : Room} {s : State} {m : MethodId} {args : Array Value} {below : List Frame} {meth : Method} {c : Code} {H : Heap} {locs : List Loc} {cells slots : Nat} {Q : State → Prop} {G : xGl} {sa q : Nat → Nat} {v : xSt} {A : Nat → Prop} {ls : Array Slot} {b L : Nat} {xs : Nat → Int32} {i : Int32} (hst : l.stackTraces = false) (hC : CallFix p m c cL_law 9 s args lw_tbl RL) (hin : ∀ w ∈ wG, w ∈ lw_tbl) (hT : xT G sa A s s.heap) (hX : va_X b L xs s s.heap) (hbl : b < s.heap.size) (hbA : ¬ A b) (hcs : cells + 1 ≤ room_1.cells ∧ slots + 6 ≤ room_1.slots) (h : hg G (LW G) 439 q v A s H locs) (hl : lv_has ls 9 [(0, .ref b), (1, .ref (q 0)), (2, .ref (q 431)), (3, .ref (q 430)), (4, .int i)]) {z : xSt} (hf : m_law_10 v xs L i = some z) (kk : ∀ (H : Heap) (locs : List Loc) (ls : Array Slot), hg G (LW G) 439 q z A s H locs → lv_has ls 9 [(0, .ref b), (1, .ref (q 0)), (2, .ref (q 431)), (3, .ref (q 430)), (4, .int i)] → W p l e room_1 s m args below meth c H locs (cells + 1) (slots + 6) Q (F0 m 1839 ls [])) : W p l e room_1 s m args below meth c H locs cells slots Q (F0 m 638 ls []) := by
  have hx := hC.1
  have hb := hC.2.1
  have hc0 : cells ≤ room_1.cells ∧ slots ≤ room_1.slots := ⟨Nat.le_of_succ_le hcs.1, Nat.le_trans (Nat.le_add_right _ _) hcs.2⟩
  unfold m_law_10 at hf
  refine lv_aload_n hx hb dL_law_638 rfl (lv_at hl 1 rfl) ?_
  refine lv_aload_n hx hb dL_law_639 rfl (lv_at hl 0 rfl) ?_
  refine lv_iload hx hb dL_law_640 (lv_at hl 4 rfl) ?_
  refine lv_iconst (v := (1 : Int32)) hx hb dL_law_642 (by decide) ?_
  refine lv_iadd hx hb dL_law_643 ?_
  obtain ⟨hi1, hf⟩ := ck_e hf
  refine va_sld hx hb hX hbl hbA h.1.2.2.1 hi1 dL_law_644 ?_
  refine lv_aload_n hx hb dL_law_645 rfl (lv_at hl 0 rfl) ?_
  refine lv_iload hx hb dL_law_646 (lv_at hl 4 rfl) ?_
  refine lv_iconst (v := (2 : Int32)) hx hb dL_law_648 (by decide) ?_
  refine lv_iadd hx hb dL_law_649 ?_
  obtain ⟨hi2, hf⟩ := ck_e hf
  refine va_sld hx hb hX hbl hbA h.1.2.2.1 hi2 dL_law_650 ?_
  refine lv_aload_n hx hb dL_law_651 rfl (lv_at hl 0 rfl) ?_
  refine lv_iload hx hb dL_law_652 (lv_at hl 4 rfl) ?_
  refine lv_iconst (v := (3 : Int32)) hx hb dL_law_654 (by decide) ?_
  refine lv_iadd hx hb dL_law_655 ?_
  obtain ⟨hi3, hf⟩ := ck_e hf
  refine va_sld hx hb hX hbl hbA h.1.2.2.1 hi3 dL_law_656 ?_
  refine lv_aload_n hx hb dL_law_657 rfl (lv_at hl 3 rfl) ?_
  obtain ⟨r4, hy5, hf⟩ := ob_e hf
  refine xipc h 431 sLW_0 (Nat.le_of_ble_eq_true rfl) (vx_runSW (As := [.ref (q 0), .int (xs (i + (1 : Int32)).toNatClampNeg), .int (xs (i + (2 : Int32)).toNatClampNeg), .int (xs (i + (3 : Int32)).toNatClampNeg), .ref (q 430)]) (rest := []) hC (c_L_post l G sa q v (xs (i + (1 : Int32)).toNatClampNeg) (xs (i + (2 : Int32)).toNatClampNeg) (xs (i + (3 : Int32)).toNatClampNeg) hy5 H.size) (xcgSW hC hin lk_L_138 in_L co_L_post st_L_post rfl rfl dd_L_post ⟨Nat.le_of_ble_eq_true rfl, Nat.le_of_ble_eq_true rfl⟩) (preSP h hT 431 sLW_0 (Nat.le_of_ble_eq_true rfl) [.ref (q 0), .int (xs (i + (1 : Int32)).toNatClampNeg), .int (xs (i + (2 : Int32)).toNatClampNeg), .int (xs (i + (3 : Int32)).toNatClampNeg), .ref (q 430)]) rfl rfl hl.1 rfl (lv_room (Nat.le_of_ble_eq_true rfl)) dL_law_658 ⟨Nat.le_of_succ_le hcs.1, Nat.le_trans (Nat.le_add_right _ _) hcs.2⟩) (fun H locs h => ?_)
  obtain ⟨v6, ev6, hf⟩ := lt_e hf
  rw [← ev6] at h
  refine lv_istore (lv' := [(5, .int r4.1), (0, .ref b), (1, .ref (q 0)), (2, .ref (q 431)), (3, .ref (q 430)), (4, .int i)]) hx hb dL_law_661 hl (by decide) rfl (fun ls hl => ?_)
  refine lv_aload_n hx hb dL_law_663 rfl (lv_at hl 3 rfl) ?_
  refine lv_aload_n hx hb dL_law_664 rfl (lv_at hl 1 rfl) ?_
  refine lv_iload hx hb dL_law_665 (lv_at hl 5 rfl) ?_
  refine lv_iconst (v := (1 : Int32)) hx hb dL_law_667 (by decide) ?_
  refine lv_iadd hx hb dL_law_668 ?_
  obtain ⟨hi7, hf⟩ := ck_e hf
  refine va_sld hx hb hX hbl hbA h.1.2.2.1 hi7 dL_law_669 ?_
  refine lv_aload_n hx hb dL_law_670 rfl (lv_at hl 1 rfl) ?_
  refine lv_iload hx hb dL_law_671 (lv_at hl 5 rfl) ?_
  refine lv_iconst (v := (2 : Int32)) hx hb dL_law_673 (by decide) ?_
  refine lv_iadd hx hb dL_law_674 ?_
  obtain ⟨hi8, hf⟩ := ck_e hf
  refine va_sld hx hb hX hbl hbA h.1.2.2.1 hi8 dL_law_675 ?_
  refine lv_aload_n hx hb dL_law_676 rfl (lv_at hl 1 rfl) ?_
  refine lv_iload hx hb dL_law_677 (lv_at hl 5 rfl) ?_
  refine lv_iconst (v := (3 : Int32)) hx hb dL_law_679 (by decide) ?_
  refine lv_iadd hx hb dL_law_680 ?_
  obtain ⟨hi9, hf⟩ := ck_e hf
  refine va_sld hx hb hX hbl hbA h.1.2.2.1 hi9 dL_law_681 ?_
  obtain ⟨r11, hy10, hf⟩ := ob_e hf
  refine xi1 h 431 8 sLW_431 (Nat.le_of_ble_eq_true rfl) (va_runV (As := [.int (xs (i + (1 : Int32)).toNatClampNeg), .int (xs (i + (2 : Int32)).toNatClampNeg), .int (xs (i + (3 : Int32)).toNatClampNeg)]) (rest := []) hC (c_X9_post l G (sh 431 q) (sh 431 v6) (xs (i + (1 : Int32)).toNatClampNeg) (xs (i + (2 : Int32)).toNatClampNeg) (xs (i + (3 : Int32)).toNatClampNeg) hy10 H.size) (xcgV hC hin lk_L_141 in_X9 co_X9_post im_X9_post se_X9_post rfl rfl dd_X9_post ⟨Nat.le_of_ble_eq_true rfl, Nat.le_of_ble_eq_true rfl⟩) (preV1 h 431 8 sLW_431 (Nat.le_of_ble_eq_true rfl) (Nat.le_of_ble_eq_true rfl) eLW_431 rfl [.int (xs (i + (1 : Int32)).toNatClampNeg), .int (xs (i + (2 : Int32)).toNatClampNeg), .int (xs (i + (3 : Int32)).toNatClampNeg)]) rfl rfl hl.1 rfl (lv_room (Nat.le_of_ble_eq_true rfl)) dL_law_682 hc0) (fun H locs h => ?_)
  obtain ⟨v12, ev12, hf⟩ := lt_e hf
  rw [← ev12] at h
  refine lv_istore (lv' := [(6, .int r11.1), (5, .int r4.1), (0, .ref b), (1, .ref (q 0)), (2, .ref (q 431)), (3, .ref (q 430)), (4, .int i)]) hx hb dL_law_685 hl (by decide) rfl (fun ls hl => ?_)
  refine lv_aload_n hx hb dL_law_687 rfl (lv_at hl 4 rfl) ?_
  obtain ⟨r14, hy13, hf⟩ := ob_e hf
  refine xiG h (va_runV (As := []) (rest := []) hC (c_X9_thrown l G (sh 431 q) (sh 431 v12) hy13 H.size) (xcgV hC hin lk_L_104 in_X9 co_X9_thrown im_X9_thrown se_X9_thrown rfl rfl dd_X9_thrown ⟨Nat.le_of_ble_eq_true rfl, Nat.le_of_ble_eq_true rfl⟩) (preVO h.o 431 8 sLW_431 (Nat.le_of_ble_eq_true rfl) (Nat.le_of_ble_eq_true rfl) eLW_431 rfl []) rfl rfl hl.1 rfl (lv_room (Nat.le_of_ble_eq_true rfl)) dL_law_688 hc0) (fun H locs h => ?_)
  refine lv_iload hx hb dL_law_691 (lv_at hl 1 rfl) ?_
  refine lv_icmp_eq (tgt := 698) hx hb dL_law_693 (by decide) (fun c15 => ?_) (fun c15 => ?_)
  · have hf := it_t c15 hf
    refine lv_iload hx hb dL_law_698 (lv_at hl 1 rfl) ?_
    refine lv_if_ne (tgt := 715) hx hb dL_law_700 (by decide) (fun c16 => ?_) (fun c16 => ?_)
    · have hf := it_f c16 hf
      refine lv_goto (tgt := 1839) hx hb dL_law_715 (by decide) ?_
      have hf := sm_e hf
      subst hf
      refine W.widen (k := cells + 1) (n := slots + 6) (by omega) (by omega) ?_
      exact kk H locs ls h (lv_sub hl [2, 3, 4, 5, 6] rfl)
    · have hf := it_t c16 hf
      refine lv_aload_n hx hb dL_law_703 rfl (lv_at hl 5 rfl) ?_
      refine lv_iconst (v := (0 : Int32)) hx hb dL_law_704 (by decide) ?_
      refine xlald hC h.o 430 (Nat.le_of_ble_eq_true rfl) eLW_430 dL_law_705 ?_
      refine lv_iload hx hb dL_law_706 (lv_at hl 0 rfl) ?_
      refine lv_i2l hx hb dL_law_708 rfl ?_
      refine W.lcmp hx hb dL_law_709 ?_
      refine lv_if_eq (tgt := 715) hx hb dL_law_710 (by decide) (fun c17 => ?_) (fun c17 => ?_)
      · have hf := it_t c17 hf
        refine lv_goto (tgt := 1839) hx hb dL_law_715 (by decide) ?_
        have hf := sm_e hf
        subst hf
        refine W.widen (k := cells + 1) (n := slots + 6) (by omega) (by omega) ?_
        exact kk H locs ls h (lv_sub hl [2, 3, 4, 5, 6] rfl)
      · have hf := it_f c17 hf
        cases hf
  · have hf := it_f c15 hf
    cases hf
def m_law_10_xIAE (v : xSt) (xs : Nat → Int32) (L : Nat) (i : Int32) : Option xSt := ck (¬ ((i + (1 : Int32)) < 0 ∨ L ≤ (i + (1 : Int32)).toNatClampNeg)) (ck (¬ ((i + (2 : Int32)) < 0 ∨ L ≤ (i + (2 : Int32)).toNatClampNeg)) (ck (¬ ((i + (3 : Int32)) < 0 ∨ L ≤ (i + (3 : Int32)).toNatClampNeg)) (ob (xthE xIAE (m_X8_post_t v (xs (i + (1 : Int32)).toNatClampNeg) (xs (i + (2 : Int32)).toNatClampNeg) (xs (i + (3 : Int32)).toNatClampNeg))) (fun r4 => lt (pu 0 431 v (pu 0 430 v r4)) (fun v6 => ck (¬ ((i + (1 : Int32)) < 0 ∨ L ≤ (i + (1 : Int32)).toNatClampNeg)) (ck (¬ ((i + (2 : Int32)) < 0 ∨ L ≤ (i + (2 : Int32)).toNatClampNeg)) (ck (¬ ((i + (3 : Int32)) < 0 ∨ L ≤ (i + (3 : Int32)).toNatClampNeg)) (ob (m_X9_post (sh 431 v6) (xs (i + (1 : Int32)).toNatClampNeg) (xs (i + (2 : Int32)).toNatClampNeg) (xs (i + (3 : Int32)).toNatClampNeg)) (fun r11 => lt (pu 431 8 v6 r11.2) (fun v12 => ob (m_X9_thrown (sh 431 v12)) (fun r14 => (if r14 = (1 : Int32) then (if (1 : Int32) = 0 then (if (lg_cmp ((v12 430 0).toInt64) ((r11.1).toInt64)) = 0 then some v12 else none) else some v12) else none))))))))))))
set_option maxHeartbeats 4000000 in
set_option maxRecDepth 100000 in
theorem k_law_10_xIAE {p : Program} {l : Launch} {e : Env} {R : Room} {s : State} {m : MethodId} {args : Array Value} {below : List Frame} {meth : Method} {c : Code} {H : Heap} {locs : List Loc} {cells slots : Nat} {Q : State → Prop} {G : xGl} {sa q : Nat → Nat} {v : xSt} {A : Nat → Prop} {ls : Array Slot} {b L : Nat} {xs : Nat → Int32} {i : Int32} (hst : l.stackTraces = false) (hC : CallFix p m c cL_law 9 s args lw_tbl RL) (hin : ∀ w ∈ wG, w ∈ lw_tbl) (hT : xT G sa A s s.heap) (hX : va_X b L xs s s.heap) (hbl : b < s.heap.size) (hbA : ¬ A b) (hcs : cells + 1 ≤ room_1.cells ∧ slots + 6 ≤ room_1.slots) (h : hg G (LW G) 439 q v A s H locs) (hl : lv_has ls 9 [(0, .ref b), (1, .ref (q 0)), (2, .ref (q 431)), (3, .ref (q 430)), (4, .int i)]) {z : xSt} (hf : m_law_10_xIAE v xs L i = some z) (kk : ∀ (H : Heap) (locs : List Loc) (ls : Array Slot), hg G (LW G) 439 q z A s H locs → lv_has ls 9 [(0, .ref b), (1, .ref (q 0)), (2, .ref (q 431)), (3, .ref (q 430)), (4, .int i)] → W p l e room_1 s m args below meth c H locs (cells + 1) (slots + 6) Q (F0 m 1839 ls [])) : W p l e room_1 s m args below meth c H locs cells slots Q (F0 m 638 ls []) := by
  have hx := hC.1
  have hb := hC.2.1
  have hc0 : cells ≤ room_1.cells ∧ slots ≤ room_1.slots := ⟨Nat.le_of_succ_le hcs.1, Nat.le_trans (Nat.le_add_right _ _) hcs.2⟩
  unfold m_law_10_xIAE at hf
  refine lv_aload_n hx hb dL_law_638 rfl (lv_at hl 1 rfl) ?_
  refine lv_aload_n hx hb dL_law_639 rfl (lv_at hl 0 rfl) ?_
  refine lv_iload hx hb dL_law_640 (lv_at hl 4 rfl) ?_
  refine lv_iconst (v := (1 : Int32)) hx hb dL_law_642 (by decide) ?_
  refine lv_iadd hx hb dL_law_643 ?_
  obtain ⟨hi1, hf⟩ := ck_e hf
  refine va_sld hx hb hX hbl hbA h.1.2.2.1 hi1 dL_law_644 ?_
  refine lv_aload_n hx hb dL_law_645 rfl (lv_at hl 0 rfl) ?_
  refine lv_iload hx hb dL_law_646 (lv_at hl 4 rfl) ?_
  refine lv_iconst (v := (2 : Int32)) hx hb dL_law_648 (by decide) ?_
  refine lv_iadd hx hb dL_law_649 ?_
  obtain ⟨hi2, hf⟩ := ck_e hf
  refine va_sld hx hb hX hbl hbA h.1.2.2.1 hi2 dL_law_650 ?_
  refine lv_aload_n hx hb dL_law_651 rfl (lv_at hl 0 rfl) ?_
  refine lv_iload hx hb dL_law_652 (lv_at hl 4 rfl) ?_
  refine lv_iconst (v := (3 : Int32)) hx hb dL_law_654 (by decide) ?_
  refine lv_iadd hx hb dL_law_655 ?_
  obtain ⟨hi3, hf⟩ := ck_e hf
  refine va_sld hx hb hX hbl hbA h.1.2.2.1 hi3 dL_law_656 ?_
  refine lv_aload_n hx hb dL_law_657 rfl (lv_at hl 3 rfl) ?_
  obtain ⟨r4, hy5, hf⟩ := ob_e hf
  refine xipc h 431 sLW_0 (Nat.le_of_ble_eq_true rfl) (vx_runSW (As := [.ref (q 0), .int (xs (i + (1 : Int32)).toNatClampNeg), .int (xs (i + (2 : Int32)).toNatClampNeg), .int (xs (i + (3 : Int32)).toNatClampNeg), .ref (q 430)]) (rest := []) hC (x_L_post_xIAE l hst G sa q v (xs (i + (1 : Int32)).toNatClampNeg) (xs (i + (2 : Int32)).toNatClampNeg) (xs (i + (3 : Int32)).toNatClampNeg) (xthE_e hy5) H.size) (xcgSW hC hin lk_L_138 in_L co_L_post st_L_post rfl rfl dd_L_post ⟨Nat.le_of_ble_eq_true rfl, Nat.le_of_ble_eq_true rfl⟩) (preSP h hT 431 sLW_0 (Nat.le_of_ble_eq_true rfl) [.ref (q 0), .int (xs (i + (1 : Int32)).toNatClampNeg), .int (xs (i + (2 : Int32)).toNatClampNeg), .int (xs (i + (3 : Int32)).toNatClampNeg), .ref (q 430)]) rfl rfl hl.1 rfl (lv_room (Nat.le_of_ble_eq_true rfl)) dL_law_658 hcs) (fun H locs h => ?_)
  obtain ⟨v6, ev6, hf⟩ := lt_e hf
  rw [← ev6] at h
  refine lv_istore (lv' := [(5, .int (1 : Int32)), (0, .ref b), (1, .ref (q 0)), (2, .ref (q 431)), (3, .ref (q 430)), (4, .int i)]) hx hb dL_law_661 hl (by decide) rfl (fun ls hl => ?_)
  refine lv_aload_n hx hb dL_law_663 rfl (lv_at hl 3 rfl) ?_
  refine lv_aload_n hx hb dL_law_664 rfl (lv_at hl 1 rfl) ?_
  refine lv_iload hx hb dL_law_665 (lv_at hl 5 rfl) ?_
  refine lv_iconst (v := (1 : Int32)) hx hb dL_law_667 (by decide) ?_
  refine lv_iadd hx hb dL_law_668 ?_
  obtain ⟨hi7, hf⟩ := ck_e hf
  refine va_sld hx hb hX hbl hbA h.1.2.2.1 hi7 dL_law_669 ?_
  refine lv_aload_n hx hb dL_law_670 rfl (lv_at hl 1 rfl) ?_
  refine lv_iload hx hb dL_law_671 (lv_at hl 5 rfl) ?_
  refine lv_iconst (v := (2 : Int32)) hx hb dL_law_673 (by decide) ?_
  refine lv_iadd hx hb dL_law_674 ?_
  obtain ⟨hi8, hf⟩ := ck_e hf
  refine va_sld hx hb hX hbl hbA h.1.2.2.1 hi8 dL_law_675 ?_
  refine lv_aload_n hx hb dL_law_676 rfl (lv_at hl 1 rfl) ?_
  refine lv_iload hx hb dL_law_677 (lv_at hl 5 rfl) ?_
  refine lv_iconst (v := (3 : Int32)) hx hb dL_law_679 (by decide) ?_
  refine lv_iadd hx hb dL_law_680 ?_
  obtain ⟨hi9, hf⟩ := ck_e hf
  refine va_sld hx hb hX hbl hbA h.1.2.2.1 hi9 dL_law_681 ?_
  obtain ⟨r11, hy10, hf⟩ := ob_e hf
  refine xi1 h 431 8 sLW_431 (Nat.le_of_ble_eq_true rfl) (va_runV (As := [.int (xs (i + (1 : Int32)).toNatClampNeg), .int (xs (i + (2 : Int32)).toNatClampNeg), .int (xs (i + (3 : Int32)).toNatClampNeg)]) (rest := []) hC (c_X9_post l G (sh 431 q) (sh 431 v6) (xs (i + (1 : Int32)).toNatClampNeg) (xs (i + (2 : Int32)).toNatClampNeg) (xs (i + (3 : Int32)).toNatClampNeg) hy10 H.size) (xcgV hC hin lk_L_141 in_X9 co_X9_post im_X9_post se_X9_post rfl rfl dd_X9_post ⟨Nat.le_of_ble_eq_true rfl, Nat.le_of_ble_eq_true rfl⟩) (preV1 h 431 8 sLW_431 (Nat.le_of_ble_eq_true rfl) (Nat.le_of_ble_eq_true rfl) eLW_431 rfl [.int (xs (i + (1 : Int32)).toNatClampNeg), .int (xs (i + (2 : Int32)).toNatClampNeg), .int (xs (i + (3 : Int32)).toNatClampNeg)]) rfl rfl hl.1 rfl (lv_room (Nat.le_of_ble_eq_true rfl)) dL_law_682 hcs) (fun H locs h => ?_)
  obtain ⟨v12, ev12, hf⟩ := lt_e hf
  rw [← ev12] at h
  refine lv_istore (lv' := [(6, .int r11.1), (5, .int (1 : Int32)), (0, .ref b), (1, .ref (q 0)), (2, .ref (q 431)), (3, .ref (q 430)), (4, .int i)]) hx hb dL_law_685 hl (by decide) rfl (fun ls hl => ?_)
  refine lv_aload_n hx hb dL_law_687 rfl (lv_at hl 4 rfl) ?_
  obtain ⟨r14, hy13, hf⟩ := ob_e hf
  refine xiG h (va_runV (As := []) (rest := []) hC (c_X9_thrown l G (sh 431 q) (sh 431 v12) hy13 H.size) (xcgV hC hin lk_L_104 in_X9 co_X9_thrown im_X9_thrown se_X9_thrown rfl rfl dd_X9_thrown ⟨Nat.le_of_ble_eq_true rfl, Nat.le_of_ble_eq_true rfl⟩) (preVO h.o 431 8 sLW_431 (Nat.le_of_ble_eq_true rfl) (Nat.le_of_ble_eq_true rfl) eLW_431 rfl []) rfl rfl hl.1 rfl (lv_room (Nat.le_of_ble_eq_true rfl)) dL_law_688 hcs) (fun H locs h => ?_)
  refine lv_iload hx hb dL_law_691 (lv_at hl 1 rfl) ?_
  refine lv_icmp_eq (tgt := 698) hx hb dL_law_693 (by decide) (fun c15 => ?_) (fun c15 => ?_)
  · have hf := it_t c15 hf
    refine lv_iload hx hb dL_law_698 (lv_at hl 1 rfl) ?_
    refine lv_if_ne (tgt := 715) hx hb dL_law_700 (by decide) (fun c16 => ?_) (fun c16 => ?_)
    · have hf := it_f c16 hf
      refine lv_goto (tgt := 1839) hx hb dL_law_715 (by decide) ?_
      have hf := sm_e hf
      subst hf
      refine W.widen (k := cells + 1) (n := slots + 6) (by omega) (by omega) ?_
      exact kk H locs ls h (lv_sub hl [2, 3, 4, 5, 6] rfl)
    · have hf := it_t c16 hf
      refine lv_aload_n hx hb dL_law_703 rfl (lv_at hl 5 rfl) ?_
      refine lv_iconst (v := (0 : Int32)) hx hb dL_law_704 (by decide) ?_
      refine xlald hC h.o 430 (Nat.le_of_ble_eq_true rfl) eLW_430 dL_law_705 ?_
      refine lv_iload hx hb dL_law_706 (lv_at hl 0 rfl) ?_
      refine lv_i2l hx hb dL_law_708 rfl ?_
      refine W.lcmp hx hb dL_law_709 ?_
      refine lv_if_eq (tgt := 715) hx hb dL_law_710 (by decide) (fun c17 => ?_) (fun c17 => ?_)
      · have hf := it_t c17 hf
        refine lv_goto (tgt := 1839) hx hb dL_law_715 (by decide) ?_
        have hf := sm_e hf
        subst hf
        refine W.widen (k := cells + 1) (n := slots + 6) (by omega) (by omega) ?_
        exact kk H locs ls h (lv_sub hl [2, 3, 4, 5, 6] rfl)
      · have hf := it_f c17 hf
        cases hf
  · have hf := it_f c15 hf
    cases hf
def m_law_10_xIOB (v : xSt) (xs : Nat → Int32) (L : Nat) (i : Int32) : Option xSt := ck (¬ ((i + (1 : Int32)) < 0 ∨ L ≤ (i + (1 : Int32)).toNatClampNeg)) (ck (¬ ((i + (2 : Int32)) < 0 ∨ L ≤ (i + (2 : Int32)).toNatClampNeg)) (ck (¬ ((i + (3 : Int32)) < 0 ∨ L ≤ (i + (3 : Int32)).toNatClampNeg)) (ob (xthE xIOB (m_X8_post_t v (xs (i + (1 : Int32)).toNatClampNeg) (xs (i + (2 : Int32)).toNatClampNeg) (xs (i + (3 : Int32)).toNatClampNeg))) (fun r4 => lt (pu 0 431 v (pu 0 430 v r4)) (fun v6 => ck (¬ ((i + (1 : Int32)) < 0 ∨ L ≤ (i + (1 : Int32)).toNatClampNeg)) (ck (¬ ((i + (2 : Int32)) < 0 ∨ L ≤ (i + (2 : Int32)).toNatClampNeg)) (ck (¬ ((i + (3 : Int32)) < 0 ∨ L ≤ (i + (3 : Int32)).toNatClampNeg)) (ob (m_X9_post (sh 431 v6) (xs (i + (1 : Int32)).toNatClampNeg) (xs (i + (2 : Int32)).toNatClampNeg) (xs (i + (3 : Int32)).toNatClampNeg)) (fun r11 => lt (pu 431 8 v6 r11.2) (fun v12 => ob (m_X9_thrown (sh 431 v12)) (fun r14 => (if r14 = (2 : Int32) then (if (2 : Int32) = 0 then (if (lg_cmp ((v12 430 0).toInt64) ((r11.1).toInt64)) = 0 then some v12 else none) else some v12) else none))))))))))))
set_option maxHeartbeats 4000000 in
set_option maxRecDepth 100000 in
theorem k_law_10_xIOB {p : Program} {l : Launch} {e : Env} {R : Room} {s : State} {m : MethodId} {args : Array Value} {below : List Frame} {meth : Method} {c : Code} {H : Heap} {locs : List Loc} {cells slots : Nat} {Q : State → Prop} {G : xGl} {sa q : Nat → Nat} {v : xSt} {A : Nat → Prop} {ls : Array Slot} {b L : Nat} {xs : Nat → Int32} {i : Int32} (hst : l.stackTraces = false) (hC : CallFix p m c cL_law 9 s args lw_tbl RL) (hin : ∀ w ∈ wG, w ∈ lw_tbl) (hT : xT G sa A s s.heap) (hX : va_X b L xs s s.heap) (hbl : b < s.heap.size) (hbA : ¬ A b) (hcs : cells + 1 ≤ room_1.cells ∧ slots + 6 ≤ room_1.slots) (h : hg G (LW G) 439 q v A s H locs) (hl : lv_has ls 9 [(0, .ref b), (1, .ref (q 0)), (2, .ref (q 431)), (3, .ref (q 430)), (4, .int i)]) {z : xSt} (hf : m_law_10_xIOB v xs L i = some z) (kk : ∀ (H : Heap) (locs : List Loc) (ls : Array Slot), hg G (LW G) 439 q z A s H locs → lv_has ls 9 [(0, .ref b), (1, .ref (q 0)), (2, .ref (q 431)), (3, .ref (q 430)), (4, .int i)] → W p l e room_1 s m args below meth c H locs (cells + 1) (slots + 6) Q (F0 m 1839 ls [])) : W p l e room_1 s m args below meth c H locs cells slots Q (F0 m 638 ls []) := by
  have hx := hC.1
  have hb := hC.2.1
  have hc0 : cells ≤ room_1.cells ∧ slots ≤ room_1.slots := ⟨Nat.le_of_succ_le hcs.1, Nat.le_trans (Nat.le_add_right _ _) hcs.2⟩
  unfold m_law_10_xIOB at hf
  refine lv_aload_n hx hb dL_law_638 rfl (lv_at hl 1 rfl) ?_
  refine lv_aload_n hx hb dL_law_639 rfl (lv_at hl 0 rfl) ?_
  refine lv_iload hx hb dL_law_640 (lv_at hl 4 rfl) ?_
  refine lv_iconst (v := (1 : Int32)) hx hb dL_law_642 (by decide) ?_
  refine lv_iadd hx hb dL_law_643 ?_
  obtain ⟨hi1, hf⟩ := ck_e hf
  refine va_sld hx hb hX hbl hbA h.1.2.2.1 hi1 dL_law_644 ?_
  refine lv_aload_n hx hb dL_law_645 rfl (lv_at hl 0 rfl) ?_
  refine lv_iload hx hb dL_law_646 (lv_at hl 4 rfl) ?_
  refine lv_iconst (v := (2 : Int32)) hx hb dL_law_648 (by decide) ?_
  refine lv_iadd hx hb dL_law_649 ?_
  obtain ⟨hi2, hf⟩ := ck_e hf
  refine va_sld hx hb hX hbl hbA h.1.2.2.1 hi2 dL_law_650 ?_
  refine lv_aload_n hx hb dL_law_651 rfl (lv_at hl 0 rfl) ?_
  refine lv_iload hx hb dL_law_652 (lv_at hl 4 rfl) ?_
  refine lv_iconst (v := (3 : Int32)) hx hb dL_law_654 (by decide) ?_
  refine lv_iadd hx hb dL_law_655 ?_
  obtain ⟨hi3, hf⟩ := ck_e hf
  refine va_sld hx hb hX hbl hbA h.1.2.2.1 hi3 dL_law_656 ?_
  refine lv_aload_n hx hb dL_law_657 rfl (lv_at hl 3 rfl) ?_
  obtain ⟨r4, hy5, hf⟩ := ob_e hf
  refine xipc h 431 sLW_0 (Nat.le_of_ble_eq_true rfl) (vx_runSW (As := [.ref (q 0), .int (xs (i + (1 : Int32)).toNatClampNeg), .int (xs (i + (2 : Int32)).toNatClampNeg), .int (xs (i + (3 : Int32)).toNatClampNeg), .ref (q 430)]) (rest := []) hC (x_L_post_xIOB l hst G sa q v (xs (i + (1 : Int32)).toNatClampNeg) (xs (i + (2 : Int32)).toNatClampNeg) (xs (i + (3 : Int32)).toNatClampNeg) (xthE_e hy5) H.size) (xcgSW hC hin lk_L_138 in_L co_L_post st_L_post rfl rfl dd_L_post ⟨Nat.le_of_ble_eq_true rfl, Nat.le_of_ble_eq_true rfl⟩) (preSP h hT 431 sLW_0 (Nat.le_of_ble_eq_true rfl) [.ref (q 0), .int (xs (i + (1 : Int32)).toNatClampNeg), .int (xs (i + (2 : Int32)).toNatClampNeg), .int (xs (i + (3 : Int32)).toNatClampNeg), .ref (q 430)]) rfl rfl hl.1 rfl (lv_room (Nat.le_of_ble_eq_true rfl)) dL_law_658 hcs) (fun H locs h => ?_)
  obtain ⟨v6, ev6, hf⟩ := lt_e hf
  rw [← ev6] at h
  refine lv_istore (lv' := [(5, .int (2 : Int32)), (0, .ref b), (1, .ref (q 0)), (2, .ref (q 431)), (3, .ref (q 430)), (4, .int i)]) hx hb dL_law_661 hl (by decide) rfl (fun ls hl => ?_)
  refine lv_aload_n hx hb dL_law_663 rfl (lv_at hl 3 rfl) ?_
  refine lv_aload_n hx hb dL_law_664 rfl (lv_at hl 1 rfl) ?_
  refine lv_iload hx hb dL_law_665 (lv_at hl 5 rfl) ?_
  refine lv_iconst (v := (1 : Int32)) hx hb dL_law_667 (by decide) ?_
  refine lv_iadd hx hb dL_law_668 ?_
  obtain ⟨hi7, hf⟩ := ck_e hf
  refine va_sld hx hb hX hbl hbA h.1.2.2.1 hi7 dL_law_669 ?_
  refine lv_aload_n hx hb dL_law_670 rfl (lv_at hl 1 rfl) ?_
  refine lv_iload hx hb dL_law_671 (lv_at hl 5 rfl) ?_
  refine lv_iconst (v := (2 : Int32)) hx hb dL_law_673 (by decide) ?_
  refine lv_iadd hx hb dL_law_674 ?_
  obtain ⟨hi8, hf⟩ := ck_e hf
  refine va_sld hx hb hX hbl hbA h.1.2.2.1 hi8 dL_law_675 ?_
  refine lv_aload_n hx hb dL_law_676 rfl (lv_at hl 1 rfl) ?_
  refine lv_iload hx hb dL_law_677 (lv_at hl 5 rfl) ?_
  refine lv_iconst (v := (3 : Int32)) hx hb dL_law_679 (by decide) ?_
  refine lv_iadd hx hb dL_law_680 ?_
  obtain ⟨hi9, hf⟩ := ck_e hf
  refine va_sld hx hb hX hbl hbA h.1.2.2.1 hi9 dL_law_681 ?_
  obtain ⟨r11, hy10, hf⟩ := ob_e hf
  refine xi1 h 431 8 sLW_431 (Nat.le_of_ble_eq_true rfl) (va_runV (As := [.int (xs (i + (1 : Int32)).toNatClampNeg), .int (xs (i + (2 : Int32)).toNatClampNeg), .int (xs (i + (3 : Int32)).toNatClampNeg)]) (rest := []) hC (c_X9_post l G (sh 431 q) (sh 431 v6) (xs (i + (1 : Int32)).toNatClampNeg) (xs (i + (2 : Int32)).toNatClampNeg) (xs (i + (3 : Int32)).toNatClampNeg) hy10 H.size) (xcgV hC hin lk_L_141 in_X9 co_X9_post im_X9_post se_X9_post rfl rfl dd_X9_post ⟨Nat.le_of_ble_eq_true rfl, Nat.le_of_ble_eq_true rfl⟩) (preV1 h 431 8 sLW_431 (Nat.le_of_ble_eq_true rfl) (Nat.le_of_ble_eq_true rfl) eLW_431 rfl [.int (xs (i + (1 : Int32)).toNatClampNeg), .int (xs (i + (2 : Int32)).toNatClampNeg), .int (xs (i + (3 : Int32)).toNatClampNeg)]) rfl rfl hl.1 rfl (lv_room (Nat.le_of_ble_eq_true rfl)) dL_law_682 hcs) (fun H locs h => ?_)
  obtain ⟨v12, ev12, hf⟩ := lt_e hf
  rw [← ev12] at h
  refine lv_istore (lv' := [(6, .int r11.1), (5, .int (2 : Int32)), (0, .ref b), (1, .ref (q 0)), (2, .ref (q 431)), (3, .ref (q 430)), (4, .int i)]) hx hb dL_law_685 hl (by decide) rfl (fun ls hl => ?_)
  refine lv_aload_n hx hb dL_law_687 rfl (lv_at hl 4 rfl) ?_
  obtain ⟨r14, hy13, hf⟩ := ob_e hf
  refine xiG h (va_runV (As := []) (rest := []) hC (c_X9_thrown l G (sh 431 q) (sh 431 v12) hy13 H.size) (xcgV hC hin lk_L_104 in_X9 co_X9_thrown im_X9_thrown se_X9_thrown rfl rfl dd_X9_thrown ⟨Nat.le_of_ble_eq_true rfl, Nat.le_of_ble_eq_true rfl⟩) (preVO h.o 431 8 sLW_431 (Nat.le_of_ble_eq_true rfl) (Nat.le_of_ble_eq_true rfl) eLW_431 rfl []) rfl rfl hl.1 rfl (lv_room (Nat.le_of_ble_eq_true rfl)) dL_law_688 hcs) (fun H locs h => ?_)
  refine lv_iload hx hb dL_law_691 (lv_at hl 1 rfl) ?_
  refine lv_icmp_eq (tgt := 698) hx hb dL_law_693 (by decide) (fun c15 => ?_) (fun c15 => ?_)
  · have hf := it_t c15 hf
    refine lv_iload hx hb dL_law_698 (lv_at hl 1 rfl) ?_
    refine lv_if_ne (tgt := 715) hx hb dL_law_700 (by decide) (fun c16 => ?_) (fun c16 => ?_)
    · have hf := it_f c16 hf
      refine lv_goto (tgt := 1839) hx hb dL_law_715 (by decide) ?_
      have hf := sm_e hf
      subst hf
      refine W.widen (k := cells + 1) (n := slots + 6) (by omega) (by omega) ?_
      exact kk H locs ls h (lv_sub hl [2, 3, 4, 5, 6] rfl)
    · have hf := it_t c16 hf
      refine lv_aload_n hx hb dL_law_703 rfl (lv_at hl 5 rfl) ?_
      refine lv_iconst (v := (0 : Int32)) hx hb dL_law_704 (by decide) ?_
      refine xlald hC h.o 430 (Nat.le_of_ble_eq_true rfl) eLW_430 dL_law_705 ?_
      refine lv_iload hx hb dL_law_706 (lv_at hl 0 rfl) ?_
      refine lv_i2l hx hb dL_law_708 rfl ?_
      refine W.lcmp hx hb dL_law_709 ?_
      refine lv_if_eq (tgt := 715) hx hb dL_law_710 (by decide) (fun c17 => ?_) (fun c17 => ?_)
      · have hf := it_t c17 hf
        refine lv_goto (tgt := 1839) hx hb dL_law_715 (by decide) ?_
        have hf := sm_e hf
        subst hf
        refine W.widen (k := cells + 1) (n := slots + 6) (by omega) (by omega) ?_
        exact kk H locs ls h (lv_sub hl [2, 3, 4, 5, 6] rfl)
      · have hf := it_f c17 hf
        cases hf
  · have hf := it_f c15 hf
    cases hf
def m_law_10_xISE (v : xSt) (xs : Nat → Int32) (L : Nat) (i : Int32) : Option xSt := ck (¬ ((i + (1 : Int32)) < 0 ∨ L ≤ (i + (1 : Int32)).toNatClampNeg)) (ck (¬ ((i + (2 : Int32)) < 0 ∨ L ≤ (i + (2 : Int32)).toNatClampNeg)) (ck (¬ ((i + (3 : Int32)) < 0 ∨ L ≤ (i + (3 : Int32)).toNatClampNeg)) (ob (xthE xISE (m_X8_post_t v (xs (i + (1 : Int32)).toNatClampNeg) (xs (i + (2 : Int32)).toNatClampNeg) (xs (i + (3 : Int32)).toNatClampNeg))) (fun r4 => lt (pu 0 431 v (pu 0 430 v r4)) (fun v6 => ck (¬ ((i + (1 : Int32)) < 0 ∨ L ≤ (i + (1 : Int32)).toNatClampNeg)) (ck (¬ ((i + (2 : Int32)) < 0 ∨ L ≤ (i + (2 : Int32)).toNatClampNeg)) (ck (¬ ((i + (3 : Int32)) < 0 ∨ L ≤ (i + (3 : Int32)).toNatClampNeg)) (ob (m_X9_post (sh 431 v6) (xs (i + (1 : Int32)).toNatClampNeg) (xs (i + (2 : Int32)).toNatClampNeg) (xs (i + (3 : Int32)).toNatClampNeg)) (fun r11 => lt (pu 431 8 v6 r11.2) (fun v12 => ob (m_X9_thrown (sh 431 v12)) (fun r14 => (if r14 = (3 : Int32) then (if (3 : Int32) = 0 then (if (lg_cmp ((v12 430 0).toInt64) ((r11.1).toInt64)) = 0 then some v12 else none) else some v12) else none))))))))))))
set_option maxHeartbeats 4000000 in
set_option maxRecDepth 100000 in
theorem k_law_10_xISE {p : Program} {l : Launch} {e : Env} {R : Room} {s : State} {m : MethodId} {args : Array Value} {below : List Frame} {meth : Method} {c : Code} {H : Heap} {locs : List Loc} {cells slots : Nat} {Q : State → Prop} {G : xGl} {sa q : Nat → Nat} {v : xSt} {A : Nat → Prop} {ls : Array Slot} {b L : Nat} {xs : Nat → Int32} {i : Int32} (hst : l.stackTraces = false) (hC : CallFix p m c cL_law 9 s args lw_tbl RL) (hin : ∀ w ∈ wG, w ∈ lw_tbl) (hT : xT G sa A s s.heap) (hX : va_X b L xs s s.heap) (hbl : b < s.heap.size) (hbA : ¬ A b) (hcs : cells + 1 ≤ room_1.cells ∧ slots + 6 ≤ room_1.slots) (h : hg G (LW G) 439 q v A s H locs) (hl : lv_has ls 9 [(0, .ref b), (1, .ref (q 0)), (2, .ref (q 431)), (3, .ref (q 430)), (4, .int i)]) {z : xSt} (hf : m_law_10_xISE v xs L i = some z) (kk : ∀ (H : Heap) (locs : List Loc) (ls : Array Slot), hg G (LW G) 439 q z A s H locs → lv_has ls 9 [(0, .ref b), (1, .ref (q 0)), (2, .ref (q 431)), (3, .ref (q 430)), (4, .int i)] → W p l e room_1 s m args below meth c H locs (cells + 1) (slots + 6) Q (F0 m 1839 ls [])) : W p l e room_1 s m args below meth c H locs cells slots Q (F0 m 638 ls []) := by
  have hx := hC.1
  have hb := hC.2.1
  have hc0 : cells ≤ room_1.cells ∧ slots ≤ room_1.slots := ⟨Nat.le_of_succ_le hcs.1, Nat.le_trans (Nat.le_add_right _ _) hcs.2⟩
  unfold m_law_10_xISE at hf
  refine lv_aload_n hx hb dL_law_638 rfl (lv_at hl 1 rfl) ?_
  refine lv_aload_n hx hb dL_law_639 rfl (lv_at hl 0 rfl) ?_
  refine lv_iload hx hb dL_law_640 (lv_at hl 4 rfl) ?_
  refine lv_iconst (v := (1 : Int32)) hx hb dL_law_642 (by decide) ?_
  refine lv_iadd hx hb dL_law_643 ?_
  obtain ⟨hi1, hf⟩ := ck_e hf
  refine va_sld hx hb hX hbl hbA h.1.2.2.1 hi1 dL_law_644 ?_
  refine lv_aload_n hx hb dL_law_645 rfl (lv_at hl 0 rfl) ?_
  refine lv_iload hx hb dL_law_646 (lv_at hl 4 rfl) ?_
  refine lv_iconst (v := (2 : Int32)) hx hb dL_law_648 (by decide) ?_
  refine lv_iadd hx hb dL_law_649 ?_
  obtain ⟨hi2, hf⟩ := ck_e hf
  refine va_sld hx hb hX hbl hbA h.1.2.2.1 hi2 dL_law_650 ?_
  refine lv_aload_n hx hb dL_law_651 rfl (lv_at hl 0 rfl) ?_
  refine lv_iload hx hb dL_law_652 (lv_at hl 4 rfl) ?_
  refine lv_iconst (v := (3 : Int32)) hx hb dL_law_654 (by decide) ?_
  refine lv_iadd hx hb dL_law_655 ?_
  obtain ⟨hi3, hf⟩ := ck_e hf
  refine va_sld hx hb hX hbl hbA h.1.2.2.1 hi3 dL_law_656 ?_
  refine lv_aload_n hx hb dL_law_657 rfl (lv_at hl 3 rfl) ?_
  obtain ⟨r4, hy5, hf⟩ := ob_e hf
  refine xipc h 431 sLW_0 (Nat.le_of_ble_eq_true rfl) (vx_runSW (As := [.ref (q 0), .int (xs (i + (1 : Int32)).toNatClampNeg), .int (xs (i + (2 : Int32)).toNatClampNeg), .int (xs (i + (3 : Int32)).toNatClampNeg), .ref (q 430)]) (rest := []) hC (x_L_post_xISE l hst G sa q v (xs (i + (1 : Int32)).toNatClampNeg) (xs (i + (2 : Int32)).toNatClampNeg) (xs (i + (3 : Int32)).toNatClampNeg) (xthE_e hy5) H.size) (xcgSW hC hin lk_L_138 in_L co_L_post st_L_post rfl rfl dd_L_post ⟨Nat.le_of_ble_eq_true rfl, Nat.le_of_ble_eq_true rfl⟩) (preSP h hT 431 sLW_0 (Nat.le_of_ble_eq_true rfl) [.ref (q 0), .int (xs (i + (1 : Int32)).toNatClampNeg), .int (xs (i + (2 : Int32)).toNatClampNeg), .int (xs (i + (3 : Int32)).toNatClampNeg), .ref (q 430)]) rfl rfl hl.1 rfl (lv_room (Nat.le_of_ble_eq_true rfl)) dL_law_658 hcs) (fun H locs h => ?_)
  obtain ⟨v6, ev6, hf⟩ := lt_e hf
  rw [← ev6] at h
  refine lv_istore (lv' := [(5, .int (3 : Int32)), (0, .ref b), (1, .ref (q 0)), (2, .ref (q 431)), (3, .ref (q 430)), (4, .int i)]) hx hb dL_law_661 hl (by decide) rfl (fun ls hl => ?_)
  refine lv_aload_n hx hb dL_law_663 rfl (lv_at hl 3 rfl) ?_
  refine lv_aload_n hx hb dL_law_664 rfl (lv_at hl 1 rfl) ?_
  refine lv_iload hx hb dL_law_665 (lv_at hl 5 rfl) ?_
  refine lv_iconst (v := (1 : Int32)) hx hb dL_law_667 (by decide) ?_
  refine lv_iadd hx hb dL_law_668 ?_
  obtain ⟨hi7, hf⟩ := ck_e hf
  refine va_sld hx hb hX hbl hbA h.1.2.2.1 hi7 dL_law_669 ?_
  refine lv_aload_n hx hb dL_law_670 rfl (lv_at hl 1 rfl) ?_
  refine lv_iload hx hb dL_law_671 (lv_at hl 5 rfl) ?_
  refine lv_iconst (v := (2 : Int32)) hx hb dL_law_673 (by decide) ?_
  refine lv_iadd hx hb dL_law_674 ?_
  obtain ⟨hi8, hf⟩ := ck_e hf
  refine va_sld hx hb hX hbl hbA h.1.2.2.1 hi8 dL_law_675 ?_
  refine lv_aload_n hx hb dL_law_676 rfl (lv_at hl 1 rfl) ?_
  refine lv_iload hx hb dL_law_677 (lv_at hl 5 rfl) ?_
  refine lv_iconst (v := (3 : Int32)) hx hb dL_law_679 (by decide) ?_
  refine lv_iadd hx hb dL_law_680 ?_
  obtain ⟨hi9, hf⟩ := ck_e hf
  refine va_sld hx hb hX hbl hbA h.1.2.2.1 hi9 dL_law_681 ?_
  obtain ⟨r11, hy10, hf⟩ := ob_e hf
  refine xi1 h 431 8 sLW_431 (Nat.le_of_ble_eq_true rfl) (va_runV (As := [.int (xs (i + (1 : Int32)).toNatClampNeg), .int (xs (i + (2 : Int32)).toNatClampNeg), .int (xs (i + (3 : Int32)).toNatClampNeg)]) (rest := []) hC (c_X9_post l G (sh 431 q) (sh 431 v6) (xs (i + (1 : Int32)).toNatClampNeg) (xs (i + (2 : Int32)).toNatClampNeg) (xs (i + (3 : Int32)).toNatClampNeg) hy10 H.size) (xcgV hC hin lk_L_141 in_X9 co_X9_post im_X9_post se_X9_post rfl rfl dd_X9_post ⟨Nat.le_of_ble_eq_true rfl, Nat.le_of_ble_eq_true rfl⟩) (preV1 h 431 8 sLW_431 (Nat.le_of_ble_eq_true rfl) (Nat.le_of_ble_eq_true rfl) eLW_431 rfl [.int (xs (i + (1 : Int32)).toNatClampNeg), .int (xs (i + (2 : Int32)).toNatClampNeg), .int (xs (i + (3 : Int32)).toNatClampNeg)]) rfl rfl hl.1 rfl (lv_room (Nat.le_of_ble_eq_true rfl)) dL_law_682 hcs) (fun H locs h => ?_)
  obtain ⟨v12, ev12, hf⟩ := lt_e hf
  rw [← ev12] at h
  refine lv_istore (lv' := [(6, .int r11.1), (5, .int (3 : Int32)), (0, .ref b), (1, .ref (q 0)), (2, .ref (q 431)), (3, .ref (q 430)), (4, .int i)]) hx hb dL_law_685 hl (by decide) rfl (fun ls hl => ?_)
  refine lv_aload_n hx hb dL_law_687 rfl (lv_at hl 4 rfl) ?_
  obtain ⟨r14, hy13, hf⟩ := ob_e hf
  refine xiG h (va_runV (As := []) (rest := []) hC (c_X9_thrown l G (sh 431 q) (sh 431 v12) hy13 H.size) (xcgV hC hin lk_L_104 in_X9 co_X9_thrown im_X9_thrown se_X9_thrown rfl rfl dd_X9_thrown ⟨Nat.le_of_ble_eq_true rfl, Nat.le_of_ble_eq_true rfl⟩) (preVO h.o 431 8 sLW_431 (Nat.le_of_ble_eq_true rfl) (Nat.le_of_ble_eq_true rfl) eLW_431 rfl []) rfl rfl hl.1 rfl (lv_room (Nat.le_of_ble_eq_true rfl)) dL_law_688 hcs) (fun H locs h => ?_)
  refine lv_iload hx hb dL_law_691 (lv_at hl 1 rfl) ?_
  refine lv_icmp_eq (tgt := 698) hx hb dL_law_693 (by decide) (fun c15 => ?_) (fun c15 => ?_)
  · have hf := it_t c15 hf
    refine lv_iload hx hb dL_law_698 (lv_at hl 1 rfl) ?_
    refine lv_if_ne (tgt := 715) hx hb dL_law_700 (by decide) (fun c16 => ?_) (fun c16 => ?_)
    · have hf := it_f c16 hf
      refine lv_goto (tgt := 1839) hx hb dL_law_715 (by decide) ?_
      have hf := sm_e hf
      subst hf
      refine W.widen (k := cells + 1) (n := slots + 6) (by omega) (by omega) ?_
      exact kk H locs ls h (lv_sub hl [2, 3, 4, 5, 6] rfl)
    · have hf := it_t c16 hf
      refine lv_aload_n hx hb dL_law_703 rfl (lv_at hl 5 rfl) ?_
      refine lv_iconst (v := (0 : Int32)) hx hb dL_law_704 (by decide) ?_
      refine xlald hC h.o 430 (Nat.le_of_ble_eq_true rfl) eLW_430 dL_law_705 ?_
      refine lv_iload hx hb dL_law_706 (lv_at hl 0 rfl) ?_
      refine lv_i2l hx hb dL_law_708 rfl ?_
      refine W.lcmp hx hb dL_law_709 ?_
      refine lv_if_eq (tgt := 715) hx hb dL_law_710 (by decide) (fun c17 => ?_) (fun c17 => ?_)
      · have hf := it_t c17 hf
        refine lv_goto (tgt := 1839) hx hb dL_law_715 (by decide) ?_
        have hf := sm_e hf
        subst hf
        refine W.widen (k := cells + 1) (n := slots + 6) (by omega) (by omega) ?_
        exact kk H locs ls h (lv_sub hl [2, 3, 4, 5, 6] rfl)
      · have hf := it_f c17 hf
        cases hf
  · have hf := it_f c15 hf
    cases hf
def m_law_11 (v : xSt) (xs : Nat → Int32) (L : Nat) (i : Int32) : Option xSt := ck (¬ ((i + (1 : Int32)) < 0 ∨ L ≤ (i + (1 : Int32)).toNatClampNeg)) (ob (m_L_withdraw v (xs (i + (1 : Int32)).toNatClampNeg)) (fun r2 => lt (pu 0 431 v r2.2) (fun v4 => ck (¬ ((i + (1 : Int32)) < 0 ∨ L ≤ (i + (1 : Int32)).toNatClampNeg)) (ob (m_X9_withdraw (sh 431 v4) (xs (i + (1 : Int32)).toNatClampNeg)) (fun r7 => lt (pu 431 8 v4 r7.2) (fun v8 => ob (m_X9_thrown (sh 431 v8)) (fun r10 => (if r10 = r2.1 then (if r2.1 = 0 then (if (lg_cmp ((v8 430 0).toInt64) ((r7.1).toInt64)) = 0 then some v8 else none) else some v8) else none))))))))
set_option maxHeartbeats 4000000 in
set_option maxRecDepth 100000 in
theorem k_law_11 {p : Program} {l : Launch} {e : Env} {R : Room} {s : State} {m : MethodId} {args : Array Value} {below : List Frame} {meth : Method} {c : Code} {H : Heap} {locs : List Loc} {cells slots : Nat} {Q : State → Prop} {G : xGl} {sa q : Nat → Nat} {v : xSt} {A : Nat → Prop} {ls : Array Slot} {b L : Nat} {xs : Nat → Int32} {i : Int32} (hst : l.stackTraces = false) (hC : CallFix p m c cL_law 9 s args lw_tbl RL) (hin : ∀ w ∈ wG, w ∈ lw_tbl) (hT : xT G sa A s s.heap) (hX : va_X b L xs s s.heap) (hbl : b < s.heap.size) (hbA : ¬ A b) (hcs : cells + 1 ≤ room_1.cells ∧ slots + 6 ≤ room_1.slots) (h : hg G (LW G) 439 q v A s H locs) (hl : lv_has ls 9 [(0, .ref b), (1, .ref (q 0)), (2, .ref (q 431)), (3, .ref (q 430)), (4, .int i)]) {z : xSt} (hf : m_law_11 v xs L i = some z) (kk : ∀ (H : Heap) (locs : List Loc) (ls : Array Slot), hg G (LW G) 439 q z A s H locs → lv_has ls 9 [(0, .ref b), (1, .ref (q 0)), (2, .ref (q 431)), (3, .ref (q 430)), (4, .int i)] → W p l e room_1 s m args below meth c H locs (cells + 1) (slots + 6) Q (F0 m 1839 ls [])) : W p l e room_1 s m args below meth c H locs cells slots Q (F0 m 718 ls []) := by
  have hx := hC.1
  have hb := hC.2.1
  have hc0 : cells ≤ room_1.cells ∧ slots ≤ room_1.slots := ⟨Nat.le_of_succ_le hcs.1, Nat.le_trans (Nat.le_add_right _ _) hcs.2⟩
  unfold m_law_11 at hf
  refine lv_aload_n hx hb dL_law_718 rfl (lv_at hl 1 rfl) ?_
  refine lv_aload_n hx hb dL_law_719 rfl (lv_at hl 0 rfl) ?_
  refine lv_iload hx hb dL_law_720 (lv_at hl 4 rfl) ?_
  refine lv_iconst (v := (1 : Int32)) hx hb dL_law_722 (by decide) ?_
  refine lv_iadd hx hb dL_law_723 ?_
  obtain ⟨hi1, hf⟩ := ck_e hf
  refine va_sld hx hb hX hbl hbA h.1.2.2.1 hi1 dL_law_724 ?_
  refine lv_aload_n hx hb dL_law_725 rfl (lv_at hl 3 rfl) ?_
  obtain ⟨r2, hy3, hf⟩ := ob_e hf
  refine xipc h 431 sLW_0 (Nat.le_of_ble_eq_true rfl) (vx_runSW (As := [.ref (q 0), .int (xs (i + (1 : Int32)).toNatClampNeg), .ref (q 430)]) (rest := []) hC (c_L_withdraw l G sa q v (xs (i + (1 : Int32)).toNatClampNeg) hy3 H.size) (xcgSW hC hin lk_L_142 in_L co_L_withdraw st_L_withdraw rfl rfl dd_L_withdraw ⟨Nat.le_of_ble_eq_true rfl, Nat.le_of_ble_eq_true rfl⟩) (preSP h hT 431 sLW_0 (Nat.le_of_ble_eq_true rfl) [.ref (q 0), .int (xs (i + (1 : Int32)).toNatClampNeg), .ref (q 430)]) rfl rfl hl.1 rfl (lv_room (Nat.le_of_ble_eq_true rfl)) dL_law_726 ⟨Nat.le_of_succ_le hcs.1, Nat.le_trans (Nat.le_add_right _ _) hcs.2⟩) (fun H locs h => ?_)
  obtain ⟨v4, ev4, hf⟩ := lt_e hf
  rw [← ev4] at h
  refine lv_istore (lv' := [(5, .int r2.1), (0, .ref b), (1, .ref (q 0)), (2, .ref (q 431)), (3, .ref (q 430)), (4, .int i)]) hx hb dL_law_729 hl (by decide) rfl (fun ls hl => ?_)
  refine lv_aload_n hx hb dL_law_731 rfl (lv_at hl 3 rfl) ?_
  refine lv_aload_n hx hb dL_law_732 rfl (lv_at hl 1 rfl) ?_
  refine lv_iload hx hb dL_law_733 (lv_at hl 5 rfl) ?_
  refine lv_iconst (v := (1 : Int32)) hx hb dL_law_735 (by decide) ?_
  refine lv_iadd hx hb dL_law_736 ?_
  obtain ⟨hi5, hf⟩ := ck_e hf
  refine va_sld hx hb hX hbl hbA h.1.2.2.1 hi5 dL_law_737 ?_
  obtain ⟨r7, hy6, hf⟩ := ob_e hf
  refine xi1 h 431 8 sLW_431 (Nat.le_of_ble_eq_true rfl) (va_runV (As := [.int (xs (i + (1 : Int32)).toNatClampNeg)]) (rest := []) hC (c_X9_withdraw l G (sh 431 q) (sh 431 v4) (xs (i + (1 : Int32)).toNatClampNeg) hy6 H.size) (xcgV hC hin lk_L_144 in_X9 co_X9_withdraw im_X9_withdraw se_X9_withdraw rfl rfl dd_X9_withdraw ⟨Nat.le_of_ble_eq_true rfl, Nat.le_of_ble_eq_true rfl⟩) (preV1 h 431 8 sLW_431 (Nat.le_of_ble_eq_true rfl) (Nat.le_of_ble_eq_true rfl) eLW_431 rfl [.int (xs (i + (1 : Int32)).toNatClampNeg)]) rfl rfl hl.1 rfl (lv_room (Nat.le_of_ble_eq_true rfl)) dL_law_738 hc0) (fun H locs h => ?_)
  obtain ⟨v8, ev8, hf⟩ := lt_e hf
  rw [← ev8] at h
  refine lv_istore (lv' := [(6, .int r7.1), (5, .int r2.1), (0, .ref b), (1, .ref (q 0)), (2, .ref (q 431)), (3, .ref (q 430)), (4, .int i)]) hx hb dL_law_741 hl (by decide) rfl (fun ls hl => ?_)
  refine lv_aload_n hx hb dL_law_743 rfl (lv_at hl 4 rfl) ?_
  obtain ⟨r10, hy9, hf⟩ := ob_e hf
  refine xiG h (va_runV (As := []) (rest := []) hC (c_X9_thrown l G (sh 431 q) (sh 431 v8) hy9 H.size) (xcgV hC hin lk_L_104 in_X9 co_X9_thrown im_X9_thrown se_X9_thrown rfl rfl dd_X9_thrown ⟨Nat.le_of_ble_eq_true rfl, Nat.le_of_ble_eq_true rfl⟩) (preVO h.o 431 8 sLW_431 (Nat.le_of_ble_eq_true rfl) (Nat.le_of_ble_eq_true rfl) eLW_431 rfl []) rfl rfl hl.1 rfl (lv_room (Nat.le_of_ble_eq_true rfl)) dL_law_744 hc0) (fun H locs h => ?_)
  refine lv_iload hx hb dL_law_747 (lv_at hl 1 rfl) ?_
  refine lv_icmp_eq (tgt := 754) hx hb dL_law_749 (by decide) (fun c11 => ?_) (fun c11 => ?_)
  · have hf := it_t c11 hf
    refine lv_iload hx hb dL_law_754 (lv_at hl 1 rfl) ?_
    refine lv_if_ne (tgt := 771) hx hb dL_law_756 (by decide) (fun c12 => ?_) (fun c12 => ?_)
    · have hf := it_f c12 hf
      refine lv_goto (tgt := 1839) hx hb dL_law_771 (by decide) ?_
      have hf := sm_e hf
      subst hf
      refine W.widen (k := cells + 1) (n := slots + 6) (by omega) (by omega) ?_
      exact kk H locs ls h (lv_sub hl [2, 3, 4, 5, 6] rfl)
    · have hf := it_t c12 hf
      refine lv_aload_n hx hb dL_law_759 rfl (lv_at hl 5 rfl) ?_
      refine lv_iconst (v := (0 : Int32)) hx hb dL_law_760 (by decide) ?_
      refine xlald hC h.o 430 (Nat.le_of_ble_eq_true rfl) eLW_430 dL_law_761 ?_
      refine lv_iload hx hb dL_law_762 (lv_at hl 0 rfl) ?_
      refine lv_i2l hx hb dL_law_764 rfl ?_
      refine W.lcmp hx hb dL_law_765 ?_
      refine lv_if_eq (tgt := 771) hx hb dL_law_766 (by decide) (fun c13 => ?_) (fun c13 => ?_)
      · have hf := it_t c13 hf
        refine lv_goto (tgt := 1839) hx hb dL_law_771 (by decide) ?_
        have hf := sm_e hf
        subst hf
        refine W.widen (k := cells + 1) (n := slots + 6) (by omega) (by omega) ?_
        exact kk H locs ls h (lv_sub hl [2, 3, 4, 5, 6] rfl)
      · have hf := it_f c13 hf
        cases hf
  · have hf := it_f c11 hf
    cases hf
def m_law_11_xIOB (v : xSt) (xs : Nat → Int32) (L : Nat) (i : Int32) : Option xSt := ck (¬ ((i + (1 : Int32)) < 0 ∨ L ≤ (i + (1 : Int32)).toNatClampNeg)) (ob (xthE xIOB (m_X8_withdraw_t v (xs (i + (1 : Int32)).toNatClampNeg))) (fun r2 => lt (pu 0 431 v (pu 0 430 v r2)) (fun v4 => ck (¬ ((i + (1 : Int32)) < 0 ∨ L ≤ (i + (1 : Int32)).toNatClampNeg)) (ob (m_X9_withdraw (sh 431 v4) (xs (i + (1 : Int32)).toNatClampNeg)) (fun r7 => lt (pu 431 8 v4 r7.2) (fun v8 => ob (m_X9_thrown (sh 431 v8)) (fun r10 => (if r10 = (1 : Int32) then (if (1 : Int32) = 0 then (if (lg_cmp ((v8 430 0).toInt64) ((r7.1).toInt64)) = 0 then some v8 else none) else some v8) else none))))))))
set_option maxHeartbeats 4000000 in
set_option maxRecDepth 100000 in
theorem k_law_11_xIOB {p : Program} {l : Launch} {e : Env} {R : Room} {s : State} {m : MethodId} {args : Array Value} {below : List Frame} {meth : Method} {c : Code} {H : Heap} {locs : List Loc} {cells slots : Nat} {Q : State → Prop} {G : xGl} {sa q : Nat → Nat} {v : xSt} {A : Nat → Prop} {ls : Array Slot} {b L : Nat} {xs : Nat → Int32} {i : Int32} (hst : l.stackTraces = false) (hC : CallFix p m c cL_law 9 s args lw_tbl RL) (hin : ∀ w ∈ wG, w ∈ lw_tbl) (hT : xT G sa A s s.heap) (hX : va_X b L xs s s.heap) (hbl : b < s.heap.size) (hbA : ¬ A b) (hcs : cells + 1 ≤ room_1.cells ∧ slots + 6 ≤ room_1.slots) (h : hg G (LW G) 439 q v A s H locs) (hl : lv_has ls 9 [(0, .ref b), (1, .ref (q 0)), (2, .ref (q 431)), (3, .ref (q 430)), (4, .int i)]) {z : xSt} (hf : m_law_11_xIOB v xs L i = some z) (kk : ∀ (H : Heap) (locs : List Loc) (ls : Array Slot), hg G (LW G) 439 q z A s H locs → lv_has ls 9 [(0, .ref b), (1, .ref (q 0)), (2, .ref (q 431)), (3, .ref (q 430)), (4, .int i)] → W p l e room_1 s m args below meth c H locs (cells + 1) (slots + 6) Q (F0 m 1839 ls [])) : W p l e room_1 s m args below meth c H locs cells slots Q (F0 m 718 ls []) := by
  have hx := hC.1
  have hb := hC.2.1
  have hc0 : cells ≤ room_1.cells ∧ slots ≤ room_1.slots := ⟨Nat.le_of_succ_le hcs.1, Nat.le_trans (Nat.le_add_right _ _) hcs.2⟩
  unfold m_law_11_xIOB at hf
  refine lv_aload_n hx hb dL_law_718 rfl (lv_at hl 1 rfl) ?_
  refine lv_aload_n hx hb dL_law_719 rfl (lv_at hl 0 rfl) ?_
  refine lv_iload hx hb dL_law_720 (lv_at hl 4 rfl) ?_
  refine lv_iconst (v := (1 : Int32)) hx hb dL_law_722 (by decide) ?_
  refine lv_iadd hx hb dL_law_723 ?_
  obtain ⟨hi1, hf⟩ := ck_e hf
  refine va_sld hx hb hX hbl hbA h.1.2.2.1 hi1 dL_law_724 ?_
  refine lv_aload_n hx hb dL_law_725 rfl (lv_at hl 3 rfl) ?_
  obtain ⟨r2, hy3, hf⟩ := ob_e hf
  refine xipc h 431 sLW_0 (Nat.le_of_ble_eq_true rfl) (vx_runSW (As := [.ref (q 0), .int (xs (i + (1 : Int32)).toNatClampNeg), .ref (q 430)]) (rest := []) hC (x_L_withdraw_xIOB l hst G sa q v (xs (i + (1 : Int32)).toNatClampNeg) (xthE_e hy3) H.size) (xcgSW hC hin lk_L_142 in_L co_L_withdraw st_L_withdraw rfl rfl dd_L_withdraw ⟨Nat.le_of_ble_eq_true rfl, Nat.le_of_ble_eq_true rfl⟩) (preSP h hT 431 sLW_0 (Nat.le_of_ble_eq_true rfl) [.ref (q 0), .int (xs (i + (1 : Int32)).toNatClampNeg), .ref (q 430)]) rfl rfl hl.1 rfl (lv_room (Nat.le_of_ble_eq_true rfl)) dL_law_726 hcs) (fun H locs h => ?_)
  obtain ⟨v4, ev4, hf⟩ := lt_e hf
  rw [← ev4] at h
  refine lv_istore (lv' := [(5, .int (1 : Int32)), (0, .ref b), (1, .ref (q 0)), (2, .ref (q 431)), (3, .ref (q 430)), (4, .int i)]) hx hb dL_law_729 hl (by decide) rfl (fun ls hl => ?_)
  refine lv_aload_n hx hb dL_law_731 rfl (lv_at hl 3 rfl) ?_
  refine lv_aload_n hx hb dL_law_732 rfl (lv_at hl 1 rfl) ?_
  refine lv_iload hx hb dL_law_733 (lv_at hl 5 rfl) ?_
  refine lv_iconst (v := (1 : Int32)) hx hb dL_law_735 (by decide) ?_
  refine lv_iadd hx hb dL_law_736 ?_
  obtain ⟨hi5, hf⟩ := ck_e hf
  refine va_sld hx hb hX hbl hbA h.1.2.2.1 hi5 dL_law_737 ?_
  obtain ⟨r7, hy6, hf⟩ := ob_e hf
  refine xi1 h 431 8 sLW_431 (Nat.le_of_ble_eq_true rfl) (va_runV (As := [.int (xs (i + (1 : Int32)).toNatClampNeg)]) (rest := []) hC (c_X9_withdraw l G (sh 431 q) (sh 431 v4) (xs (i + (1 : Int32)).toNatClampNeg) hy6 H.size) (xcgV hC hin lk_L_144 in_X9 co_X9_withdraw im_X9_withdraw se_X9_withdraw rfl rfl dd_X9_withdraw ⟨Nat.le_of_ble_eq_true rfl, Nat.le_of_ble_eq_true rfl⟩) (preV1 h 431 8 sLW_431 (Nat.le_of_ble_eq_true rfl) (Nat.le_of_ble_eq_true rfl) eLW_431 rfl [.int (xs (i + (1 : Int32)).toNatClampNeg)]) rfl rfl hl.1 rfl (lv_room (Nat.le_of_ble_eq_true rfl)) dL_law_738 hcs) (fun H locs h => ?_)
  obtain ⟨v8, ev8, hf⟩ := lt_e hf
  rw [← ev8] at h
  refine lv_istore (lv' := [(6, .int r7.1), (5, .int (1 : Int32)), (0, .ref b), (1, .ref (q 0)), (2, .ref (q 431)), (3, .ref (q 430)), (4, .int i)]) hx hb dL_law_741 hl (by decide) rfl (fun ls hl => ?_)
  refine lv_aload_n hx hb dL_law_743 rfl (lv_at hl 4 rfl) ?_
  obtain ⟨r10, hy9, hf⟩ := ob_e hf
  refine xiG h (va_runV (As := []) (rest := []) hC (c_X9_thrown l G (sh 431 q) (sh 431 v8) hy9 H.size) (xcgV hC hin lk_L_104 in_X9 co_X9_thrown im_X9_thrown se_X9_thrown rfl rfl dd_X9_thrown ⟨Nat.le_of_ble_eq_true rfl, Nat.le_of_ble_eq_true rfl⟩) (preVO h.o 431 8 sLW_431 (Nat.le_of_ble_eq_true rfl) (Nat.le_of_ble_eq_true rfl) eLW_431 rfl []) rfl rfl hl.1 rfl (lv_room (Nat.le_of_ble_eq_true rfl)) dL_law_744 hcs) (fun H locs h => ?_)
  refine lv_iload hx hb dL_law_747 (lv_at hl 1 rfl) ?_
  refine lv_icmp_eq (tgt := 754) hx hb dL_law_749 (by decide) (fun c11 => ?_) (fun c11 => ?_)
  · have hf := it_t c11 hf
    refine lv_iload hx hb dL_law_754 (lv_at hl 1 rfl) ?_
    refine lv_if_ne (tgt := 771) hx hb dL_law_756 (by decide) (fun c12 => ?_) (fun c12 => ?_)
    · have hf := it_f c12 hf
      refine lv_goto (tgt := 1839) hx hb dL_law_771 (by decide) ?_
      have hf := sm_e hf
      subst hf
      refine W.widen (k := cells + 1) (n := slots + 6) (by omega) (by omega) ?_
      exact kk H locs ls h (lv_sub hl [2, 3, 4, 5, 6] rfl)
    · have hf := it_t c12 hf
      refine lv_aload_n hx hb dL_law_759 rfl (lv_at hl 5 rfl) ?_
      refine lv_iconst (v := (0 : Int32)) hx hb dL_law_760 (by decide) ?_
      refine xlald hC h.o 430 (Nat.le_of_ble_eq_true rfl) eLW_430 dL_law_761 ?_
      refine lv_iload hx hb dL_law_762 (lv_at hl 0 rfl) ?_
      refine lv_i2l hx hb dL_law_764 rfl ?_
      refine W.lcmp hx hb dL_law_765 ?_
      refine lv_if_eq (tgt := 771) hx hb dL_law_766 (by decide) (fun c13 => ?_) (fun c13 => ?_)
      · have hf := it_t c13 hf
        refine lv_goto (tgt := 1839) hx hb dL_law_771 (by decide) ?_
        have hf := sm_e hf
        subst hf
        refine W.widen (k := cells + 1) (n := slots + 6) (by omega) (by omega) ?_
        exact kk H locs ls h (lv_sub hl [2, 3, 4, 5, 6] rfl)
      · have hf := it_f c13 hf
        cases hf
  · have hf := it_f c11 hf
    cases hf
def m_law_12 (v : xSt) (xs : Nat → Int32) (L : Nat) (i : Int32) : Option xSt := ck (¬ ((i + (1 : Int32)) < 0 ∨ L ≤ (i + (1 : Int32)).toNatClampNeg)) (ob (m_L_pass v (xs (i + (1 : Int32)).toNatClampNeg)) (fun r2 => lt (pu 0 431 v r2.2) (fun v4 => ck (¬ ((i + (1 : Int32)) < 0 ∨ L ≤ (i + (1 : Int32)).toNatClampNeg)) (ob (m_X9_pass (sh 431 v4) (xs (i + (1 : Int32)).toNatClampNeg)) (fun r7 => lt (pu 431 8 v4 r7.2) (fun v8 => ob (m_X9_thrown (sh 431 v8)) (fun r10 => (if r10 = r2.1 then (if r2.1 = 0 then (if (lg_cmp ((v8 430 0).toInt64) ((r7.1).toInt64)) = 0 then some v8 else none) else some v8) else none))))))))
set_option maxHeartbeats 4000000 in
set_option maxRecDepth 100000 in
theorem k_law_12 {p : Program} {l : Launch} {e : Env} {R : Room} {s : State} {m : MethodId} {args : Array Value} {below : List Frame} {meth : Method} {c : Code} {H : Heap} {locs : List Loc} {cells slots : Nat} {Q : State → Prop} {G : xGl} {sa q : Nat → Nat} {v : xSt} {A : Nat → Prop} {ls : Array Slot} {b L : Nat} {xs : Nat → Int32} {i : Int32} (hst : l.stackTraces = false) (hC : CallFix p m c cL_law 9 s args lw_tbl RL) (hin : ∀ w ∈ wG, w ∈ lw_tbl) (hT : xT G sa A s s.heap) (hX : va_X b L xs s s.heap) (hbl : b < s.heap.size) (hbA : ¬ A b) (hcs : cells + 1 ≤ room_1.cells ∧ slots + 6 ≤ room_1.slots) (h : hg G (LW G) 439 q v A s H locs) (hl : lv_has ls 9 [(0, .ref b), (1, .ref (q 0)), (2, .ref (q 431)), (3, .ref (q 430)), (4, .int i)]) {z : xSt} (hf : m_law_12 v xs L i = some z) (kk : ∀ (H : Heap) (locs : List Loc) (ls : Array Slot), hg G (LW G) 439 q z A s H locs → lv_has ls 9 [(0, .ref b), (1, .ref (q 0)), (2, .ref (q 431)), (3, .ref (q 430)), (4, .int i)] → W p l e room_1 s m args below meth c H locs (cells + 1) (slots + 6) Q (F0 m 1839 ls [])) : W p l e room_1 s m args below meth c H locs cells slots Q (F0 m 774 ls []) := by
  have hx := hC.1
  have hb := hC.2.1
  have hc0 : cells ≤ room_1.cells ∧ slots ≤ room_1.slots := ⟨Nat.le_of_succ_le hcs.1, Nat.le_trans (Nat.le_add_right _ _) hcs.2⟩
  unfold m_law_12 at hf
  refine lv_aload_n hx hb dL_law_774 rfl (lv_at hl 1 rfl) ?_
  refine lv_aload_n hx hb dL_law_775 rfl (lv_at hl 0 rfl) ?_
  refine lv_iload hx hb dL_law_776 (lv_at hl 4 rfl) ?_
  refine lv_iconst (v := (1 : Int32)) hx hb dL_law_778 (by decide) ?_
  refine lv_iadd hx hb dL_law_779 ?_
  obtain ⟨hi1, hf⟩ := ck_e hf
  refine va_sld hx hb hX hbl hbA h.1.2.2.1 hi1 dL_law_780 ?_
  refine lv_aload_n hx hb dL_law_781 rfl (lv_at hl 3 rfl) ?_
  obtain ⟨r2, hy3, hf⟩ := ob_e hf
  refine xipc h 431 sLW_0 (Nat.le_of_ble_eq_true rfl) (vx_runSW (As := [.ref (q 0), .int (xs (i + (1 : Int32)).toNatClampNeg), .ref (q 430)]) (rest := []) hC (c_L_pass l G sa q v (xs (i + (1 : Int32)).toNatClampNeg) hy3 H.size) (xcgSW hC hin lk_L_145 in_L co_L_pass st_L_pass rfl rfl dd_L_pass ⟨Nat.le_of_ble_eq_true rfl, Nat.le_of_ble_eq_true rfl⟩) (preSP h hT 431 sLW_0 (Nat.le_of_ble_eq_true rfl) [.ref (q 0), .int (xs (i + (1 : Int32)).toNatClampNeg), .ref (q 430)]) rfl rfl hl.1 rfl (lv_room (Nat.le_of_ble_eq_true rfl)) dL_law_782 ⟨Nat.le_of_succ_le hcs.1, Nat.le_trans (Nat.le_add_right _ _) hcs.2⟩) (fun H locs h => ?_)
  obtain ⟨v4, ev4, hf⟩ := lt_e hf
  rw [← ev4] at h
  refine lv_istore (lv' := [(5, .int r2.1), (0, .ref b), (1, .ref (q 0)), (2, .ref (q 431)), (3, .ref (q 430)), (4, .int i)]) hx hb dL_law_785 hl (by decide) rfl (fun ls hl => ?_)
  refine lv_aload_n hx hb dL_law_787 rfl (lv_at hl 3 rfl) ?_
  refine lv_aload_n hx hb dL_law_788 rfl (lv_at hl 1 rfl) ?_
  refine lv_iload hx hb dL_law_789 (lv_at hl 5 rfl) ?_
  refine lv_iconst (v := (1 : Int32)) hx hb dL_law_791 (by decide) ?_
  refine lv_iadd hx hb dL_law_792 ?_
  obtain ⟨hi5, hf⟩ := ck_e hf
  refine va_sld hx hb hX hbl hbA h.1.2.2.1 hi5 dL_law_793 ?_
  obtain ⟨r7, hy6, hf⟩ := ob_e hf
  refine xi1 h 431 8 sLW_431 (Nat.le_of_ble_eq_true rfl) (va_runV (As := [.int (xs (i + (1 : Int32)).toNatClampNeg)]) (rest := []) hC (c_X9_pass l G (sh 431 q) (sh 431 v4) (xs (i + (1 : Int32)).toNatClampNeg) hy6 H.size) (xcgV hC hin lk_L_147 in_X9 co_X9_pass im_X9_pass se_X9_pass rfl rfl dd_X9_pass ⟨Nat.le_of_ble_eq_true rfl, Nat.le_of_ble_eq_true rfl⟩) (preV1 h 431 8 sLW_431 (Nat.le_of_ble_eq_true rfl) (Nat.le_of_ble_eq_true rfl) eLW_431 rfl [.int (xs (i + (1 : Int32)).toNatClampNeg)]) rfl rfl hl.1 rfl (lv_room (Nat.le_of_ble_eq_true rfl)) dL_law_794 hc0) (fun H locs h => ?_)
  obtain ⟨v8, ev8, hf⟩ := lt_e hf
  rw [← ev8] at h
  refine lv_istore (lv' := [(6, .int r7.1), (5, .int r2.1), (0, .ref b), (1, .ref (q 0)), (2, .ref (q 431)), (3, .ref (q 430)), (4, .int i)]) hx hb dL_law_797 hl (by decide) rfl (fun ls hl => ?_)
  refine lv_aload_n hx hb dL_law_799 rfl (lv_at hl 4 rfl) ?_
  obtain ⟨r10, hy9, hf⟩ := ob_e hf
  refine xiG h (va_runV (As := []) (rest := []) hC (c_X9_thrown l G (sh 431 q) (sh 431 v8) hy9 H.size) (xcgV hC hin lk_L_104 in_X9 co_X9_thrown im_X9_thrown se_X9_thrown rfl rfl dd_X9_thrown ⟨Nat.le_of_ble_eq_true rfl, Nat.le_of_ble_eq_true rfl⟩) (preVO h.o 431 8 sLW_431 (Nat.le_of_ble_eq_true rfl) (Nat.le_of_ble_eq_true rfl) eLW_431 rfl []) rfl rfl hl.1 rfl (lv_room (Nat.le_of_ble_eq_true rfl)) dL_law_800 hc0) (fun H locs h => ?_)
  refine lv_iload hx hb dL_law_803 (lv_at hl 1 rfl) ?_
  refine lv_icmp_eq (tgt := 810) hx hb dL_law_805 (by decide) (fun c11 => ?_) (fun c11 => ?_)
  · have hf := it_t c11 hf
    refine lv_iload hx hb dL_law_810 (lv_at hl 1 rfl) ?_
    refine lv_if_ne (tgt := 827) hx hb dL_law_812 (by decide) (fun c12 => ?_) (fun c12 => ?_)
    · have hf := it_f c12 hf
      refine lv_goto (tgt := 1839) hx hb dL_law_827 (by decide) ?_
      have hf := sm_e hf
      subst hf
      refine W.widen (k := cells + 1) (n := slots + 6) (by omega) (by omega) ?_
      exact kk H locs ls h (lv_sub hl [2, 3, 4, 5, 6] rfl)
    · have hf := it_t c12 hf
      refine lv_aload_n hx hb dL_law_815 rfl (lv_at hl 5 rfl) ?_
      refine lv_iconst (v := (0 : Int32)) hx hb dL_law_816 (by decide) ?_
      refine xlald hC h.o 430 (Nat.le_of_ble_eq_true rfl) eLW_430 dL_law_817 ?_
      refine lv_iload hx hb dL_law_818 (lv_at hl 0 rfl) ?_
      refine lv_i2l hx hb dL_law_820 rfl ?_
      refine W.lcmp hx hb dL_law_821 ?_
      refine lv_if_eq (tgt := 827) hx hb dL_law_822 (by decide) (fun c13 => ?_) (fun c13 => ?_)
      · have hf := it_t c13 hf
        refine lv_goto (tgt := 1839) hx hb dL_law_827 (by decide) ?_
        have hf := sm_e hf
        subst hf
        refine W.widen (k := cells + 1) (n := slots + 6) (by omega) (by omega) ?_
        exact kk H locs ls h (lv_sub hl [2, 3, 4, 5, 6] rfl)
      · have hf := it_f c13 hf
        cases hf
  · have hf := it_f c11 hf
    cases hf
def m_law_12_xIAE (v : xSt) (xs : Nat → Int32) (L : Nat) (i : Int32) : Option xSt := ck (¬ ((i + (1 : Int32)) < 0 ∨ L ≤ (i + (1 : Int32)).toNatClampNeg)) (ob (xthE xIAE (m_X8_pass_t v (xs (i + (1 : Int32)).toNatClampNeg))) (fun r2 => lt (pu 0 431 v (pu 0 430 v r2)) (fun v4 => ck (¬ ((i + (1 : Int32)) < 0 ∨ L ≤ (i + (1 : Int32)).toNatClampNeg)) (ob (m_X9_pass (sh 431 v4) (xs (i + (1 : Int32)).toNatClampNeg)) (fun r7 => lt (pu 431 8 v4 r7.2) (fun v8 => ob (m_X9_thrown (sh 431 v8)) (fun r10 => (if r10 = (1 : Int32) then (if (1 : Int32) = 0 then (if (lg_cmp ((v8 430 0).toInt64) ((r7.1).toInt64)) = 0 then some v8 else none) else some v8) else none))))))))
set_option maxHeartbeats 4000000 in
set_option maxRecDepth 100000 in
theorem k_law_12_xIAE {p : Program} {l : Launch} {e : Env} {R : Room} {s : State} {m : MethodId} {args : Array Value} {below : List Frame} {meth : Method} {c : Code} {H : Heap} {locs : List Loc} {cells slots : Nat} {Q : State → Prop} {G : xGl} {sa q : Nat → Nat} {v : xSt} {A : Nat → Prop} {ls : Array Slot} {b L : Nat} {xs : Nat → Int32} {i : Int32} (hst : l.stackTraces = false) (hC : CallFix p m c cL_law 9 s args lw_tbl RL) (hin : ∀ w ∈ wG, w ∈ lw_tbl) (hT : xT G sa A s s.heap) (hX : va_X b L xs s s.heap) (hbl : b < s.heap.size) (hbA : ¬ A b) (hcs : cells + 1 ≤ room_1.cells ∧ slots + 6 ≤ room_1.slots) (h : hg G (LW G) 439 q v A s H locs) (hl : lv_has ls 9 [(0, .ref b), (1, .ref (q 0)), (2, .ref (q 431)), (3, .ref (q 430)), (4, .int i)]) {z : xSt} (hf : m_law_12_xIAE v xs L i = some z) (kk : ∀ (H : Heap) (locs : List Loc) (ls : Array Slot), hg G (LW G) 439 q z A s H locs → lv_has ls 9 [(0, .ref b), (1, .ref (q 0)), (2, .ref (q 431)), (3, .ref (q 430)), (4, .int i)] → W p l e room_1 s m args below meth c H locs (cells + 1) (slots + 6) Q (F0 m 1839 ls [])) : W p l e room_1 s m args below meth c H locs cells slots Q (F0 m 774 ls []) := by
  have hx := hC.1
  have hb := hC.2.1
  have hc0 : cells ≤ room_1.cells ∧ slots ≤ room_1.slots := ⟨Nat.le_of_succ_le hcs.1, Nat.le_trans (Nat.le_add_right _ _) hcs.2⟩
  unfold m_law_12_xIAE at hf
  refine lv_aload_n hx hb dL_law_774 rfl (lv_at hl 1 rfl) ?_
  refine lv_aload_n hx hb dL_law_775 rfl (lv_at hl 0 rfl) ?_
  refine lv_iload hx hb dL_law_776 (lv_at hl 4 rfl) ?_
  refine lv_iconst (v := (1 : Int32)) hx hb dL_law_778 (by decide) ?_
  refine lv_iadd hx hb dL_law_779 ?_
  obtain ⟨hi1, hf⟩ := ck_e hf
  refine va_sld hx hb hX hbl hbA h.1.2.2.1 hi1 dL_law_780 ?_
  refine lv_aload_n hx hb dL_law_781 rfl (lv_at hl 3 rfl) ?_
  obtain ⟨r2, hy3, hf⟩ := ob_e hf
  refine xipc h 431 sLW_0 (Nat.le_of_ble_eq_true rfl) (vx_runSW (As := [.ref (q 0), .int (xs (i + (1 : Int32)).toNatClampNeg), .ref (q 430)]) (rest := []) hC (x_L_pass_xIAE l hst G sa q v (xs (i + (1 : Int32)).toNatClampNeg) (xthE_e hy3) H.size) (xcgSW hC hin lk_L_145 in_L co_L_pass st_L_pass rfl rfl dd_L_pass ⟨Nat.le_of_ble_eq_true rfl, Nat.le_of_ble_eq_true rfl⟩) (preSP h hT 431 sLW_0 (Nat.le_of_ble_eq_true rfl) [.ref (q 0), .int (xs (i + (1 : Int32)).toNatClampNeg), .ref (q 430)]) rfl rfl hl.1 rfl (lv_room (Nat.le_of_ble_eq_true rfl)) dL_law_782 hcs) (fun H locs h => ?_)
  obtain ⟨v4, ev4, hf⟩ := lt_e hf
  rw [← ev4] at h
  refine lv_istore (lv' := [(5, .int (1 : Int32)), (0, .ref b), (1, .ref (q 0)), (2, .ref (q 431)), (3, .ref (q 430)), (4, .int i)]) hx hb dL_law_785 hl (by decide) rfl (fun ls hl => ?_)
  refine lv_aload_n hx hb dL_law_787 rfl (lv_at hl 3 rfl) ?_
  refine lv_aload_n hx hb dL_law_788 rfl (lv_at hl 1 rfl) ?_
  refine lv_iload hx hb dL_law_789 (lv_at hl 5 rfl) ?_
  refine lv_iconst (v := (1 : Int32)) hx hb dL_law_791 (by decide) ?_
  refine lv_iadd hx hb dL_law_792 ?_
  obtain ⟨hi5, hf⟩ := ck_e hf
  refine va_sld hx hb hX hbl hbA h.1.2.2.1 hi5 dL_law_793 ?_
  obtain ⟨r7, hy6, hf⟩ := ob_e hf
  refine xi1 h 431 8 sLW_431 (Nat.le_of_ble_eq_true rfl) (va_runV (As := [.int (xs (i + (1 : Int32)).toNatClampNeg)]) (rest := []) hC (c_X9_pass l G (sh 431 q) (sh 431 v4) (xs (i + (1 : Int32)).toNatClampNeg) hy6 H.size) (xcgV hC hin lk_L_147 in_X9 co_X9_pass im_X9_pass se_X9_pass rfl rfl dd_X9_pass ⟨Nat.le_of_ble_eq_true rfl, Nat.le_of_ble_eq_true rfl⟩) (preV1 h 431 8 sLW_431 (Nat.le_of_ble_eq_true rfl) (Nat.le_of_ble_eq_true rfl) eLW_431 rfl [.int (xs (i + (1 : Int32)).toNatClampNeg)]) rfl rfl hl.1 rfl (lv_room (Nat.le_of_ble_eq_true rfl)) dL_law_794 hcs) (fun H locs h => ?_)
  obtain ⟨v8, ev8, hf⟩ := lt_e hf
  rw [← ev8] at h
  refine lv_istore (lv' := [(6, .int r7.1), (5, .int (1 : Int32)), (0, .ref b), (1, .ref (q 0)), (2, .ref (q 431)), (3, .ref (q 430)), (4, .int i)]) hx hb dL_law_797 hl (by decide) rfl (fun ls hl => ?_)
  refine lv_aload_n hx hb dL_law_799 rfl (lv_at hl 4 rfl) ?_
  obtain ⟨r10, hy9, hf⟩ := ob_e hf
  refine xiG h (va_runV (As := []) (rest := []) hC (c_X9_thrown l G (sh 431 q) (sh 431 v8) hy9 H.size) (xcgV hC hin lk_L_104 in_X9 co_X9_thrown im_X9_thrown se_X9_thrown rfl rfl dd_X9_thrown ⟨Nat.le_of_ble_eq_true rfl, Nat.le_of_ble_eq_true rfl⟩) (preVO h.o 431 8 sLW_431 (Nat.le_of_ble_eq_true rfl) (Nat.le_of_ble_eq_true rfl) eLW_431 rfl []) rfl rfl hl.1 rfl (lv_room (Nat.le_of_ble_eq_true rfl)) dL_law_800 hcs) (fun H locs h => ?_)
  refine lv_iload hx hb dL_law_803 (lv_at hl 1 rfl) ?_
  refine lv_icmp_eq (tgt := 810) hx hb dL_law_805 (by decide) (fun c11 => ?_) (fun c11 => ?_)
  · have hf := it_t c11 hf
    refine lv_iload hx hb dL_law_810 (lv_at hl 1 rfl) ?_
    refine lv_if_ne (tgt := 827) hx hb dL_law_812 (by decide) (fun c12 => ?_) (fun c12 => ?_)
    · have hf := it_f c12 hf
      refine lv_goto (tgt := 1839) hx hb dL_law_827 (by decide) ?_
      have hf := sm_e hf
      subst hf
      refine W.widen (k := cells + 1) (n := slots + 6) (by omega) (by omega) ?_
      exact kk H locs ls h (lv_sub hl [2, 3, 4, 5, 6] rfl)
    · have hf := it_t c12 hf
      refine lv_aload_n hx hb dL_law_815 rfl (lv_at hl 5 rfl) ?_
      refine lv_iconst (v := (0 : Int32)) hx hb dL_law_816 (by decide) ?_
      refine xlald hC h.o 430 (Nat.le_of_ble_eq_true rfl) eLW_430 dL_law_817 ?_
      refine lv_iload hx hb dL_law_818 (lv_at hl 0 rfl) ?_
      refine lv_i2l hx hb dL_law_820 rfl ?_
      refine W.lcmp hx hb dL_law_821 ?_
      refine lv_if_eq (tgt := 827) hx hb dL_law_822 (by decide) (fun c13 => ?_) (fun c13 => ?_)
      · have hf := it_t c13 hf
        refine lv_goto (tgt := 1839) hx hb dL_law_827 (by decide) ?_
        have hf := sm_e hf
        subst hf
        refine W.widen (k := cells + 1) (n := slots + 6) (by omega) (by omega) ?_
        exact kk H locs ls h (lv_sub hl [2, 3, 4, 5, 6] rfl)
      · have hf := it_f c13 hf
        cases hf
  · have hf := it_f c11 hf
    cases hf
def m_law_13 (v : xSt) (xs : Nat → Int32) (L : Nat) (i : Int32) : Option xSt := ck (¬ ((i + (1 : Int32)) < 0 ∨ L ≤ (i + (1 : Int32)).toNatClampNeg)) (ck (¬ ((i + (2 : Int32)) < 0 ∨ L ≤ (i + (2 : Int32)).toNatClampNeg)) (ob (m_L_set v (xs (i + (1 : Int32)).toNatClampNeg) (xs (i + (2 : Int32)).toNatClampNeg)) (fun r3 => lt (pu 0 431 v r3.2) (fun v5 => ck (¬ ((i + (1 : Int32)) < 0 ∨ L ≤ (i + (1 : Int32)).toNatClampNeg)) (ck (¬ ((i + (2 : Int32)) < 0 ∨ L ≤ (i + (2 : Int32)).toNatClampNeg)) (ob (m_X9_set (sh 431 v5) (xs (i + (1 : Int32)).toNatClampNeg) (xs (i + (2 : Int32)).toNatClampNeg)) (fun r9 => lt (pu 431 8 v5 r9.2) (fun v10 => ob (m_X9_thrown (sh 431 v10)) (fun r12 => (if r12 = r3.1 then (if r3.1 = 0 then (if (lg_cmp ((v10 430 0).toInt64) ((r9.1).toInt64)) = 0 then some v10 else none) else some v10) else none))))))))))
set_option maxHeartbeats 4000000 in
set_option maxRecDepth 100000 in
theorem k_law_13 {p : Program} {l : Launch} {e : Env} {R : Room} {s : State} {m : MethodId} {args : Array Value} {below : List Frame} {meth : Method} {c : Code} {H : Heap} {locs : List Loc} {cells slots : Nat} {Q : State → Prop} {G : xGl} {sa q : Nat → Nat} {v : xSt} {A : Nat → Prop} {ls : Array Slot} {b L : Nat} {xs : Nat → Int32} {i : Int32} (hst : l.stackTraces = false) (hC : CallFix p m c cL_law 9 s args lw_tbl RL) (hin : ∀ w ∈ wG, w ∈ lw_tbl) (hT : xT G sa A s s.heap) (hX : va_X b L xs s s.heap) (hbl : b < s.heap.size) (hbA : ¬ A b) (hcs : cells + 1 ≤ room_1.cells ∧ slots + 6 ≤ room_1.slots) (h : hg G (LW G) 439 q v A s H locs) (hl : lv_has ls 9 [(0, .ref b), (1, .ref (q 0)), (2, .ref (q 431)), (3, .ref (q 430)), (4, .int i)]) {z : xSt} (hf : m_law_13 v xs L i = some z) (kk : ∀ (H : Heap) (locs : List Loc) (ls : Array Slot), hg G (LW G) 439 q z A s H locs → lv_has ls 9 [(0, .ref b), (1, .ref (q 0)), (2, .ref (q 431)), (3, .ref (q 430)), (4, .int i)] → W p l e room_1 s m args below meth c H locs (cells + 1) (slots + 6) Q (F0 m 1839 ls [])) : W p l e room_1 s m args below meth c H locs cells slots Q (F0 m 830 ls []) := by
  have hx := hC.1
  have hb := hC.2.1
  have hc0 : cells ≤ room_1.cells ∧ slots ≤ room_1.slots := ⟨Nat.le_of_succ_le hcs.1, Nat.le_trans (Nat.le_add_right _ _) hcs.2⟩
  unfold m_law_13 at hf
  refine lv_aload_n hx hb dL_law_830 rfl (lv_at hl 1 rfl) ?_
  refine lv_aload_n hx hb dL_law_831 rfl (lv_at hl 0 rfl) ?_
  refine lv_iload hx hb dL_law_832 (lv_at hl 4 rfl) ?_
  refine lv_iconst (v := (1 : Int32)) hx hb dL_law_834 (by decide) ?_
  refine lv_iadd hx hb dL_law_835 ?_
  obtain ⟨hi1, hf⟩ := ck_e hf
  refine va_sld hx hb hX hbl hbA h.1.2.2.1 hi1 dL_law_836 ?_
  refine lv_aload_n hx hb dL_law_837 rfl (lv_at hl 0 rfl) ?_
  refine lv_iload hx hb dL_law_838 (lv_at hl 4 rfl) ?_
  refine lv_iconst (v := (2 : Int32)) hx hb dL_law_840 (by decide) ?_
  refine lv_iadd hx hb dL_law_841 ?_
  obtain ⟨hi2, hf⟩ := ck_e hf
  refine va_sld hx hb hX hbl hbA h.1.2.2.1 hi2 dL_law_842 ?_
  refine lv_aload_n hx hb dL_law_843 rfl (lv_at hl 3 rfl) ?_
  obtain ⟨r3, hy4, hf⟩ := ob_e hf
  refine xipc h 431 sLW_0 (Nat.le_of_ble_eq_true rfl) (vx_runSW (As := [.ref (q 0), .int (xs (i + (1 : Int32)).toNatClampNeg), .int (xs (i + (2 : Int32)).toNatClampNeg), .ref (q 430)]) (rest := []) hC (c_L_set l G sa q v (xs (i + (1 : Int32)).toNatClampNeg) (xs (i + (2 : Int32)).toNatClampNeg) hy4 H.size) (xcgSW hC hin lk_L_148 in_L co_L_set st_L_set rfl rfl dd_L_set ⟨Nat.le_of_ble_eq_true rfl, Nat.le_of_ble_eq_true rfl⟩) (preSP h hT 431 sLW_0 (Nat.le_of_ble_eq_true rfl) [.ref (q 0), .int (xs (i + (1 : Int32)).toNatClampNeg), .int (xs (i + (2 : Int32)).toNatClampNeg), .ref (q 430)]) rfl rfl hl.1 rfl (lv_room (Nat.le_of_ble_eq_true rfl)) dL_law_844 ⟨Nat.le_of_succ_le hcs.1, Nat.le_trans (Nat.le_add_right _ _) hcs.2⟩) (fun H locs h => ?_)
  obtain ⟨v5, ev5, hf⟩ := lt_e hf
  rw [← ev5] at h
  refine lv_istore (lv' := [(5, .int r3.1), (0, .ref b), (1, .ref (q 0)), (2, .ref (q 431)), (3, .ref (q 430)), (4, .int i)]) hx hb dL_law_847 hl (by decide) rfl (fun ls hl => ?_)
  refine lv_aload_n hx hb dL_law_849 rfl (lv_at hl 3 rfl) ?_
  refine lv_aload_n hx hb dL_law_850 rfl (lv_at hl 1 rfl) ?_
  refine lv_iload hx hb dL_law_851 (lv_at hl 5 rfl) ?_
  refine lv_iconst (v := (1 : Int32)) hx hb dL_law_853 (by decide) ?_
  refine lv_iadd hx hb dL_law_854 ?_
  obtain ⟨hi6, hf⟩ := ck_e hf
  refine va_sld hx hb hX hbl hbA h.1.2.2.1 hi6 dL_law_855 ?_
  refine lv_aload_n hx hb dL_law_856 rfl (lv_at hl 1 rfl) ?_
  refine lv_iload hx hb dL_law_857 (lv_at hl 5 rfl) ?_
  refine lv_iconst (v := (2 : Int32)) hx hb dL_law_859 (by decide) ?_
  refine lv_iadd hx hb dL_law_860 ?_
  obtain ⟨hi7, hf⟩ := ck_e hf
  refine va_sld hx hb hX hbl hbA h.1.2.2.1 hi7 dL_law_861 ?_
  obtain ⟨r9, hy8, hf⟩ := ob_e hf
  refine xi1 h 431 8 sLW_431 (Nat.le_of_ble_eq_true rfl) (va_runV (As := [.int (xs (i + (1 : Int32)).toNatClampNeg), .int (xs (i + (2 : Int32)).toNatClampNeg)]) (rest := []) hC (c_X9_set l G (sh 431 q) (sh 431 v5) (xs (i + (1 : Int32)).toNatClampNeg) (xs (i + (2 : Int32)).toNatClampNeg) hy8 H.size) (xcgV hC hin lk_L_150 in_X9 co_X9_set im_X9_set se_X9_set rfl rfl dd_X9_set ⟨Nat.le_of_ble_eq_true rfl, Nat.le_of_ble_eq_true rfl⟩) (preV1 h 431 8 sLW_431 (Nat.le_of_ble_eq_true rfl) (Nat.le_of_ble_eq_true rfl) eLW_431 rfl [.int (xs (i + (1 : Int32)).toNatClampNeg), .int (xs (i + (2 : Int32)).toNatClampNeg)]) rfl rfl hl.1 rfl (lv_room (Nat.le_of_ble_eq_true rfl)) dL_law_862 hc0) (fun H locs h => ?_)
  obtain ⟨v10, ev10, hf⟩ := lt_e hf
  rw [← ev10] at h
  refine lv_istore (lv' := [(6, .int r9.1), (5, .int r3.1), (0, .ref b), (1, .ref (q 0)), (2, .ref (q 431)), (3, .ref (q 430)), (4, .int i)]) hx hb dL_law_865 hl (by decide) rfl (fun ls hl => ?_)
  refine lv_aload_n hx hb dL_law_867 rfl (lv_at hl 4 rfl) ?_
  obtain ⟨r12, hy11, hf⟩ := ob_e hf
  refine xiG h (va_runV (As := []) (rest := []) hC (c_X9_thrown l G (sh 431 q) (sh 431 v10) hy11 H.size) (xcgV hC hin lk_L_104 in_X9 co_X9_thrown im_X9_thrown se_X9_thrown rfl rfl dd_X9_thrown ⟨Nat.le_of_ble_eq_true rfl, Nat.le_of_ble_eq_true rfl⟩) (preVO h.o 431 8 sLW_431 (Nat.le_of_ble_eq_true rfl) (Nat.le_of_ble_eq_true rfl) eLW_431 rfl []) rfl rfl hl.1 rfl (lv_room (Nat.le_of_ble_eq_true rfl)) dL_law_868 hc0) (fun H locs h => ?_)
  refine lv_iload hx hb dL_law_871 (lv_at hl 1 rfl) ?_
  refine lv_icmp_eq (tgt := 878) hx hb dL_law_873 (by decide) (fun c13 => ?_) (fun c13 => ?_)
  · have hf := it_t c13 hf
    refine lv_iload hx hb dL_law_878 (lv_at hl 1 rfl) ?_
    refine lv_if_ne (tgt := 895) hx hb dL_law_880 (by decide) (fun c14 => ?_) (fun c14 => ?_)
    · have hf := it_f c14 hf
      refine lv_goto (tgt := 1839) hx hb dL_law_895 (by decide) ?_
      have hf := sm_e hf
      subst hf
      refine W.widen (k := cells + 1) (n := slots + 6) (by omega) (by omega) ?_
      exact kk H locs ls h (lv_sub hl [2, 3, 4, 5, 6] rfl)
    · have hf := it_t c14 hf
      refine lv_aload_n hx hb dL_law_883 rfl (lv_at hl 5 rfl) ?_
      refine lv_iconst (v := (0 : Int32)) hx hb dL_law_884 (by decide) ?_
      refine xlald hC h.o 430 (Nat.le_of_ble_eq_true rfl) eLW_430 dL_law_885 ?_
      refine lv_iload hx hb dL_law_886 (lv_at hl 0 rfl) ?_
      refine lv_i2l hx hb dL_law_888 rfl ?_
      refine W.lcmp hx hb dL_law_889 ?_
      refine lv_if_eq (tgt := 895) hx hb dL_law_890 (by decide) (fun c15 => ?_) (fun c15 => ?_)
      · have hf := it_t c15 hf
        refine lv_goto (tgt := 1839) hx hb dL_law_895 (by decide) ?_
        have hf := sm_e hf
        subst hf
        refine W.widen (k := cells + 1) (n := slots + 6) (by omega) (by omega) ?_
        exact kk H locs ls h (lv_sub hl [2, 3, 4, 5, 6] rfl)
      · have hf := it_f c15 hf
        cases hf
  · have hf := it_f c13 hf
    cases hf
def m_law_13_xIOB (v : xSt) (xs : Nat → Int32) (L : Nat) (i : Int32) : Option xSt := ck (¬ ((i + (1 : Int32)) < 0 ∨ L ≤ (i + (1 : Int32)).toNatClampNeg)) (ck (¬ ((i + (2 : Int32)) < 0 ∨ L ≤ (i + (2 : Int32)).toNatClampNeg)) (ob (xthE xIOB (m_X8_set_t v (xs (i + (1 : Int32)).toNatClampNeg) (xs (i + (2 : Int32)).toNatClampNeg))) (fun r3 => lt (pu 0 431 v (pu 0 430 v r3)) (fun v5 => ck (¬ ((i + (1 : Int32)) < 0 ∨ L ≤ (i + (1 : Int32)).toNatClampNeg)) (ck (¬ ((i + (2 : Int32)) < 0 ∨ L ≤ (i + (2 : Int32)).toNatClampNeg)) (ob (m_X9_set (sh 431 v5) (xs (i + (1 : Int32)).toNatClampNeg) (xs (i + (2 : Int32)).toNatClampNeg)) (fun r9 => lt (pu 431 8 v5 r9.2) (fun v10 => ob (m_X9_thrown (sh 431 v10)) (fun r12 => (if r12 = (1 : Int32) then (if (1 : Int32) = 0 then (if (lg_cmp ((v10 430 0).toInt64) ((r9.1).toInt64)) = 0 then some v10 else none) else some v10) else none))))))))))
set_option maxHeartbeats 4000000 in
set_option maxRecDepth 100000 in
theorem k_law_13_xIOB {p : Program} {l : Launch} {e : Env} {R : Room} {s : State} {m : MethodId} {args : Array Value} {below : List Frame} {meth : Method} {c : Code} {H : Heap} {locs : List Loc} {cells slots : Nat} {Q : State → Prop} {G : xGl} {sa q : Nat → Nat} {v : xSt} {A : Nat → Prop} {ls : Array Slot} {b L : Nat} {xs : Nat → Int32} {i : Int32} (hst : l.stackTraces = false) (hC : CallFix p m c cL_law 9 s args lw_tbl RL) (hin : ∀ w ∈ wG, w ∈ lw_tbl) (hT : xT G sa A s s.heap) (hX : va_X b L xs s s.heap) (hbl : b < s.heap.size) (hbA : ¬ A b) (hcs : cells + 1 ≤ room_1.cells ∧ slots + 6 ≤ room_1.slots) (h : hg G (LW G) 439 q v A s H locs) (hl : lv_has ls 9 [(0, .ref b), (1, .ref (q 0)), (2, .ref (q 431)), (3, .ref (q 430)), (4, .int i)]) {z : xSt} (hf : m_law_13_xIOB v xs L i = some z) (kk : ∀ (H : Heap) (locs : List Loc) (ls : Array Slot), hg G (LW G) 439 q z A s H locs → lv_has ls 9 [(0, .ref b), (1, .ref (q 0)), (2, .ref (q 431)), (3, .ref (q 430)), (4, .int i)] → W p l e room_1 s m args below meth c H locs (cells + 1) (slots + 6) Q (F0 m 1839 ls [])) : W p l e room_1 s m args below meth c H locs cells slots Q (F0 m 830 ls []) := by
  have hx := hC.1
  have hb := hC.2.1
  have hc0 : cells ≤ room_1.cells ∧ slots ≤ room_1.slots := ⟨Nat.le_of_succ_le hcs.1, Nat.le_trans (Nat.le_add_right _ _) hcs.2⟩
  unfold m_law_13_xIOB at hf
  refine lv_aload_n hx hb dL_law_830 rfl (lv_at hl 1 rfl) ?_
  refine lv_aload_n hx hb dL_law_831 rfl (lv_at hl 0 rfl) ?_
  refine lv_iload hx hb dL_law_832 (lv_at hl 4 rfl) ?_
  refine lv_iconst (v := (1 : Int32)) hx hb dL_law_834 (by decide) ?_
  refine lv_iadd hx hb dL_law_835 ?_
  obtain ⟨hi1, hf⟩ := ck_e hf
  refine va_sld hx hb hX hbl hbA h.1.2.2.1 hi1 dL_law_836 ?_
  refine lv_aload_n hx hb dL_law_837 rfl (lv_at hl 0 rfl) ?_
  refine lv_iload hx hb dL_law_838 (lv_at hl 4 rfl) ?_
  refine lv_iconst (v := (2 : Int32)) hx hb dL_law_840 (by decide) ?_
  refine lv_iadd hx hb dL_law_841 ?_
  obtain ⟨hi2, hf⟩ := ck_e hf
  refine va_sld hx hb hX hbl hbA h.1.2.2.1 hi2 dL_law_842 ?_
  refine lv_aload_n hx hb dL_law_843 rfl (lv_at hl 3 rfl) ?_
  obtain ⟨r3, hy4, hf⟩ := ob_e hf
  refine xipc h 431 sLW_0 (Nat.le_of_ble_eq_true rfl) (vx_runSW (As := [.ref (q 0), .int (xs (i + (1 : Int32)).toNatClampNeg), .int (xs (i + (2 : Int32)).toNatClampNeg), .ref (q 430)]) (rest := []) hC (x_L_set_xIOB l hst G sa q v (xs (i + (1 : Int32)).toNatClampNeg) (xs (i + (2 : Int32)).toNatClampNeg) (xthE_e hy4) H.size) (xcgSW hC hin lk_L_148 in_L co_L_set st_L_set rfl rfl dd_L_set ⟨Nat.le_of_ble_eq_true rfl, Nat.le_of_ble_eq_true rfl⟩) (preSP h hT 431 sLW_0 (Nat.le_of_ble_eq_true rfl) [.ref (q 0), .int (xs (i + (1 : Int32)).toNatClampNeg), .int (xs (i + (2 : Int32)).toNatClampNeg), .ref (q 430)]) rfl rfl hl.1 rfl (lv_room (Nat.le_of_ble_eq_true rfl)) dL_law_844 hcs) (fun H locs h => ?_)
  obtain ⟨v5, ev5, hf⟩ := lt_e hf
  rw [← ev5] at h
  refine lv_istore (lv' := [(5, .int (1 : Int32)), (0, .ref b), (1, .ref (q 0)), (2, .ref (q 431)), (3, .ref (q 430)), (4, .int i)]) hx hb dL_law_847 hl (by decide) rfl (fun ls hl => ?_)
  refine lv_aload_n hx hb dL_law_849 rfl (lv_at hl 3 rfl) ?_
  refine lv_aload_n hx hb dL_law_850 rfl (lv_at hl 1 rfl) ?_
  refine lv_iload hx hb dL_law_851 (lv_at hl 5 rfl) ?_
  refine lv_iconst (v := (1 : Int32)) hx hb dL_law_853 (by decide) ?_
  refine lv_iadd hx hb dL_law_854 ?_
  obtain ⟨hi6, hf⟩ := ck_e hf
  refine va_sld hx hb hX hbl hbA h.1.2.2.1 hi6 dL_law_855 ?_
  refine lv_aload_n hx hb dL_law_856 rfl (lv_at hl 1 rfl) ?_
  refine lv_iload hx hb dL_law_857 (lv_at hl 5 rfl) ?_
  refine lv_iconst (v := (2 : Int32)) hx hb dL_law_859 (by decide) ?_
  refine lv_iadd hx hb dL_law_860 ?_
  obtain ⟨hi7, hf⟩ := ck_e hf
  refine va_sld hx hb hX hbl hbA h.1.2.2.1 hi7 dL_law_861 ?_
  obtain ⟨r9, hy8, hf⟩ := ob_e hf
  refine xi1 h 431 8 sLW_431 (Nat.le_of_ble_eq_true rfl) (va_runV (As := [.int (xs (i + (1 : Int32)).toNatClampNeg), .int (xs (i + (2 : Int32)).toNatClampNeg)]) (rest := []) hC (c_X9_set l G (sh 431 q) (sh 431 v5) (xs (i + (1 : Int32)).toNatClampNeg) (xs (i + (2 : Int32)).toNatClampNeg) hy8 H.size) (xcgV hC hin lk_L_150 in_X9 co_X9_set im_X9_set se_X9_set rfl rfl dd_X9_set ⟨Nat.le_of_ble_eq_true rfl, Nat.le_of_ble_eq_true rfl⟩) (preV1 h 431 8 sLW_431 (Nat.le_of_ble_eq_true rfl) (Nat.le_of_ble_eq_true rfl) eLW_431 rfl [.int (xs (i + (1 : Int32)).toNatClampNeg), .int (xs (i + (2 : Int32)).toNatClampNeg)]) rfl rfl hl.1 rfl (lv_room (Nat.le_of_ble_eq_true rfl)) dL_law_862 hcs) (fun H locs h => ?_)
  obtain ⟨v10, ev10, hf⟩ := lt_e hf
  rw [← ev10] at h
  refine lv_istore (lv' := [(6, .int r9.1), (5, .int (1 : Int32)), (0, .ref b), (1, .ref (q 0)), (2, .ref (q 431)), (3, .ref (q 430)), (4, .int i)]) hx hb dL_law_865 hl (by decide) rfl (fun ls hl => ?_)
  refine lv_aload_n hx hb dL_law_867 rfl (lv_at hl 4 rfl) ?_
  obtain ⟨r12, hy11, hf⟩ := ob_e hf
  refine xiG h (va_runV (As := []) (rest := []) hC (c_X9_thrown l G (sh 431 q) (sh 431 v10) hy11 H.size) (xcgV hC hin lk_L_104 in_X9 co_X9_thrown im_X9_thrown se_X9_thrown rfl rfl dd_X9_thrown ⟨Nat.le_of_ble_eq_true rfl, Nat.le_of_ble_eq_true rfl⟩) (preVO h.o 431 8 sLW_431 (Nat.le_of_ble_eq_true rfl) (Nat.le_of_ble_eq_true rfl) eLW_431 rfl []) rfl rfl hl.1 rfl (lv_room (Nat.le_of_ble_eq_true rfl)) dL_law_868 hcs) (fun H locs h => ?_)
  refine lv_iload hx hb dL_law_871 (lv_at hl 1 rfl) ?_
  refine lv_icmp_eq (tgt := 878) hx hb dL_law_873 (by decide) (fun c13 => ?_) (fun c13 => ?_)
  · have hf := it_t c13 hf
    refine lv_iload hx hb dL_law_878 (lv_at hl 1 rfl) ?_
    refine lv_if_ne (tgt := 895) hx hb dL_law_880 (by decide) (fun c14 => ?_) (fun c14 => ?_)
    · have hf := it_f c14 hf
      refine lv_goto (tgt := 1839) hx hb dL_law_895 (by decide) ?_
      have hf := sm_e hf
      subst hf
      refine W.widen (k := cells + 1) (n := slots + 6) (by omega) (by omega) ?_
      exact kk H locs ls h (lv_sub hl [2, 3, 4, 5, 6] rfl)
    · have hf := it_t c14 hf
      refine lv_aload_n hx hb dL_law_883 rfl (lv_at hl 5 rfl) ?_
      refine lv_iconst (v := (0 : Int32)) hx hb dL_law_884 (by decide) ?_
      refine xlald hC h.o 430 (Nat.le_of_ble_eq_true rfl) eLW_430 dL_law_885 ?_
      refine lv_iload hx hb dL_law_886 (lv_at hl 0 rfl) ?_
      refine lv_i2l hx hb dL_law_888 rfl ?_
      refine W.lcmp hx hb dL_law_889 ?_
      refine lv_if_eq (tgt := 895) hx hb dL_law_890 (by decide) (fun c15 => ?_) (fun c15 => ?_)
      · have hf := it_t c15 hf
        refine lv_goto (tgt := 1839) hx hb dL_law_895 (by decide) ?_
        have hf := sm_e hf
        subst hf
        refine W.widen (k := cells + 1) (n := slots + 6) (by omega) (by omega) ?_
        exact kk H locs ls h (lv_sub hl [2, 3, 4, 5, 6] rfl)
      · have hf := it_f c15 hf
        cases hf
  · have hf := it_f c13 hf
    cases hf
def m_law_13_xIAE (v : xSt) (xs : Nat → Int32) (L : Nat) (i : Int32) : Option xSt := ck (¬ ((i + (1 : Int32)) < 0 ∨ L ≤ (i + (1 : Int32)).toNatClampNeg)) (ck (¬ ((i + (2 : Int32)) < 0 ∨ L ≤ (i + (2 : Int32)).toNatClampNeg)) (ob (xthE xIAE (m_X8_set_t v (xs (i + (1 : Int32)).toNatClampNeg) (xs (i + (2 : Int32)).toNatClampNeg))) (fun r3 => lt (pu 0 431 v (pu 0 430 v r3)) (fun v5 => ck (¬ ((i + (1 : Int32)) < 0 ∨ L ≤ (i + (1 : Int32)).toNatClampNeg)) (ck (¬ ((i + (2 : Int32)) < 0 ∨ L ≤ (i + (2 : Int32)).toNatClampNeg)) (ob (m_X9_set (sh 431 v5) (xs (i + (1 : Int32)).toNatClampNeg) (xs (i + (2 : Int32)).toNatClampNeg)) (fun r9 => lt (pu 431 8 v5 r9.2) (fun v10 => ob (m_X9_thrown (sh 431 v10)) (fun r12 => (if r12 = (2 : Int32) then (if (2 : Int32) = 0 then (if (lg_cmp ((v10 430 0).toInt64) ((r9.1).toInt64)) = 0 then some v10 else none) else some v10) else none))))))))))
set_option maxHeartbeats 4000000 in
set_option maxRecDepth 100000 in
theorem k_law_13_xIAE {p : Program} {l : Launch} {e : Env} {R : Room} {s : State} {m : MethodId} {args : Array Value} {below : List Frame} {meth : Method} {c : Code} {H : Heap} {locs : List Loc} {cells slots : Nat} {Q : State → Prop} {G : xGl} {sa q : Nat → Nat} {v : xSt} {A : Nat → Prop} {ls : Array Slot} {b L : Nat} {xs : Nat → Int32} {i : Int32} (hst : l.stackTraces = false) (hC : CallFix p m c cL_law 9 s args lw_tbl RL) (hin : ∀ w ∈ wG, w ∈ lw_tbl) (hT : xT G sa A s s.heap) (hX : va_X b L xs s s.heap) (hbl : b < s.heap.size) (hbA : ¬ A b) (hcs : cells + 1 ≤ room_1.cells ∧ slots + 6 ≤ room_1.slots) (h : hg G (LW G) 439 q v A s H locs) (hl : lv_has ls 9 [(0, .ref b), (1, .ref (q 0)), (2, .ref (q 431)), (3, .ref (q 430)), (4, .int i)]) {z : xSt} (hf : m_law_13_xIAE v xs L i = some z) (kk : ∀ (H : Heap) (locs : List Loc) (ls : Array Slot), hg G (LW G) 439 q z A s H locs → lv_has ls 9 [(0, .ref b), (1, .ref (q 0)), (2, .ref (q 431)), (3, .ref (q 430)), (4, .int i)] → W p l e room_1 s m args below meth c H locs (cells + 1) (slots + 6) Q (F0 m 1839 ls [])) : W p l e room_1 s m args below meth c H locs cells slots Q (F0 m 830 ls []) := by
  have hx := hC.1
  have hb := hC.2.1
  have hc0 : cells ≤ room_1.cells ∧ slots ≤ room_1.slots := ⟨Nat.le_of_succ_le hcs.1, Nat.le_trans (Nat.le_add_right _ _) hcs.2⟩
  unfold m_law_13_xIAE at hf
  refine lv_aload_n hx hb dL_law_830 rfl (lv_at hl 1 rfl) ?_
  refine lv_aload_n hx hb dL_law_831 rfl (lv_at hl 0 rfl) ?_
  refine lv_iload hx hb dL_law_832 (lv_at hl 4 rfl) ?_
  refine lv_iconst (v := (1 : Int32)) hx hb dL_law_834 (by decide) ?_
  refine lv_iadd hx hb dL_law_835 ?_
  obtain ⟨hi1, hf⟩ := ck_e hf
  refine va_sld hx hb hX hbl hbA h.1.2.2.1 hi1 dL_law_836 ?_
  refine lv_aload_n hx hb dL_law_837 rfl (lv_at hl 0 rfl) ?_
  refine lv_iload hx hb dL_law_838 (lv_at hl 4 rfl) ?_
  refine lv_iconst (v := (2 : Int32)) hx hb dL_law_840 (by decide) ?_
  refine lv_iadd hx hb dL_law_841 ?_
  obtain ⟨hi2, hf⟩ := ck_e hf
  refine va_sld hx hb hX hbl hbA h.1.2.2.1 hi2 dL_law_842 ?_
  refine lv_aload_n hx hb dL_law_843 rfl (lv_at hl 3 rfl) ?_
  obtain ⟨r3, hy4, hf⟩ := ob_e hf
  refine xipc h 431 sLW_0 (Nat.le_of_ble_eq_true rfl) (vx_runSW (As := [.ref (q 0), .int (xs (i + (1 : Int32)).toNatClampNeg), .int (xs (i + (2 : Int32)).toNatClampNeg), .ref (q 430)]) (rest := []) hC (x_L_set_xIAE l hst G sa q v (xs (i + (1 : Int32)).toNatClampNeg) (xs (i + (2 : Int32)).toNatClampNeg) (xthE_e hy4) H.size) (xcgSW hC hin lk_L_148 in_L co_L_set st_L_set rfl rfl dd_L_set ⟨Nat.le_of_ble_eq_true rfl, Nat.le_of_ble_eq_true rfl⟩) (preSP h hT 431 sLW_0 (Nat.le_of_ble_eq_true rfl) [.ref (q 0), .int (xs (i + (1 : Int32)).toNatClampNeg), .int (xs (i + (2 : Int32)).toNatClampNeg), .ref (q 430)]) rfl rfl hl.1 rfl (lv_room (Nat.le_of_ble_eq_true rfl)) dL_law_844 hcs) (fun H locs h => ?_)
  obtain ⟨v5, ev5, hf⟩ := lt_e hf
  rw [← ev5] at h
  refine lv_istore (lv' := [(5, .int (2 : Int32)), (0, .ref b), (1, .ref (q 0)), (2, .ref (q 431)), (3, .ref (q 430)), (4, .int i)]) hx hb dL_law_847 hl (by decide) rfl (fun ls hl => ?_)
  refine lv_aload_n hx hb dL_law_849 rfl (lv_at hl 3 rfl) ?_
  refine lv_aload_n hx hb dL_law_850 rfl (lv_at hl 1 rfl) ?_
  refine lv_iload hx hb dL_law_851 (lv_at hl 5 rfl) ?_
  refine lv_iconst (v := (1 : Int32)) hx hb dL_law_853 (by decide) ?_
  refine lv_iadd hx hb dL_law_854 ?_
  obtain ⟨hi6, hf⟩ := ck_e hf
  refine va_sld hx hb hX hbl hbA h.1.2.2.1 hi6 dL_law_855 ?_
  refine lv_aload_n hx hb dL_law_856 rfl (lv_at hl 1 rfl) ?_
  refine lv_iload hx hb dL_law_857 (lv_at hl 5 rfl) ?_
  refine lv_iconst (v := (2 : Int32)) hx hb dL_law_859 (by decide) ?_
  refine lv_iadd hx hb dL_law_860 ?_
  obtain ⟨hi7, hf⟩ := ck_e hf
  refine va_sld hx hb hX hbl hbA h.1.2.2.1 hi7 dL_law_861 ?_
  obtain ⟨r9, hy8, hf⟩ := ob_e hf
  refine xi1 h 431 8 sLW_431 (Nat.le_of_ble_eq_true rfl) (va_runV (As := [.int (xs (i + (1 : Int32)).toNatClampNeg), .int (xs (i + (2 : Int32)).toNatClampNeg)]) (rest := []) hC (c_X9_set l G (sh 431 q) (sh 431 v5) (xs (i + (1 : Int32)).toNatClampNeg) (xs (i + (2 : Int32)).toNatClampNeg) hy8 H.size) (xcgV hC hin lk_L_150 in_X9 co_X9_set im_X9_set se_X9_set rfl rfl dd_X9_set ⟨Nat.le_of_ble_eq_true rfl, Nat.le_of_ble_eq_true rfl⟩) (preV1 h 431 8 sLW_431 (Nat.le_of_ble_eq_true rfl) (Nat.le_of_ble_eq_true rfl) eLW_431 rfl [.int (xs (i + (1 : Int32)).toNatClampNeg), .int (xs (i + (2 : Int32)).toNatClampNeg)]) rfl rfl hl.1 rfl (lv_room (Nat.le_of_ble_eq_true rfl)) dL_law_862 hcs) (fun H locs h => ?_)
  obtain ⟨v10, ev10, hf⟩ := lt_e hf
  rw [← ev10] at h
  refine lv_istore (lv' := [(6, .int r9.1), (5, .int (2 : Int32)), (0, .ref b), (1, .ref (q 0)), (2, .ref (q 431)), (3, .ref (q 430)), (4, .int i)]) hx hb dL_law_865 hl (by decide) rfl (fun ls hl => ?_)
  refine lv_aload_n hx hb dL_law_867 rfl (lv_at hl 4 rfl) ?_
  obtain ⟨r12, hy11, hf⟩ := ob_e hf
  refine xiG h (va_runV (As := []) (rest := []) hC (c_X9_thrown l G (sh 431 q) (sh 431 v10) hy11 H.size) (xcgV hC hin lk_L_104 in_X9 co_X9_thrown im_X9_thrown se_X9_thrown rfl rfl dd_X9_thrown ⟨Nat.le_of_ble_eq_true rfl, Nat.le_of_ble_eq_true rfl⟩) (preVO h.o 431 8 sLW_431 (Nat.le_of_ble_eq_true rfl) (Nat.le_of_ble_eq_true rfl) eLW_431 rfl []) rfl rfl hl.1 rfl (lv_room (Nat.le_of_ble_eq_true rfl)) dL_law_868 hcs) (fun H locs h => ?_)
  refine lv_iload hx hb dL_law_871 (lv_at hl 1 rfl) ?_
  refine lv_icmp_eq (tgt := 878) hx hb dL_law_873 (by decide) (fun c13 => ?_) (fun c13 => ?_)
  · have hf := it_t c13 hf
    refine lv_iload hx hb dL_law_878 (lv_at hl 1 rfl) ?_
    refine lv_if_ne (tgt := 895) hx hb dL_law_880 (by decide) (fun c14 => ?_) (fun c14 => ?_)
    · have hf := it_f c14 hf
      refine lv_goto (tgt := 1839) hx hb dL_law_895 (by decide) ?_
      have hf := sm_e hf
      subst hf
      refine W.widen (k := cells + 1) (n := slots + 6) (by omega) (by omega) ?_
      exact kk H locs ls h (lv_sub hl [2, 3, 4, 5, 6] rfl)
    · have hf := it_t c14 hf
      refine lv_aload_n hx hb dL_law_883 rfl (lv_at hl 5 rfl) ?_
      refine lv_iconst (v := (0 : Int32)) hx hb dL_law_884 (by decide) ?_
      refine xlald hC h.o 430 (Nat.le_of_ble_eq_true rfl) eLW_430 dL_law_885 ?_
      refine lv_iload hx hb dL_law_886 (lv_at hl 0 rfl) ?_
      refine lv_i2l hx hb dL_law_888 rfl ?_
      refine W.lcmp hx hb dL_law_889 ?_
      refine lv_if_eq (tgt := 895) hx hb dL_law_890 (by decide) (fun c15 => ?_) (fun c15 => ?_)
      · have hf := it_t c15 hf
        refine lv_goto (tgt := 1839) hx hb dL_law_895 (by decide) ?_
        have hf := sm_e hf
        subst hf
        refine W.widen (k := cells + 1) (n := slots + 6) (by omega) (by omega) ?_
        exact kk H locs ls h (lv_sub hl [2, 3, 4, 5, 6] rfl)
      · have hf := it_f c15 hf
        cases hf
  · have hf := it_f c13 hf
    cases hf
def m_law_14 (v : xSt) (xs : Nat → Int32) (L : Nat) (i : Int32) : Option xSt := ck (¬ ((i + (1 : Int32)) < 0 ∨ L ≤ (i + (1 : Int32)).toNatClampNeg)) (ob (m_L_append v (xs (i + (1 : Int32)).toNatClampNeg)) (fun r2 => lt (pu 0 431 v r2.2) (fun v4 => ck (¬ ((i + (1 : Int32)) < 0 ∨ L ≤ (i + (1 : Int32)).toNatClampNeg)) (ob (m_X9_append (sh 431 v4) (xs (i + (1 : Int32)).toNatClampNeg)) (fun r7 => lt (pu 431 8 v4 r7.2) (fun v8 => ob (m_X9_thrown (sh 431 v8)) (fun r10 => (if r10 = r2.1 then (if r2.1 = 0 then (if (lg_cmp ((v8 430 0).toInt64) ((r7.1).toInt64)) = 0 then some v8 else none) else some v8) else none))))))))
set_option maxHeartbeats 4000000 in
set_option maxRecDepth 100000 in
theorem k_law_14 {p : Program} {l : Launch} {e : Env} {R : Room} {s : State} {m : MethodId} {args : Array Value} {below : List Frame} {meth : Method} {c : Code} {H : Heap} {locs : List Loc} {cells slots : Nat} {Q : State → Prop} {G : xGl} {sa q : Nat → Nat} {v : xSt} {A : Nat → Prop} {ls : Array Slot} {b L : Nat} {xs : Nat → Int32} {i : Int32} (hst : l.stackTraces = false) (hC : CallFix p m c cL_law 9 s args lw_tbl RL) (hin : ∀ w ∈ wG, w ∈ lw_tbl) (hT : xT G sa A s s.heap) (hX : va_X b L xs s s.heap) (hbl : b < s.heap.size) (hbA : ¬ A b) (hcs : cells + 1 ≤ room_1.cells ∧ slots + 6 ≤ room_1.slots) (h : hg G (LW G) 439 q v A s H locs) (hl : lv_has ls 9 [(0, .ref b), (1, .ref (q 0)), (2, .ref (q 431)), (3, .ref (q 430)), (4, .int i)]) {z : xSt} (hf : m_law_14 v xs L i = some z) (kk : ∀ (H : Heap) (locs : List Loc) (ls : Array Slot), hg G (LW G) 439 q z A s H locs → lv_has ls 9 [(0, .ref b), (1, .ref (q 0)), (2, .ref (q 431)), (3, .ref (q 430)), (4, .int i)] → W p l e room_1 s m args below meth c H locs (cells + 1) (slots + 6) Q (F0 m 1839 ls [])) : W p l e room_1 s m args below meth c H locs cells slots Q (F0 m 898 ls []) := by
  have hx := hC.1
  have hb := hC.2.1
  have hc0 : cells ≤ room_1.cells ∧ slots ≤ room_1.slots := ⟨Nat.le_of_succ_le hcs.1, Nat.le_trans (Nat.le_add_right _ _) hcs.2⟩
  unfold m_law_14 at hf
  refine lv_aload_n hx hb dL_law_898 rfl (lv_at hl 1 rfl) ?_
  refine lv_aload_n hx hb dL_law_899 rfl (lv_at hl 0 rfl) ?_
  refine lv_iload hx hb dL_law_900 (lv_at hl 4 rfl) ?_
  refine lv_iconst (v := (1 : Int32)) hx hb dL_law_902 (by decide) ?_
  refine lv_iadd hx hb dL_law_903 ?_
  obtain ⟨hi1, hf⟩ := ck_e hf
  refine va_sld hx hb hX hbl hbA h.1.2.2.1 hi1 dL_law_904 ?_
  refine lv_aload_n hx hb dL_law_905 rfl (lv_at hl 3 rfl) ?_
  obtain ⟨r2, hy3, hf⟩ := ob_e hf
  refine xipc h 431 sLW_0 (Nat.le_of_ble_eq_true rfl) (vx_runSW (As := [.ref (q 0), .int (xs (i + (1 : Int32)).toNatClampNeg), .ref (q 430)]) (rest := []) hC (c_L_append l G sa q v (xs (i + (1 : Int32)).toNatClampNeg) hy3 H.size) (xcgSW hC hin lk_L_151 in_L co_L_append st_L_append rfl rfl dd_L_append ⟨Nat.le_of_ble_eq_true rfl, Nat.le_of_ble_eq_true rfl⟩) (preSP h hT 431 sLW_0 (Nat.le_of_ble_eq_true rfl) [.ref (q 0), .int (xs (i + (1 : Int32)).toNatClampNeg), .ref (q 430)]) rfl rfl hl.1 rfl (lv_room (Nat.le_of_ble_eq_true rfl)) dL_law_906 ⟨Nat.le_of_succ_le hcs.1, Nat.le_trans (Nat.le_add_right _ _) hcs.2⟩) (fun H locs h => ?_)
  obtain ⟨v4, ev4, hf⟩ := lt_e hf
  rw [← ev4] at h
  refine lv_istore (lv' := [(5, .int r2.1), (0, .ref b), (1, .ref (q 0)), (2, .ref (q 431)), (3, .ref (q 430)), (4, .int i)]) hx hb dL_law_909 hl (by decide) rfl (fun ls hl => ?_)
  refine lv_aload_n hx hb dL_law_911 rfl (lv_at hl 3 rfl) ?_
  refine lv_aload_n hx hb dL_law_912 rfl (lv_at hl 1 rfl) ?_
  refine lv_iload hx hb dL_law_913 (lv_at hl 5 rfl) ?_
  refine lv_iconst (v := (1 : Int32)) hx hb dL_law_915 (by decide) ?_
  refine lv_iadd hx hb dL_law_916 ?_
  obtain ⟨hi5, hf⟩ := ck_e hf
  refine va_sld hx hb hX hbl hbA h.1.2.2.1 hi5 dL_law_917 ?_
  obtain ⟨r7, hy6, hf⟩ := ob_e hf
  refine xi1 h 431 8 sLW_431 (Nat.le_of_ble_eq_true rfl) (va_runV (As := [.int (xs (i + (1 : Int32)).toNatClampNeg)]) (rest := []) hC (c_X9_append l G (sh 431 q) (sh 431 v4) (xs (i + (1 : Int32)).toNatClampNeg) hy6 H.size) (xcgV hC hin lk_L_153 in_X9 co_X9_append im_X9_append se_X9_append rfl rfl dd_X9_append ⟨Nat.le_of_ble_eq_true rfl, Nat.le_of_ble_eq_true rfl⟩) (preV1 h 431 8 sLW_431 (Nat.le_of_ble_eq_true rfl) (Nat.le_of_ble_eq_true rfl) eLW_431 rfl [.int (xs (i + (1 : Int32)).toNatClampNeg)]) rfl rfl hl.1 rfl (lv_room (Nat.le_of_ble_eq_true rfl)) dL_law_918 hc0) (fun H locs h => ?_)
  obtain ⟨v8, ev8, hf⟩ := lt_e hf
  rw [← ev8] at h
  refine lv_istore (lv' := [(6, .int r7.1), (5, .int r2.1), (0, .ref b), (1, .ref (q 0)), (2, .ref (q 431)), (3, .ref (q 430)), (4, .int i)]) hx hb dL_law_921 hl (by decide) rfl (fun ls hl => ?_)
  refine lv_aload_n hx hb dL_law_923 rfl (lv_at hl 4 rfl) ?_
  obtain ⟨r10, hy9, hf⟩ := ob_e hf
  refine xiG h (va_runV (As := []) (rest := []) hC (c_X9_thrown l G (sh 431 q) (sh 431 v8) hy9 H.size) (xcgV hC hin lk_L_104 in_X9 co_X9_thrown im_X9_thrown se_X9_thrown rfl rfl dd_X9_thrown ⟨Nat.le_of_ble_eq_true rfl, Nat.le_of_ble_eq_true rfl⟩) (preVO h.o 431 8 sLW_431 (Nat.le_of_ble_eq_true rfl) (Nat.le_of_ble_eq_true rfl) eLW_431 rfl []) rfl rfl hl.1 rfl (lv_room (Nat.le_of_ble_eq_true rfl)) dL_law_924 hc0) (fun H locs h => ?_)
  refine lv_iload hx hb dL_law_927 (lv_at hl 1 rfl) ?_
  refine lv_icmp_eq (tgt := 934) hx hb dL_law_929 (by decide) (fun c11 => ?_) (fun c11 => ?_)
  · have hf := it_t c11 hf
    refine lv_iload hx hb dL_law_934 (lv_at hl 1 rfl) ?_
    refine lv_if_ne (tgt := 951) hx hb dL_law_936 (by decide) (fun c12 => ?_) (fun c12 => ?_)
    · have hf := it_f c12 hf
      refine lv_goto (tgt := 1839) hx hb dL_law_951 (by decide) ?_
      have hf := sm_e hf
      subst hf
      refine W.widen (k := cells + 1) (n := slots + 6) (by omega) (by omega) ?_
      exact kk H locs ls h (lv_sub hl [2, 3, 4, 5, 6] rfl)
    · have hf := it_t c12 hf
      refine lv_aload_n hx hb dL_law_939 rfl (lv_at hl 5 rfl) ?_
      refine lv_iconst (v := (0 : Int32)) hx hb dL_law_940 (by decide) ?_
      refine xlald hC h.o 430 (Nat.le_of_ble_eq_true rfl) eLW_430 dL_law_941 ?_
      refine lv_iload hx hb dL_law_942 (lv_at hl 0 rfl) ?_
      refine lv_i2l hx hb dL_law_944 rfl ?_
      refine W.lcmp hx hb dL_law_945 ?_
      refine lv_if_eq (tgt := 951) hx hb dL_law_946 (by decide) (fun c13 => ?_) (fun c13 => ?_)
      · have hf := it_t c13 hf
        refine lv_goto (tgt := 1839) hx hb dL_law_951 (by decide) ?_
        have hf := sm_e hf
        subst hf
        refine W.widen (k := cells + 1) (n := slots + 6) (by omega) (by omega) ?_
        exact kk H locs ls h (lv_sub hl [2, 3, 4, 5, 6] rfl)
      · have hf := it_f c13 hf
        cases hf
  · have hf := it_f c11 hf
    cases hf
def m_law_14_xIAE (v : xSt) (xs : Nat → Int32) (L : Nat) (i : Int32) : Option xSt := ck (¬ ((i + (1 : Int32)) < 0 ∨ L ≤ (i + (1 : Int32)).toNatClampNeg)) (ob (xthE xIAE (m_X8_append_t v (xs (i + (1 : Int32)).toNatClampNeg))) (fun r2 => lt (pu 0 431 v (pu 0 430 v r2)) (fun v4 => ck (¬ ((i + (1 : Int32)) < 0 ∨ L ≤ (i + (1 : Int32)).toNatClampNeg)) (ob (m_X9_append (sh 431 v4) (xs (i + (1 : Int32)).toNatClampNeg)) (fun r7 => lt (pu 431 8 v4 r7.2) (fun v8 => ob (m_X9_thrown (sh 431 v8)) (fun r10 => (if r10 = (1 : Int32) then (if (1 : Int32) = 0 then (if (lg_cmp ((v8 430 0).toInt64) ((r7.1).toInt64)) = 0 then some v8 else none) else some v8) else none))))))))
set_option maxHeartbeats 4000000 in
set_option maxRecDepth 100000 in
theorem k_law_14_xIAE {p : Program} {l : Launch} {e : Env} {R : Room} {s : State} {m : MethodId} {args : Array Value} {below : List Frame} {meth : Method} {c : Code} {H : Heap} {locs : List Loc} {cells slots : Nat} {Q : State → Prop} {G : xGl} {sa q : Nat → Nat} {v : xSt} {A : Nat → Prop} {ls : Array Slot} {b L : Nat} {xs : Nat → Int32} {i : Int32} (hst : l.stackTraces = false) (hC : CallFix p m c cL_law 9 s args lw_tbl RL) (hin : ∀ w ∈ wG, w ∈ lw_tbl) (hT : xT G sa A s s.heap) (hX : va_X b L xs s s.heap) (hbl : b < s.heap.size) (hbA : ¬ A b) (hcs : cells + 1 ≤ room_1.cells ∧ slots + 6 ≤ room_1.slots) (h : hg G (LW G) 439 q v A s H locs) (hl : lv_has ls 9 [(0, .ref b), (1, .ref (q 0)), (2, .ref (q 431)), (3, .ref (q 430)), (4, .int i)]) {z : xSt} (hf : m_law_14_xIAE v xs L i = some z) (kk : ∀ (H : Heap) (locs : List Loc) (ls : Array Slot), hg G (LW G) 439 q z A s H locs → lv_has ls 9 [(0, .ref b), (1, .ref (q 0)), (2, .ref (q 431)), (3, .ref (q 430)), (4, .int i)] → W p l e room_1 s m args below meth c H locs (cells + 1) (slots + 6) Q (F0 m 1839 ls [])) : W p l e room_1 s m args below meth c H locs cells slots Q (F0 m 898 ls []) := by
  have hx := hC.1
  have hb := hC.2.1
  have hc0 : cells ≤ room_1.cells ∧ slots ≤ room_1.slots := ⟨Nat.le_of_succ_le hcs.1, Nat.le_trans (Nat.le_add_right _ _) hcs.2⟩
  unfold m_law_14_xIAE at hf
  refine lv_aload_n hx hb dL_law_898 rfl (lv_at hl 1 rfl) ?_
  refine lv_aload_n hx hb dL_law_899 rfl (lv_at hl 0 rfl) ?_
  refine lv_iload hx hb dL_law_900 (lv_at hl 4 rfl) ?_
  refine lv_iconst (v := (1 : Int32)) hx hb dL_law_902 (by decide) ?_
  refine lv_iadd hx hb dL_law_903 ?_
  obtain ⟨hi1, hf⟩ := ck_e hf
  refine va_sld hx hb hX hbl hbA h.1.2.2.1 hi1 dL_law_904 ?_
  refine lv_aload_n hx hb dL_law_905 rfl (lv_at hl 3 rfl) ?_
  obtain ⟨r2, hy3, hf⟩ := ob_e hf
  refine xipc h 431 sLW_0 (Nat.le_of_ble_eq_true rfl) (vx_runSW (As := [.ref (q 0), .int (xs (i + (1 : Int32)).toNatClampNeg), .ref (q 430)]) (rest := []) hC (x_L_append_xIAE l hst G sa q v (xs (i + (1 : Int32)).toNatClampNeg) (xthE_e hy3) H.size) (xcgSW hC hin lk_L_151 in_L co_L_append st_L_append rfl rfl dd_L_append ⟨Nat.le_of_ble_eq_true rfl, Nat.le_of_ble_eq_true rfl⟩) (preSP h hT 431 sLW_0 (Nat.le_of_ble_eq_true rfl) [.ref (q 0), .int (xs (i + (1 : Int32)).toNatClampNeg), .ref (q 430)]) rfl rfl hl.1 rfl (lv_room (Nat.le_of_ble_eq_true rfl)) dL_law_906 hcs) (fun H locs h => ?_)
  obtain ⟨v4, ev4, hf⟩ := lt_e hf
  rw [← ev4] at h
  refine lv_istore (lv' := [(5, .int (1 : Int32)), (0, .ref b), (1, .ref (q 0)), (2, .ref (q 431)), (3, .ref (q 430)), (4, .int i)]) hx hb dL_law_909 hl (by decide) rfl (fun ls hl => ?_)
  refine lv_aload_n hx hb dL_law_911 rfl (lv_at hl 3 rfl) ?_
  refine lv_aload_n hx hb dL_law_912 rfl (lv_at hl 1 rfl) ?_
  refine lv_iload hx hb dL_law_913 (lv_at hl 5 rfl) ?_
  refine lv_iconst (v := (1 : Int32)) hx hb dL_law_915 (by decide) ?_
  refine lv_iadd hx hb dL_law_916 ?_
  obtain ⟨hi5, hf⟩ := ck_e hf
  refine va_sld hx hb hX hbl hbA h.1.2.2.1 hi5 dL_law_917 ?_
  obtain ⟨r7, hy6, hf⟩ := ob_e hf
  refine xi1 h 431 8 sLW_431 (Nat.le_of_ble_eq_true rfl) (va_runV (As := [.int (xs (i + (1 : Int32)).toNatClampNeg)]) (rest := []) hC (c_X9_append l G (sh 431 q) (sh 431 v4) (xs (i + (1 : Int32)).toNatClampNeg) hy6 H.size) (xcgV hC hin lk_L_153 in_X9 co_X9_append im_X9_append se_X9_append rfl rfl dd_X9_append ⟨Nat.le_of_ble_eq_true rfl, Nat.le_of_ble_eq_true rfl⟩) (preV1 h 431 8 sLW_431 (Nat.le_of_ble_eq_true rfl) (Nat.le_of_ble_eq_true rfl) eLW_431 rfl [.int (xs (i + (1 : Int32)).toNatClampNeg)]) rfl rfl hl.1 rfl (lv_room (Nat.le_of_ble_eq_true rfl)) dL_law_918 hcs) (fun H locs h => ?_)
  obtain ⟨v8, ev8, hf⟩ := lt_e hf
  rw [← ev8] at h
  refine lv_istore (lv' := [(6, .int r7.1), (5, .int (1 : Int32)), (0, .ref b), (1, .ref (q 0)), (2, .ref (q 431)), (3, .ref (q 430)), (4, .int i)]) hx hb dL_law_921 hl (by decide) rfl (fun ls hl => ?_)
  refine lv_aload_n hx hb dL_law_923 rfl (lv_at hl 4 rfl) ?_
  obtain ⟨r10, hy9, hf⟩ := ob_e hf
  refine xiG h (va_runV (As := []) (rest := []) hC (c_X9_thrown l G (sh 431 q) (sh 431 v8) hy9 H.size) (xcgV hC hin lk_L_104 in_X9 co_X9_thrown im_X9_thrown se_X9_thrown rfl rfl dd_X9_thrown ⟨Nat.le_of_ble_eq_true rfl, Nat.le_of_ble_eq_true rfl⟩) (preVO h.o 431 8 sLW_431 (Nat.le_of_ble_eq_true rfl) (Nat.le_of_ble_eq_true rfl) eLW_431 rfl []) rfl rfl hl.1 rfl (lv_room (Nat.le_of_ble_eq_true rfl)) dL_law_924 hcs) (fun H locs h => ?_)
  refine lv_iload hx hb dL_law_927 (lv_at hl 1 rfl) ?_
  refine lv_icmp_eq (tgt := 934) hx hb dL_law_929 (by decide) (fun c11 => ?_) (fun c11 => ?_)
  · have hf := it_t c11 hf
    refine lv_iload hx hb dL_law_934 (lv_at hl 1 rfl) ?_
    refine lv_if_ne (tgt := 951) hx hb dL_law_936 (by decide) (fun c12 => ?_) (fun c12 => ?_)
    · have hf := it_f c12 hf
      refine lv_goto (tgt := 1839) hx hb dL_law_951 (by decide) ?_
      have hf := sm_e hf
      subst hf
      refine W.widen (k := cells + 1) (n := slots + 6) (by omega) (by omega) ?_
      exact kk H locs ls h (lv_sub hl [2, 3, 4, 5, 6] rfl)
    · have hf := it_t c12 hf
      refine lv_aload_n hx hb dL_law_939 rfl (lv_at hl 5 rfl) ?_
      refine lv_iconst (v := (0 : Int32)) hx hb dL_law_940 (by decide) ?_
      refine xlald hC h.o 430 (Nat.le_of_ble_eq_true rfl) eLW_430 dL_law_941 ?_
      refine lv_iload hx hb dL_law_942 (lv_at hl 0 rfl) ?_
      refine lv_i2l hx hb dL_law_944 rfl ?_
      refine W.lcmp hx hb dL_law_945 ?_
      refine lv_if_eq (tgt := 951) hx hb dL_law_946 (by decide) (fun c13 => ?_) (fun c13 => ?_)
      · have hf := it_t c13 hf
        refine lv_goto (tgt := 1839) hx hb dL_law_951 (by decide) ?_
        have hf := sm_e hf
        subst hf
        refine W.widen (k := cells + 1) (n := slots + 6) (by omega) (by omega) ?_
        exact kk H locs ls h (lv_sub hl [2, 3, 4, 5, 6] rfl)
      · have hf := it_f c13 hf
        cases hf
  · have hf := it_f c11 hf
    cases hf
def m_law_14_xISE (v : xSt) (xs : Nat → Int32) (L : Nat) (i : Int32) : Option xSt := ck (¬ ((i + (1 : Int32)) < 0 ∨ L ≤ (i + (1 : Int32)).toNatClampNeg)) (ob (xthE xISE (m_X8_append_t v (xs (i + (1 : Int32)).toNatClampNeg))) (fun r2 => lt (pu 0 431 v (pu 0 430 v r2)) (fun v4 => ck (¬ ((i + (1 : Int32)) < 0 ∨ L ≤ (i + (1 : Int32)).toNatClampNeg)) (ob (m_X9_append (sh 431 v4) (xs (i + (1 : Int32)).toNatClampNeg)) (fun r7 => lt (pu 431 8 v4 r7.2) (fun v8 => ob (m_X9_thrown (sh 431 v8)) (fun r10 => (if r10 = (2 : Int32) then (if (2 : Int32) = 0 then (if (lg_cmp ((v8 430 0).toInt64) ((r7.1).toInt64)) = 0 then some v8 else none) else some v8) else none))))))))
set_option maxHeartbeats 4000000 in
set_option maxRecDepth 100000 in
theorem k_law_14_xISE {p : Program} {l : Launch} {e : Env} {R : Room} {s : State} {m : MethodId} {args : Array Value} {below : List Frame} {meth : Method} {c : Code} {H : Heap} {locs : List Loc} {cells slots : Nat} {Q : State → Prop} {G : xGl} {sa q : Nat → Nat} {v : xSt} {A : Nat → Prop} {ls : Array Slot} {b L : Nat} {xs : Nat → Int32} {i : Int32} (hst : l.stackTraces = false) (hC : CallFix p m c cL_law 9 s args lw_tbl RL) (hin : ∀ w ∈ wG, w ∈ lw_tbl) (hT : xT G sa A s s.heap) (hX : va_X b L xs s s.heap) (hbl : b < s.heap.size) (hbA : ¬ A b) (hcs : cells + 1 ≤ room_1.cells ∧ slots + 6 ≤ room_1.slots) (h : hg G (LW G) 439 q v A s H locs) (hl : lv_has ls 9 [(0, .ref b), (1, .ref (q 0)), (2, .ref (q 431)), (3, .ref (q 430)), (4, .int i)]) {z : xSt} (hf : m_law_14_xISE v xs L i = some z) (kk : ∀ (H : Heap) (locs : List Loc) (ls : Array Slot), hg G (LW G) 439 q z A s H locs → lv_has ls 9 [(0, .ref b), (1, .ref (q 0)), (2, .ref (q 431)), (3, .ref (q 430)), (4, .int i)] → W p l e room_1 s m args below meth c H locs (cells + 1) (slots + 6) Q (F0 m 1839 ls [])) : W p l e room_1 s m args below meth c H locs cells slots Q (F0 m 898 ls []) := by
  have hx := hC.1
  have hb := hC.2.1
  have hc0 : cells ≤ room_1.cells ∧ slots ≤ room_1.slots := ⟨Nat.le_of_succ_le hcs.1, Nat.le_trans (Nat.le_add_right _ _) hcs.2⟩
  unfold m_law_14_xISE at hf
  refine lv_aload_n hx hb dL_law_898 rfl (lv_at hl 1 rfl) ?_
  refine lv_aload_n hx hb dL_law_899 rfl (lv_at hl 0 rfl) ?_
  refine lv_iload hx hb dL_law_900 (lv_at hl 4 rfl) ?_
  refine lv_iconst (v := (1 : Int32)) hx hb dL_law_902 (by decide) ?_
  refine lv_iadd hx hb dL_law_903 ?_
  obtain ⟨hi1, hf⟩ := ck_e hf
  refine va_sld hx hb hX hbl hbA h.1.2.2.1 hi1 dL_law_904 ?_
  refine lv_aload_n hx hb dL_law_905 rfl (lv_at hl 3 rfl) ?_
  obtain ⟨r2, hy3, hf⟩ := ob_e hf
  refine xipc h 431 sLW_0 (Nat.le_of_ble_eq_true rfl) (vx_runSW (As := [.ref (q 0), .int (xs (i + (1 : Int32)).toNatClampNeg), .ref (q 430)]) (rest := []) hC (x_L_append_xISE l hst G sa q v (xs (i + (1 : Int32)).toNatClampNeg) (xthE_e hy3) H.size) (xcgSW hC hin lk_L_151 in_L co_L_append st_L_append rfl rfl dd_L_append ⟨Nat.le_of_ble_eq_true rfl, Nat.le_of_ble_eq_true rfl⟩) (preSP h hT 431 sLW_0 (Nat.le_of_ble_eq_true rfl) [.ref (q 0), .int (xs (i + (1 : Int32)).toNatClampNeg), .ref (q 430)]) rfl rfl hl.1 rfl (lv_room (Nat.le_of_ble_eq_true rfl)) dL_law_906 hcs) (fun H locs h => ?_)
  obtain ⟨v4, ev4, hf⟩ := lt_e hf
  rw [← ev4] at h
  refine lv_istore (lv' := [(5, .int (2 : Int32)), (0, .ref b), (1, .ref (q 0)), (2, .ref (q 431)), (3, .ref (q 430)), (4, .int i)]) hx hb dL_law_909 hl (by decide) rfl (fun ls hl => ?_)
  refine lv_aload_n hx hb dL_law_911 rfl (lv_at hl 3 rfl) ?_
  refine lv_aload_n hx hb dL_law_912 rfl (lv_at hl 1 rfl) ?_
  refine lv_iload hx hb dL_law_913 (lv_at hl 5 rfl) ?_
  refine lv_iconst (v := (1 : Int32)) hx hb dL_law_915 (by decide) ?_
  refine lv_iadd hx hb dL_law_916 ?_
  obtain ⟨hi5, hf⟩ := ck_e hf
  refine va_sld hx hb hX hbl hbA h.1.2.2.1 hi5 dL_law_917 ?_
  obtain ⟨r7, hy6, hf⟩ := ob_e hf
  refine xi1 h 431 8 sLW_431 (Nat.le_of_ble_eq_true rfl) (va_runV (As := [.int (xs (i + (1 : Int32)).toNatClampNeg)]) (rest := []) hC (c_X9_append l G (sh 431 q) (sh 431 v4) (xs (i + (1 : Int32)).toNatClampNeg) hy6 H.size) (xcgV hC hin lk_L_153 in_X9 co_X9_append im_X9_append se_X9_append rfl rfl dd_X9_append ⟨Nat.le_of_ble_eq_true rfl, Nat.le_of_ble_eq_true rfl⟩) (preV1 h 431 8 sLW_431 (Nat.le_of_ble_eq_true rfl) (Nat.le_of_ble_eq_true rfl) eLW_431 rfl [.int (xs (i + (1 : Int32)).toNatClampNeg)]) rfl rfl hl.1 rfl (lv_room (Nat.le_of_ble_eq_true rfl)) dL_law_918 hcs) (fun H locs h => ?_)
  obtain ⟨v8, ev8, hf⟩ := lt_e hf
  rw [← ev8] at h
  refine lv_istore (lv' := [(6, .int r7.1), (5, .int (2 : Int32)), (0, .ref b), (1, .ref (q 0)), (2, .ref (q 431)), (3, .ref (q 430)), (4, .int i)]) hx hb dL_law_921 hl (by decide) rfl (fun ls hl => ?_)
  refine lv_aload_n hx hb dL_law_923 rfl (lv_at hl 4 rfl) ?_
  obtain ⟨r10, hy9, hf⟩ := ob_e hf
  refine xiG h (va_runV (As := []) (rest := []) hC (c_X9_thrown l G (sh 431 q) (sh 431 v8) hy9 H.size) (xcgV hC hin lk_L_104 in_X9 co_X9_thrown im_X9_thrown se_X9_thrown rfl rfl dd_X9_thrown ⟨Nat.le_of_ble_eq_true rfl, Nat.le_of_ble_eq_true rfl⟩) (preVO h.o 431 8 sLW_431 (Nat.le_of_ble_eq_true rfl) (Nat.le_of_ble_eq_true rfl) eLW_431 rfl []) rfl rfl hl.1 rfl (lv_room (Nat.le_of_ble_eq_true rfl)) dL_law_924 hcs) (fun H locs h => ?_)
  refine lv_iload hx hb dL_law_927 (lv_at hl 1 rfl) ?_
  refine lv_icmp_eq (tgt := 934) hx hb dL_law_929 (by decide) (fun c11 => ?_) (fun c11 => ?_)
  · have hf := it_t c11 hf
    refine lv_iload hx hb dL_law_934 (lv_at hl 1 rfl) ?_
    refine lv_if_ne (tgt := 951) hx hb dL_law_936 (by decide) (fun c12 => ?_) (fun c12 => ?_)
    · have hf := it_f c12 hf
      refine lv_goto (tgt := 1839) hx hb dL_law_951 (by decide) ?_
      have hf := sm_e hf
      subst hf
      refine W.widen (k := cells + 1) (n := slots + 6) (by omega) (by omega) ?_
      exact kk H locs ls h (lv_sub hl [2, 3, 4, 5, 6] rfl)
    · have hf := it_t c12 hf
      refine lv_aload_n hx hb dL_law_939 rfl (lv_at hl 5 rfl) ?_
      refine lv_iconst (v := (0 : Int32)) hx hb dL_law_940 (by decide) ?_
      refine xlald hC h.o 430 (Nat.le_of_ble_eq_true rfl) eLW_430 dL_law_941 ?_
      refine lv_iload hx hb dL_law_942 (lv_at hl 0 rfl) ?_
      refine lv_i2l hx hb dL_law_944 rfl ?_
      refine W.lcmp hx hb dL_law_945 ?_
      refine lv_if_eq (tgt := 951) hx hb dL_law_946 (by decide) (fun c13 => ?_) (fun c13 => ?_)
      · have hf := it_t c13 hf
        refine lv_goto (tgt := 1839) hx hb dL_law_951 (by decide) ?_
        have hf := sm_e hf
        subst hf
        refine W.widen (k := cells + 1) (n := slots + 6) (by omega) (by omega) ?_
        exact kk H locs ls h (lv_sub hl [2, 3, 4, 5, 6] rfl)
      · have hf := it_f c13 hf
        cases hf
  · have hf := it_f c11 hf
    cases hf
def m_law_15 (v : xSt) (xs : Nat → Int32) (L : Nat) (i : Int32) : Option xSt := ob (m_X8_clearBuffer v) (fun r2 => lt (pu 0 430 v r2.2) (fun v3 => ob (m_X9_clearBuffer (sh 431 v3)) (fun r5 => lt (pu 431 8 v3 r5.2) (fun v6 => (if r2.1 = r5.1 then some v6 else none)))))
set_option maxHeartbeats 4000000 in
set_option maxRecDepth 100000 in
theorem k_law_15 {p : Program} {l : Launch} {e : Env} {R : Room} {s : State} {m : MethodId} {args : Array Value} {below : List Frame} {meth : Method} {c : Code} {H : Heap} {locs : List Loc} {cells slots : Nat} {Q : State → Prop} {G : xGl} {sa q : Nat → Nat} {v : xSt} {A : Nat → Prop} {ls : Array Slot} {b L : Nat} {xs : Nat → Int32} {i : Int32} (hst : l.stackTraces = false) (hC : CallFix p m c cL_law 9 s args lw_tbl RL) (hin : ∀ w ∈ wG, w ∈ lw_tbl) (hT : xT G sa A s s.heap) (hX : va_X b L xs s s.heap) (hbl : b < s.heap.size) (hbA : ¬ A b) (hcs : cells + 1 ≤ room_1.cells ∧ slots + 6 ≤ room_1.slots) (h : hg G (LW G) 439 q v A s H locs) (hl : lv_has ls 9 [(0, .ref b), (1, .ref (q 0)), (2, .ref (q 431)), (3, .ref (q 430)), (4, .int i)]) {z : xSt} (hf : m_law_15 v xs L i = some z) (kk : ∀ (H : Heap) (locs : List Loc) (ls : Array Slot), hg G (LW G) 439 q z A s H locs → lv_has ls 9 [(0, .ref b), (1, .ref (q 0)), (2, .ref (q 431)), (3, .ref (q 430)), (4, .int i)] → W p l e room_1 s m args below meth c H locs (cells + 1) (slots + 6) Q (F0 m 1839 ls [])) : W p l e room_1 s m args below meth c H locs cells slots Q (F0 m 954 ls []) := by
  have hx := hC.1
  have hb := hC.2.1
  have hc0 : cells ≤ room_1.cells ∧ slots ≤ room_1.slots := ⟨Nat.le_of_succ_le hcs.1, Nat.le_trans (Nat.le_add_right _ _) hcs.2⟩
  unfold m_law_15 at hf
  refine lv_aload_n hx hb dL_law_954 rfl (lv_at hl 1 rfl) ?_
  obtain ⟨r2, hy1, hf⟩ := ob_e hf
  refine xip h 430 sLW_0b (Nat.le_of_ble_eq_true rfl) (va_runV (As := []) (rest := []) hC (c_X8_clearBuffer l G q v hy1 H.size) (xcgV hC hin lk_L_154 in_X8 co_X8_clearBuffer im_X8_clearBuffer se_X8_clearBuffer rfl rfl dd_X8_clearBuffer ⟨Nat.le_of_ble_eq_true rfl, Nat.le_of_ble_eq_true rfl⟩) (preVp h 430 sLW_0b (Nat.le_of_ble_eq_true rfl) (Nat.le_of_ble_eq_true rfl) eLW_0 rfl []) rfl rfl hl.1 rfl (lv_room (Nat.le_of_ble_eq_true rfl)) dL_law_955 hc0) (fun H locs h => ?_)
  obtain ⟨v3, ev3, hf⟩ := lt_e hf
  rw [← ev3] at h
  refine lv_aload_n hx hb dL_law_958 rfl (lv_at hl 2 rfl) ?_
  obtain ⟨r5, hy4, hf⟩ := ob_e hf
  refine xi1 h 431 8 sLW_431 (Nat.le_of_ble_eq_true rfl) (va_runV (As := []) (rest := [.int r2.1]) hC (c_X9_clearBuffer l G (sh 431 q) (sh 431 v3) hy4 H.size) (xcgV hC hin lk_L_157 in_X9 co_X9_clearBuffer im_X9_clearBuffer se_X9_clearBuffer rfl rfl dd_X9_clearBuffer ⟨Nat.le_of_ble_eq_true rfl, Nat.le_of_ble_eq_true rfl⟩) (preV1 h 431 8 sLW_431 (Nat.le_of_ble_eq_true rfl) (Nat.le_of_ble_eq_true rfl) eLW_431 rfl []) rfl rfl hl.1 rfl (lv_room (Nat.le_of_ble_eq_true rfl)) dL_law_959 hc0) (fun H locs h => ?_)
  obtain ⟨v6, ev6, hf⟩ := lt_e hf
  rw [← ev6] at h
  refine lv_icmp_eq (tgt := 1839) hx hb dL_law_962 (by decide) (fun c7 => ?_) (fun c7 => ?_)
  · have hf := it_t c7 hf
    have hf := sm_e hf
    subst hf
    refine W.widen (k := cells + 1) (n := slots + 6) (by omega) (by omega) ?_
    exact kk H locs ls h (lv_sub hl [0, 1, 2, 3, 4] rfl)
  · have hf := it_f c7 hf
    cases hf
def m_law_16 (v : xSt) (xs : Nat → Int32) (L : Nat) (i : Int32) : Option xSt := ob (m_X8_firstError v) (fun r2 => lt (pu 0 430 v r2.2) (fun v3 => ob (m_X9_firstError (sh 431 v3)) (fun r5 => lt (pu 431 8 v3 r5.2) (fun v6 => (if r2.1 = r5.1 then some v6 else none)))))
set_option maxHeartbeats 4000000 in
set_option maxRecDepth 100000 in
theorem k_law_16 {p : Program} {l : Launch} {e : Env} {R : Room} {s : State} {m : MethodId} {args : Array Value} {below : List Frame} {meth : Method} {c : Code} {H : Heap} {locs : List Loc} {cells slots : Nat} {Q : State → Prop} {G : xGl} {sa q : Nat → Nat} {v : xSt} {A : Nat → Prop} {ls : Array Slot} {b L : Nat} {xs : Nat → Int32} {i : Int32} (hst : l.stackTraces = false) (hC : CallFix p m c cL_law 9 s args lw_tbl RL) (hin : ∀ w ∈ wG, w ∈ lw_tbl) (hT : xT G sa A s s.heap) (hX : va_X b L xs s s.heap) (hbl : b < s.heap.size) (hbA : ¬ A b) (hcs : cells + 1 ≤ room_1.cells ∧ slots + 6 ≤ room_1.slots) (h : hg G (LW G) 439 q v A s H locs) (hl : lv_has ls 9 [(0, .ref b), (1, .ref (q 0)), (2, .ref (q 431)), (3, .ref (q 430)), (4, .int i)]) {z : xSt} (hf : m_law_16 v xs L i = some z) (kk : ∀ (H : Heap) (locs : List Loc) (ls : Array Slot), hg G (LW G) 439 q z A s H locs → lv_has ls 9 [(0, .ref b), (1, .ref (q 0)), (2, .ref (q 431)), (3, .ref (q 430)), (4, .int i)] → W p l e room_1 s m args below meth c H locs (cells + 1) (slots + 6) Q (F0 m 1839 ls [])) : W p l e room_1 s m args below meth c H locs cells slots Q (F0 m 967 ls []) := by
  have hx := hC.1
  have hb := hC.2.1
  have hc0 : cells ≤ room_1.cells ∧ slots ≤ room_1.slots := ⟨Nat.le_of_succ_le hcs.1, Nat.le_trans (Nat.le_add_right _ _) hcs.2⟩
  unfold m_law_16 at hf
  refine lv_aload_n hx hb dL_law_967 rfl (lv_at hl 1 rfl) ?_
  obtain ⟨r2, hy1, hf⟩ := ob_e hf
  refine xip h 430 sLW_0b (Nat.le_of_ble_eq_true rfl) (va_runV (As := []) (rest := []) hC (c_X8_firstError l G q v hy1 H.size) (xcgV hC hin lk_L_158 in_X8 co_X8_firstError im_X8_firstError se_X8_firstError rfl rfl dd_X8_firstError ⟨Nat.le_of_ble_eq_true rfl, Nat.le_of_ble_eq_true rfl⟩) (preVp h 430 sLW_0b (Nat.le_of_ble_eq_true rfl) (Nat.le_of_ble_eq_true rfl) eLW_0 rfl []) rfl rfl hl.1 rfl (lv_room (Nat.le_of_ble_eq_true rfl)) dL_law_968 hc0) (fun H locs h => ?_)
  obtain ⟨v3, ev3, hf⟩ := lt_e hf
  rw [← ev3] at h
  refine lv_aload_n hx hb dL_law_971 rfl (lv_at hl 2 rfl) ?_
  obtain ⟨r5, hy4, hf⟩ := ob_e hf
  refine xi1 h 431 8 sLW_431 (Nat.le_of_ble_eq_true rfl) (va_runV (As := []) (rest := [.int r2.1]) hC (c_X9_firstError l G (sh 431 q) (sh 431 v3) hy4 H.size) (xcgV hC hin lk_L_161 in_X9 co_X9_firstError im_X9_firstError se_X9_firstError rfl rfl dd_X9_firstError ⟨Nat.le_of_ble_eq_true rfl, Nat.le_of_ble_eq_true rfl⟩) (preV1 h 431 8 sLW_431 (Nat.le_of_ble_eq_true rfl) (Nat.le_of_ble_eq_true rfl) eLW_431 rfl []) rfl rfl hl.1 rfl (lv_room (Nat.le_of_ble_eq_true rfl)) dL_law_972 hc0) (fun H locs h => ?_)
  obtain ⟨v6, ev6, hf⟩ := lt_e hf
  rw [← ev6] at h
  refine lv_icmp_eq (tgt := 1839) hx hb dL_law_975 (by decide) (fun c7 => ?_) (fun c7 => ?_)
  · have hf := it_t c7 hf
    have hf := sm_e hf
    subst hf
    refine W.widen (k := cells + 1) (n := slots + 6) (by omega) (by omega) ?_
    exact kk H locs ls h (lv_sub hl [0, 1, 2, 3, 4] rfl)
  · have hf := it_f c7 hf
    cases hf
def m_law_17 (v : xSt) (xs : Nat → Int32) (L : Nat) (i : Int32) : Option xSt := ob (m_L_obey v ) (fun r1 => lt (pu 0 431 v r1.2) (fun v3 => ob (m_X9_obey (sh 431 v3)) (fun r5 => lt (pu 431 8 v3 r5.2) (fun v6 => ob (m_X9_thrown (sh 431 v6)) (fun r8 => (if r8 = r1.1 then (if r1.1 = 0 then (if (lg_cmp ((v6 430 0).toInt64) ((r5.1).toInt64)) = 0 then some v6 else none) else some v6) else none))))))
set_option maxHeartbeats 4000000 in
set_option maxRecDepth 100000 in
theorem k_law_17 {p : Program} {l : Launch} {e : Env} {R : Room} {s : State} {m : MethodId} {args : Array Value} {below : List Frame} {meth : Method} {c : Code} {H : Heap} {locs : List Loc} {cells slots : Nat} {Q : State → Prop} {G : xGl} {sa q : Nat → Nat} {v : xSt} {A : Nat → Prop} {ls : Array Slot} {b L : Nat} {xs : Nat → Int32} {i : Int32} (hst : l.stackTraces = false) (hC : CallFix p m c cL_law 9 s args lw_tbl RL) (hin : ∀ w ∈ wG, w ∈ lw_tbl) (hT : xT G sa A s s.heap) (hX : va_X b L xs s s.heap) (hbl : b < s.heap.size) (hbA : ¬ A b) (hcs : cells + 1 ≤ room_1.cells ∧ slots + 6 ≤ room_1.slots) (h : hg G (LW G) 439 q v A s H locs) (hl : lv_has ls 9 [(0, .ref b), (1, .ref (q 0)), (2, .ref (q 431)), (3, .ref (q 430)), (4, .int i)]) {z : xSt} (hf : m_law_17 v xs L i = some z) (kk : ∀ (H : Heap) (locs : List Loc) (ls : Array Slot), hg G (LW G) 439 q z A s H locs → lv_has ls 9 [(0, .ref b), (1, .ref (q 0)), (2, .ref (q 431)), (3, .ref (q 430)), (4, .int i)] → W p l e room_1 s m args below meth c H locs (cells + 1) (slots + 6) Q (F0 m 1839 ls [])) : W p l e room_1 s m args below meth c H locs cells slots Q (F0 m 980 ls []) := by
  have hx := hC.1
  have hb := hC.2.1
  have hc0 : cells ≤ room_1.cells ∧ slots ≤ room_1.slots := ⟨Nat.le_of_succ_le hcs.1, Nat.le_trans (Nat.le_add_right _ _) hcs.2⟩
  unfold m_law_17 at hf
  refine lv_aload_n hx hb dL_law_980 rfl (lv_at hl 1 rfl) ?_
  refine lv_aload_n hx hb dL_law_981 rfl (lv_at hl 3 rfl) ?_
  obtain ⟨r1, hy2, hf⟩ := ob_e hf
  refine xipc h 431 sLW_0 (Nat.le_of_ble_eq_true rfl) (vx_runSW (As := [.ref (q 0), .ref (q 430)]) (rest := []) hC (c_L_obey l G sa q v  hy2 H.size) (xcgSW hC hin lk_L_162 in_L co_L_obey st_L_obey rfl rfl dd_L_obey ⟨Nat.le_of_ble_eq_true rfl, Nat.le_of_ble_eq_true rfl⟩) (preSP h hT 431 sLW_0 (Nat.le_of_ble_eq_true rfl) [.ref (q 0), .ref (q 430)]) rfl rfl hl.1 rfl (lv_room (Nat.le_of_ble_eq_true rfl)) dL_law_982 ⟨Nat.le_of_succ_le hcs.1, Nat.le_trans (Nat.le_add_right _ _) hcs.2⟩) (fun H locs h => ?_)
  obtain ⟨v3, ev3, hf⟩ := lt_e hf
  rw [← ev3] at h
  refine lv_istore (lv' := [(5, .int r1.1), (0, .ref b), (1, .ref (q 0)), (2, .ref (q 431)), (3, .ref (q 430)), (4, .int i)]) hx hb dL_law_985 hl (by decide) rfl (fun ls hl => ?_)
  refine lv_aload_n hx hb dL_law_987 rfl (lv_at hl 3 rfl) ?_
  obtain ⟨r5, hy4, hf⟩ := ob_e hf
  refine xi1 h 431 8 sLW_431 (Nat.le_of_ble_eq_true rfl) (va_runV (As := []) (rest := []) hC (c_X9_obey l G (sh 431 q) (sh 431 v3) hy4 H.size) (xcgV hC hin lk_L_164 in_X9 co_X9_obey im_X9_obey se_X9_obey rfl rfl dd_X9_obey ⟨Nat.le_of_ble_eq_true rfl, Nat.le_of_ble_eq_true rfl⟩) (preV1 h 431 8 sLW_431 (Nat.le_of_ble_eq_true rfl) (Nat.le_of_ble_eq_true rfl) eLW_431 rfl []) rfl rfl hl.1 rfl (lv_room (Nat.le_of_ble_eq_true rfl)) dL_law_988 hc0) (fun H locs h => ?_)
  obtain ⟨v6, ev6, hf⟩ := lt_e hf
  rw [← ev6] at h
  refine lv_istore (lv' := [(6, .int r5.1), (5, .int r1.1), (0, .ref b), (1, .ref (q 0)), (2, .ref (q 431)), (3, .ref (q 430)), (4, .int i)]) hx hb dL_law_991 hl (by decide) rfl (fun ls hl => ?_)
  refine lv_aload_n hx hb dL_law_993 rfl (lv_at hl 4 rfl) ?_
  obtain ⟨r8, hy7, hf⟩ := ob_e hf
  refine xiG h (va_runV (As := []) (rest := []) hC (c_X9_thrown l G (sh 431 q) (sh 431 v6) hy7 H.size) (xcgV hC hin lk_L_104 in_X9 co_X9_thrown im_X9_thrown se_X9_thrown rfl rfl dd_X9_thrown ⟨Nat.le_of_ble_eq_true rfl, Nat.le_of_ble_eq_true rfl⟩) (preVO h.o 431 8 sLW_431 (Nat.le_of_ble_eq_true rfl) (Nat.le_of_ble_eq_true rfl) eLW_431 rfl []) rfl rfl hl.1 rfl (lv_room (Nat.le_of_ble_eq_true rfl)) dL_law_994 hc0) (fun H locs h => ?_)
  refine lv_iload hx hb dL_law_997 (lv_at hl 1 rfl) ?_
  refine lv_icmp_eq (tgt := 1004) hx hb dL_law_999 (by decide) (fun c9 => ?_) (fun c9 => ?_)
  · have hf := it_t c9 hf
    refine lv_iload hx hb dL_law_1004 (lv_at hl 1 rfl) ?_
    refine lv_if_ne (tgt := 1021) hx hb dL_law_1006 (by decide) (fun c10 => ?_) (fun c10 => ?_)
    · have hf := it_f c10 hf
      refine lv_goto (tgt := 1839) hx hb dL_law_1021 (by decide) ?_
      have hf := sm_e hf
      subst hf
      refine W.widen (k := cells + 1) (n := slots + 6) (by omega) (by omega) ?_
      exact kk H locs ls h (lv_sub hl [2, 3, 4, 5, 6] rfl)
    · have hf := it_t c10 hf
      refine lv_aload_n hx hb dL_law_1009 rfl (lv_at hl 5 rfl) ?_
      refine lv_iconst (v := (0 : Int32)) hx hb dL_law_1010 (by decide) ?_
      refine xlald hC h.o 430 (Nat.le_of_ble_eq_true rfl) eLW_430 dL_law_1011 ?_
      refine lv_iload hx hb dL_law_1012 (lv_at hl 0 rfl) ?_
      refine lv_i2l hx hb dL_law_1014 rfl ?_
      refine W.lcmp hx hb dL_law_1015 ?_
      refine lv_if_eq (tgt := 1021) hx hb dL_law_1016 (by decide) (fun c11 => ?_) (fun c11 => ?_)
      · have hf := it_t c11 hf
        refine lv_goto (tgt := 1839) hx hb dL_law_1021 (by decide) ?_
        have hf := sm_e hf
        subst hf
        refine W.widen (k := cells + 1) (n := slots + 6) (by omega) (by omega) ?_
        exact kk H locs ls h (lv_sub hl [2, 3, 4, 5, 6] rfl)
      · have hf := it_f c11 hf
        cases hf
  · have hf := it_f c9 hf
    cases hf
def m_law_17_xIAE (v : xSt) (xs : Nat → Int32) (L : Nat) (i : Int32) : Option xSt := ob (xthE xIAE (m_X8_obey_t v )) (fun r1 => lt (pu 0 431 v (pu 0 430 v r1)) (fun v3 => ob (m_X9_obey (sh 431 v3)) (fun r5 => lt (pu 431 8 v3 r5.2) (fun v6 => ob (m_X9_thrown (sh 431 v6)) (fun r8 => (if r8 = (1 : Int32) then (if (1 : Int32) = 0 then (if (lg_cmp ((v6 430 0).toInt64) ((r5.1).toInt64)) = 0 then some v6 else none) else some v6) else none))))))
set_option maxHeartbeats 4000000 in
set_option maxRecDepth 100000 in
theorem k_law_17_xIAE {p : Program} {l : Launch} {e : Env} {R : Room} {s : State} {m : MethodId} {args : Array Value} {below : List Frame} {meth : Method} {c : Code} {H : Heap} {locs : List Loc} {cells slots : Nat} {Q : State → Prop} {G : xGl} {sa q : Nat → Nat} {v : xSt} {A : Nat → Prop} {ls : Array Slot} {b L : Nat} {xs : Nat → Int32} {i : Int32} (hst : l.stackTraces = false) (hC : CallFix p m c cL_law 9 s args lw_tbl RL) (hin : ∀ w ∈ wG, w ∈ lw_tbl) (hT : xT G sa A s s.heap) (hX : va_X b L xs s s.heap) (hbl : b < s.heap.size) (hbA : ¬ A b) (hcs : cells + 1 ≤ room_1.cells ∧ slots + 6 ≤ room_1.slots) (h : hg G (LW G) 439 q v A s H locs) (hl : lv_has ls 9 [(0, .ref b), (1, .ref (q 0)), (2, .ref (q 431)), (3, .ref (q 430)), (4, .int i)]) {z : xSt} (hf : m_law_17_xIAE v xs L i = some z) (kk : ∀ (H : Heap) (locs : List Loc) (ls : Array Slot), hg G (LW G) 439 q z A s H locs → lv_has ls 9 [(0, .ref b), (1, .ref (q 0)), (2, .ref (q 431)), (3, .ref (q 430)), (4, .int i)] → W p l e room_1 s m args below meth c H locs (cells + 1) (slots + 6) Q (F0 m 1839 ls [])) : W p l e room_1 s m args below meth c H locs cells slots Q (F0 m 980 ls []) := by
  have hx := hC.1
  have hb := hC.2.1
  have hc0 : cells ≤ room_1.cells ∧ slots ≤ room_1.slots := ⟨Nat.le_of_succ_le hcs.1, Nat.le_trans (Nat.le_add_right _ _) hcs.2⟩
  unfold m_law_17_xIAE at hf
  refine lv_aload_n hx hb dL_law_980 rfl (lv_at hl 1 rfl) ?_
  refine lv_aload_n hx hb dL_law_981 rfl (lv_at hl 3 rfl) ?_
  obtain ⟨r1, hy2, hf⟩ := ob_e hf
  refine xipc h 431 sLW_0 (Nat.le_of_ble_eq_true rfl) (vx_runSW (As := [.ref (q 0), .ref (q 430)]) (rest := []) hC (x_L_obey_xIAE l hst G sa q v  (xthE_e hy2) H.size) (xcgSW hC hin lk_L_162 in_L co_L_obey st_L_obey rfl rfl dd_L_obey ⟨Nat.le_of_ble_eq_true rfl, Nat.le_of_ble_eq_true rfl⟩) (preSP h hT 431 sLW_0 (Nat.le_of_ble_eq_true rfl) [.ref (q 0), .ref (q 430)]) rfl rfl hl.1 rfl (lv_room (Nat.le_of_ble_eq_true rfl)) dL_law_982 hcs) (fun H locs h => ?_)
  obtain ⟨v3, ev3, hf⟩ := lt_e hf
  rw [← ev3] at h
  refine lv_istore (lv' := [(5, .int (1 : Int32)), (0, .ref b), (1, .ref (q 0)), (2, .ref (q 431)), (3, .ref (q 430)), (4, .int i)]) hx hb dL_law_985 hl (by decide) rfl (fun ls hl => ?_)
  refine lv_aload_n hx hb dL_law_987 rfl (lv_at hl 3 rfl) ?_
  obtain ⟨r5, hy4, hf⟩ := ob_e hf
  refine xi1 h 431 8 sLW_431 (Nat.le_of_ble_eq_true rfl) (va_runV (As := []) (rest := []) hC (c_X9_obey l G (sh 431 q) (sh 431 v3) hy4 H.size) (xcgV hC hin lk_L_164 in_X9 co_X9_obey im_X9_obey se_X9_obey rfl rfl dd_X9_obey ⟨Nat.le_of_ble_eq_true rfl, Nat.le_of_ble_eq_true rfl⟩) (preV1 h 431 8 sLW_431 (Nat.le_of_ble_eq_true rfl) (Nat.le_of_ble_eq_true rfl) eLW_431 rfl []) rfl rfl hl.1 rfl (lv_room (Nat.le_of_ble_eq_true rfl)) dL_law_988 hcs) (fun H locs h => ?_)
  obtain ⟨v6, ev6, hf⟩ := lt_e hf
  rw [← ev6] at h
  refine lv_istore (lv' := [(6, .int r5.1), (5, .int (1 : Int32)), (0, .ref b), (1, .ref (q 0)), (2, .ref (q 431)), (3, .ref (q 430)), (4, .int i)]) hx hb dL_law_991 hl (by decide) rfl (fun ls hl => ?_)
  refine lv_aload_n hx hb dL_law_993 rfl (lv_at hl 4 rfl) ?_
  obtain ⟨r8, hy7, hf⟩ := ob_e hf
  refine xiG h (va_runV (As := []) (rest := []) hC (c_X9_thrown l G (sh 431 q) (sh 431 v6) hy7 H.size) (xcgV hC hin lk_L_104 in_X9 co_X9_thrown im_X9_thrown se_X9_thrown rfl rfl dd_X9_thrown ⟨Nat.le_of_ble_eq_true rfl, Nat.le_of_ble_eq_true rfl⟩) (preVO h.o 431 8 sLW_431 (Nat.le_of_ble_eq_true rfl) (Nat.le_of_ble_eq_true rfl) eLW_431 rfl []) rfl rfl hl.1 rfl (lv_room (Nat.le_of_ble_eq_true rfl)) dL_law_994 hcs) (fun H locs h => ?_)
  refine lv_iload hx hb dL_law_997 (lv_at hl 1 rfl) ?_
  refine lv_icmp_eq (tgt := 1004) hx hb dL_law_999 (by decide) (fun c9 => ?_) (fun c9 => ?_)
  · have hf := it_t c9 hf
    refine lv_iload hx hb dL_law_1004 (lv_at hl 1 rfl) ?_
    refine lv_if_ne (tgt := 1021) hx hb dL_law_1006 (by decide) (fun c10 => ?_) (fun c10 => ?_)
    · have hf := it_f c10 hf
      refine lv_goto (tgt := 1839) hx hb dL_law_1021 (by decide) ?_
      have hf := sm_e hf
      subst hf
      refine W.widen (k := cells + 1) (n := slots + 6) (by omega) (by omega) ?_
      exact kk H locs ls h (lv_sub hl [2, 3, 4, 5, 6] rfl)
    · have hf := it_t c10 hf
      refine lv_aload_n hx hb dL_law_1009 rfl (lv_at hl 5 rfl) ?_
      refine lv_iconst (v := (0 : Int32)) hx hb dL_law_1010 (by decide) ?_
      refine xlald hC h.o 430 (Nat.le_of_ble_eq_true rfl) eLW_430 dL_law_1011 ?_
      refine lv_iload hx hb dL_law_1012 (lv_at hl 0 rfl) ?_
      refine lv_i2l hx hb dL_law_1014 rfl ?_
      refine W.lcmp hx hb dL_law_1015 ?_
      refine lv_if_eq (tgt := 1021) hx hb dL_law_1016 (by decide) (fun c11 => ?_) (fun c11 => ?_)
      · have hf := it_t c11 hf
        refine lv_goto (tgt := 1839) hx hb dL_law_1021 (by decide) ?_
        have hf := sm_e hf
        subst hf
        refine W.widen (k := cells + 1) (n := slots + 6) (by omega) (by omega) ?_
        exact kk H locs ls h (lv_sub hl [2, 3, 4, 5, 6] rfl)
      · have hf := it_f c11 hf
        cases hf
  · have hf := it_f c9 hf
    cases hf
def m_law_18 (v : xSt) (xs : Nat → Int32) (L : Nat) (i : Int32) : Option xSt := ob (m_X8_keep v) (fun r2 => lt (pu 0 430 v r2.2) (fun v3 => ob (m_X9_keep (sh 431 v3)) (fun r5 => lt (pu 431 8 v3 r5.2) (fun v6 => (if r2.1 = r5.1 then some v6 else none)))))
set_option maxHeartbeats 4000000 in
set_option maxRecDepth 100000 in
theorem k_law_18 {p : Program} {l : Launch} {e : Env} {R : Room} {s : State} {m : MethodId} {args : Array Value} {below : List Frame} {meth : Method} {c : Code} {H : Heap} {locs : List Loc} {cells slots : Nat} {Q : State → Prop} {G : xGl} {sa q : Nat → Nat} {v : xSt} {A : Nat → Prop} {ls : Array Slot} {b L : Nat} {xs : Nat → Int32} {i : Int32} (hst : l.stackTraces = false) (hC : CallFix p m c cL_law 9 s args lw_tbl RL) (hin : ∀ w ∈ wG, w ∈ lw_tbl) (hT : xT G sa A s s.heap) (hX : va_X b L xs s s.heap) (hbl : b < s.heap.size) (hbA : ¬ A b) (hcs : cells + 1 ≤ room_1.cells ∧ slots + 6 ≤ room_1.slots) (h : hg G (LW G) 439 q v A s H locs) (hl : lv_has ls 9 [(0, .ref b), (1, .ref (q 0)), (2, .ref (q 431)), (3, .ref (q 430)), (4, .int i)]) {z : xSt} (hf : m_law_18 v xs L i = some z) (kk : ∀ (H : Heap) (locs : List Loc) (ls : Array Slot), hg G (LW G) 439 q z A s H locs → lv_has ls 9 [(0, .ref b), (1, .ref (q 0)), (2, .ref (q 431)), (3, .ref (q 430)), (4, .int i)] → W p l e room_1 s m args below meth c H locs (cells + 1) (slots + 6) Q (F0 m 1839 ls [])) : W p l e room_1 s m args below meth c H locs cells slots Q (F0 m 1024 ls []) := by
  have hx := hC.1
  have hb := hC.2.1
  have hc0 : cells ≤ room_1.cells ∧ slots ≤ room_1.slots := ⟨Nat.le_of_succ_le hcs.1, Nat.le_trans (Nat.le_add_right _ _) hcs.2⟩
  unfold m_law_18 at hf
  refine lv_aload_n hx hb dL_law_1024 rfl (lv_at hl 1 rfl) ?_
  obtain ⟨r2, hy1, hf⟩ := ob_e hf
  refine xip h 430 sLW_0b (Nat.le_of_ble_eq_true rfl) (va_runV (As := []) (rest := []) hC (c_X8_keep l G q v hy1 H.size) (xcgV hC hin lk_L_165 in_X8 co_X8_keep im_X8_keep se_X8_keep rfl rfl dd_X8_keep ⟨Nat.le_of_ble_eq_true rfl, Nat.le_of_ble_eq_true rfl⟩) (preVp h 430 sLW_0b (Nat.le_of_ble_eq_true rfl) (Nat.le_of_ble_eq_true rfl) eLW_0 rfl []) rfl rfl hl.1 rfl (lv_room (Nat.le_of_ble_eq_true rfl)) dL_law_1025 hc0) (fun H locs h => ?_)
  obtain ⟨v3, ev3, hf⟩ := lt_e hf
  rw [← ev3] at h
  refine lv_aload_n hx hb dL_law_1028 rfl (lv_at hl 2 rfl) ?_
  obtain ⟨r5, hy4, hf⟩ := ob_e hf
  refine xi1 h 431 8 sLW_431 (Nat.le_of_ble_eq_true rfl) (va_runV (As := []) (rest := [.int r2.1]) hC (c_X9_keep l G (sh 431 q) (sh 431 v3) hy4 H.size) (xcgV hC hin lk_L_168 in_X9 co_X9_keep im_X9_keep se_X9_keep rfl rfl dd_X9_keep ⟨Nat.le_of_ble_eq_true rfl, Nat.le_of_ble_eq_true rfl⟩) (preV1 h 431 8 sLW_431 (Nat.le_of_ble_eq_true rfl) (Nat.le_of_ble_eq_true rfl) eLW_431 rfl []) rfl rfl hl.1 rfl (lv_room (Nat.le_of_ble_eq_true rfl)) dL_law_1029 hc0) (fun H locs h => ?_)
  obtain ⟨v6, ev6, hf⟩ := lt_e hf
  rw [← ev6] at h
  refine lv_icmp_eq (tgt := 1839) hx hb dL_law_1032 (by decide) (fun c7 => ?_) (fun c7 => ?_)
  · have hf := it_t c7 hf
    have hf := sm_e hf
    subst hf
    refine W.widen (k := cells + 1) (n := slots + 6) (by omega) (by omega) ?_
    exact kk H locs ls h (lv_sub hl [0, 1, 2, 3, 4] rfl)
  · have hf := it_f c7 hf
    cases hf
def m_law_19 (v : xSt) (xs : Nat → Int32) (L : Nat) (i : Int32) : Option xSt := ob (m_L_goBack v ) (fun r1 => lt (pu 0 431 v r1.2) (fun v3 => ob (m_X9_goBack (sh 431 v3)) (fun r5 => lt (pu 431 8 v3 r5.2) (fun v6 => ob (m_X9_thrown (sh 431 v6)) (fun r8 => (if r8 = r1.1 then (if r1.1 = 0 then (if (lg_cmp ((v6 430 0).toInt64) ((r5.1).toInt64)) = 0 then some v6 else none) else some v6) else none))))))
set_option maxHeartbeats 4000000 in
set_option maxRecDepth 100000 in
theorem k_law_19 {p : Program} {l : Launch} {e : Env} {R : Room} {s : State} {m : MethodId} {args : Array Value} {below : List Frame} {meth : Method} {c : Code} {H : Heap} {locs : List Loc} {cells slots : Nat} {Q : State → Prop} {G : xGl} {sa q : Nat → Nat} {v : xSt} {A : Nat → Prop} {ls : Array Slot} {b L : Nat} {xs : Nat → Int32} {i : Int32} (hst : l.stackTraces = false) (hC : CallFix p m c cL_law 9 s args lw_tbl RL) (hin : ∀ w ∈ wG, w ∈ lw_tbl) (hT : xT G sa A s s.heap) (hX : va_X b L xs s s.heap) (hbl : b < s.heap.size) (hbA : ¬ A b) (hcs : cells + 1 ≤ room_1.cells ∧ slots + 6 ≤ room_1.slots) (h : hg G (LW G) 439 q v A s H locs) (hl : lv_has ls 9 [(0, .ref b), (1, .ref (q 0)), (2, .ref (q 431)), (3, .ref (q 430)), (4, .int i)]) {z : xSt} (hf : m_law_19 v xs L i = some z) (kk : ∀ (H : Heap) (locs : List Loc) (ls : Array Slot), hg G (LW G) 439 q z A s H locs → lv_has ls 9 [(0, .ref b), (1, .ref (q 0)), (2, .ref (q 431)), (3, .ref (q 430)), (4, .int i)] → W p l e room_1 s m args below meth c H locs (cells + 1) (slots + 6) Q (F0 m 1839 ls [])) : W p l e room_1 s m args below meth c H locs cells slots Q (F0 m 1037 ls []) := by
  have hx := hC.1
  have hb := hC.2.1
  have hc0 : cells ≤ room_1.cells ∧ slots ≤ room_1.slots := ⟨Nat.le_of_succ_le hcs.1, Nat.le_trans (Nat.le_add_right _ _) hcs.2⟩
  unfold m_law_19 at hf
  refine lv_aload_n hx hb dL_law_1037 rfl (lv_at hl 1 rfl) ?_
  refine lv_aload_n hx hb dL_law_1038 rfl (lv_at hl 3 rfl) ?_
  obtain ⟨r1, hy2, hf⟩ := ob_e hf
  refine xipc h 431 sLW_0 (Nat.le_of_ble_eq_true rfl) (vx_runSW (As := [.ref (q 0), .ref (q 430)]) (rest := []) hC (c_L_goBack l G sa q v  hy2 H.size) (xcgSW hC hin lk_L_169 in_L co_L_goBack st_L_goBack rfl rfl dd_L_goBack ⟨Nat.le_of_ble_eq_true rfl, Nat.le_of_ble_eq_true rfl⟩) (preSP h hT 431 sLW_0 (Nat.le_of_ble_eq_true rfl) [.ref (q 0), .ref (q 430)]) rfl rfl hl.1 rfl (lv_room (Nat.le_of_ble_eq_true rfl)) dL_law_1039 ⟨Nat.le_of_succ_le hcs.1, Nat.le_trans (Nat.le_add_right _ _) hcs.2⟩) (fun H locs h => ?_)
  obtain ⟨v3, ev3, hf⟩ := lt_e hf
  rw [← ev3] at h
  refine lv_istore (lv' := [(5, .int r1.1), (0, .ref b), (1, .ref (q 0)), (2, .ref (q 431)), (3, .ref (q 430)), (4, .int i)]) hx hb dL_law_1042 hl (by decide) rfl (fun ls hl => ?_)
  refine lv_aload_n hx hb dL_law_1044 rfl (lv_at hl 3 rfl) ?_
  obtain ⟨r5, hy4, hf⟩ := ob_e hf
  refine xi1 h 431 8 sLW_431 (Nat.le_of_ble_eq_true rfl) (va_runV (As := []) (rest := []) hC (c_X9_goBack l G (sh 431 q) (sh 431 v3) hy4 H.size) (xcgV hC hin lk_L_171 in_X9 co_X9_goBack im_X9_goBack se_X9_goBack rfl rfl dd_X9_goBack ⟨Nat.le_of_ble_eq_true rfl, Nat.le_of_ble_eq_true rfl⟩) (preV1 h 431 8 sLW_431 (Nat.le_of_ble_eq_true rfl) (Nat.le_of_ble_eq_true rfl) eLW_431 rfl []) rfl rfl hl.1 rfl (lv_room (Nat.le_of_ble_eq_true rfl)) dL_law_1045 hc0) (fun H locs h => ?_)
  obtain ⟨v6, ev6, hf⟩ := lt_e hf
  rw [← ev6] at h
  refine lv_istore (lv' := [(6, .int r5.1), (5, .int r1.1), (0, .ref b), (1, .ref (q 0)), (2, .ref (q 431)), (3, .ref (q 430)), (4, .int i)]) hx hb dL_law_1048 hl (by decide) rfl (fun ls hl => ?_)
  refine lv_aload_n hx hb dL_law_1050 rfl (lv_at hl 4 rfl) ?_
  obtain ⟨r8, hy7, hf⟩ := ob_e hf
  refine xiG h (va_runV (As := []) (rest := []) hC (c_X9_thrown l G (sh 431 q) (sh 431 v6) hy7 H.size) (xcgV hC hin lk_L_104 in_X9 co_X9_thrown im_X9_thrown se_X9_thrown rfl rfl dd_X9_thrown ⟨Nat.le_of_ble_eq_true rfl, Nat.le_of_ble_eq_true rfl⟩) (preVO h.o 431 8 sLW_431 (Nat.le_of_ble_eq_true rfl) (Nat.le_of_ble_eq_true rfl) eLW_431 rfl []) rfl rfl hl.1 rfl (lv_room (Nat.le_of_ble_eq_true rfl)) dL_law_1051 hc0) (fun H locs h => ?_)
  refine lv_iload hx hb dL_law_1054 (lv_at hl 1 rfl) ?_
  refine lv_icmp_eq (tgt := 1061) hx hb dL_law_1056 (by decide) (fun c9 => ?_) (fun c9 => ?_)
  · have hf := it_t c9 hf
    refine lv_iload hx hb dL_law_1061 (lv_at hl 1 rfl) ?_
    refine lv_if_ne (tgt := 1078) hx hb dL_law_1063 (by decide) (fun c10 => ?_) (fun c10 => ?_)
    · have hf := it_f c10 hf
      refine lv_goto (tgt := 1839) hx hb dL_law_1078 (by decide) ?_
      have hf := sm_e hf
      subst hf
      refine W.widen (k := cells + 1) (n := slots + 6) (by omega) (by omega) ?_
      exact kk H locs ls h (lv_sub hl [2, 3, 4, 5, 6] rfl)
    · have hf := it_t c10 hf
      refine lv_aload_n hx hb dL_law_1066 rfl (lv_at hl 5 rfl) ?_
      refine lv_iconst (v := (0 : Int32)) hx hb dL_law_1067 (by decide) ?_
      refine xlald hC h.o 430 (Nat.le_of_ble_eq_true rfl) eLW_430 dL_law_1068 ?_
      refine lv_iload hx hb dL_law_1069 (lv_at hl 0 rfl) ?_
      refine lv_i2l hx hb dL_law_1071 rfl ?_
      refine W.lcmp hx hb dL_law_1072 ?_
      refine lv_if_eq (tgt := 1078) hx hb dL_law_1073 (by decide) (fun c11 => ?_) (fun c11 => ?_)
      · have hf := it_t c11 hf
        refine lv_goto (tgt := 1839) hx hb dL_law_1078 (by decide) ?_
        have hf := sm_e hf
        subst hf
        refine W.widen (k := cells + 1) (n := slots + 6) (by omega) (by omega) ?_
        exact kk H locs ls h (lv_sub hl [2, 3, 4, 5, 6] rfl)
      · have hf := it_f c11 hf
        cases hf
  · have hf := it_f c9 hf
    cases hf
def m_law_19_xISE (v : xSt) (xs : Nat → Int32) (L : Nat) (i : Int32) : Option xSt := ob (xthE xISE (m_X8_goBack_t v )) (fun r1 => lt (pu 0 431 v (pu 0 430 v r1)) (fun v3 => ob (m_X9_goBack (sh 431 v3)) (fun r5 => lt (pu 431 8 v3 r5.2) (fun v6 => ob (m_X9_thrown (sh 431 v6)) (fun r8 => (if r8 = (1 : Int32) then (if (1 : Int32) = 0 then (if (lg_cmp ((v6 430 0).toInt64) ((r5.1).toInt64)) = 0 then some v6 else none) else some v6) else none))))))
set_option maxHeartbeats 4000000 in
set_option maxRecDepth 100000 in
theorem k_law_19_xISE {p : Program} {l : Launch} {e : Env} {R : Room} {s : State} {m : MethodId} {args : Array Value} {below : List Frame} {meth : Method} {c : Code} {H : Heap} {locs : List Loc} {cells slots : Nat} {Q : State → Prop} {G : xGl} {sa q : Nat → Nat} {v : xSt} {A : Nat → Prop} {ls : Array Slot} {b L : Nat} {xs : Nat → Int32} {i : Int32} (hst : l.stackTraces = false) (hC : CallFix p m c cL_law 9 s args lw_tbl RL) (hin : ∀ w ∈ wG, w ∈ lw_tbl) (hT : xT G sa A s s.heap) (hX : va_X b L xs s s.heap) (hbl : b < s.heap.size) (hbA : ¬ A b) (hcs : cells + 1 ≤ room_1.cells ∧ slots + 6 ≤ room_1.slots) (h : hg G (LW G) 439 q v A s H locs) (hl : lv_has ls 9 [(0, .ref b), (1, .ref (q 0)), (2, .ref (q 431)), (3, .ref (q 430)), (4, .int i)]) {z : xSt} (hf : m_law_19_xISE v xs L i = some z) (kk : ∀ (H : Heap) (locs : List Loc) (ls : Array Slot), hg G (LW G) 439 q z A s H locs → lv_has ls 9 [(0, .ref b), (1, .ref (q 0)), (2, .ref (q 431)), (3, .ref (q 430)), (4, .int i)] → W p l e room_1 s m args below meth c H locs (cells + 1) (slots + 6) Q (F0 m 1839 ls [])) : W p l e room_1 s m args below meth c H locs cells slots Q (F0 m 1037 ls []) := by
  have hx := hC.1
  have hb := hC.2.1
  have hc0 : cells ≤ room_1.cells ∧ slots ≤ room_1.slots := ⟨Nat.le_of_succ_le hcs.1, Nat.le_trans (Nat.le_add_right _ _) hcs.2⟩
  unfold m_law_19_xISE at hf
  refine lv_aload_n hx hb dL_law_1037 rfl (lv_at hl 1 rfl) ?_
  refine lv_aload_n hx hb dL_law_1038 rfl (lv_at hl 3 rfl) ?_
  obtain ⟨r1, hy2, hf⟩ := ob_e hf
  refine xipc h 431 sLW_0 (Nat.le_of_ble_eq_true rfl) (vx_runSW (As := [.ref (q 0), .ref (q 430)]) (rest := []) hC (x_L_goBack_xISE l hst G sa q v  (xthE_e hy2) H.size) (xcgSW hC hin lk_L_169 in_L co_L_goBack st_L_goBack rfl rfl dd_L_goBack ⟨Nat.le_of_ble_eq_true rfl, Nat.le_of_ble_eq_true rfl⟩) (preSP h hT 431 sLW_0 (Nat.le_of_ble_eq_true rfl) [.ref (q 0), .ref (q 430)]) rfl rfl hl.1 rfl (lv_room (Nat.le_of_ble_eq_true rfl)) dL_law_1039 hcs) (fun H locs h => ?_)
  obtain ⟨v3, ev3, hf⟩ := lt_e hf
  rw [← ev3] at h
  refine lv_istore (lv' := [(5, .int (1 : Int32)), (0, .ref b), (1, .ref (q 0)), (2, .ref (q 431)), (3, .ref (q 430)), (4, .int i)]) hx hb dL_law_1042 hl (by decide) rfl (fun ls hl => ?_)
  refine lv_aload_n hx hb dL_law_1044 rfl (lv_at hl 3 rfl) ?_
  obtain ⟨r5, hy4, hf⟩ := ob_e hf
  refine xi1 h 431 8 sLW_431 (Nat.le_of_ble_eq_true rfl) (va_runV (As := []) (rest := []) hC (c_X9_goBack l G (sh 431 q) (sh 431 v3) hy4 H.size) (xcgV hC hin lk_L_171 in_X9 co_X9_goBack im_X9_goBack se_X9_goBack rfl rfl dd_X9_goBack ⟨Nat.le_of_ble_eq_true rfl, Nat.le_of_ble_eq_true rfl⟩) (preV1 h 431 8 sLW_431 (Nat.le_of_ble_eq_true rfl) (Nat.le_of_ble_eq_true rfl) eLW_431 rfl []) rfl rfl hl.1 rfl (lv_room (Nat.le_of_ble_eq_true rfl)) dL_law_1045 hcs) (fun H locs h => ?_)
  obtain ⟨v6, ev6, hf⟩ := lt_e hf
  rw [← ev6] at h
  refine lv_istore (lv' := [(6, .int r5.1), (5, .int (1 : Int32)), (0, .ref b), (1, .ref (q 0)), (2, .ref (q 431)), (3, .ref (q 430)), (4, .int i)]) hx hb dL_law_1048 hl (by decide) rfl (fun ls hl => ?_)
  refine lv_aload_n hx hb dL_law_1050 rfl (lv_at hl 4 rfl) ?_
  obtain ⟨r8, hy7, hf⟩ := ob_e hf
  refine xiG h (va_runV (As := []) (rest := []) hC (c_X9_thrown l G (sh 431 q) (sh 431 v6) hy7 H.size) (xcgV hC hin lk_L_104 in_X9 co_X9_thrown im_X9_thrown se_X9_thrown rfl rfl dd_X9_thrown ⟨Nat.le_of_ble_eq_true rfl, Nat.le_of_ble_eq_true rfl⟩) (preVO h.o 431 8 sLW_431 (Nat.le_of_ble_eq_true rfl) (Nat.le_of_ble_eq_true rfl) eLW_431 rfl []) rfl rfl hl.1 rfl (lv_room (Nat.le_of_ble_eq_true rfl)) dL_law_1051 hcs) (fun H locs h => ?_)
  refine lv_iload hx hb dL_law_1054 (lv_at hl 1 rfl) ?_
  refine lv_icmp_eq (tgt := 1061) hx hb dL_law_1056 (by decide) (fun c9 => ?_) (fun c9 => ?_)
  · have hf := it_t c9 hf
    refine lv_iload hx hb dL_law_1061 (lv_at hl 1 rfl) ?_
    refine lv_if_ne (tgt := 1078) hx hb dL_law_1063 (by decide) (fun c10 => ?_) (fun c10 => ?_)
    · have hf := it_f c10 hf
      refine lv_goto (tgt := 1839) hx hb dL_law_1078 (by decide) ?_
      have hf := sm_e hf
      subst hf
      refine W.widen (k := cells + 1) (n := slots + 6) (by omega) (by omega) ?_
      exact kk H locs ls h (lv_sub hl [2, 3, 4, 5, 6] rfl)
    · have hf := it_t c10 hf
      refine lv_aload_n hx hb dL_law_1066 rfl (lv_at hl 5 rfl) ?_
      refine lv_iconst (v := (0 : Int32)) hx hb dL_law_1067 (by decide) ?_
      refine xlald hC h.o 430 (Nat.le_of_ble_eq_true rfl) eLW_430 dL_law_1068 ?_
      refine lv_iload hx hb dL_law_1069 (lv_at hl 0 rfl) ?_
      refine lv_i2l hx hb dL_law_1071 rfl ?_
      refine W.lcmp hx hb dL_law_1072 ?_
      refine lv_if_eq (tgt := 1078) hx hb dL_law_1073 (by decide) (fun c11 => ?_) (fun c11 => ?_)
      · have hf := it_t c11 hf
        refine lv_goto (tgt := 1839) hx hb dL_law_1078 (by decide) ?_
        have hf := sm_e hf
        subst hf
        refine W.widen (k := cells + 1) (n := slots + 6) (by omega) (by omega) ?_
        exact kk H locs ls h (lv_sub hl [2, 3, 4, 5, 6] rfl)
      · have hf := it_f c11 hf
        cases hf
  · have hf := it_f c9 hf
    cases hf
def m_law_20 (v : xSt) (xs : Nat → Int32) (L : Nat) (i : Int32) : Option xSt := ob (m_L_undo v ) (fun r1 => lt (pu 0 431 v r1.2) (fun v3 => ob (m_X9_undo (sh 431 v3)) (fun r5 => lt (pu 431 8 v3 r5.2) (fun v6 => ob (m_X9_thrown (sh 431 v6)) (fun r8 => (if r8 = r1.1 then (if r1.1 = 0 then (if (lg_cmp ((v6 430 0).toInt64) ((r5.1).toInt64)) = 0 then some v6 else none) else some v6) else none))))))
set_option maxHeartbeats 4000000 in
set_option maxRecDepth 100000 in
theorem k_law_20 {p : Program} {l : Launch} {e : Env} {R : Room} {s : State} {m : MethodId} {args : Array Value} {below : List Frame} {meth : Method} {c : Code} {H : Heap} {locs : List Loc} {cells slots : Nat} {Q : State → Prop} {G : xGl} {sa q : Nat → Nat} {v : xSt} {A : Nat → Prop} {ls : Array Slot} {b L : Nat} {xs : Nat → Int32} {i : Int32} (hst : l.stackTraces = false) (hC : CallFix p m c cL_law 9 s args lw_tbl RL) (hin : ∀ w ∈ wG, w ∈ lw_tbl) (hT : xT G sa A s s.heap) (hX : va_X b L xs s s.heap) (hbl : b < s.heap.size) (hbA : ¬ A b) (hcs : cells + 1 ≤ room_1.cells ∧ slots + 6 ≤ room_1.slots) (h : hg G (LW G) 439 q v A s H locs) (hl : lv_has ls 9 [(0, .ref b), (1, .ref (q 0)), (2, .ref (q 431)), (3, .ref (q 430)), (4, .int i)]) {z : xSt} (hf : m_law_20 v xs L i = some z) (kk : ∀ (H : Heap) (locs : List Loc) (ls : Array Slot), hg G (LW G) 439 q z A s H locs → lv_has ls 9 [(0, .ref b), (1, .ref (q 0)), (2, .ref (q 431)), (3, .ref (q 430)), (4, .int i)] → W p l e room_1 s m args below meth c H locs (cells + 1) (slots + 6) Q (F0 m 1839 ls [])) : W p l e room_1 s m args below meth c H locs cells slots Q (F0 m 1081 ls []) := by
  have hx := hC.1
  have hb := hC.2.1
  have hc0 : cells ≤ room_1.cells ∧ slots ≤ room_1.slots := ⟨Nat.le_of_succ_le hcs.1, Nat.le_trans (Nat.le_add_right _ _) hcs.2⟩
  unfold m_law_20 at hf
  refine lv_aload_n hx hb dL_law_1081 rfl (lv_at hl 1 rfl) ?_
  refine lv_aload_n hx hb dL_law_1082 rfl (lv_at hl 3 rfl) ?_
  obtain ⟨r1, hy2, hf⟩ := ob_e hf
  refine xipc h 431 sLW_0 (Nat.le_of_ble_eq_true rfl) (vx_runSW (As := [.ref (q 0), .ref (q 430)]) (rest := []) hC (c_L_undo l G sa q v  hy2 H.size) (xcgSW hC hin lk_L_172 in_L co_L_undo st_L_undo rfl rfl dd_L_undo ⟨Nat.le_of_ble_eq_true rfl, Nat.le_of_ble_eq_true rfl⟩) (preSP h hT 431 sLW_0 (Nat.le_of_ble_eq_true rfl) [.ref (q 0), .ref (q 430)]) rfl rfl hl.1 rfl (lv_room (Nat.le_of_ble_eq_true rfl)) dL_law_1083 ⟨Nat.le_of_succ_le hcs.1, Nat.le_trans (Nat.le_add_right _ _) hcs.2⟩) (fun H locs h => ?_)
  obtain ⟨v3, ev3, hf⟩ := lt_e hf
  rw [← ev3] at h
  refine lv_istore (lv' := [(5, .int r1.1), (0, .ref b), (1, .ref (q 0)), (2, .ref (q 431)), (3, .ref (q 430)), (4, .int i)]) hx hb dL_law_1086 hl (by decide) rfl (fun ls hl => ?_)
  refine lv_aload_n hx hb dL_law_1088 rfl (lv_at hl 3 rfl) ?_
  obtain ⟨r5, hy4, hf⟩ := ob_e hf
  refine xi1 h 431 8 sLW_431 (Nat.le_of_ble_eq_true rfl) (va_runV (As := []) (rest := []) hC (c_X9_undo l G (sh 431 q) (sh 431 v3) hy4 H.size) (xcgV hC hin lk_L_174 in_X9 co_X9_undo im_X9_undo se_X9_undo rfl rfl dd_X9_undo ⟨Nat.le_of_ble_eq_true rfl, Nat.le_of_ble_eq_true rfl⟩) (preV1 h 431 8 sLW_431 (Nat.le_of_ble_eq_true rfl) (Nat.le_of_ble_eq_true rfl) eLW_431 rfl []) rfl rfl hl.1 rfl (lv_room (Nat.le_of_ble_eq_true rfl)) dL_law_1089 hc0) (fun H locs h => ?_)
  obtain ⟨v6, ev6, hf⟩ := lt_e hf
  rw [← ev6] at h
  refine lv_istore (lv' := [(6, .int r5.1), (5, .int r1.1), (0, .ref b), (1, .ref (q 0)), (2, .ref (q 431)), (3, .ref (q 430)), (4, .int i)]) hx hb dL_law_1092 hl (by decide) rfl (fun ls hl => ?_)
  refine lv_aload_n hx hb dL_law_1094 rfl (lv_at hl 4 rfl) ?_
  obtain ⟨r8, hy7, hf⟩ := ob_e hf
  refine xiG h (va_runV (As := []) (rest := []) hC (c_X9_thrown l G (sh 431 q) (sh 431 v6) hy7 H.size) (xcgV hC hin lk_L_104 in_X9 co_X9_thrown im_X9_thrown se_X9_thrown rfl rfl dd_X9_thrown ⟨Nat.le_of_ble_eq_true rfl, Nat.le_of_ble_eq_true rfl⟩) (preVO h.o 431 8 sLW_431 (Nat.le_of_ble_eq_true rfl) (Nat.le_of_ble_eq_true rfl) eLW_431 rfl []) rfl rfl hl.1 rfl (lv_room (Nat.le_of_ble_eq_true rfl)) dL_law_1095 hc0) (fun H locs h => ?_)
  refine lv_iload hx hb dL_law_1098 (lv_at hl 1 rfl) ?_
  refine lv_icmp_eq (tgt := 1105) hx hb dL_law_1100 (by decide) (fun c9 => ?_) (fun c9 => ?_)
  · have hf := it_t c9 hf
    refine lv_iload hx hb dL_law_1105 (lv_at hl 1 rfl) ?_
    refine lv_if_ne (tgt := 1122) hx hb dL_law_1107 (by decide) (fun c10 => ?_) (fun c10 => ?_)
    · have hf := it_f c10 hf
      refine lv_goto (tgt := 1839) hx hb dL_law_1122 (by decide) ?_
      have hf := sm_e hf
      subst hf
      refine W.widen (k := cells + 1) (n := slots + 6) (by omega) (by omega) ?_
      exact kk H locs ls h (lv_sub hl [2, 3, 4, 5, 6] rfl)
    · have hf := it_t c10 hf
      refine lv_aload_n hx hb dL_law_1110 rfl (lv_at hl 5 rfl) ?_
      refine lv_iconst (v := (0 : Int32)) hx hb dL_law_1111 (by decide) ?_
      refine xlald hC h.o 430 (Nat.le_of_ble_eq_true rfl) eLW_430 dL_law_1112 ?_
      refine lv_iload hx hb dL_law_1113 (lv_at hl 0 rfl) ?_
      refine lv_i2l hx hb dL_law_1115 rfl ?_
      refine W.lcmp hx hb dL_law_1116 ?_
      refine lv_if_eq (tgt := 1122) hx hb dL_law_1117 (by decide) (fun c11 => ?_) (fun c11 => ?_)
      · have hf := it_t c11 hf
        refine lv_goto (tgt := 1839) hx hb dL_law_1122 (by decide) ?_
        have hf := sm_e hf
        subst hf
        refine W.widen (k := cells + 1) (n := slots + 6) (by omega) (by omega) ?_
        exact kk H locs ls h (lv_sub hl [2, 3, 4, 5, 6] rfl)
      · have hf := it_f c11 hf
        cases hf
  · have hf := it_f c9 hf
    cases hf
def m_law_20_xISE (v : xSt) (xs : Nat → Int32) (L : Nat) (i : Int32) : Option xSt := ob (xthE xISE (m_X8_undo_t v )) (fun r1 => lt (pu 0 431 v (pu 0 430 v r1)) (fun v3 => ob (m_X9_undo (sh 431 v3)) (fun r5 => lt (pu 431 8 v3 r5.2) (fun v6 => ob (m_X9_thrown (sh 431 v6)) (fun r8 => (if r8 = (1 : Int32) then (if (1 : Int32) = 0 then (if (lg_cmp ((v6 430 0).toInt64) ((r5.1).toInt64)) = 0 then some v6 else none) else some v6) else none))))))
set_option maxHeartbeats 4000000 in
set_option maxRecDepth 100000 in
theorem k_law_20_xISE {p : Program} {l : Launch} {e : Env} {R : Room} {s : State} {m : MethodId} {args : Array Value} {below : List Frame} {meth : Method} {c : Code} {H : Heap} {locs : List Loc} {cells slots : Nat} {Q : State → Prop} {G : xGl} {sa q : Nat → Nat} {v : xSt} {A : Nat → Prop} {ls : Array Slot} {b L : Nat} {xs : Nat → Int32} {i : Int32} (hst : l.stackTraces = false) (hC : CallFix p m c cL_law 9 s args lw_tbl RL) (hin : ∀ w ∈ wG, w ∈ lw_tbl) (hT : xT G sa A s s.heap) (hX : va_X b L xs s s.heap) (hbl : b < s.heap.size) (hbA : ¬ A b) (hcs : cells + 1 ≤ room_1.cells ∧ slots + 6 ≤ room_1.slots) (h : hg G (LW G) 439 q v A s H locs) (hl : lv_has ls 9 [(0, .ref b), (1, .ref (q 0)), (2, .ref (q 431)), (3, .ref (q 430)), (4, .int i)]) {z : xSt} (hf : m_law_20_xISE v xs L i = some z) (kk : ∀ (H : Heap) (locs : List Loc) (ls : Array Slot), hg G (LW G) 439 q z A s H locs → lv_has ls 9 [(0, .ref b), (1, .ref (q 0)), (2, .ref (q 431)), (3, .ref (q 430)), (4, .int i)] → W p l e room_1 s m args below meth c H locs (cells + 1) (slots + 6) Q (F0 m 1839 ls [])) : W p l e room_1 s m args below meth c H locs cells slots Q (F0 m 1081 ls []) := by
  have hx := hC.1
  have hb := hC.2.1
  have hc0 : cells ≤ room_1.cells ∧ slots ≤ room_1.slots := ⟨Nat.le_of_succ_le hcs.1, Nat.le_trans (Nat.le_add_right _ _) hcs.2⟩
  unfold m_law_20_xISE at hf
  refine lv_aload_n hx hb dL_law_1081 rfl (lv_at hl 1 rfl) ?_
  refine lv_aload_n hx hb dL_law_1082 rfl (lv_at hl 3 rfl) ?_
  obtain ⟨r1, hy2, hf⟩ := ob_e hf
  refine xipc h 431 sLW_0 (Nat.le_of_ble_eq_true rfl) (vx_runSW (As := [.ref (q 0), .ref (q 430)]) (rest := []) hC (x_L_undo_xISE l hst G sa q v  (xthE_e hy2) H.size) (xcgSW hC hin lk_L_172 in_L co_L_undo st_L_undo rfl rfl dd_L_undo ⟨Nat.le_of_ble_eq_true rfl, Nat.le_of_ble_eq_true rfl⟩) (preSP h hT 431 sLW_0 (Nat.le_of_ble_eq_true rfl) [.ref (q 0), .ref (q 430)]) rfl rfl hl.1 rfl (lv_room (Nat.le_of_ble_eq_true rfl)) dL_law_1083 hcs) (fun H locs h => ?_)
  obtain ⟨v3, ev3, hf⟩ := lt_e hf
  rw [← ev3] at h
  refine lv_istore (lv' := [(5, .int (1 : Int32)), (0, .ref b), (1, .ref (q 0)), (2, .ref (q 431)), (3, .ref (q 430)), (4, .int i)]) hx hb dL_law_1086 hl (by decide) rfl (fun ls hl => ?_)
  refine lv_aload_n hx hb dL_law_1088 rfl (lv_at hl 3 rfl) ?_
  obtain ⟨r5, hy4, hf⟩ := ob_e hf
  refine xi1 h 431 8 sLW_431 (Nat.le_of_ble_eq_true rfl) (va_runV (As := []) (rest := []) hC (c_X9_undo l G (sh 431 q) (sh 431 v3) hy4 H.size) (xcgV hC hin lk_L_174 in_X9 co_X9_undo im_X9_undo se_X9_undo rfl rfl dd_X9_undo ⟨Nat.le_of_ble_eq_true rfl, Nat.le_of_ble_eq_true rfl⟩) (preV1 h 431 8 sLW_431 (Nat.le_of_ble_eq_true rfl) (Nat.le_of_ble_eq_true rfl) eLW_431 rfl []) rfl rfl hl.1 rfl (lv_room (Nat.le_of_ble_eq_true rfl)) dL_law_1089 hcs) (fun H locs h => ?_)
  obtain ⟨v6, ev6, hf⟩ := lt_e hf
  rw [← ev6] at h
  refine lv_istore (lv' := [(6, .int r5.1), (5, .int (1 : Int32)), (0, .ref b), (1, .ref (q 0)), (2, .ref (q 431)), (3, .ref (q 430)), (4, .int i)]) hx hb dL_law_1092 hl (by decide) rfl (fun ls hl => ?_)
  refine lv_aload_n hx hb dL_law_1094 rfl (lv_at hl 4 rfl) ?_
  obtain ⟨r8, hy7, hf⟩ := ob_e hf
  refine xiG h (va_runV (As := []) (rest := []) hC (c_X9_thrown l G (sh 431 q) (sh 431 v6) hy7 H.size) (xcgV hC hin lk_L_104 in_X9 co_X9_thrown im_X9_thrown se_X9_thrown rfl rfl dd_X9_thrown ⟨Nat.le_of_ble_eq_true rfl, Nat.le_of_ble_eq_true rfl⟩) (preVO h.o 431 8 sLW_431 (Nat.le_of_ble_eq_true rfl) (Nat.le_of_ble_eq_true rfl) eLW_431 rfl []) rfl rfl hl.1 rfl (lv_room (Nat.le_of_ble_eq_true rfl)) dL_law_1095 hcs) (fun H locs h => ?_)
  refine lv_iload hx hb dL_law_1098 (lv_at hl 1 rfl) ?_
  refine lv_icmp_eq (tgt := 1105) hx hb dL_law_1100 (by decide) (fun c9 => ?_) (fun c9 => ?_)
  · have hf := it_t c9 hf
    refine lv_iload hx hb dL_law_1105 (lv_at hl 1 rfl) ?_
    refine lv_if_ne (tgt := 1122) hx hb dL_law_1107 (by decide) (fun c10 => ?_) (fun c10 => ?_)
    · have hf := it_f c10 hf
      refine lv_goto (tgt := 1839) hx hb dL_law_1122 (by decide) ?_
      have hf := sm_e hf
      subst hf
      refine W.widen (k := cells + 1) (n := slots + 6) (by omega) (by omega) ?_
      exact kk H locs ls h (lv_sub hl [2, 3, 4, 5, 6] rfl)
    · have hf := it_t c10 hf
      refine lv_aload_n hx hb dL_law_1110 rfl (lv_at hl 5 rfl) ?_
      refine lv_iconst (v := (0 : Int32)) hx hb dL_law_1111 (by decide) ?_
      refine xlald hC h.o 430 (Nat.le_of_ble_eq_true rfl) eLW_430 dL_law_1112 ?_
      refine lv_iload hx hb dL_law_1113 (lv_at hl 0 rfl) ?_
      refine lv_i2l hx hb dL_law_1115 rfl ?_
      refine W.lcmp hx hb dL_law_1116 ?_
      refine lv_if_eq (tgt := 1122) hx hb dL_law_1117 (by decide) (fun c11 => ?_) (fun c11 => ?_)
      · have hf := it_t c11 hf
        refine lv_goto (tgt := 1839) hx hb dL_law_1122 (by decide) ?_
        have hf := sm_e hf
        subst hf
        refine W.widen (k := cells + 1) (n := slots + 6) (by omega) (by omega) ?_
        exact kk H locs ls h (lv_sub hl [2, 3, 4, 5, 6] rfl)
      · have hf := it_f c11 hf
        cases hf
  · have hf := it_f c9 hf
    cases hf
def m_law_21 (v : xSt) (xs : Nat → Int32) (L : Nat) (i : Int32) : Option xSt := ck (¬ ((i + (1 : Int32)) < 0 ∨ L ≤ (i + (1 : Int32)).toNatClampNeg)) (ob (m_L_read v (xs (i + (1 : Int32)).toNatClampNeg)) (fun r2 => lt (pu 0 431 v r2.2) (fun v4 => ck (¬ ((i + (1 : Int32)) < 0 ∨ L ≤ (i + (1 : Int32)).toNatClampNeg)) (ob (m_X9_read (sh 431 v4) (xs (i + (1 : Int32)).toNatClampNeg)) (fun r7 => lt (pu 431 8 v4 r7.2) (fun v8 => ob (m_X9_thrown (sh 431 v8)) (fun r10 => (if r10 = r2.1 then (if r2.1 = 0 then (if (lg_cmp ((v8 430 0).toInt64) ((r7.1).toInt64)) = 0 then some v8 else none) else some v8) else none))))))))
set_option maxHeartbeats 4000000 in
set_option maxRecDepth 100000 in
theorem k_law_21 {p : Program} {l : Launch} {e : Env} {R : Room} {s : State} {m : MethodId} {args : Array Value} {below : List Frame} {meth : Method} {c : Code} {H : Heap} {locs : List Loc} {cells slots : Nat} {Q : State → Prop} {G : xGl} {sa q : Nat → Nat} {v : xSt} {A : Nat → Prop} {ls : Array Slot} {b L : Nat} {xs : Nat → Int32} {i : Int32} (hst : l.stackTraces = false) (hC : CallFix p m c cL_law 9 s args lw_tbl RL) (hin : ∀ w ∈ wG, w ∈ lw_tbl) (hT : xT G sa A s s.heap) (hX : va_X b L xs s s.heap) (hbl : b < s.heap.size) (hbA : ¬ A b) (hcs : cells + 1 ≤ room_1.cells ∧ slots + 6 ≤ room_1.slots) (h : hg G (LW G) 439 q v A s H locs) (hl : lv_has ls 9 [(0, .ref b), (1, .ref (q 0)), (2, .ref (q 431)), (3, .ref (q 430)), (4, .int i)]) {z : xSt} (hf : m_law_21 v xs L i = some z) (kk : ∀ (H : Heap) (locs : List Loc) (ls : Array Slot), hg G (LW G) 439 q z A s H locs → lv_has ls 9 [(0, .ref b), (1, .ref (q 0)), (2, .ref (q 431)), (3, .ref (q 430)), (4, .int i)] → W p l e room_1 s m args below meth c H locs (cells + 1) (slots + 6) Q (F0 m 1839 ls [])) : W p l e room_1 s m args below meth c H locs cells slots Q (F0 m 1125 ls []) := by
  have hx := hC.1
  have hb := hC.2.1
  have hc0 : cells ≤ room_1.cells ∧ slots ≤ room_1.slots := ⟨Nat.le_of_succ_le hcs.1, Nat.le_trans (Nat.le_add_right _ _) hcs.2⟩
  unfold m_law_21 at hf
  refine lv_aload_n hx hb dL_law_1125 rfl (lv_at hl 1 rfl) ?_
  refine lv_aload_n hx hb dL_law_1126 rfl (lv_at hl 0 rfl) ?_
  refine lv_iload hx hb dL_law_1127 (lv_at hl 4 rfl) ?_
  refine lv_iconst (v := (1 : Int32)) hx hb dL_law_1129 (by decide) ?_
  refine lv_iadd hx hb dL_law_1130 ?_
  obtain ⟨hi1, hf⟩ := ck_e hf
  refine va_sld hx hb hX hbl hbA h.1.2.2.1 hi1 dL_law_1131 ?_
  refine lv_aload_n hx hb dL_law_1132 rfl (lv_at hl 3 rfl) ?_
  obtain ⟨r2, hy3, hf⟩ := ob_e hf
  refine xipc h 431 sLW_0 (Nat.le_of_ble_eq_true rfl) (vx_runSW (As := [.ref (q 0), .int (xs (i + (1 : Int32)).toNatClampNeg), .ref (q 430)]) (rest := []) hC (c_L_read l G sa q v (xs (i + (1 : Int32)).toNatClampNeg) hy3 H.size) (xcgSW hC hin lk_L_175 in_L co_L_read st_L_read rfl rfl dd_L_read ⟨Nat.le_of_ble_eq_true rfl, Nat.le_of_ble_eq_true rfl⟩) (preSP h hT 431 sLW_0 (Nat.le_of_ble_eq_true rfl) [.ref (q 0), .int (xs (i + (1 : Int32)).toNatClampNeg), .ref (q 430)]) rfl rfl hl.1 rfl (lv_room (Nat.le_of_ble_eq_true rfl)) dL_law_1133 ⟨Nat.le_of_succ_le hcs.1, Nat.le_trans (Nat.le_add_right _ _) hcs.2⟩) (fun H locs h => ?_)
  obtain ⟨v4, ev4, hf⟩ := lt_e hf
  rw [← ev4] at h
  refine lv_istore (lv' := [(5, .int r2.1), (0, .ref b), (1, .ref (q 0)), (2, .ref (q 431)), (3, .ref (q 430)), (4, .int i)]) hx hb dL_law_1136 hl (by decide) rfl (fun ls hl => ?_)
  refine lv_aload_n hx hb dL_law_1138 rfl (lv_at hl 3 rfl) ?_
  refine lv_aload_n hx hb dL_law_1139 rfl (lv_at hl 1 rfl) ?_
  refine lv_iload hx hb dL_law_1140 (lv_at hl 5 rfl) ?_
  refine lv_iconst (v := (1 : Int32)) hx hb dL_law_1142 (by decide) ?_
  refine lv_iadd hx hb dL_law_1143 ?_
  obtain ⟨hi5, hf⟩ := ck_e hf
  refine va_sld hx hb hX hbl hbA h.1.2.2.1 hi5 dL_law_1144 ?_
  obtain ⟨r7, hy6, hf⟩ := ob_e hf
  refine xi1 h 431 8 sLW_431 (Nat.le_of_ble_eq_true rfl) (va_runV (As := [.int (xs (i + (1 : Int32)).toNatClampNeg)]) (rest := []) hC (c_X9_read l G (sh 431 q) (sh 431 v4) (xs (i + (1 : Int32)).toNatClampNeg) hy6 H.size) (xcgV hC hin lk_L_177 in_X9 co_X9_read im_X9_read se_X9_read rfl rfl dd_X9_read ⟨Nat.le_of_ble_eq_true rfl, Nat.le_of_ble_eq_true rfl⟩) (preV1 h 431 8 sLW_431 (Nat.le_of_ble_eq_true rfl) (Nat.le_of_ble_eq_true rfl) eLW_431 rfl [.int (xs (i + (1 : Int32)).toNatClampNeg)]) rfl rfl hl.1 rfl (lv_room (Nat.le_of_ble_eq_true rfl)) dL_law_1145 hc0) (fun H locs h => ?_)
  obtain ⟨v8, ev8, hf⟩ := lt_e hf
  rw [← ev8] at h
  refine lv_istore (lv' := [(6, .int r7.1), (5, .int r2.1), (0, .ref b), (1, .ref (q 0)), (2, .ref (q 431)), (3, .ref (q 430)), (4, .int i)]) hx hb dL_law_1148 hl (by decide) rfl (fun ls hl => ?_)
  refine lv_aload_n hx hb dL_law_1150 rfl (lv_at hl 4 rfl) ?_
  obtain ⟨r10, hy9, hf⟩ := ob_e hf
  refine xiG h (va_runV (As := []) (rest := []) hC (c_X9_thrown l G (sh 431 q) (sh 431 v8) hy9 H.size) (xcgV hC hin lk_L_104 in_X9 co_X9_thrown im_X9_thrown se_X9_thrown rfl rfl dd_X9_thrown ⟨Nat.le_of_ble_eq_true rfl, Nat.le_of_ble_eq_true rfl⟩) (preVO h.o 431 8 sLW_431 (Nat.le_of_ble_eq_true rfl) (Nat.le_of_ble_eq_true rfl) eLW_431 rfl []) rfl rfl hl.1 rfl (lv_room (Nat.le_of_ble_eq_true rfl)) dL_law_1151 hc0) (fun H locs h => ?_)
  refine lv_iload hx hb dL_law_1154 (lv_at hl 1 rfl) ?_
  refine lv_icmp_eq (tgt := 1161) hx hb dL_law_1156 (by decide) (fun c11 => ?_) (fun c11 => ?_)
  · have hf := it_t c11 hf
    refine lv_iload hx hb dL_law_1161 (lv_at hl 1 rfl) ?_
    refine lv_if_ne (tgt := 1178) hx hb dL_law_1163 (by decide) (fun c12 => ?_) (fun c12 => ?_)
    · have hf := it_f c12 hf
      refine lv_goto (tgt := 1839) hx hb dL_law_1178 (by decide) ?_
      have hf := sm_e hf
      subst hf
      refine W.widen (k := cells + 1) (n := slots + 6) (by omega) (by omega) ?_
      exact kk H locs ls h (lv_sub hl [2, 3, 4, 5, 6] rfl)
    · have hf := it_t c12 hf
      refine lv_aload_n hx hb dL_law_1166 rfl (lv_at hl 5 rfl) ?_
      refine lv_iconst (v := (0 : Int32)) hx hb dL_law_1167 (by decide) ?_
      refine xlald hC h.o 430 (Nat.le_of_ble_eq_true rfl) eLW_430 dL_law_1168 ?_
      refine lv_iload hx hb dL_law_1169 (lv_at hl 0 rfl) ?_
      refine lv_i2l hx hb dL_law_1171 rfl ?_
      refine W.lcmp hx hb dL_law_1172 ?_
      refine lv_if_eq (tgt := 1178) hx hb dL_law_1173 (by decide) (fun c13 => ?_) (fun c13 => ?_)
      · have hf := it_t c13 hf
        refine lv_goto (tgt := 1839) hx hb dL_law_1178 (by decide) ?_
        have hf := sm_e hf
        subst hf
        refine W.widen (k := cells + 1) (n := slots + 6) (by omega) (by omega) ?_
        exact kk H locs ls h (lv_sub hl [2, 3, 4, 5, 6] rfl)
      · have hf := it_f c13 hf
        cases hf
  · have hf := it_f c11 hf
    cases hf
def m_law_21_xIOB (v : xSt) (xs : Nat → Int32) (L : Nat) (i : Int32) : Option xSt := ck (¬ ((i + (1 : Int32)) < 0 ∨ L ≤ (i + (1 : Int32)).toNatClampNeg)) (ob (xthE xIOB (m_X8_read_t v (xs (i + (1 : Int32)).toNatClampNeg))) (fun r2 => lt (pu 0 431 v (pu 0 430 v r2)) (fun v4 => ck (¬ ((i + (1 : Int32)) < 0 ∨ L ≤ (i + (1 : Int32)).toNatClampNeg)) (ob (m_X9_read (sh 431 v4) (xs (i + (1 : Int32)).toNatClampNeg)) (fun r7 => lt (pu 431 8 v4 r7.2) (fun v8 => ob (m_X9_thrown (sh 431 v8)) (fun r10 => (if r10 = (1 : Int32) then (if (1 : Int32) = 0 then (if (lg_cmp ((v8 430 0).toInt64) ((r7.1).toInt64)) = 0 then some v8 else none) else some v8) else none))))))))
set_option maxHeartbeats 4000000 in
set_option maxRecDepth 100000 in
theorem k_law_21_xIOB {p : Program} {l : Launch} {e : Env} {R : Room} {s : State} {m : MethodId} {args : Array Value} {below : List Frame} {meth : Method} {c : Code} {H : Heap} {locs : List Loc} {cells slots : Nat} {Q : State → Prop} {G : xGl} {sa q : Nat → Nat} {v : xSt} {A : Nat → Prop} {ls : Array Slot} {b L : Nat} {xs : Nat → Int32} {i : Int32} (hst : l.stackTraces = false) (hC : CallFix p m c cL_law 9 s args lw_tbl RL) (hin : ∀ w ∈ wG, w ∈ lw_tbl) (hT : xT G sa A s s.heap) (hX : va_X b L xs s s.heap) (hbl : b < s.heap.size) (hbA : ¬ A b) (hcs : cells + 1 ≤ room_1.cells ∧ slots + 6 ≤ room_1.slots) (h : hg G (LW G) 439 q v A s H locs) (hl : lv_has ls 9 [(0, .ref b), (1, .ref (q 0)), (2, .ref (q 431)), (3, .ref (q 430)), (4, .int i)]) {z : xSt} (hf : m_law_21_xIOB v xs L i = some z) (kk : ∀ (H : Heap) (locs : List Loc) (ls : Array Slot), hg G (LW G) 439 q z A s H locs → lv_has ls 9 [(0, .ref b), (1, .ref (q 0)), (2, .ref (q 431)), (3, .ref (q 430)), (4, .int i)] → W p l e room_1 s m args below meth c H locs (cells + 1) (slots + 6) Q (F0 m 1839 ls [])) : W p l e room_1 s m args below meth c H locs cells slots Q (F0 m 1125 ls []) := by
  have hx := hC.1
  have hb := hC.2.1
  have hc0 : cells ≤ room_1.cells ∧ slots ≤ room_1.slots := ⟨Nat.le_of_succ_le hcs.1, Nat.le_trans (Nat.le_add_right _ _) hcs.2⟩
  unfold m_law_21_xIOB at hf
  refine lv_aload_n hx hb dL_law_1125 rfl (lv_at hl 1 rfl) ?_
  refine lv_aload_n hx hb dL_law_1126 rfl (lv_at hl 0 rfl) ?_
  refine lv_iload hx hb dL_law_1127 (lv_at hl 4 rfl) ?_
  refine lv_iconst (v := (1 : Int32)) hx hb dL_law_1129 (by decide) ?_
  refine lv_iadd hx hb dL_law_1130 ?_
  obtain ⟨hi1, hf⟩ := ck_e hf
  refine va_sld hx hb hX hbl hbA h.1.2.2.1 hi1 dL_law_1131 ?_
  refine lv_aload_n hx hb dL_law_1132 rfl (lv_at hl 3 rfl) ?_
  obtain ⟨r2, hy3, hf⟩ := ob_e hf
  refine xipc h 431 sLW_0 (Nat.le_of_ble_eq_true rfl) (vx_runSW (As := [.ref (q 0), .int (xs (i + (1 : Int32)).toNatClampNeg), .ref (q 430)]) (rest := []) hC (x_L_read_xIOB l hst G sa q v (xs (i + (1 : Int32)).toNatClampNeg) (xthE_e hy3) H.size) (xcgSW hC hin lk_L_175 in_L co_L_read st_L_read rfl rfl dd_L_read ⟨Nat.le_of_ble_eq_true rfl, Nat.le_of_ble_eq_true rfl⟩) (preSP h hT 431 sLW_0 (Nat.le_of_ble_eq_true rfl) [.ref (q 0), .int (xs (i + (1 : Int32)).toNatClampNeg), .ref (q 430)]) rfl rfl hl.1 rfl (lv_room (Nat.le_of_ble_eq_true rfl)) dL_law_1133 hcs) (fun H locs h => ?_)
  obtain ⟨v4, ev4, hf⟩ := lt_e hf
  rw [← ev4] at h
  refine lv_istore (lv' := [(5, .int (1 : Int32)), (0, .ref b), (1, .ref (q 0)), (2, .ref (q 431)), (3, .ref (q 430)), (4, .int i)]) hx hb dL_law_1136 hl (by decide) rfl (fun ls hl => ?_)
  refine lv_aload_n hx hb dL_law_1138 rfl (lv_at hl 3 rfl) ?_
  refine lv_aload_n hx hb dL_law_1139 rfl (lv_at hl 1 rfl) ?_
  refine lv_iload hx hb dL_law_1140 (lv_at hl 5 rfl) ?_
  refine lv_iconst (v := (1 : Int32)) hx hb dL_law_1142 (by decide) ?_
  refine lv_iadd hx hb dL_law_1143 ?_
  obtain ⟨hi5, hf⟩ := ck_e hf
  refine va_sld hx hb hX hbl hbA h.1.2.2.1 hi5 dL_law_1144 ?_
  obtain ⟨r7, hy6, hf⟩ := ob_e hf
  refine xi1 h 431 8 sLW_431 (Nat.le_of_ble_eq_true rfl) (va_runV (As := [.int (xs (i + (1 : Int32)).toNatClampNeg)]) (rest := []) hC (c_X9_read l G (sh 431 q) (sh 431 v4) (xs (i + (1 : Int32)).toNatClampNeg) hy6 H.size) (xcgV hC hin lk_L_177 in_X9 co_X9_read im_X9_read se_X9_read rfl rfl dd_X9_read ⟨Nat.le_of_ble_eq_true rfl, Nat.le_of_ble_eq_true rfl⟩) (preV1 h 431 8 sLW_431 (Nat.le_of_ble_eq_true rfl) (Nat.le_of_ble_eq_true rfl) eLW_431 rfl [.int (xs (i + (1 : Int32)).toNatClampNeg)]) rfl rfl hl.1 rfl (lv_room (Nat.le_of_ble_eq_true rfl)) dL_law_1145 hcs) (fun H locs h => ?_)
  obtain ⟨v8, ev8, hf⟩ := lt_e hf
  rw [← ev8] at h
  refine lv_istore (lv' := [(6, .int r7.1), (5, .int (1 : Int32)), (0, .ref b), (1, .ref (q 0)), (2, .ref (q 431)), (3, .ref (q 430)), (4, .int i)]) hx hb dL_law_1148 hl (by decide) rfl (fun ls hl => ?_)
  refine lv_aload_n hx hb dL_law_1150 rfl (lv_at hl 4 rfl) ?_
  obtain ⟨r10, hy9, hf⟩ := ob_e hf
  refine xiG h (va_runV (As := []) (rest := []) hC (c_X9_thrown l G (sh 431 q) (sh 431 v8) hy9 H.size) (xcgV hC hin lk_L_104 in_X9 co_X9_thrown im_X9_thrown se_X9_thrown rfl rfl dd_X9_thrown ⟨Nat.le_of_ble_eq_true rfl, Nat.le_of_ble_eq_true rfl⟩) (preVO h.o 431 8 sLW_431 (Nat.le_of_ble_eq_true rfl) (Nat.le_of_ble_eq_true rfl) eLW_431 rfl []) rfl rfl hl.1 rfl (lv_room (Nat.le_of_ble_eq_true rfl)) dL_law_1151 hcs) (fun H locs h => ?_)
  refine lv_iload hx hb dL_law_1154 (lv_at hl 1 rfl) ?_
  refine lv_icmp_eq (tgt := 1161) hx hb dL_law_1156 (by decide) (fun c11 => ?_) (fun c11 => ?_)
  · have hf := it_t c11 hf
    refine lv_iload hx hb dL_law_1161 (lv_at hl 1 rfl) ?_
    refine lv_if_ne (tgt := 1178) hx hb dL_law_1163 (by decide) (fun c12 => ?_) (fun c12 => ?_)
    · have hf := it_f c12 hf
      refine lv_goto (tgt := 1839) hx hb dL_law_1178 (by decide) ?_
      have hf := sm_e hf
      subst hf
      refine W.widen (k := cells + 1) (n := slots + 6) (by omega) (by omega) ?_
      exact kk H locs ls h (lv_sub hl [2, 3, 4, 5, 6] rfl)
    · have hf := it_t c12 hf
      refine lv_aload_n hx hb dL_law_1166 rfl (lv_at hl 5 rfl) ?_
      refine lv_iconst (v := (0 : Int32)) hx hb dL_law_1167 (by decide) ?_
      refine xlald hC h.o 430 (Nat.le_of_ble_eq_true rfl) eLW_430 dL_law_1168 ?_
      refine lv_iload hx hb dL_law_1169 (lv_at hl 0 rfl) ?_
      refine lv_i2l hx hb dL_law_1171 rfl ?_
      refine W.lcmp hx hb dL_law_1172 ?_
      refine lv_if_eq (tgt := 1178) hx hb dL_law_1173 (by decide) (fun c13 => ?_) (fun c13 => ?_)
      · have hf := it_t c13 hf
        refine lv_goto (tgt := 1839) hx hb dL_law_1178 (by decide) ?_
        have hf := sm_e hf
        subst hf
        refine W.widen (k := cells + 1) (n := slots + 6) (by omega) (by omega) ?_
        exact kk H locs ls h (lv_sub hl [2, 3, 4, 5, 6] rfl)
      · have hf := it_f c13 hf
        cases hf
  · have hf := it_f c11 hf
    cases hf
def m_law_21_xISE (v : xSt) (xs : Nat → Int32) (L : Nat) (i : Int32) : Option xSt := ck (¬ ((i + (1 : Int32)) < 0 ∨ L ≤ (i + (1 : Int32)).toNatClampNeg)) (ob (xthE xISE (m_X8_read_t v (xs (i + (1 : Int32)).toNatClampNeg))) (fun r2 => lt (pu 0 431 v (pu 0 430 v r2)) (fun v4 => ck (¬ ((i + (1 : Int32)) < 0 ∨ L ≤ (i + (1 : Int32)).toNatClampNeg)) (ob (m_X9_read (sh 431 v4) (xs (i + (1 : Int32)).toNatClampNeg)) (fun r7 => lt (pu 431 8 v4 r7.2) (fun v8 => ob (m_X9_thrown (sh 431 v8)) (fun r10 => (if r10 = (2 : Int32) then (if (2 : Int32) = 0 then (if (lg_cmp ((v8 430 0).toInt64) ((r7.1).toInt64)) = 0 then some v8 else none) else some v8) else none))))))))
set_option maxHeartbeats 4000000 in
set_option maxRecDepth 100000 in
theorem k_law_21_xISE {p : Program} {l : Launch} {e : Env} {R : Room} {s : State} {m : MethodId} {args : Array Value} {below : List Frame} {meth : Method} {c : Code} {H : Heap} {locs : List Loc} {cells slots : Nat} {Q : State → Prop} {G : xGl} {sa q : Nat → Nat} {v : xSt} {A : Nat → Prop} {ls : Array Slot} {b L : Nat} {xs : Nat → Int32} {i : Int32} (hst : l.stackTraces = false) (hC : CallFix p m c cL_law 9 s args lw_tbl RL) (hin : ∀ w ∈ wG, w ∈ lw_tbl) (hT : xT G sa A s s.heap) (hX : va_X b L xs s s.heap) (hbl : b < s.heap.size) (hbA : ¬ A b) (hcs : cells + 1 ≤ room_1.cells ∧ slots + 6 ≤ room_1.slots) (h : hg G (LW G) 439 q v A s H locs) (hl : lv_has ls 9 [(0, .ref b), (1, .ref (q 0)), (2, .ref (q 431)), (3, .ref (q 430)), (4, .int i)]) {z : xSt} (hf : m_law_21_xISE v xs L i = some z) (kk : ∀ (H : Heap) (locs : List Loc) (ls : Array Slot), hg G (LW G) 439 q z A s H locs → lv_has ls 9 [(0, .ref b), (1, .ref (q 0)), (2, .ref (q 431)), (3, .ref (q 430)), (4, .int i)] → W p l e room_1 s m args below meth c H locs (cells + 1) (slots + 6) Q (F0 m 1839 ls [])) : W p l e room_1 s m args below meth c H locs cells slots Q (F0 m 1125 ls []) := by
  have hx := hC.1
  have hb := hC.2.1
  have hc0 : cells ≤ room_1.cells ∧ slots ≤ room_1.slots := ⟨Nat.le_of_succ_le hcs.1, Nat.le_trans (Nat.le_add_right _ _) hcs.2⟩
  unfold m_law_21_xISE at hf
  refine lv_aload_n hx hb dL_law_1125 rfl (lv_at hl 1 rfl) ?_
  refine lv_aload_n hx hb dL_law_1126 rfl (lv_at hl 0 rfl) ?_
  refine lv_iload hx hb dL_law_1127 (lv_at hl 4 rfl) ?_
  refine lv_iconst (v := (1 : Int32)) hx hb dL_law_1129 (by decide) ?_
  refine lv_iadd hx hb dL_law_1130 ?_
  obtain ⟨hi1, hf⟩ := ck_e hf
  refine va_sld hx hb hX hbl hbA h.1.2.2.1 hi1 dL_law_1131 ?_
  refine lv_aload_n hx hb dL_law_1132 rfl (lv_at hl 3 rfl) ?_
  obtain ⟨r2, hy3, hf⟩ := ob_e hf
  refine xipc h 431 sLW_0 (Nat.le_of_ble_eq_true rfl) (vx_runSW (As := [.ref (q 0), .int (xs (i + (1 : Int32)).toNatClampNeg), .ref (q 430)]) (rest := []) hC (x_L_read_xISE l hst G sa q v (xs (i + (1 : Int32)).toNatClampNeg) (xthE_e hy3) H.size) (xcgSW hC hin lk_L_175 in_L co_L_read st_L_read rfl rfl dd_L_read ⟨Nat.le_of_ble_eq_true rfl, Nat.le_of_ble_eq_true rfl⟩) (preSP h hT 431 sLW_0 (Nat.le_of_ble_eq_true rfl) [.ref (q 0), .int (xs (i + (1 : Int32)).toNatClampNeg), .ref (q 430)]) rfl rfl hl.1 rfl (lv_room (Nat.le_of_ble_eq_true rfl)) dL_law_1133 hcs) (fun H locs h => ?_)
  obtain ⟨v4, ev4, hf⟩ := lt_e hf
  rw [← ev4] at h
  refine lv_istore (lv' := [(5, .int (2 : Int32)), (0, .ref b), (1, .ref (q 0)), (2, .ref (q 431)), (3, .ref (q 430)), (4, .int i)]) hx hb dL_law_1136 hl (by decide) rfl (fun ls hl => ?_)
  refine lv_aload_n hx hb dL_law_1138 rfl (lv_at hl 3 rfl) ?_
  refine lv_aload_n hx hb dL_law_1139 rfl (lv_at hl 1 rfl) ?_
  refine lv_iload hx hb dL_law_1140 (lv_at hl 5 rfl) ?_
  refine lv_iconst (v := (1 : Int32)) hx hb dL_law_1142 (by decide) ?_
  refine lv_iadd hx hb dL_law_1143 ?_
  obtain ⟨hi5, hf⟩ := ck_e hf
  refine va_sld hx hb hX hbl hbA h.1.2.2.1 hi5 dL_law_1144 ?_
  obtain ⟨r7, hy6, hf⟩ := ob_e hf
  refine xi1 h 431 8 sLW_431 (Nat.le_of_ble_eq_true rfl) (va_runV (As := [.int (xs (i + (1 : Int32)).toNatClampNeg)]) (rest := []) hC (c_X9_read l G (sh 431 q) (sh 431 v4) (xs (i + (1 : Int32)).toNatClampNeg) hy6 H.size) (xcgV hC hin lk_L_177 in_X9 co_X9_read im_X9_read se_X9_read rfl rfl dd_X9_read ⟨Nat.le_of_ble_eq_true rfl, Nat.le_of_ble_eq_true rfl⟩) (preV1 h 431 8 sLW_431 (Nat.le_of_ble_eq_true rfl) (Nat.le_of_ble_eq_true rfl) eLW_431 rfl [.int (xs (i + (1 : Int32)).toNatClampNeg)]) rfl rfl hl.1 rfl (lv_room (Nat.le_of_ble_eq_true rfl)) dL_law_1145 hcs) (fun H locs h => ?_)
  obtain ⟨v8, ev8, hf⟩ := lt_e hf
  rw [← ev8] at h
  refine lv_istore (lv' := [(6, .int r7.1), (5, .int (2 : Int32)), (0, .ref b), (1, .ref (q 0)), (2, .ref (q 431)), (3, .ref (q 430)), (4, .int i)]) hx hb dL_law_1148 hl (by decide) rfl (fun ls hl => ?_)
  refine lv_aload_n hx hb dL_law_1150 rfl (lv_at hl 4 rfl) ?_
  obtain ⟨r10, hy9, hf⟩ := ob_e hf
  refine xiG h (va_runV (As := []) (rest := []) hC (c_X9_thrown l G (sh 431 q) (sh 431 v8) hy9 H.size) (xcgV hC hin lk_L_104 in_X9 co_X9_thrown im_X9_thrown se_X9_thrown rfl rfl dd_X9_thrown ⟨Nat.le_of_ble_eq_true rfl, Nat.le_of_ble_eq_true rfl⟩) (preVO h.o 431 8 sLW_431 (Nat.le_of_ble_eq_true rfl) (Nat.le_of_ble_eq_true rfl) eLW_431 rfl []) rfl rfl hl.1 rfl (lv_room (Nat.le_of_ble_eq_true rfl)) dL_law_1151 hcs) (fun H locs h => ?_)
  refine lv_iload hx hb dL_law_1154 (lv_at hl 1 rfl) ?_
  refine lv_icmp_eq (tgt := 1161) hx hb dL_law_1156 (by decide) (fun c11 => ?_) (fun c11 => ?_)
  · have hf := it_t c11 hf
    refine lv_iload hx hb dL_law_1161 (lv_at hl 1 rfl) ?_
    refine lv_if_ne (tgt := 1178) hx hb dL_law_1163 (by decide) (fun c12 => ?_) (fun c12 => ?_)
    · have hf := it_f c12 hf
      refine lv_goto (tgt := 1839) hx hb dL_law_1178 (by decide) ?_
      have hf := sm_e hf
      subst hf
      refine W.widen (k := cells + 1) (n := slots + 6) (by omega) (by omega) ?_
      exact kk H locs ls h (lv_sub hl [2, 3, 4, 5, 6] rfl)
    · have hf := it_t c12 hf
      refine lv_aload_n hx hb dL_law_1166 rfl (lv_at hl 5 rfl) ?_
      refine lv_iconst (v := (0 : Int32)) hx hb dL_law_1167 (by decide) ?_
      refine xlald hC h.o 430 (Nat.le_of_ble_eq_true rfl) eLW_430 dL_law_1168 ?_
      refine lv_iload hx hb dL_law_1169 (lv_at hl 0 rfl) ?_
      refine lv_i2l hx hb dL_law_1171 rfl ?_
      refine W.lcmp hx hb dL_law_1172 ?_
      refine lv_if_eq (tgt := 1178) hx hb dL_law_1173 (by decide) (fun c13 => ?_) (fun c13 => ?_)
      · have hf := it_t c13 hf
        refine lv_goto (tgt := 1839) hx hb dL_law_1178 (by decide) ?_
        have hf := sm_e hf
        subst hf
        refine W.widen (k := cells + 1) (n := slots + 6) (by omega) (by omega) ?_
        exact kk H locs ls h (lv_sub hl [2, 3, 4, 5, 6] rfl)
      · have hf := it_f c13 hf
        cases hf
  · have hf := it_f c11 hf
    cases hf
def m_law_22 (v : xSt) (xs : Nat → Int32) (L : Nat) (i : Int32) : Option xSt := ck (¬ ((i + (1 : Int32)) < 0 ∨ L ≤ (i + (1 : Int32)).toNatClampNeg)) (ck (¬ ((i + (2 : Int32)) < 0 ∨ L ≤ (i + (2 : Int32)).toNatClampNeg)) (ob (m_L_cell v (xs (i + (1 : Int32)).toNatClampNeg) (xs (i + (2 : Int32)).toNatClampNeg)) (fun r3 => lt (pu 0 431 v r3.2) (fun v5 => ck (¬ ((i + (1 : Int32)) < 0 ∨ L ≤ (i + (1 : Int32)).toNatClampNeg)) (ck (¬ ((i + (2 : Int32)) < 0 ∨ L ≤ (i + (2 : Int32)).toNatClampNeg)) (ob (m_X9_cell (sh 431 v5) (xs (i + (1 : Int32)).toNatClampNeg) (xs (i + (2 : Int32)).toNatClampNeg)) (fun r9 => lt (pu 431 8 v5 r9.2) (fun v10 => ob (m_X9_thrown (sh 431 v10)) (fun r12 => (if r12 = r3.1 then (if r3.1 = 0 then (if (lg_cmp ((v10 430 0).toInt64) ((r9.1).toInt64)) = 0 then some v10 else none) else some v10) else none))))))))))
set_option maxHeartbeats 4000000 in
set_option maxRecDepth 100000 in
theorem k_law_22 {p : Program} {l : Launch} {e : Env} {R : Room} {s : State} {m : MethodId} {args : Array Value} {below : List Frame} {meth : Method} {c : Code} {H : Heap} {locs : List Loc} {cells slots : Nat} {Q : State → Prop} {G : xGl} {sa q : Nat → Nat} {v : xSt} {A : Nat → Prop} {ls : Array Slot} {b L : Nat} {xs : Nat → Int32} {i : Int32} (hst : l.stackTraces = false) (hC : CallFix p m c cL_law 9 s args lw_tbl RL) (hin : ∀ w ∈ wG, w ∈ lw_tbl) (hT : xT G sa A s s.heap) (hX : va_X b L xs s s.heap) (hbl : b < s.heap.size) (hbA : ¬ A b) (hcs : cells + 1 ≤ room_1.cells ∧ slots + 6 ≤ room_1.slots) (h : hg G (LW G) 439 q v A s H locs) (hl : lv_has ls 9 [(0, .ref b), (1, .ref (q 0)), (2, .ref (q 431)), (3, .ref (q 430)), (4, .int i)]) {z : xSt} (hf : m_law_22 v xs L i = some z) (kk : ∀ (H : Heap) (locs : List Loc) (ls : Array Slot), hg G (LW G) 439 q z A s H locs → lv_has ls 9 [(0, .ref b), (1, .ref (q 0)), (2, .ref (q 431)), (3, .ref (q 430)), (4, .int i)] → W p l e room_1 s m args below meth c H locs (cells + 1) (slots + 6) Q (F0 m 1839 ls [])) : W p l e room_1 s m args below meth c H locs cells slots Q (F0 m 1181 ls []) := by
  have hx := hC.1
  have hb := hC.2.1
  have hc0 : cells ≤ room_1.cells ∧ slots ≤ room_1.slots := ⟨Nat.le_of_succ_le hcs.1, Nat.le_trans (Nat.le_add_right _ _) hcs.2⟩
  unfold m_law_22 at hf
  refine lv_aload_n hx hb dL_law_1181 rfl (lv_at hl 1 rfl) ?_
  refine lv_aload_n hx hb dL_law_1182 rfl (lv_at hl 0 rfl) ?_
  refine lv_iload hx hb dL_law_1183 (lv_at hl 4 rfl) ?_
  refine lv_iconst (v := (1 : Int32)) hx hb dL_law_1185 (by decide) ?_
  refine lv_iadd hx hb dL_law_1186 ?_
  obtain ⟨hi1, hf⟩ := ck_e hf
  refine va_sld hx hb hX hbl hbA h.1.2.2.1 hi1 dL_law_1187 ?_
  refine lv_aload_n hx hb dL_law_1188 rfl (lv_at hl 0 rfl) ?_
  refine lv_iload hx hb dL_law_1189 (lv_at hl 4 rfl) ?_
  refine lv_iconst (v := (2 : Int32)) hx hb dL_law_1191 (by decide) ?_
  refine lv_iadd hx hb dL_law_1192 ?_
  obtain ⟨hi2, hf⟩ := ck_e hf
  refine va_sld hx hb hX hbl hbA h.1.2.2.1 hi2 dL_law_1193 ?_
  refine lv_aload_n hx hb dL_law_1194 rfl (lv_at hl 3 rfl) ?_
  obtain ⟨r3, hy4, hf⟩ := ob_e hf
  refine xipc h 431 sLW_0 (Nat.le_of_ble_eq_true rfl) (vx_runSW (As := [.ref (q 0), .int (xs (i + (1 : Int32)).toNatClampNeg), .int (xs (i + (2 : Int32)).toNatClampNeg), .ref (q 430)]) (rest := []) hC (c_L_cell l G sa q v (xs (i + (1 : Int32)).toNatClampNeg) (xs (i + (2 : Int32)).toNatClampNeg) hy4 H.size) (xcgSW hC hin lk_L_178 in_L co_L_cell st_L_cell rfl rfl dd_L_cell ⟨Nat.le_of_ble_eq_true rfl, Nat.le_of_ble_eq_true rfl⟩) (preSP h hT 431 sLW_0 (Nat.le_of_ble_eq_true rfl) [.ref (q 0), .int (xs (i + (1 : Int32)).toNatClampNeg), .int (xs (i + (2 : Int32)).toNatClampNeg), .ref (q 430)]) rfl rfl hl.1 rfl (lv_room (Nat.le_of_ble_eq_true rfl)) dL_law_1195 ⟨Nat.le_of_succ_le hcs.1, Nat.le_trans (Nat.le_add_right _ _) hcs.2⟩) (fun H locs h => ?_)
  obtain ⟨v5, ev5, hf⟩ := lt_e hf
  rw [← ev5] at h
  refine lv_istore (lv' := [(5, .int r3.1), (0, .ref b), (1, .ref (q 0)), (2, .ref (q 431)), (3, .ref (q 430)), (4, .int i)]) hx hb dL_law_1198 hl (by decide) rfl (fun ls hl => ?_)
  refine lv_aload_n hx hb dL_law_1200 rfl (lv_at hl 3 rfl) ?_
  refine lv_aload_n hx hb dL_law_1201 rfl (lv_at hl 1 rfl) ?_
  refine lv_iload hx hb dL_law_1202 (lv_at hl 5 rfl) ?_
  refine lv_iconst (v := (1 : Int32)) hx hb dL_law_1204 (by decide) ?_
  refine lv_iadd hx hb dL_law_1205 ?_
  obtain ⟨hi6, hf⟩ := ck_e hf
  refine va_sld hx hb hX hbl hbA h.1.2.2.1 hi6 dL_law_1206 ?_
  refine lv_aload_n hx hb dL_law_1207 rfl (lv_at hl 1 rfl) ?_
  refine lv_iload hx hb dL_law_1208 (lv_at hl 5 rfl) ?_
  refine lv_iconst (v := (2 : Int32)) hx hb dL_law_1210 (by decide) ?_
  refine lv_iadd hx hb dL_law_1211 ?_
  obtain ⟨hi7, hf⟩ := ck_e hf
  refine va_sld hx hb hX hbl hbA h.1.2.2.1 hi7 dL_law_1212 ?_
  obtain ⟨r9, hy8, hf⟩ := ob_e hf
  refine xi1 h 431 8 sLW_431 (Nat.le_of_ble_eq_true rfl) (va_runV (As := [.int (xs (i + (1 : Int32)).toNatClampNeg), .int (xs (i + (2 : Int32)).toNatClampNeg)]) (rest := []) hC (c_X9_cell l G (sh 431 q) (sh 431 v5) (xs (i + (1 : Int32)).toNatClampNeg) (xs (i + (2 : Int32)).toNatClampNeg) hy8 H.size) (xcgV hC hin lk_L_180 in_X9 co_X9_cell im_X9_cell se_X9_cell rfl rfl dd_X9_cell ⟨Nat.le_of_ble_eq_true rfl, Nat.le_of_ble_eq_true rfl⟩) (preV1 h 431 8 sLW_431 (Nat.le_of_ble_eq_true rfl) (Nat.le_of_ble_eq_true rfl) eLW_431 rfl [.int (xs (i + (1 : Int32)).toNatClampNeg), .int (xs (i + (2 : Int32)).toNatClampNeg)]) rfl rfl hl.1 rfl (lv_room (Nat.le_of_ble_eq_true rfl)) dL_law_1213 hc0) (fun H locs h => ?_)
  obtain ⟨v10, ev10, hf⟩ := lt_e hf
  rw [← ev10] at h
  refine lv_istore (lv' := [(6, .int r9.1), (5, .int r3.1), (0, .ref b), (1, .ref (q 0)), (2, .ref (q 431)), (3, .ref (q 430)), (4, .int i)]) hx hb dL_law_1216 hl (by decide) rfl (fun ls hl => ?_)
  refine lv_aload_n hx hb dL_law_1218 rfl (lv_at hl 4 rfl) ?_
  obtain ⟨r12, hy11, hf⟩ := ob_e hf
  refine xiG h (va_runV (As := []) (rest := []) hC (c_X9_thrown l G (sh 431 q) (sh 431 v10) hy11 H.size) (xcgV hC hin lk_L_104 in_X9 co_X9_thrown im_X9_thrown se_X9_thrown rfl rfl dd_X9_thrown ⟨Nat.le_of_ble_eq_true rfl, Nat.le_of_ble_eq_true rfl⟩) (preVO h.o 431 8 sLW_431 (Nat.le_of_ble_eq_true rfl) (Nat.le_of_ble_eq_true rfl) eLW_431 rfl []) rfl rfl hl.1 rfl (lv_room (Nat.le_of_ble_eq_true rfl)) dL_law_1219 hc0) (fun H locs h => ?_)
  refine lv_iload hx hb dL_law_1222 (lv_at hl 1 rfl) ?_
  refine lv_icmp_eq (tgt := 1229) hx hb dL_law_1224 (by decide) (fun c13 => ?_) (fun c13 => ?_)
  · have hf := it_t c13 hf
    refine lv_iload hx hb dL_law_1229 (lv_at hl 1 rfl) ?_
    refine lv_if_ne (tgt := 1246) hx hb dL_law_1231 (by decide) (fun c14 => ?_) (fun c14 => ?_)
    · have hf := it_f c14 hf
      refine lv_goto (tgt := 1839) hx hb dL_law_1246 (by decide) ?_
      have hf := sm_e hf
      subst hf
      refine W.widen (k := cells + 1) (n := slots + 6) (by omega) (by omega) ?_
      exact kk H locs ls h (lv_sub hl [2, 3, 4, 5, 6] rfl)
    · have hf := it_t c14 hf
      refine lv_aload_n hx hb dL_law_1234 rfl (lv_at hl 5 rfl) ?_
      refine lv_iconst (v := (0 : Int32)) hx hb dL_law_1235 (by decide) ?_
      refine xlald hC h.o 430 (Nat.le_of_ble_eq_true rfl) eLW_430 dL_law_1236 ?_
      refine lv_iload hx hb dL_law_1237 (lv_at hl 0 rfl) ?_
      refine lv_i2l hx hb dL_law_1239 rfl ?_
      refine W.lcmp hx hb dL_law_1240 ?_
      refine lv_if_eq (tgt := 1246) hx hb dL_law_1241 (by decide) (fun c15 => ?_) (fun c15 => ?_)
      · have hf := it_t c15 hf
        refine lv_goto (tgt := 1839) hx hb dL_law_1246 (by decide) ?_
        have hf := sm_e hf
        subst hf
        refine W.widen (k := cells + 1) (n := slots + 6) (by omega) (by omega) ?_
        exact kk H locs ls h (lv_sub hl [2, 3, 4, 5, 6] rfl)
      · have hf := it_f c15 hf
        cases hf
  · have hf := it_f c13 hf
    cases hf
def m_law_22_xIOB (v : xSt) (xs : Nat → Int32) (L : Nat) (i : Int32) : Option xSt := ck (¬ ((i + (1 : Int32)) < 0 ∨ L ≤ (i + (1 : Int32)).toNatClampNeg)) (ck (¬ ((i + (2 : Int32)) < 0 ∨ L ≤ (i + (2 : Int32)).toNatClampNeg)) (ob (xthE xIOB (m_X8_cell_t v (xs (i + (1 : Int32)).toNatClampNeg) (xs (i + (2 : Int32)).toNatClampNeg))) (fun r3 => lt (pu 0 431 v (pu 0 430 v r3)) (fun v5 => ck (¬ ((i + (1 : Int32)) < 0 ∨ L ≤ (i + (1 : Int32)).toNatClampNeg)) (ck (¬ ((i + (2 : Int32)) < 0 ∨ L ≤ (i + (2 : Int32)).toNatClampNeg)) (ob (m_X9_cell (sh 431 v5) (xs (i + (1 : Int32)).toNatClampNeg) (xs (i + (2 : Int32)).toNatClampNeg)) (fun r9 => lt (pu 431 8 v5 r9.2) (fun v10 => ob (m_X9_thrown (sh 431 v10)) (fun r12 => (if r12 = (1 : Int32) then (if (1 : Int32) = 0 then (if (lg_cmp ((v10 430 0).toInt64) ((r9.1).toInt64)) = 0 then some v10 else none) else some v10) else none))))))))))
set_option maxHeartbeats 4000000 in
set_option maxRecDepth 100000 in
theorem k_law_22_xIOB {p : Program} {l : Launch} {e : Env} {R : Room} {s : State} {m : MethodId} {args : Array Value} {below : List Frame} {meth : Method} {c : Code} {H : Heap} {locs : List Loc} {cells slots : Nat} {Q : State → Prop} {G : xGl} {sa q : Nat → Nat} {v : xSt} {A : Nat → Prop} {ls : Array Slot} {b L : Nat} {xs : Nat → Int32} {i : Int32} (hst : l.stackTraces = false) (hC : CallFix p m c cL_law 9 s args lw_tbl RL) (hin : ∀ w ∈ wG, w ∈ lw_tbl) (hT : xT G sa A s s.heap) (hX : va_X b L xs s s.heap) (hbl : b < s.heap.size) (hbA : ¬ A b) (hcs : cells + 1 ≤ room_1.cells ∧ slots + 6 ≤ room_1.slots) (h : hg G (LW G) 439 q v A s H locs) (hl : lv_has ls 9 [(0, .ref b), (1, .ref (q 0)), (2, .ref (q 431)), (3, .ref (q 430)), (4, .int i)]) {z : xSt} (hf : m_law_22_xIOB v xs L i = some z) (kk : ∀ (H : Heap) (locs : List Loc) (ls : Array Slot), hg G (LW G) 439 q z A s H locs → lv_has ls 9 [(0, .ref b), (1, .ref (q 0)), (2, .ref (q 431)), (3, .ref (q 430)), (4, .int i)] → W p l e room_1 s m args below meth c H locs (cells + 1) (slots + 6) Q (F0 m 1839 ls [])) : W p l e room_1 s m args below meth c H locs cells slots Q (F0 m 1181 ls []) := by
  have hx := hC.1
  have hb := hC.2.1
  have hc0 : cells ≤ room_1.cells ∧ slots ≤ room_1.slots := ⟨Nat.le_of_succ_le hcs.1, Nat.le_trans (Nat.le_add_right _ _) hcs.2⟩
  unfold m_law_22_xIOB at hf
  refine lv_aload_n hx hb dL_law_1181 rfl (lv_at hl 1 rfl) ?_
  refine lv_aload_n hx hb dL_law_1182 rfl (lv_at hl 0 rfl) ?_
  refine lv_iload hx hb dL_law_1183 (lv_at hl 4 rfl) ?_
  refine lv_iconst (v := (1 : Int32)) hx hb dL_law_1185 (by decide) ?_
  refine lv_iadd hx hb dL_law_1186 ?_
  obtain ⟨hi1, hf⟩ := ck_e hf
  refine va_sld hx hb hX hbl hbA h.1.2.2.1 hi1 dL_law_1187 ?_
  refine lv_aload_n hx hb dL_law_1188 rfl (lv_at hl 0 rfl) ?_
  refine lv_iload hx hb dL_law_1189 (lv_at hl 4 rfl) ?_
  refine lv_iconst (v := (2 : Int32)) hx hb dL_law_1191 (by decide) ?_
  refine lv_iadd hx hb dL_law_1192 ?_
  obtain ⟨hi2, hf⟩ := ck_e hf
  refine va_sld hx hb hX hbl hbA h.1.2.2.1 hi2 dL_law_1193 ?_
  refine lv_aload_n hx hb dL_law_1194 rfl (lv_at hl 3 rfl) ?_
  obtain ⟨r3, hy4, hf⟩ := ob_e hf
  refine xipc h 431 sLW_0 (Nat.le_of_ble_eq_true rfl) (vx_runSW (As := [.ref (q 0), .int (xs (i + (1 : Int32)).toNatClampNeg), .int (xs (i + (2 : Int32)).toNatClampNeg), .ref (q 430)]) (rest := []) hC (x_L_cell_xIOB l hst G sa q v (xs (i + (1 : Int32)).toNatClampNeg) (xs (i + (2 : Int32)).toNatClampNeg) (xthE_e hy4) H.size) (xcgSW hC hin lk_L_178 in_L co_L_cell st_L_cell rfl rfl dd_L_cell ⟨Nat.le_of_ble_eq_true rfl, Nat.le_of_ble_eq_true rfl⟩) (preSP h hT 431 sLW_0 (Nat.le_of_ble_eq_true rfl) [.ref (q 0), .int (xs (i + (1 : Int32)).toNatClampNeg), .int (xs (i + (2 : Int32)).toNatClampNeg), .ref (q 430)]) rfl rfl hl.1 rfl (lv_room (Nat.le_of_ble_eq_true rfl)) dL_law_1195 hcs) (fun H locs h => ?_)
  obtain ⟨v5, ev5, hf⟩ := lt_e hf
  rw [← ev5] at h
  refine lv_istore (lv' := [(5, .int (1 : Int32)), (0, .ref b), (1, .ref (q 0)), (2, .ref (q 431)), (3, .ref (q 430)), (4, .int i)]) hx hb dL_law_1198 hl (by decide) rfl (fun ls hl => ?_)
  refine lv_aload_n hx hb dL_law_1200 rfl (lv_at hl 3 rfl) ?_
  refine lv_aload_n hx hb dL_law_1201 rfl (lv_at hl 1 rfl) ?_
  refine lv_iload hx hb dL_law_1202 (lv_at hl 5 rfl) ?_
  refine lv_iconst (v := (1 : Int32)) hx hb dL_law_1204 (by decide) ?_
  refine lv_iadd hx hb dL_law_1205 ?_
  obtain ⟨hi6, hf⟩ := ck_e hf
  refine va_sld hx hb hX hbl hbA h.1.2.2.1 hi6 dL_law_1206 ?_
  refine lv_aload_n hx hb dL_law_1207 rfl (lv_at hl 1 rfl) ?_
  refine lv_iload hx hb dL_law_1208 (lv_at hl 5 rfl) ?_
  refine lv_iconst (v := (2 : Int32)) hx hb dL_law_1210 (by decide) ?_
  refine lv_iadd hx hb dL_law_1211 ?_
  obtain ⟨hi7, hf⟩ := ck_e hf
  refine va_sld hx hb hX hbl hbA h.1.2.2.1 hi7 dL_law_1212 ?_
  obtain ⟨r9, hy8, hf⟩ := ob_e hf
  refine xi1 h 431 8 sLW_431 (Nat.le_of_ble_eq_true rfl) (va_runV (As := [.int (xs (i + (1 : Int32)).toNatClampNeg), .int (xs (i + (2 : Int32)).toNatClampNeg)]) (rest := []) hC (c_X9_cell l G (sh 431 q) (sh 431 v5) (xs (i + (1 : Int32)).toNatClampNeg) (xs (i + (2 : Int32)).toNatClampNeg) hy8 H.size) (xcgV hC hin lk_L_180 in_X9 co_X9_cell im_X9_cell se_X9_cell rfl rfl dd_X9_cell ⟨Nat.le_of_ble_eq_true rfl, Nat.le_of_ble_eq_true rfl⟩) (preV1 h 431 8 sLW_431 (Nat.le_of_ble_eq_true rfl) (Nat.le_of_ble_eq_true rfl) eLW_431 rfl [.int (xs (i + (1 : Int32)).toNatClampNeg), .int (xs (i + (2 : Int32)).toNatClampNeg)]) rfl rfl hl.1 rfl (lv_room (Nat.le_of_ble_eq_true rfl)) dL_law_1213 hcs) (fun H locs h => ?_)
  obtain ⟨v10, ev10, hf⟩ := lt_e hf
  rw [← ev10] at h
  refine lv_istore (lv' := [(6, .int r9.1), (5, .int (1 : Int32)), (0, .ref b), (1, .ref (q 0)), (2, .ref (q 431)), (3, .ref (q 430)), (4, .int i)]) hx hb dL_law_1216 hl (by decide) rfl (fun ls hl => ?_)
  refine lv_aload_n hx hb dL_law_1218 rfl (lv_at hl 4 rfl) ?_
  obtain ⟨r12, hy11, hf⟩ := ob_e hf
  refine xiG h (va_runV (As := []) (rest := []) hC (c_X9_thrown l G (sh 431 q) (sh 431 v10) hy11 H.size) (xcgV hC hin lk_L_104 in_X9 co_X9_thrown im_X9_thrown se_X9_thrown rfl rfl dd_X9_thrown ⟨Nat.le_of_ble_eq_true rfl, Nat.le_of_ble_eq_true rfl⟩) (preVO h.o 431 8 sLW_431 (Nat.le_of_ble_eq_true rfl) (Nat.le_of_ble_eq_true rfl) eLW_431 rfl []) rfl rfl hl.1 rfl (lv_room (Nat.le_of_ble_eq_true rfl)) dL_law_1219 hcs) (fun H locs h => ?_)
  refine lv_iload hx hb dL_law_1222 (lv_at hl 1 rfl) ?_
  refine lv_icmp_eq (tgt := 1229) hx hb dL_law_1224 (by decide) (fun c13 => ?_) (fun c13 => ?_)
  · have hf := it_t c13 hf
    refine lv_iload hx hb dL_law_1229 (lv_at hl 1 rfl) ?_
    refine lv_if_ne (tgt := 1246) hx hb dL_law_1231 (by decide) (fun c14 => ?_) (fun c14 => ?_)
    · have hf := it_f c14 hf
      refine lv_goto (tgt := 1839) hx hb dL_law_1246 (by decide) ?_
      have hf := sm_e hf
      subst hf
      refine W.widen (k := cells + 1) (n := slots + 6) (by omega) (by omega) ?_
      exact kk H locs ls h (lv_sub hl [2, 3, 4, 5, 6] rfl)
    · have hf := it_t c14 hf
      refine lv_aload_n hx hb dL_law_1234 rfl (lv_at hl 5 rfl) ?_
      refine lv_iconst (v := (0 : Int32)) hx hb dL_law_1235 (by decide) ?_
      refine xlald hC h.o 430 (Nat.le_of_ble_eq_true rfl) eLW_430 dL_law_1236 ?_
      refine lv_iload hx hb dL_law_1237 (lv_at hl 0 rfl) ?_
      refine lv_i2l hx hb dL_law_1239 rfl ?_
      refine W.lcmp hx hb dL_law_1240 ?_
      refine lv_if_eq (tgt := 1246) hx hb dL_law_1241 (by decide) (fun c15 => ?_) (fun c15 => ?_)
      · have hf := it_t c15 hf
        refine lv_goto (tgt := 1839) hx hb dL_law_1246 (by decide) ?_
        have hf := sm_e hf
        subst hf
        refine W.widen (k := cells + 1) (n := slots + 6) (by omega) (by omega) ?_
        exact kk H locs ls h (lv_sub hl [2, 3, 4, 5, 6] rfl)
      · have hf := it_f c15 hf
        cases hf
  · have hf := it_f c13 hf
    cases hf
def m_law_22_xIAE (v : xSt) (xs : Nat → Int32) (L : Nat) (i : Int32) : Option xSt := ck (¬ ((i + (1 : Int32)) < 0 ∨ L ≤ (i + (1 : Int32)).toNatClampNeg)) (ck (¬ ((i + (2 : Int32)) < 0 ∨ L ≤ (i + (2 : Int32)).toNatClampNeg)) (ob (xthE xIAE (m_X8_cell_t v (xs (i + (1 : Int32)).toNatClampNeg) (xs (i + (2 : Int32)).toNatClampNeg))) (fun r3 => lt (pu 0 431 v (pu 0 430 v r3)) (fun v5 => ck (¬ ((i + (1 : Int32)) < 0 ∨ L ≤ (i + (1 : Int32)).toNatClampNeg)) (ck (¬ ((i + (2 : Int32)) < 0 ∨ L ≤ (i + (2 : Int32)).toNatClampNeg)) (ob (m_X9_cell (sh 431 v5) (xs (i + (1 : Int32)).toNatClampNeg) (xs (i + (2 : Int32)).toNatClampNeg)) (fun r9 => lt (pu 431 8 v5 r9.2) (fun v10 => ob (m_X9_thrown (sh 431 v10)) (fun r12 => (if r12 = (2 : Int32) then (if (2 : Int32) = 0 then (if (lg_cmp ((v10 430 0).toInt64) ((r9.1).toInt64)) = 0 then some v10 else none) else some v10) else none))))))))))
set_option maxHeartbeats 4000000 in
set_option maxRecDepth 100000 in
theorem k_law_22_xIAE {p : Program} {l : Launch} {e : Env} {R : Room} {s : State} {m : MethodId} {args : Array Value} {below : List Frame} {meth : Method} {c : Code} {H : Heap} {locs : List Loc} {cells slots : Nat} {Q : State → Prop} {G : xGl} {sa q : Nat → Nat} {v : xSt} {A : Nat → Prop} {ls : Array Slot} {b L : Nat} {xs : Nat → Int32} {i : Int32} (hst : l.stackTraces = false) (hC : CallFix p m c cL_law 9 s args lw_tbl RL) (hin : ∀ w ∈ wG, w ∈ lw_tbl) (hT : xT G sa A s s.heap) (hX : va_X b L xs s s.heap) (hbl : b < s.heap.size) (hbA : ¬ A b) (hcs : cells + 1 ≤ room_1.cells ∧ slots + 6 ≤ room_1.slots) (h : hg G (LW G) 439 q v A s H locs) (hl : lv_has ls 9 [(0, .ref b), (1, .ref (q 0)), (2, .ref (q 431)), (3, .ref (q 430)), (4, .int i)]) {z : xSt} (hf : m_law_22_xIAE v xs L i = some z) (kk : ∀ (H : Heap) (locs : List Loc) (ls : Array Slot), hg G (LW G) 439 q z A s H locs → lv_has ls 9 [(0, .ref b), (1, .ref (q 0)), (2, .ref (q 431)), (3, .ref (q 430)), (4, .int i)] → W p l e room_1 s m args below meth c H locs (cells + 1) (slots + 6) Q (F0 m 1839 ls [])) : W p l e room_1 s m args below meth c H locs cells slots Q (F0 m 1181 ls []) := by
  have hx := hC.1
  have hb := hC.2.1
  have hc0 : cells ≤ room_1.cells ∧ slots ≤ room_1.slots := ⟨Nat.le_of_succ_le hcs.1, Nat.le_trans (Nat.le_add_right _ _) hcs.2⟩
  unfold m_law_22_xIAE at hf
  refine lv_aload_n hx hb dL_law_1181 rfl (lv_at hl 1 rfl) ?_
  refine lv_aload_n hx hb dL_law_1182 rfl (lv_at hl 0 rfl) ?_
  refine lv_iload hx hb dL_law_1183 (lv_at hl 4 rfl) ?_
  refine lv_iconst (v := (1 : Int32)) hx hb dL_law_1185 (by decide) ?_
  refine lv_iadd hx hb dL_law_1186 ?_
  obtain ⟨hi1, hf⟩ := ck_e hf
  refine va_sld hx hb hX hbl hbA h.1.2.2.1 hi1 dL_law_1187 ?_
  refine lv_aload_n hx hb dL_law_1188 rfl (lv_at hl 0 rfl) ?_
  refine lv_iload hx hb dL_law_1189 (lv_at hl 4 rfl) ?_
  refine lv_iconst (v := (2 : Int32)) hx hb dL_law_1191 (by decide) ?_
  refine lv_iadd hx hb dL_law_1192 ?_
  obtain ⟨hi2, hf⟩ := ck_e hf
  refine va_sld hx hb hX hbl hbA h.1.2.2.1 hi2 dL_law_1193 ?_
  refine lv_aload_n hx hb dL_law_1194 rfl (lv_at hl 3 rfl) ?_
  obtain ⟨r3, hy4, hf⟩ := ob_e hf
  refine xipc h 431 sLW_0 (Nat.le_of_ble_eq_true rfl) (vx_runSW (As := [.ref (q 0), .int (xs (i + (1 : Int32)).toNatClampNeg), .int (xs (i + (2 : Int32)).toNatClampNeg), .ref (q 430)]) (rest := []) hC (x_L_cell_xIAE l hst G sa q v (xs (i + (1 : Int32)).toNatClampNeg) (xs (i + (2 : Int32)).toNatClampNeg) (xthE_e hy4) H.size) (xcgSW hC hin lk_L_178 in_L co_L_cell st_L_cell rfl rfl dd_L_cell ⟨Nat.le_of_ble_eq_true rfl, Nat.le_of_ble_eq_true rfl⟩) (preSP h hT 431 sLW_0 (Nat.le_of_ble_eq_true rfl) [.ref (q 0), .int (xs (i + (1 : Int32)).toNatClampNeg), .int (xs (i + (2 : Int32)).toNatClampNeg), .ref (q 430)]) rfl rfl hl.1 rfl (lv_room (Nat.le_of_ble_eq_true rfl)) dL_law_1195 hcs) (fun H locs h => ?_)
  obtain ⟨v5, ev5, hf⟩ := lt_e hf
  rw [← ev5] at h
  refine lv_istore (lv' := [(5, .int (2 : Int32)), (0, .ref b), (1, .ref (q 0)), (2, .ref (q 431)), (3, .ref (q 430)), (4, .int i)]) hx hb dL_law_1198 hl (by decide) rfl (fun ls hl => ?_)
  refine lv_aload_n hx hb dL_law_1200 rfl (lv_at hl 3 rfl) ?_
  refine lv_aload_n hx hb dL_law_1201 rfl (lv_at hl 1 rfl) ?_
  refine lv_iload hx hb dL_law_1202 (lv_at hl 5 rfl) ?_
  refine lv_iconst (v := (1 : Int32)) hx hb dL_law_1204 (by decide) ?_
  refine lv_iadd hx hb dL_law_1205 ?_
  obtain ⟨hi6, hf⟩ := ck_e hf
  refine va_sld hx hb hX hbl hbA h.1.2.2.1 hi6 dL_law_1206 ?_
  refine lv_aload_n hx hb dL_law_1207 rfl (lv_at hl 1 rfl) ?_
  refine lv_iload hx hb dL_law_1208 (lv_at hl 5 rfl) ?_
  refine lv_iconst (v := (2 : Int32)) hx hb dL_law_1210 (by decide) ?_
  refine lv_iadd hx hb dL_law_1211 ?_
  obtain ⟨hi7, hf⟩ := ck_e hf
  refine va_sld hx hb hX hbl hbA h.1.2.2.1 hi7 dL_law_1212 ?_
  obtain ⟨r9, hy8, hf⟩ := ob_e hf
  refine xi1 h 431 8 sLW_431 (Nat.le_of_ble_eq_true rfl) (va_runV (As := [.int (xs (i + (1 : Int32)).toNatClampNeg), .int (xs (i + (2 : Int32)).toNatClampNeg)]) (rest := []) hC (c_X9_cell l G (sh 431 q) (sh 431 v5) (xs (i + (1 : Int32)).toNatClampNeg) (xs (i + (2 : Int32)).toNatClampNeg) hy8 H.size) (xcgV hC hin lk_L_180 in_X9 co_X9_cell im_X9_cell se_X9_cell rfl rfl dd_X9_cell ⟨Nat.le_of_ble_eq_true rfl, Nat.le_of_ble_eq_true rfl⟩) (preV1 h 431 8 sLW_431 (Nat.le_of_ble_eq_true rfl) (Nat.le_of_ble_eq_true rfl) eLW_431 rfl [.int (xs (i + (1 : Int32)).toNatClampNeg), .int (xs (i + (2 : Int32)).toNatClampNeg)]) rfl rfl hl.1 rfl (lv_room (Nat.le_of_ble_eq_true rfl)) dL_law_1213 hcs) (fun H locs h => ?_)
  obtain ⟨v10, ev10, hf⟩ := lt_e hf
  rw [← ev10] at h
  refine lv_istore (lv' := [(6, .int r9.1), (5, .int (2 : Int32)), (0, .ref b), (1, .ref (q 0)), (2, .ref (q 431)), (3, .ref (q 430)), (4, .int i)]) hx hb dL_law_1216 hl (by decide) rfl (fun ls hl => ?_)
  refine lv_aload_n hx hb dL_law_1218 rfl (lv_at hl 4 rfl) ?_
  obtain ⟨r12, hy11, hf⟩ := ob_e hf
  refine xiG h (va_runV (As := []) (rest := []) hC (c_X9_thrown l G (sh 431 q) (sh 431 v10) hy11 H.size) (xcgV hC hin lk_L_104 in_X9 co_X9_thrown im_X9_thrown se_X9_thrown rfl rfl dd_X9_thrown ⟨Nat.le_of_ble_eq_true rfl, Nat.le_of_ble_eq_true rfl⟩) (preVO h.o 431 8 sLW_431 (Nat.le_of_ble_eq_true rfl) (Nat.le_of_ble_eq_true rfl) eLW_431 rfl []) rfl rfl hl.1 rfl (lv_room (Nat.le_of_ble_eq_true rfl)) dL_law_1219 hcs) (fun H locs h => ?_)
  refine lv_iload hx hb dL_law_1222 (lv_at hl 1 rfl) ?_
  refine lv_icmp_eq (tgt := 1229) hx hb dL_law_1224 (by decide) (fun c13 => ?_) (fun c13 => ?_)
  · have hf := it_t c13 hf
    refine lv_iload hx hb dL_law_1229 (lv_at hl 1 rfl) ?_
    refine lv_if_ne (tgt := 1246) hx hb dL_law_1231 (by decide) (fun c14 => ?_) (fun c14 => ?_)
    · have hf := it_f c14 hf
      refine lv_goto (tgt := 1839) hx hb dL_law_1246 (by decide) ?_
      have hf := sm_e hf
      subst hf
      refine W.widen (k := cells + 1) (n := slots + 6) (by omega) (by omega) ?_
      exact kk H locs ls h (lv_sub hl [2, 3, 4, 5, 6] rfl)
    · have hf := it_t c14 hf
      refine lv_aload_n hx hb dL_law_1234 rfl (lv_at hl 5 rfl) ?_
      refine lv_iconst (v := (0 : Int32)) hx hb dL_law_1235 (by decide) ?_
      refine xlald hC h.o 430 (Nat.le_of_ble_eq_true rfl) eLW_430 dL_law_1236 ?_
      refine lv_iload hx hb dL_law_1237 (lv_at hl 0 rfl) ?_
      refine lv_i2l hx hb dL_law_1239 rfl ?_
      refine W.lcmp hx hb dL_law_1240 ?_
      refine lv_if_eq (tgt := 1246) hx hb dL_law_1241 (by decide) (fun c15 => ?_) (fun c15 => ?_)
      · have hf := it_t c15 hf
        refine lv_goto (tgt := 1839) hx hb dL_law_1246 (by decide) ?_
        have hf := sm_e hf
        subst hf
        refine W.widen (k := cells + 1) (n := slots + 6) (by omega) (by omega) ?_
        exact kk H locs ls h (lv_sub hl [2, 3, 4, 5, 6] rfl)
      · have hf := it_f c15 hf
        cases hf
  · have hf := it_f c13 hf
    cases hf
def m_law_23 (v : xSt) (xs : Nat → Int32) (L : Nat) (i : Int32) : Option xSt := ck (¬ ((i + (1 : Int32)) < 0 ∨ L ≤ (i + (1 : Int32)).toNatClampNeg)) (ck (¬ ((i + (2 : Int32)) < 0 ∨ L ≤ (i + (2 : Int32)).toNatClampNeg)) (ob (m_L_sector v (xs (i + (1 : Int32)).toNatClampNeg) (xs (i + (2 : Int32)).toNatClampNeg)) (fun r3 => lt (pu 0 431 v r3.2) (fun v5 => ck (¬ ((i + (1 : Int32)) < 0 ∨ L ≤ (i + (1 : Int32)).toNatClampNeg)) (ck (¬ ((i + (2 : Int32)) < 0 ∨ L ≤ (i + (2 : Int32)).toNatClampNeg)) (ob (m_X9_sector (sh 431 v5) (xs (i + (1 : Int32)).toNatClampNeg) (xs (i + (2 : Int32)).toNatClampNeg)) (fun r9 => lt (pu 431 8 v5 r9.2) (fun v10 => ob (m_X9_thrown (sh 431 v10)) (fun r12 => (if r12 = r3.1 then (if r3.1 = 0 then (if (lg_cmp ((v10 430 0).toInt64) ((r9.1).toInt64)) = 0 then some v10 else none) else some v10) else none))))))))))
set_option maxHeartbeats 4000000 in
set_option maxRecDepth 100000 in
theorem k_law_23 {p : Program} {l : Launch} {e : Env} {R : Room} {s : State} {m : MethodId} {args : Array Value} {below : List Frame} {meth : Method} {c : Code} {H : Heap} {locs : List Loc} {cells slots : Nat} {Q : State → Prop} {G : xGl} {sa q : Nat → Nat} {v : xSt} {A : Nat → Prop} {ls : Array Slot} {b L : Nat} {xs : Nat → Int32} {i : Int32} (hst : l.stackTraces = false) (hC : CallFix p m c cL_law 9 s args lw_tbl RL) (hin : ∀ w ∈ wG, w ∈ lw_tbl) (hT : xT G sa A s s.heap) (hX : va_X b L xs s s.heap) (hbl : b < s.heap.size) (hbA : ¬ A b) (hcs : cells + 1 ≤ room_1.cells ∧ slots + 6 ≤ room_1.slots) (h : hg G (LW G) 439 q v A s H locs) (hl : lv_has ls 9 [(0, .ref b), (1, .ref (q 0)), (2, .ref (q 431)), (3, .ref (q 430)), (4, .int i)]) {z : xSt} (hf : m_law_23 v xs L i = some z) (kk : ∀ (H : Heap) (locs : List Loc) (ls : Array Slot), hg G (LW G) 439 q z A s H locs → lv_has ls 9 [(0, .ref b), (1, .ref (q 0)), (2, .ref (q 431)), (3, .ref (q 430)), (4, .int i)] → W p l e room_1 s m args below meth c H locs (cells + 1) (slots + 6) Q (F0 m 1839 ls [])) : W p l e room_1 s m args below meth c H locs cells slots Q (F0 m 1249 ls []) := by
  have hx := hC.1
  have hb := hC.2.1
  have hc0 : cells ≤ room_1.cells ∧ slots ≤ room_1.slots := ⟨Nat.le_of_succ_le hcs.1, Nat.le_trans (Nat.le_add_right _ _) hcs.2⟩
  unfold m_law_23 at hf
  refine lv_aload_n hx hb dL_law_1249 rfl (lv_at hl 1 rfl) ?_
  refine lv_aload_n hx hb dL_law_1250 rfl (lv_at hl 0 rfl) ?_
  refine lv_iload hx hb dL_law_1251 (lv_at hl 4 rfl) ?_
  refine lv_iconst (v := (1 : Int32)) hx hb dL_law_1253 (by decide) ?_
  refine lv_iadd hx hb dL_law_1254 ?_
  obtain ⟨hi1, hf⟩ := ck_e hf
  refine va_sld hx hb hX hbl hbA h.1.2.2.1 hi1 dL_law_1255 ?_
  refine lv_aload_n hx hb dL_law_1256 rfl (lv_at hl 0 rfl) ?_
  refine lv_iload hx hb dL_law_1257 (lv_at hl 4 rfl) ?_
  refine lv_iconst (v := (2 : Int32)) hx hb dL_law_1259 (by decide) ?_
  refine lv_iadd hx hb dL_law_1260 ?_
  obtain ⟨hi2, hf⟩ := ck_e hf
  refine va_sld hx hb hX hbl hbA h.1.2.2.1 hi2 dL_law_1261 ?_
  refine lv_aload_n hx hb dL_law_1262 rfl (lv_at hl 3 rfl) ?_
  obtain ⟨r3, hy4, hf⟩ := ob_e hf
  refine xipc h 431 sLW_0 (Nat.le_of_ble_eq_true rfl) (vx_runSW (As := [.ref (q 0), .int (xs (i + (1 : Int32)).toNatClampNeg), .int (xs (i + (2 : Int32)).toNatClampNeg), .ref (q 430)]) (rest := []) hC (c_L_sector l G sa q v (xs (i + (1 : Int32)).toNatClampNeg) (xs (i + (2 : Int32)).toNatClampNeg) hy4 H.size) (xcgSW hC hin lk_L_181 in_L co_L_sector st_L_sector rfl rfl dd_L_sector ⟨Nat.le_of_ble_eq_true rfl, Nat.le_of_ble_eq_true rfl⟩) (preSP h hT 431 sLW_0 (Nat.le_of_ble_eq_true rfl) [.ref (q 0), .int (xs (i + (1 : Int32)).toNatClampNeg), .int (xs (i + (2 : Int32)).toNatClampNeg), .ref (q 430)]) rfl rfl hl.1 rfl (lv_room (Nat.le_of_ble_eq_true rfl)) dL_law_1263 ⟨Nat.le_of_succ_le hcs.1, Nat.le_trans (Nat.le_add_right _ _) hcs.2⟩) (fun H locs h => ?_)
  obtain ⟨v5, ev5, hf⟩ := lt_e hf
  rw [← ev5] at h
  refine lv_istore (lv' := [(5, .int r3.1), (0, .ref b), (1, .ref (q 0)), (2, .ref (q 431)), (3, .ref (q 430)), (4, .int i)]) hx hb dL_law_1266 hl (by decide) rfl (fun ls hl => ?_)
  refine lv_aload_n hx hb dL_law_1268 rfl (lv_at hl 3 rfl) ?_
  refine lv_aload_n hx hb dL_law_1269 rfl (lv_at hl 1 rfl) ?_
  refine lv_iload hx hb dL_law_1270 (lv_at hl 5 rfl) ?_
  refine lv_iconst (v := (1 : Int32)) hx hb dL_law_1272 (by decide) ?_
  refine lv_iadd hx hb dL_law_1273 ?_
  obtain ⟨hi6, hf⟩ := ck_e hf
  refine va_sld hx hb hX hbl hbA h.1.2.2.1 hi6 dL_law_1274 ?_
  refine lv_aload_n hx hb dL_law_1275 rfl (lv_at hl 1 rfl) ?_
  refine lv_iload hx hb dL_law_1276 (lv_at hl 5 rfl) ?_
  refine lv_iconst (v := (2 : Int32)) hx hb dL_law_1278 (by decide) ?_
  refine lv_iadd hx hb dL_law_1279 ?_
  obtain ⟨hi7, hf⟩ := ck_e hf
  refine va_sld hx hb hX hbl hbA h.1.2.2.1 hi7 dL_law_1280 ?_
  obtain ⟨r9, hy8, hf⟩ := ob_e hf
  refine xi1 h 431 8 sLW_431 (Nat.le_of_ble_eq_true rfl) (va_runV (As := [.int (xs (i + (1 : Int32)).toNatClampNeg), .int (xs (i + (2 : Int32)).toNatClampNeg)]) (rest := []) hC (c_X9_sector l G (sh 431 q) (sh 431 v5) (xs (i + (1 : Int32)).toNatClampNeg) (xs (i + (2 : Int32)).toNatClampNeg) hy8 H.size) (xcgV hC hin lk_L_183 in_X9 co_X9_sector im_X9_sector se_X9_sector rfl rfl dd_X9_sector ⟨Nat.le_of_ble_eq_true rfl, Nat.le_of_ble_eq_true rfl⟩) (preV1 h 431 8 sLW_431 (Nat.le_of_ble_eq_true rfl) (Nat.le_of_ble_eq_true rfl) eLW_431 rfl [.int (xs (i + (1 : Int32)).toNatClampNeg), .int (xs (i + (2 : Int32)).toNatClampNeg)]) rfl rfl hl.1 rfl (lv_room (Nat.le_of_ble_eq_true rfl)) dL_law_1281 hc0) (fun H locs h => ?_)
  obtain ⟨v10, ev10, hf⟩ := lt_e hf
  rw [← ev10] at h
  refine lv_istore (lv' := [(6, .int r9.1), (5, .int r3.1), (0, .ref b), (1, .ref (q 0)), (2, .ref (q 431)), (3, .ref (q 430)), (4, .int i)]) hx hb dL_law_1284 hl (by decide) rfl (fun ls hl => ?_)
  refine lv_aload_n hx hb dL_law_1286 rfl (lv_at hl 4 rfl) ?_
  obtain ⟨r12, hy11, hf⟩ := ob_e hf
  refine xiG h (va_runV (As := []) (rest := []) hC (c_X9_thrown l G (sh 431 q) (sh 431 v10) hy11 H.size) (xcgV hC hin lk_L_104 in_X9 co_X9_thrown im_X9_thrown se_X9_thrown rfl rfl dd_X9_thrown ⟨Nat.le_of_ble_eq_true rfl, Nat.le_of_ble_eq_true rfl⟩) (preVO h.o 431 8 sLW_431 (Nat.le_of_ble_eq_true rfl) (Nat.le_of_ble_eq_true rfl) eLW_431 rfl []) rfl rfl hl.1 rfl (lv_room (Nat.le_of_ble_eq_true rfl)) dL_law_1287 hc0) (fun H locs h => ?_)
  refine lv_iload hx hb dL_law_1290 (lv_at hl 1 rfl) ?_
  refine lv_icmp_eq (tgt := 1297) hx hb dL_law_1292 (by decide) (fun c13 => ?_) (fun c13 => ?_)
  · have hf := it_t c13 hf
    refine lv_iload hx hb dL_law_1297 (lv_at hl 1 rfl) ?_
    refine lv_if_ne (tgt := 1314) hx hb dL_law_1299 (by decide) (fun c14 => ?_) (fun c14 => ?_)
    · have hf := it_f c14 hf
      refine lv_goto (tgt := 1839) hx hb dL_law_1314 (by decide) ?_
      have hf := sm_e hf
      subst hf
      refine W.widen (k := cells + 1) (n := slots + 6) (by omega) (by omega) ?_
      exact kk H locs ls h (lv_sub hl [2, 3, 4, 5, 6] rfl)
    · have hf := it_t c14 hf
      refine lv_aload_n hx hb dL_law_1302 rfl (lv_at hl 5 rfl) ?_
      refine lv_iconst (v := (0 : Int32)) hx hb dL_law_1303 (by decide) ?_
      refine xlald hC h.o 430 (Nat.le_of_ble_eq_true rfl) eLW_430 dL_law_1304 ?_
      refine lv_iload hx hb dL_law_1305 (lv_at hl 0 rfl) ?_
      refine lv_i2l hx hb dL_law_1307 rfl ?_
      refine W.lcmp hx hb dL_law_1308 ?_
      refine lv_if_eq (tgt := 1314) hx hb dL_law_1309 (by decide) (fun c15 => ?_) (fun c15 => ?_)
      · have hf := it_t c15 hf
        refine lv_goto (tgt := 1839) hx hb dL_law_1314 (by decide) ?_
        have hf := sm_e hf
        subst hf
        refine W.widen (k := cells + 1) (n := slots + 6) (by omega) (by omega) ?_
        exact kk H locs ls h (lv_sub hl [2, 3, 4, 5, 6] rfl)
      · have hf := it_f c15 hf
        cases hf
  · have hf := it_f c13 hf
    cases hf
def m_law_23_xIOB (v : xSt) (xs : Nat → Int32) (L : Nat) (i : Int32) : Option xSt := ck (¬ ((i + (1 : Int32)) < 0 ∨ L ≤ (i + (1 : Int32)).toNatClampNeg)) (ck (¬ ((i + (2 : Int32)) < 0 ∨ L ≤ (i + (2 : Int32)).toNatClampNeg)) (ob (xthE xIOB (m_X8_sector_t v (xs (i + (1 : Int32)).toNatClampNeg) (xs (i + (2 : Int32)).toNatClampNeg))) (fun r3 => lt (pu 0 431 v (pu 0 430 v r3)) (fun v5 => ck (¬ ((i + (1 : Int32)) < 0 ∨ L ≤ (i + (1 : Int32)).toNatClampNeg)) (ck (¬ ((i + (2 : Int32)) < 0 ∨ L ≤ (i + (2 : Int32)).toNatClampNeg)) (ob (m_X9_sector (sh 431 v5) (xs (i + (1 : Int32)).toNatClampNeg) (xs (i + (2 : Int32)).toNatClampNeg)) (fun r9 => lt (pu 431 8 v5 r9.2) (fun v10 => ob (m_X9_thrown (sh 431 v10)) (fun r12 => (if r12 = (1 : Int32) then (if (1 : Int32) = 0 then (if (lg_cmp ((v10 430 0).toInt64) ((r9.1).toInt64)) = 0 then some v10 else none) else some v10) else none))))))))))
set_option maxHeartbeats 4000000 in
set_option maxRecDepth 100000 in
theorem k_law_23_xIOB {p : Program} {l : Launch} {e : Env} {R : Room} {s : State} {m : MethodId} {args : Array Value} {below : List Frame} {meth : Method} {c : Code} {H : Heap} {locs : List Loc} {cells slots : Nat} {Q : State → Prop} {G : xGl} {sa q : Nat → Nat} {v : xSt} {A : Nat → Prop} {ls : Array Slot} {b L : Nat} {xs : Nat → Int32} {i : Int32} (hst : l.stackTraces = false) (hC : CallFix p m c cL_law 9 s args lw_tbl RL) (hin : ∀ w ∈ wG, w ∈ lw_tbl) (hT : xT G sa A s s.heap) (hX : va_X b L xs s s.heap) (hbl : b < s.heap.size) (hbA : ¬ A b) (hcs : cells + 1 ≤ room_1.cells ∧ slots + 6 ≤ room_1.slots) (h : hg G (LW G) 439 q v A s H locs) (hl : lv_has ls 9 [(0, .ref b), (1, .ref (q 0)), (2, .ref (q 431)), (3, .ref (q 430)), (4, .int i)]) {z : xSt} (hf : m_law_23_xIOB v xs L i = some z) (kk : ∀ (H : Heap) (locs : List Loc) (ls : Array Slot), hg G (LW G) 439 q z A s H locs → lv_has ls 9 [(0, .ref b), (1, .ref (q 0)), (2, .ref (q 431)), (3, .ref (q 430)), (4, .int i)] → W p l e room_1 s m args below meth c H locs (cells + 1) (slots + 6) Q (F0 m 1839 ls [])) : W p l e room_1 s m args below meth c H locs cells slots Q (F0 m 1249 ls []) := by
  have hx := hC.1
  have hb := hC.2.1
  have hc0 : cells ≤ room_1.cells ∧ slots ≤ room_1.slots := ⟨Nat.le_of_succ_le hcs.1, Nat.le_trans (Nat.le_add_right _ _) hcs.2⟩
  unfold m_law_23_xIOB at hf
  refine lv_aload_n hx hb dL_law_1249 rfl (lv_at hl 1 rfl) ?_
  refine lv_aload_n hx hb dL_law_1250 rfl (lv_at hl 0 rfl) ?_
  refine lv_iload hx hb dL_law_1251 (lv_at hl 4 rfl) ?_
  refine lv_iconst (v := (1 : Int32)) hx hb dL_law_1253 (by decide) ?_
  refine lv_iadd hx hb dL_law_1254 ?_
  obtain ⟨hi1, hf⟩ := ck_e hf
  refine va_sld hx hb hX hbl hbA h.1.2.2.1 hi1 dL_law_1255 ?_
  refine lv_aload_n hx hb dL_law_1256 rfl (lv_at hl 0 rfl) ?_
  refine lv_iload hx hb dL_law_1257 (lv_at hl 4 rfl) ?_
  refine lv_iconst (v := (2 : Int32)) hx hb dL_law_1259 (by decide) ?_
  refine lv_iadd hx hb dL_law_1260 ?_
  obtain ⟨hi2, hf⟩ := ck_e hf
  refine va_sld hx hb hX hbl hbA h.1.2.2.1 hi2 dL_law_1261 ?_
  refine lv_aload_n hx hb dL_law_1262 rfl (lv_at hl 3 rfl) ?_
  obtain ⟨r3, hy4, hf⟩ := ob_e hf
  refine xipc h 431 sLW_0 (Nat.le_of_ble_eq_true rfl) (vx_runSW (As := [.ref (q 0), .int (xs (i + (1 : Int32)).toNatClampNeg), .int (xs (i + (2 : Int32)).toNatClampNeg), .ref (q 430)]) (rest := []) hC (x_L_sector_xIOB l hst G sa q v (xs (i + (1 : Int32)).toNatClampNeg) (xs (i + (2 : Int32)).toNatClampNeg) (xthE_e hy4) H.size) (xcgSW hC hin lk_L_181 in_L co_L_sector st_L_sector rfl rfl dd_L_sector ⟨Nat.le_of_ble_eq_true rfl, Nat.le_of_ble_eq_true rfl⟩) (preSP h hT 431 sLW_0 (Nat.le_of_ble_eq_true rfl) [.ref (q 0), .int (xs (i + (1 : Int32)).toNatClampNeg), .int (xs (i + (2 : Int32)).toNatClampNeg), .ref (q 430)]) rfl rfl hl.1 rfl (lv_room (Nat.le_of_ble_eq_true rfl)) dL_law_1263 hcs) (fun H locs h => ?_)
  obtain ⟨v5, ev5, hf⟩ := lt_e hf
  rw [← ev5] at h
  refine lv_istore (lv' := [(5, .int (1 : Int32)), (0, .ref b), (1, .ref (q 0)), (2, .ref (q 431)), (3, .ref (q 430)), (4, .int i)]) hx hb dL_law_1266 hl (by decide) rfl (fun ls hl => ?_)
  refine lv_aload_n hx hb dL_law_1268 rfl (lv_at hl 3 rfl) ?_
  refine lv_aload_n hx hb dL_law_1269 rfl (lv_at hl 1 rfl) ?_
  refine lv_iload hx hb dL_law_1270 (lv_at hl 5 rfl) ?_
  refine lv_iconst (v := (1 : Int32)) hx hb dL_law_1272 (by decide) ?_
  refine lv_iadd hx hb dL_law_1273 ?_
  obtain ⟨hi6, hf⟩ := ck_e hf
  refine va_sld hx hb hX hbl hbA h.1.2.2.1 hi6 dL_law_1274 ?_
  refine lv_aload_n hx hb dL_law_1275 rfl (lv_at hl 1 rfl) ?_
  refine lv_iload hx hb dL_law_1276 (lv_at hl 5 rfl) ?_
  refine lv_iconst (v := (2 : Int32)) hx hb dL_law_1278 (by decide) ?_
  refine lv_iadd hx hb dL_law_1279 ?_
  obtain ⟨hi7, hf⟩ := ck_e hf
  refine va_sld hx hb hX hbl hbA h.1.2.2.1 hi7 dL_law_1280 ?_
  obtain ⟨r9, hy8, hf⟩ := ob_e hf
  refine xi1 h 431 8 sLW_431 (Nat.le_of_ble_eq_true rfl) (va_runV (As := [.int (xs (i + (1 : Int32)).toNatClampNeg), .int (xs (i + (2 : Int32)).toNatClampNeg)]) (rest := []) hC (c_X9_sector l G (sh 431 q) (sh 431 v5) (xs (i + (1 : Int32)).toNatClampNeg) (xs (i + (2 : Int32)).toNatClampNeg) hy8 H.size) (xcgV hC hin lk_L_183 in_X9 co_X9_sector im_X9_sector se_X9_sector rfl rfl dd_X9_sector ⟨Nat.le_of_ble_eq_true rfl, Nat.le_of_ble_eq_true rfl⟩) (preV1 h 431 8 sLW_431 (Nat.le_of_ble_eq_true rfl) (Nat.le_of_ble_eq_true rfl) eLW_431 rfl [.int (xs (i + (1 : Int32)).toNatClampNeg), .int (xs (i + (2 : Int32)).toNatClampNeg)]) rfl rfl hl.1 rfl (lv_room (Nat.le_of_ble_eq_true rfl)) dL_law_1281 hcs) (fun H locs h => ?_)
  obtain ⟨v10, ev10, hf⟩ := lt_e hf
  rw [← ev10] at h
  refine lv_istore (lv' := [(6, .int r9.1), (5, .int (1 : Int32)), (0, .ref b), (1, .ref (q 0)), (2, .ref (q 431)), (3, .ref (q 430)), (4, .int i)]) hx hb dL_law_1284 hl (by decide) rfl (fun ls hl => ?_)
  refine lv_aload_n hx hb dL_law_1286 rfl (lv_at hl 4 rfl) ?_
  obtain ⟨r12, hy11, hf⟩ := ob_e hf
  refine xiG h (va_runV (As := []) (rest := []) hC (c_X9_thrown l G (sh 431 q) (sh 431 v10) hy11 H.size) (xcgV hC hin lk_L_104 in_X9 co_X9_thrown im_X9_thrown se_X9_thrown rfl rfl dd_X9_thrown ⟨Nat.le_of_ble_eq_true rfl, Nat.le_of_ble_eq_true rfl⟩) (preVO h.o 431 8 sLW_431 (Nat.le_of_ble_eq_true rfl) (Nat.le_of_ble_eq_true rfl) eLW_431 rfl []) rfl rfl hl.1 rfl (lv_room (Nat.le_of_ble_eq_true rfl)) dL_law_1287 hcs) (fun H locs h => ?_)
  refine lv_iload hx hb dL_law_1290 (lv_at hl 1 rfl) ?_
  refine lv_icmp_eq (tgt := 1297) hx hb dL_law_1292 (by decide) (fun c13 => ?_) (fun c13 => ?_)
  · have hf := it_t c13 hf
    refine lv_iload hx hb dL_law_1297 (lv_at hl 1 rfl) ?_
    refine lv_if_ne (tgt := 1314) hx hb dL_law_1299 (by decide) (fun c14 => ?_) (fun c14 => ?_)
    · have hf := it_f c14 hf
      refine lv_goto (tgt := 1839) hx hb dL_law_1314 (by decide) ?_
      have hf := sm_e hf
      subst hf
      refine W.widen (k := cells + 1) (n := slots + 6) (by omega) (by omega) ?_
      exact kk H locs ls h (lv_sub hl [2, 3, 4, 5, 6] rfl)
    · have hf := it_t c14 hf
      refine lv_aload_n hx hb dL_law_1302 rfl (lv_at hl 5 rfl) ?_
      refine lv_iconst (v := (0 : Int32)) hx hb dL_law_1303 (by decide) ?_
      refine xlald hC h.o 430 (Nat.le_of_ble_eq_true rfl) eLW_430 dL_law_1304 ?_
      refine lv_iload hx hb dL_law_1305 (lv_at hl 0 rfl) ?_
      refine lv_i2l hx hb dL_law_1307 rfl ?_
      refine W.lcmp hx hb dL_law_1308 ?_
      refine lv_if_eq (tgt := 1314) hx hb dL_law_1309 (by decide) (fun c15 => ?_) (fun c15 => ?_)
      · have hf := it_t c15 hf
        refine lv_goto (tgt := 1839) hx hb dL_law_1314 (by decide) ?_
        have hf := sm_e hf
        subst hf
        refine W.widen (k := cells + 1) (n := slots + 6) (by omega) (by omega) ?_
        exact kk H locs ls h (lv_sub hl [2, 3, 4, 5, 6] rfl)
      · have hf := it_f c15 hf
        cases hf
  · have hf := it_f c13 hf
    cases hf
def m_law_23_xIAE (v : xSt) (xs : Nat → Int32) (L : Nat) (i : Int32) : Option xSt := ck (¬ ((i + (1 : Int32)) < 0 ∨ L ≤ (i + (1 : Int32)).toNatClampNeg)) (ck (¬ ((i + (2 : Int32)) < 0 ∨ L ≤ (i + (2 : Int32)).toNatClampNeg)) (ob (xthE xIAE (m_X8_sector_t v (xs (i + (1 : Int32)).toNatClampNeg) (xs (i + (2 : Int32)).toNatClampNeg))) (fun r3 => lt (pu 0 431 v (pu 0 430 v r3)) (fun v5 => ck (¬ ((i + (1 : Int32)) < 0 ∨ L ≤ (i + (1 : Int32)).toNatClampNeg)) (ck (¬ ((i + (2 : Int32)) < 0 ∨ L ≤ (i + (2 : Int32)).toNatClampNeg)) (ob (m_X9_sector (sh 431 v5) (xs (i + (1 : Int32)).toNatClampNeg) (xs (i + (2 : Int32)).toNatClampNeg)) (fun r9 => lt (pu 431 8 v5 r9.2) (fun v10 => ob (m_X9_thrown (sh 431 v10)) (fun r12 => (if r12 = (2 : Int32) then (if (2 : Int32) = 0 then (if (lg_cmp ((v10 430 0).toInt64) ((r9.1).toInt64)) = 0 then some v10 else none) else some v10) else none))))))))))
set_option maxHeartbeats 4000000 in
set_option maxRecDepth 100000 in
theorem k_law_23_xIAE {p : Program} {l : Launch} {e : Env} {R : Room} {s : State} {m : MethodId} {args : Array Value} {below : List Frame} {meth : Method} {c : Code} {H : Heap} {locs : List Loc} {cells slots : Nat} {Q : State → Prop} {G : xGl} {sa q : Nat → Nat} {v : xSt} {A : Nat → Prop} {ls : Array Slot} {b L : Nat} {xs : Nat → Int32} {i : Int32} (hst : l.stackTraces = false) (hC : CallFix p m c cL_law 9 s args lw_tbl RL) (hin : ∀ w ∈ wG, w ∈ lw_tbl) (hT : xT G sa A s s.heap) (hX : va_X b L xs s s.heap) (hbl : b < s.heap.size) (hbA : ¬ A b) (hcs : cells + 1 ≤ room_1.cells ∧ slots + 6 ≤ room_1.slots) (h : hg G (LW G) 439 q v A s H locs) (hl : lv_has ls 9 [(0, .ref b), (1, .ref (q 0)), (2, .ref (q 431)), (3, .ref (q 430)), (4, .int i)]) {z : xSt} (hf : m_law_23_xIAE v xs L i = some z) (kk : ∀ (H : Heap) (locs : List Loc) (ls : Array Slot), hg G (LW G) 439 q z A s H locs → lv_has ls 9 [(0, .ref b), (1, .ref (q 0)), (2, .ref (q 431)), (3, .ref (q 430)), (4, .int i)] → W p l e room_1 s m args below meth c H locs (cells + 1) (slots + 6) Q (F0 m 1839 ls [])) : W p l e room_1 s m args below meth c H locs cells slots Q (F0 m 1249 ls []) := by
  have hx := hC.1
  have hb := hC.2.1
  have hc0 : cells ≤ room_1.cells ∧ slots ≤ room_1.slots := ⟨Nat.le_of_succ_le hcs.1, Nat.le_trans (Nat.le_add_right _ _) hcs.2⟩
  unfold m_law_23_xIAE at hf
  refine lv_aload_n hx hb dL_law_1249 rfl (lv_at hl 1 rfl) ?_
  refine lv_aload_n hx hb dL_law_1250 rfl (lv_at hl 0 rfl) ?_
  refine lv_iload hx hb dL_law_1251 (lv_at hl 4 rfl) ?_
  refine lv_iconst (v := (1 : Int32)) hx hb dL_law_1253 (by decide) ?_
  refine lv_iadd hx hb dL_law_1254 ?_
  obtain ⟨hi1, hf⟩ := ck_e hf
  refine va_sld hx hb hX hbl hbA h.1.2.2.1 hi1 dL_law_1255 ?_
  refine lv_aload_n hx hb dL_law_1256 rfl (lv_at hl 0 rfl) ?_
  refine lv_iload hx hb dL_law_1257 (lv_at hl 4 rfl) ?_
  refine lv_iconst (v := (2 : Int32)) hx hb dL_law_1259 (by decide) ?_
  refine lv_iadd hx hb dL_law_1260 ?_
  obtain ⟨hi2, hf⟩ := ck_e hf
  refine va_sld hx hb hX hbl hbA h.1.2.2.1 hi2 dL_law_1261 ?_
  refine lv_aload_n hx hb dL_law_1262 rfl (lv_at hl 3 rfl) ?_
  obtain ⟨r3, hy4, hf⟩ := ob_e hf
  refine xipc h 431 sLW_0 (Nat.le_of_ble_eq_true rfl) (vx_runSW (As := [.ref (q 0), .int (xs (i + (1 : Int32)).toNatClampNeg), .int (xs (i + (2 : Int32)).toNatClampNeg), .ref (q 430)]) (rest := []) hC (x_L_sector_xIAE l hst G sa q v (xs (i + (1 : Int32)).toNatClampNeg) (xs (i + (2 : Int32)).toNatClampNeg) (xthE_e hy4) H.size) (xcgSW hC hin lk_L_181 in_L co_L_sector st_L_sector rfl rfl dd_L_sector ⟨Nat.le_of_ble_eq_true rfl, Nat.le_of_ble_eq_true rfl⟩) (preSP h hT 431 sLW_0 (Nat.le_of_ble_eq_true rfl) [.ref (q 0), .int (xs (i + (1 : Int32)).toNatClampNeg), .int (xs (i + (2 : Int32)).toNatClampNeg), .ref (q 430)]) rfl rfl hl.1 rfl (lv_room (Nat.le_of_ble_eq_true rfl)) dL_law_1263 hcs) (fun H locs h => ?_)
  obtain ⟨v5, ev5, hf⟩ := lt_e hf
  rw [← ev5] at h
  refine lv_istore (lv' := [(5, .int (2 : Int32)), (0, .ref b), (1, .ref (q 0)), (2, .ref (q 431)), (3, .ref (q 430)), (4, .int i)]) hx hb dL_law_1266 hl (by decide) rfl (fun ls hl => ?_)
  refine lv_aload_n hx hb dL_law_1268 rfl (lv_at hl 3 rfl) ?_
  refine lv_aload_n hx hb dL_law_1269 rfl (lv_at hl 1 rfl) ?_
  refine lv_iload hx hb dL_law_1270 (lv_at hl 5 rfl) ?_
  refine lv_iconst (v := (1 : Int32)) hx hb dL_law_1272 (by decide) ?_
  refine lv_iadd hx hb dL_law_1273 ?_
  obtain ⟨hi6, hf⟩ := ck_e hf
  refine va_sld hx hb hX hbl hbA h.1.2.2.1 hi6 dL_law_1274 ?_
  refine lv_aload_n hx hb dL_law_1275 rfl (lv_at hl 1 rfl) ?_
  refine lv_iload hx hb dL_law_1276 (lv_at hl 5 rfl) ?_
  refine lv_iconst (v := (2 : Int32)) hx hb dL_law_1278 (by decide) ?_
  refine lv_iadd hx hb dL_law_1279 ?_
  obtain ⟨hi7, hf⟩ := ck_e hf
  refine va_sld hx hb hX hbl hbA h.1.2.2.1 hi7 dL_law_1280 ?_
  obtain ⟨r9, hy8, hf⟩ := ob_e hf
  refine xi1 h 431 8 sLW_431 (Nat.le_of_ble_eq_true rfl) (va_runV (As := [.int (xs (i + (1 : Int32)).toNatClampNeg), .int (xs (i + (2 : Int32)).toNatClampNeg)]) (rest := []) hC (c_X9_sector l G (sh 431 q) (sh 431 v5) (xs (i + (1 : Int32)).toNatClampNeg) (xs (i + (2 : Int32)).toNatClampNeg) hy8 H.size) (xcgV hC hin lk_L_183 in_X9 co_X9_sector im_X9_sector se_X9_sector rfl rfl dd_X9_sector ⟨Nat.le_of_ble_eq_true rfl, Nat.le_of_ble_eq_true rfl⟩) (preV1 h 431 8 sLW_431 (Nat.le_of_ble_eq_true rfl) (Nat.le_of_ble_eq_true rfl) eLW_431 rfl [.int (xs (i + (1 : Int32)).toNatClampNeg), .int (xs (i + (2 : Int32)).toNatClampNeg)]) rfl rfl hl.1 rfl (lv_room (Nat.le_of_ble_eq_true rfl)) dL_law_1281 hcs) (fun H locs h => ?_)
  obtain ⟨v10, ev10, hf⟩ := lt_e hf
  rw [← ev10] at h
  refine lv_istore (lv' := [(6, .int r9.1), (5, .int (2 : Int32)), (0, .ref b), (1, .ref (q 0)), (2, .ref (q 431)), (3, .ref (q 430)), (4, .int i)]) hx hb dL_law_1284 hl (by decide) rfl (fun ls hl => ?_)
  refine lv_aload_n hx hb dL_law_1286 rfl (lv_at hl 4 rfl) ?_
  obtain ⟨r12, hy11, hf⟩ := ob_e hf
  refine xiG h (va_runV (As := []) (rest := []) hC (c_X9_thrown l G (sh 431 q) (sh 431 v10) hy11 H.size) (xcgV hC hin lk_L_104 in_X9 co_X9_thrown im_X9_thrown se_X9_thrown rfl rfl dd_X9_thrown ⟨Nat.le_of_ble_eq_true rfl, Nat.le_of_ble_eq_true rfl⟩) (preVO h.o 431 8 sLW_431 (Nat.le_of_ble_eq_true rfl) (Nat.le_of_ble_eq_true rfl) eLW_431 rfl []) rfl rfl hl.1 rfl (lv_room (Nat.le_of_ble_eq_true rfl)) dL_law_1287 hcs) (fun H locs h => ?_)
  refine lv_iload hx hb dL_law_1290 (lv_at hl 1 rfl) ?_
  refine lv_icmp_eq (tgt := 1297) hx hb dL_law_1292 (by decide) (fun c13 => ?_) (fun c13 => ?_)
  · have hf := it_t c13 hf
    refine lv_iload hx hb dL_law_1297 (lv_at hl 1 rfl) ?_
    refine lv_if_ne (tgt := 1314) hx hb dL_law_1299 (by decide) (fun c14 => ?_) (fun c14 => ?_)
    · have hf := it_f c14 hf
      refine lv_goto (tgt := 1839) hx hb dL_law_1314 (by decide) ?_
      have hf := sm_e hf
      subst hf
      refine W.widen (k := cells + 1) (n := slots + 6) (by omega) (by omega) ?_
      exact kk H locs ls h (lv_sub hl [2, 3, 4, 5, 6] rfl)
    · have hf := it_t c14 hf
      refine lv_aload_n hx hb dL_law_1302 rfl (lv_at hl 5 rfl) ?_
      refine lv_iconst (v := (0 : Int32)) hx hb dL_law_1303 (by decide) ?_
      refine xlald hC h.o 430 (Nat.le_of_ble_eq_true rfl) eLW_430 dL_law_1304 ?_
      refine lv_iload hx hb dL_law_1305 (lv_at hl 0 rfl) ?_
      refine lv_i2l hx hb dL_law_1307 rfl ?_
      refine W.lcmp hx hb dL_law_1308 ?_
      refine lv_if_eq (tgt := 1314) hx hb dL_law_1309 (by decide) (fun c15 => ?_) (fun c15 => ?_)
      · have hf := it_t c15 hf
        refine lv_goto (tgt := 1839) hx hb dL_law_1314 (by decide) ?_
        have hf := sm_e hf
        subst hf
        refine W.widen (k := cells + 1) (n := slots + 6) (by omega) (by omega) ?_
        exact kk H locs ls h (lv_sub hl [2, 3, 4, 5, 6] rfl)
      · have hf := it_f c15 hf
        cases hf
  · have hf := it_f c13 hf
    cases hf
def m_law_24 (v : xSt) (xs : Nat → Int32) (L : Nat) (i : Int32) : Option xSt := ck (¬ ((i + (1 : Int32)) < 0 ∨ L ≤ (i + (1 : Int32)).toNatClampNeg)) (ck (¬ ((i + (2 : Int32)) < 0 ∨ L ≤ (i + (2 : Int32)).toNatClampNeg)) (ob (m_L_work v (xs (i + (1 : Int32)).toNatClampNeg) (xs (i + (2 : Int32)).toNatClampNeg)) (fun r3 => lt (pu 0 431 v r3.2) (fun v5 => ck (¬ ((i + (1 : Int32)) < 0 ∨ L ≤ (i + (1 : Int32)).toNatClampNeg)) (ck (¬ ((i + (2 : Int32)) < 0 ∨ L ≤ (i + (2 : Int32)).toNatClampNeg)) (ob (m_X9_work (sh 431 v5) (xs (i + (1 : Int32)).toNatClampNeg) (xs (i + (2 : Int32)).toNatClampNeg)) (fun r9 => lt (pu 431 8 v5 r9.2) (fun v10 => ob (m_X9_thrown (sh 431 v10)) (fun r12 => (if r12 = r3.1 then (if r3.1 = 0 then (if (lg_cmp ((v10 430 0).toInt64) ((r9.1).toInt64)) = 0 then some v10 else none) else some v10) else none))))))))))
set_option maxHeartbeats 4000000 in
set_option maxRecDepth 100000 in
theorem k_law_24 {p : Program} {l : Launch} {e : Env} {R : Room} {s : State} {m : MethodId} {args : Array Value} {below : List Frame} {meth : Method} {c : Code} {H : Heap} {locs : List Loc} {cells slots : Nat} {Q : State → Prop} {G : xGl} {sa q : Nat → Nat} {v : xSt} {A : Nat → Prop} {ls : Array Slot} {b L : Nat} {xs : Nat → Int32} {i : Int32} (hst : l.stackTraces = false) (hC : CallFix p m c cL_law 9 s args lw_tbl RL) (hin : ∀ w ∈ wG, w ∈ lw_tbl) (hT : xT G sa A s s.heap) (hX : va_X b L xs s s.heap) (hbl : b < s.heap.size) (hbA : ¬ A b) (hcs : cells + 1 ≤ room_1.cells ∧ slots + 6 ≤ room_1.slots) (h : hg G (LW G) 439 q v A s H locs) (hl : lv_has ls 9 [(0, .ref b), (1, .ref (q 0)), (2, .ref (q 431)), (3, .ref (q 430)), (4, .int i)]) {z : xSt} (hf : m_law_24 v xs L i = some z) (kk : ∀ (H : Heap) (locs : List Loc) (ls : Array Slot), hg G (LW G) 439 q z A s H locs → lv_has ls 9 [(0, .ref b), (1, .ref (q 0)), (2, .ref (q 431)), (3, .ref (q 430)), (4, .int i)] → W p l e room_1 s m args below meth c H locs (cells + 1) (slots + 6) Q (F0 m 1839 ls [])) : W p l e room_1 s m args below meth c H locs cells slots Q (F0 m 1317 ls []) := by
  have hx := hC.1
  have hb := hC.2.1
  have hc0 : cells ≤ room_1.cells ∧ slots ≤ room_1.slots := ⟨Nat.le_of_succ_le hcs.1, Nat.le_trans (Nat.le_add_right _ _) hcs.2⟩
  unfold m_law_24 at hf
  refine lv_aload_n hx hb dL_law_1317 rfl (lv_at hl 1 rfl) ?_
  refine lv_aload_n hx hb dL_law_1318 rfl (lv_at hl 0 rfl) ?_
  refine lv_iload hx hb dL_law_1319 (lv_at hl 4 rfl) ?_
  refine lv_iconst (v := (1 : Int32)) hx hb dL_law_1321 (by decide) ?_
  refine lv_iadd hx hb dL_law_1322 ?_
  obtain ⟨hi1, hf⟩ := ck_e hf
  refine va_sld hx hb hX hbl hbA h.1.2.2.1 hi1 dL_law_1323 ?_
  refine lv_aload_n hx hb dL_law_1324 rfl (lv_at hl 0 rfl) ?_
  refine lv_iload hx hb dL_law_1325 (lv_at hl 4 rfl) ?_
  refine lv_iconst (v := (2 : Int32)) hx hb dL_law_1327 (by decide) ?_
  refine lv_iadd hx hb dL_law_1328 ?_
  obtain ⟨hi2, hf⟩ := ck_e hf
  refine va_sld hx hb hX hbl hbA h.1.2.2.1 hi2 dL_law_1329 ?_
  refine lv_aload_n hx hb dL_law_1330 rfl (lv_at hl 3 rfl) ?_
  obtain ⟨r3, hy4, hf⟩ := ob_e hf
  refine xipc h 431 sLW_0 (Nat.le_of_ble_eq_true rfl) (vx_runSW (As := [.ref (q 0), .int (xs (i + (1 : Int32)).toNatClampNeg), .int (xs (i + (2 : Int32)).toNatClampNeg), .ref (q 430)]) (rest := []) hC (c_L_work l G sa q v (xs (i + (1 : Int32)).toNatClampNeg) (xs (i + (2 : Int32)).toNatClampNeg) hy4 H.size) (xcgSW hC hin lk_L_184 in_L co_L_work st_L_work rfl rfl dd_L_work ⟨Nat.le_of_ble_eq_true rfl, Nat.le_of_ble_eq_true rfl⟩) (preSP h hT 431 sLW_0 (Nat.le_of_ble_eq_true rfl) [.ref (q 0), .int (xs (i + (1 : Int32)).toNatClampNeg), .int (xs (i + (2 : Int32)).toNatClampNeg), .ref (q 430)]) rfl rfl hl.1 rfl (lv_room (Nat.le_of_ble_eq_true rfl)) dL_law_1331 ⟨Nat.le_of_succ_le hcs.1, Nat.le_trans (Nat.le_add_right _ _) hcs.2⟩) (fun H locs h => ?_)
  obtain ⟨v5, ev5, hf⟩ := lt_e hf
  rw [← ev5] at h
  refine lv_istore (lv' := [(5, .int r3.1), (0, .ref b), (1, .ref (q 0)), (2, .ref (q 431)), (3, .ref (q 430)), (4, .int i)]) hx hb dL_law_1334 hl (by decide) rfl (fun ls hl => ?_)
  refine lv_aload_n hx hb dL_law_1336 rfl (lv_at hl 3 rfl) ?_
  refine lv_aload_n hx hb dL_law_1337 rfl (lv_at hl 1 rfl) ?_
  refine lv_iload hx hb dL_law_1338 (lv_at hl 5 rfl) ?_
  refine lv_iconst (v := (1 : Int32)) hx hb dL_law_1340 (by decide) ?_
  refine lv_iadd hx hb dL_law_1341 ?_
  obtain ⟨hi6, hf⟩ := ck_e hf
  refine va_sld hx hb hX hbl hbA h.1.2.2.1 hi6 dL_law_1342 ?_
  refine lv_aload_n hx hb dL_law_1343 rfl (lv_at hl 1 rfl) ?_
  refine lv_iload hx hb dL_law_1344 (lv_at hl 5 rfl) ?_
  refine lv_iconst (v := (2 : Int32)) hx hb dL_law_1346 (by decide) ?_
  refine lv_iadd hx hb dL_law_1347 ?_
  obtain ⟨hi7, hf⟩ := ck_e hf
  refine va_sld hx hb hX hbl hbA h.1.2.2.1 hi7 dL_law_1348 ?_
  obtain ⟨r9, hy8, hf⟩ := ob_e hf
  refine xi1 h 431 8 sLW_431 (Nat.le_of_ble_eq_true rfl) (va_runV (As := [.int (xs (i + (1 : Int32)).toNatClampNeg), .int (xs (i + (2 : Int32)).toNatClampNeg)]) (rest := []) hC (c_X9_work l G (sh 431 q) (sh 431 v5) (xs (i + (1 : Int32)).toNatClampNeg) (xs (i + (2 : Int32)).toNatClampNeg) hy8 H.size) (xcgV hC hin lk_L_186 in_X9 co_X9_work im_X9_work se_X9_work rfl rfl dd_X9_work ⟨Nat.le_of_ble_eq_true rfl, Nat.le_of_ble_eq_true rfl⟩) (preV1 h 431 8 sLW_431 (Nat.le_of_ble_eq_true rfl) (Nat.le_of_ble_eq_true rfl) eLW_431 rfl [.int (xs (i + (1 : Int32)).toNatClampNeg), .int (xs (i + (2 : Int32)).toNatClampNeg)]) rfl rfl hl.1 rfl (lv_room (Nat.le_of_ble_eq_true rfl)) dL_law_1349 hc0) (fun H locs h => ?_)
  obtain ⟨v10, ev10, hf⟩ := lt_e hf
  rw [← ev10] at h
  refine lv_istore (lv' := [(6, .int r9.1), (5, .int r3.1), (0, .ref b), (1, .ref (q 0)), (2, .ref (q 431)), (3, .ref (q 430)), (4, .int i)]) hx hb dL_law_1352 hl (by decide) rfl (fun ls hl => ?_)
  refine lv_aload_n hx hb dL_law_1354 rfl (lv_at hl 4 rfl) ?_
  obtain ⟨r12, hy11, hf⟩ := ob_e hf
  refine xiG h (va_runV (As := []) (rest := []) hC (c_X9_thrown l G (sh 431 q) (sh 431 v10) hy11 H.size) (xcgV hC hin lk_L_104 in_X9 co_X9_thrown im_X9_thrown se_X9_thrown rfl rfl dd_X9_thrown ⟨Nat.le_of_ble_eq_true rfl, Nat.le_of_ble_eq_true rfl⟩) (preVO h.o 431 8 sLW_431 (Nat.le_of_ble_eq_true rfl) (Nat.le_of_ble_eq_true rfl) eLW_431 rfl []) rfl rfl hl.1 rfl (lv_room (Nat.le_of_ble_eq_true rfl)) dL_law_1355 hc0) (fun H locs h => ?_)
  refine lv_iload hx hb dL_law_1358 (lv_at hl 1 rfl) ?_
  refine lv_icmp_eq (tgt := 1365) hx hb dL_law_1360 (by decide) (fun c13 => ?_) (fun c13 => ?_)
  · have hf := it_t c13 hf
    refine lv_iload hx hb dL_law_1365 (lv_at hl 1 rfl) ?_
    refine lv_if_ne (tgt := 1382) hx hb dL_law_1367 (by decide) (fun c14 => ?_) (fun c14 => ?_)
    · have hf := it_f c14 hf
      refine lv_goto (tgt := 1839) hx hb dL_law_1382 (by decide) ?_
      have hf := sm_e hf
      subst hf
      refine W.widen (k := cells + 1) (n := slots + 6) (by omega) (by omega) ?_
      exact kk H locs ls h (lv_sub hl [2, 3, 4, 5, 6] rfl)
    · have hf := it_t c14 hf
      refine lv_aload_n hx hb dL_law_1370 rfl (lv_at hl 5 rfl) ?_
      refine lv_iconst (v := (0 : Int32)) hx hb dL_law_1371 (by decide) ?_
      refine xlald hC h.o 430 (Nat.le_of_ble_eq_true rfl) eLW_430 dL_law_1372 ?_
      refine lv_iload hx hb dL_law_1373 (lv_at hl 0 rfl) ?_
      refine lv_i2l hx hb dL_law_1375 rfl ?_
      refine W.lcmp hx hb dL_law_1376 ?_
      refine lv_if_eq (tgt := 1382) hx hb dL_law_1377 (by decide) (fun c15 => ?_) (fun c15 => ?_)
      · have hf := it_t c15 hf
        refine lv_goto (tgt := 1839) hx hb dL_law_1382 (by decide) ?_
        have hf := sm_e hf
        subst hf
        refine W.widen (k := cells + 1) (n := slots + 6) (by omega) (by omega) ?_
        exact kk H locs ls h (lv_sub hl [2, 3, 4, 5, 6] rfl)
      · have hf := it_f c15 hf
        cases hf
  · have hf := it_f c13 hf
    cases hf
def m_law_24_xIAE (v : xSt) (xs : Nat → Int32) (L : Nat) (i : Int32) : Option xSt := ck (¬ ((i + (1 : Int32)) < 0 ∨ L ≤ (i + (1 : Int32)).toNatClampNeg)) (ck (¬ ((i + (2 : Int32)) < 0 ∨ L ≤ (i + (2 : Int32)).toNatClampNeg)) (ob (xthE xIAE (m_X8_work_t v (xs (i + (1 : Int32)).toNatClampNeg) (xs (i + (2 : Int32)).toNatClampNeg))) (fun r3 => lt (pu 0 431 v (pu 0 430 v r3)) (fun v5 => ck (¬ ((i + (1 : Int32)) < 0 ∨ L ≤ (i + (1 : Int32)).toNatClampNeg)) (ck (¬ ((i + (2 : Int32)) < 0 ∨ L ≤ (i + (2 : Int32)).toNatClampNeg)) (ob (m_X9_work (sh 431 v5) (xs (i + (1 : Int32)).toNatClampNeg) (xs (i + (2 : Int32)).toNatClampNeg)) (fun r9 => lt (pu 431 8 v5 r9.2) (fun v10 => ob (m_X9_thrown (sh 431 v10)) (fun r12 => (if r12 = (1 : Int32) then (if (1 : Int32) = 0 then (if (lg_cmp ((v10 430 0).toInt64) ((r9.1).toInt64)) = 0 then some v10 else none) else some v10) else none))))))))))
set_option maxHeartbeats 4000000 in
set_option maxRecDepth 100000 in
theorem k_law_24_xIAE {p : Program} {l : Launch} {e : Env} {R : Room} {s : State} {m : MethodId} {args : Array Value} {below : List Frame} {meth : Method} {c : Code} {H : Heap} {locs : List Loc} {cells slots : Nat} {Q : State → Prop} {G : xGl} {sa q : Nat → Nat} {v : xSt} {A : Nat → Prop} {ls : Array Slot} {b L : Nat} {xs : Nat → Int32} {i : Int32} (hst : l.stackTraces = false) (hC : CallFix p m c cL_law 9 s args lw_tbl RL) (hin : ∀ w ∈ wG, w ∈ lw_tbl) (hT : xT G sa A s s.heap) (hX : va_X b L xs s s.heap) (hbl : b < s.heap.size) (hbA : ¬ A b) (hcs : cells + 1 ≤ room_1.cells ∧ slots + 6 ≤ room_1.slots) (h : hg G (LW G) 439 q v A s H locs) (hl : lv_has ls 9 [(0, .ref b), (1, .ref (q 0)), (2, .ref (q 431)), (3, .ref (q 430)), (4, .int i)]) {z : xSt} (hf : m_law_24_xIAE v xs L i = some z) (kk : ∀ (H : Heap) (locs : List Loc) (ls : Array Slot), hg G (LW G) 439 q z A s H locs → lv_has ls 9 [(0, .ref b), (1, .ref (q 0)), (2, .ref (q 431)), (3, .ref (q 430)), (4, .int i)] → W p l e room_1 s m args below meth c H locs (cells + 1) (slots + 6) Q (F0 m 1839 ls [])) : W p l e room_1 s m args below meth c H locs cells slots Q (F0 m 1317 ls []) := by
  have hx := hC.1
  have hb := hC.2.1
  have hc0 : cells ≤ room_1.cells ∧ slots ≤ room_1.slots := ⟨Nat.le_of_succ_le hcs.1, Nat.le_trans (Nat.le_add_right _ _) hcs.2⟩
  unfold m_law_24_xIAE at hf
  refine lv_aload_n hx hb dL_law_1317 rfl (lv_at hl 1 rfl) ?_
  refine lv_aload_n hx hb dL_law_1318 rfl (lv_at hl 0 rfl) ?_
  refine lv_iload hx hb dL_law_1319 (lv_at hl 4 rfl) ?_
  refine lv_iconst (v := (1 : Int32)) hx hb dL_law_1321 (by decide) ?_
  refine lv_iadd hx hb dL_law_1322 ?_
  obtain ⟨hi1, hf⟩ := ck_e hf
  refine va_sld hx hb hX hbl hbA h.1.2.2.1 hi1 dL_law_1323 ?_
  refine lv_aload_n hx hb dL_law_1324 rfl (lv_at hl 0 rfl) ?_
  refine lv_iload hx hb dL_law_1325 (lv_at hl 4 rfl) ?_
  refine lv_iconst (v := (2 : Int32)) hx hb dL_law_1327 (by decide) ?_
  refine lv_iadd hx hb dL_law_1328 ?_
  obtain ⟨hi2, hf⟩ := ck_e hf
  refine va_sld hx hb hX hbl hbA h.1.2.2.1 hi2 dL_law_1329 ?_
  refine lv_aload_n hx hb dL_law_1330 rfl (lv_at hl 3 rfl) ?_
  obtain ⟨r3, hy4, hf⟩ := ob_e hf
  refine xipc h 431 sLW_0 (Nat.le_of_ble_eq_true rfl) (vx_runSW (As := [.ref (q 0), .int (xs (i + (1 : Int32)).toNatClampNeg), .int (xs (i + (2 : Int32)).toNatClampNeg), .ref (q 430)]) (rest := []) hC (x_L_work_xIAE l hst G sa q v (xs (i + (1 : Int32)).toNatClampNeg) (xs (i + (2 : Int32)).toNatClampNeg) (xthE_e hy4) H.size) (xcgSW hC hin lk_L_184 in_L co_L_work st_L_work rfl rfl dd_L_work ⟨Nat.le_of_ble_eq_true rfl, Nat.le_of_ble_eq_true rfl⟩) (preSP h hT 431 sLW_0 (Nat.le_of_ble_eq_true rfl) [.ref (q 0), .int (xs (i + (1 : Int32)).toNatClampNeg), .int (xs (i + (2 : Int32)).toNatClampNeg), .ref (q 430)]) rfl rfl hl.1 rfl (lv_room (Nat.le_of_ble_eq_true rfl)) dL_law_1331 hcs) (fun H locs h => ?_)
  obtain ⟨v5, ev5, hf⟩ := lt_e hf
  rw [← ev5] at h
  refine lv_istore (lv' := [(5, .int (1 : Int32)), (0, .ref b), (1, .ref (q 0)), (2, .ref (q 431)), (3, .ref (q 430)), (4, .int i)]) hx hb dL_law_1334 hl (by decide) rfl (fun ls hl => ?_)
  refine lv_aload_n hx hb dL_law_1336 rfl (lv_at hl 3 rfl) ?_
  refine lv_aload_n hx hb dL_law_1337 rfl (lv_at hl 1 rfl) ?_
  refine lv_iload hx hb dL_law_1338 (lv_at hl 5 rfl) ?_
  refine lv_iconst (v := (1 : Int32)) hx hb dL_law_1340 (by decide) ?_
  refine lv_iadd hx hb dL_law_1341 ?_
  obtain ⟨hi6, hf⟩ := ck_e hf
  refine va_sld hx hb hX hbl hbA h.1.2.2.1 hi6 dL_law_1342 ?_
  refine lv_aload_n hx hb dL_law_1343 rfl (lv_at hl 1 rfl) ?_
  refine lv_iload hx hb dL_law_1344 (lv_at hl 5 rfl) ?_
  refine lv_iconst (v := (2 : Int32)) hx hb dL_law_1346 (by decide) ?_
  refine lv_iadd hx hb dL_law_1347 ?_
  obtain ⟨hi7, hf⟩ := ck_e hf
  refine va_sld hx hb hX hbl hbA h.1.2.2.1 hi7 dL_law_1348 ?_
  obtain ⟨r9, hy8, hf⟩ := ob_e hf
  refine xi1 h 431 8 sLW_431 (Nat.le_of_ble_eq_true rfl) (va_runV (As := [.int (xs (i + (1 : Int32)).toNatClampNeg), .int (xs (i + (2 : Int32)).toNatClampNeg)]) (rest := []) hC (c_X9_work l G (sh 431 q) (sh 431 v5) (xs (i + (1 : Int32)).toNatClampNeg) (xs (i + (2 : Int32)).toNatClampNeg) hy8 H.size) (xcgV hC hin lk_L_186 in_X9 co_X9_work im_X9_work se_X9_work rfl rfl dd_X9_work ⟨Nat.le_of_ble_eq_true rfl, Nat.le_of_ble_eq_true rfl⟩) (preV1 h 431 8 sLW_431 (Nat.le_of_ble_eq_true rfl) (Nat.le_of_ble_eq_true rfl) eLW_431 rfl [.int (xs (i + (1 : Int32)).toNatClampNeg), .int (xs (i + (2 : Int32)).toNatClampNeg)]) rfl rfl hl.1 rfl (lv_room (Nat.le_of_ble_eq_true rfl)) dL_law_1349 hcs) (fun H locs h => ?_)
  obtain ⟨v10, ev10, hf⟩ := lt_e hf
  rw [← ev10] at h
  refine lv_istore (lv' := [(6, .int r9.1), (5, .int (1 : Int32)), (0, .ref b), (1, .ref (q 0)), (2, .ref (q 431)), (3, .ref (q 430)), (4, .int i)]) hx hb dL_law_1352 hl (by decide) rfl (fun ls hl => ?_)
  refine lv_aload_n hx hb dL_law_1354 rfl (lv_at hl 4 rfl) ?_
  obtain ⟨r12, hy11, hf⟩ := ob_e hf
  refine xiG h (va_runV (As := []) (rest := []) hC (c_X9_thrown l G (sh 431 q) (sh 431 v10) hy11 H.size) (xcgV hC hin lk_L_104 in_X9 co_X9_thrown im_X9_thrown se_X9_thrown rfl rfl dd_X9_thrown ⟨Nat.le_of_ble_eq_true rfl, Nat.le_of_ble_eq_true rfl⟩) (preVO h.o 431 8 sLW_431 (Nat.le_of_ble_eq_true rfl) (Nat.le_of_ble_eq_true rfl) eLW_431 rfl []) rfl rfl hl.1 rfl (lv_room (Nat.le_of_ble_eq_true rfl)) dL_law_1355 hcs) (fun H locs h => ?_)
  refine lv_iload hx hb dL_law_1358 (lv_at hl 1 rfl) ?_
  refine lv_icmp_eq (tgt := 1365) hx hb dL_law_1360 (by decide) (fun c13 => ?_) (fun c13 => ?_)
  · have hf := it_t c13 hf
    refine lv_iload hx hb dL_law_1365 (lv_at hl 1 rfl) ?_
    refine lv_if_ne (tgt := 1382) hx hb dL_law_1367 (by decide) (fun c14 => ?_) (fun c14 => ?_)
    · have hf := it_f c14 hf
      refine lv_goto (tgt := 1839) hx hb dL_law_1382 (by decide) ?_
      have hf := sm_e hf
      subst hf
      refine W.widen (k := cells + 1) (n := slots + 6) (by omega) (by omega) ?_
      exact kk H locs ls h (lv_sub hl [2, 3, 4, 5, 6] rfl)
    · have hf := it_t c14 hf
      refine lv_aload_n hx hb dL_law_1370 rfl (lv_at hl 5 rfl) ?_
      refine lv_iconst (v := (0 : Int32)) hx hb dL_law_1371 (by decide) ?_
      refine xlald hC h.o 430 (Nat.le_of_ble_eq_true rfl) eLW_430 dL_law_1372 ?_
      refine lv_iload hx hb dL_law_1373 (lv_at hl 0 rfl) ?_
      refine lv_i2l hx hb dL_law_1375 rfl ?_
      refine W.lcmp hx hb dL_law_1376 ?_
      refine lv_if_eq (tgt := 1382) hx hb dL_law_1377 (by decide) (fun c15 => ?_) (fun c15 => ?_)
      · have hf := it_t c15 hf
        refine lv_goto (tgt := 1839) hx hb dL_law_1382 (by decide) ?_
        have hf := sm_e hf
        subst hf
        refine W.widen (k := cells + 1) (n := slots + 6) (by omega) (by omega) ?_
        exact kk H locs ls h (lv_sub hl [2, 3, 4, 5, 6] rfl)
      · have hf := it_f c15 hf
        cases hf
  · have hf := it_f c13 hf
    cases hf
def m_law_25 (v : xSt) (xs : Nat → Int32) (L : Nat) (i : Int32) : Option xSt := ck (¬ ((i + (1 : Int32)) < 0 ∨ L ≤ (i + (1 : Int32)).toNatClampNeg)) (ck (¬ ((i + (2 : Int32)) < 0 ∨ L ≤ (i + (2 : Int32)).toNatClampNeg)) (ob (m_L_order v (xs (i + (1 : Int32)).toNatClampNeg) (xs (i + (2 : Int32)).toNatClampNeg)) (fun r3 => lt (pu 0 431 v r3.2) (fun v5 => ck (¬ ((i + (1 : Int32)) < 0 ∨ L ≤ (i + (1 : Int32)).toNatClampNeg)) (ck (¬ ((i + (2 : Int32)) < 0 ∨ L ≤ (i + (2 : Int32)).toNatClampNeg)) (ob (m_X9_order (sh 431 v5) (xs (i + (1 : Int32)).toNatClampNeg) (xs (i + (2 : Int32)).toNatClampNeg)) (fun r9 => lt (pu 431 8 v5 r9.2) (fun v10 => ob (m_X9_thrown (sh 431 v10)) (fun r12 => (if r12 = r3.1 then (if r3.1 = 0 then (if (lg_cmp ((v10 430 0).toInt64) ((r9.1).toInt64)) = 0 then some v10 else none) else some v10) else none))))))))))
set_option maxHeartbeats 4000000 in
set_option maxRecDepth 100000 in
theorem k_law_25 {p : Program} {l : Launch} {e : Env} {R : Room} {s : State} {m : MethodId} {args : Array Value} {below : List Frame} {meth : Method} {c : Code} {H : Heap} {locs : List Loc} {cells slots : Nat} {Q : State → Prop} {G : xGl} {sa q : Nat → Nat} {v : xSt} {A : Nat → Prop} {ls : Array Slot} {b L : Nat} {xs : Nat → Int32} {i : Int32} (hst : l.stackTraces = false) (hC : CallFix p m c cL_law 9 s args lw_tbl RL) (hin : ∀ w ∈ wG, w ∈ lw_tbl) (hT : xT G sa A s s.heap) (hX : va_X b L xs s s.heap) (hbl : b < s.heap.size) (hbA : ¬ A b) (hcs : cells + 1 ≤ room_1.cells ∧ slots + 6 ≤ room_1.slots) (h : hg G (LW G) 439 q v A s H locs) (hl : lv_has ls 9 [(0, .ref b), (1, .ref (q 0)), (2, .ref (q 431)), (3, .ref (q 430)), (4, .int i)]) {z : xSt} (hf : m_law_25 v xs L i = some z) (kk : ∀ (H : Heap) (locs : List Loc) (ls : Array Slot), hg G (LW G) 439 q z A s H locs → lv_has ls 9 [(0, .ref b), (1, .ref (q 0)), (2, .ref (q 431)), (3, .ref (q 430)), (4, .int i)] → W p l e room_1 s m args below meth c H locs (cells + 1) (slots + 6) Q (F0 m 1839 ls [])) : W p l e room_1 s m args below meth c H locs cells slots Q (F0 m 1385 ls []) := by
  have hx := hC.1
  have hb := hC.2.1
  have hc0 : cells ≤ room_1.cells ∧ slots ≤ room_1.slots := ⟨Nat.le_of_succ_le hcs.1, Nat.le_trans (Nat.le_add_right _ _) hcs.2⟩
  unfold m_law_25 at hf
  refine lv_aload_n hx hb dL_law_1385 rfl (lv_at hl 1 rfl) ?_
  refine lv_aload_n hx hb dL_law_1386 rfl (lv_at hl 0 rfl) ?_
  refine lv_iload hx hb dL_law_1387 (lv_at hl 4 rfl) ?_
  refine lv_iconst (v := (1 : Int32)) hx hb dL_law_1389 (by decide) ?_
  refine lv_iadd hx hb dL_law_1390 ?_
  obtain ⟨hi1, hf⟩ := ck_e hf
  refine va_sld hx hb hX hbl hbA h.1.2.2.1 hi1 dL_law_1391 ?_
  refine lv_aload_n hx hb dL_law_1392 rfl (lv_at hl 0 rfl) ?_
  refine lv_iload hx hb dL_law_1393 (lv_at hl 4 rfl) ?_
  refine lv_iconst (v := (2 : Int32)) hx hb dL_law_1395 (by decide) ?_
  refine lv_iadd hx hb dL_law_1396 ?_
  obtain ⟨hi2, hf⟩ := ck_e hf
  refine va_sld hx hb hX hbl hbA h.1.2.2.1 hi2 dL_law_1397 ?_
  refine lv_aload_n hx hb dL_law_1398 rfl (lv_at hl 3 rfl) ?_
  obtain ⟨r3, hy4, hf⟩ := ob_e hf
  refine xipc h 431 sLW_0 (Nat.le_of_ble_eq_true rfl) (vx_runSW (As := [.ref (q 0), .int (xs (i + (1 : Int32)).toNatClampNeg), .int (xs (i + (2 : Int32)).toNatClampNeg), .ref (q 430)]) (rest := []) hC (c_L_order l G sa q v (xs (i + (1 : Int32)).toNatClampNeg) (xs (i + (2 : Int32)).toNatClampNeg) hy4 H.size) (xcgSW hC hin lk_L_187 in_L co_L_order st_L_order rfl rfl dd_L_order ⟨Nat.le_of_ble_eq_true rfl, Nat.le_of_ble_eq_true rfl⟩) (preSP h hT 431 sLW_0 (Nat.le_of_ble_eq_true rfl) [.ref (q 0), .int (xs (i + (1 : Int32)).toNatClampNeg), .int (xs (i + (2 : Int32)).toNatClampNeg), .ref (q 430)]) rfl rfl hl.1 rfl (lv_room (Nat.le_of_ble_eq_true rfl)) dL_law_1399 ⟨Nat.le_of_succ_le hcs.1, Nat.le_trans (Nat.le_add_right _ _) hcs.2⟩) (fun H locs h => ?_)
  obtain ⟨v5, ev5, hf⟩ := lt_e hf
  rw [← ev5] at h
  refine lv_istore (lv' := [(5, .int r3.1), (0, .ref b), (1, .ref (q 0)), (2, .ref (q 431)), (3, .ref (q 430)), (4, .int i)]) hx hb dL_law_1402 hl (by decide) rfl (fun ls hl => ?_)
  refine lv_aload_n hx hb dL_law_1404 rfl (lv_at hl 3 rfl) ?_
  refine lv_aload_n hx hb dL_law_1405 rfl (lv_at hl 1 rfl) ?_
  refine lv_iload hx hb dL_law_1406 (lv_at hl 5 rfl) ?_
  refine lv_iconst (v := (1 : Int32)) hx hb dL_law_1408 (by decide) ?_
  refine lv_iadd hx hb dL_law_1409 ?_
  obtain ⟨hi6, hf⟩ := ck_e hf
  refine va_sld hx hb hX hbl hbA h.1.2.2.1 hi6 dL_law_1410 ?_
  refine lv_aload_n hx hb dL_law_1411 rfl (lv_at hl 1 rfl) ?_
  refine lv_iload hx hb dL_law_1412 (lv_at hl 5 rfl) ?_
  refine lv_iconst (v := (2 : Int32)) hx hb dL_law_1414 (by decide) ?_
  refine lv_iadd hx hb dL_law_1415 ?_
  obtain ⟨hi7, hf⟩ := ck_e hf
  refine va_sld hx hb hX hbl hbA h.1.2.2.1 hi7 dL_law_1416 ?_
  obtain ⟨r9, hy8, hf⟩ := ob_e hf
  refine xi1 h 431 8 sLW_431 (Nat.le_of_ble_eq_true rfl) (va_runV (As := [.int (xs (i + (1 : Int32)).toNatClampNeg), .int (xs (i + (2 : Int32)).toNatClampNeg)]) (rest := []) hC (c_X9_order l G (sh 431 q) (sh 431 v5) (xs (i + (1 : Int32)).toNatClampNeg) (xs (i + (2 : Int32)).toNatClampNeg) hy8 H.size) (xcgV hC hin lk_L_189 in_X9 co_X9_order im_X9_order se_X9_order rfl rfl dd_X9_order ⟨Nat.le_of_ble_eq_true rfl, Nat.le_of_ble_eq_true rfl⟩) (preV1 h 431 8 sLW_431 (Nat.le_of_ble_eq_true rfl) (Nat.le_of_ble_eq_true rfl) eLW_431 rfl [.int (xs (i + (1 : Int32)).toNatClampNeg), .int (xs (i + (2 : Int32)).toNatClampNeg)]) rfl rfl hl.1 rfl (lv_room (Nat.le_of_ble_eq_true rfl)) dL_law_1417 hc0) (fun H locs h => ?_)
  obtain ⟨v10, ev10, hf⟩ := lt_e hf
  rw [← ev10] at h
  refine lv_istore (lv' := [(6, .int r9.1), (5, .int r3.1), (0, .ref b), (1, .ref (q 0)), (2, .ref (q 431)), (3, .ref (q 430)), (4, .int i)]) hx hb dL_law_1420 hl (by decide) rfl (fun ls hl => ?_)
  refine lv_aload_n hx hb dL_law_1422 rfl (lv_at hl 4 rfl) ?_
  obtain ⟨r12, hy11, hf⟩ := ob_e hf
  refine xiG h (va_runV (As := []) (rest := []) hC (c_X9_thrown l G (sh 431 q) (sh 431 v10) hy11 H.size) (xcgV hC hin lk_L_104 in_X9 co_X9_thrown im_X9_thrown se_X9_thrown rfl rfl dd_X9_thrown ⟨Nat.le_of_ble_eq_true rfl, Nat.le_of_ble_eq_true rfl⟩) (preVO h.o 431 8 sLW_431 (Nat.le_of_ble_eq_true rfl) (Nat.le_of_ble_eq_true rfl) eLW_431 rfl []) rfl rfl hl.1 rfl (lv_room (Nat.le_of_ble_eq_true rfl)) dL_law_1423 hc0) (fun H locs h => ?_)
  refine lv_iload hx hb dL_law_1426 (lv_at hl 1 rfl) ?_
  refine lv_icmp_eq (tgt := 1433) hx hb dL_law_1428 (by decide) (fun c13 => ?_) (fun c13 => ?_)
  · have hf := it_t c13 hf
    refine lv_iload hx hb dL_law_1433 (lv_at hl 1 rfl) ?_
    refine lv_if_ne (tgt := 1450) hx hb dL_law_1435 (by decide) (fun c14 => ?_) (fun c14 => ?_)
    · have hf := it_f c14 hf
      refine lv_goto (tgt := 1839) hx hb dL_law_1450 (by decide) ?_
      have hf := sm_e hf
      subst hf
      refine W.widen (k := cells + 1) (n := slots + 6) (by omega) (by omega) ?_
      exact kk H locs ls h (lv_sub hl [2, 3, 4, 5, 6] rfl)
    · have hf := it_t c14 hf
      refine lv_aload_n hx hb dL_law_1438 rfl (lv_at hl 5 rfl) ?_
      refine lv_iconst (v := (0 : Int32)) hx hb dL_law_1439 (by decide) ?_
      refine xlald hC h.o 430 (Nat.le_of_ble_eq_true rfl) eLW_430 dL_law_1440 ?_
      refine lv_iload hx hb dL_law_1441 (lv_at hl 0 rfl) ?_
      refine lv_i2l hx hb dL_law_1443 rfl ?_
      refine W.lcmp hx hb dL_law_1444 ?_
      refine lv_if_eq (tgt := 1450) hx hb dL_law_1445 (by decide) (fun c15 => ?_) (fun c15 => ?_)
      · have hf := it_t c15 hf
        refine lv_goto (tgt := 1839) hx hb dL_law_1450 (by decide) ?_
        have hf := sm_e hf
        subst hf
        refine W.widen (k := cells + 1) (n := slots + 6) (by omega) (by omega) ?_
        exact kk H locs ls h (lv_sub hl [2, 3, 4, 5, 6] rfl)
      · have hf := it_f c15 hf
        cases hf
  · have hf := it_f c13 hf
    cases hf
def m_law_25_xIOB (v : xSt) (xs : Nat → Int32) (L : Nat) (i : Int32) : Option xSt := ck (¬ ((i + (1 : Int32)) < 0 ∨ L ≤ (i + (1 : Int32)).toNatClampNeg)) (ck (¬ ((i + (2 : Int32)) < 0 ∨ L ≤ (i + (2 : Int32)).toNatClampNeg)) (ob (xthE xIOB (m_X8_order_t v (xs (i + (1 : Int32)).toNatClampNeg) (xs (i + (2 : Int32)).toNatClampNeg))) (fun r3 => lt (pu 0 431 v (pu 0 430 v r3)) (fun v5 => ck (¬ ((i + (1 : Int32)) < 0 ∨ L ≤ (i + (1 : Int32)).toNatClampNeg)) (ck (¬ ((i + (2 : Int32)) < 0 ∨ L ≤ (i + (2 : Int32)).toNatClampNeg)) (ob (m_X9_order (sh 431 v5) (xs (i + (1 : Int32)).toNatClampNeg) (xs (i + (2 : Int32)).toNatClampNeg)) (fun r9 => lt (pu 431 8 v5 r9.2) (fun v10 => ob (m_X9_thrown (sh 431 v10)) (fun r12 => (if r12 = (1 : Int32) then (if (1 : Int32) = 0 then (if (lg_cmp ((v10 430 0).toInt64) ((r9.1).toInt64)) = 0 then some v10 else none) else some v10) else none))))))))))
set_option maxHeartbeats 4000000 in
set_option maxRecDepth 100000 in
theorem k_law_25_xIOB {p : Program} {l : Launch} {e : Env} {R : Room} {s : State} {m : MethodId} {args : Array Value} {below : List Frame} {meth : Method} {c : Code} {H : Heap} {locs : List Loc} {cells slots : Nat} {Q : State → Prop} {G : xGl} {sa q : Nat → Nat} {v : xSt} {A : Nat → Prop} {ls : Array Slot} {b L : Nat} {xs : Nat → Int32} {i : Int32} (hst : l.stackTraces = false) (hC : CallFix p m c cL_law 9 s args lw_tbl RL) (hin : ∀ w ∈ wG, w ∈ lw_tbl) (hT : xT G sa A s s.heap) (hX : va_X b L xs s s.heap) (hbl : b < s.heap.size) (hbA : ¬ A b) (hcs : cells + 1 ≤ room_1.cells ∧ slots + 6 ≤ room_1.slots) (h : hg G (LW G) 439 q v A s H locs) (hl : lv_has ls 9 [(0, .ref b), (1, .ref (q 0)), (2, .ref (q 431)), (3, .ref (q 430)), (4, .int i)]) {z : xSt} (hf : m_law_25_xIOB v xs L i = some z) (kk : ∀ (H : Heap) (locs : List Loc) (ls : Array Slot), hg G (LW G) 439 q z A s H locs → lv_has ls 9 [(0, .ref b), (1, .ref (q 0)), (2, .ref (q 431)), (3, .ref (q 430)), (4, .int i)] → W p l e room_1 s m args below meth c H locs (cells + 1) (slots + 6) Q (F0 m 1839 ls [])) : W p l e room_1 s m args below meth c H locs cells slots Q (F0 m 1385 ls []) := by
  have hx := hC.1
  have hb := hC.2.1
  have hc0 : cells ≤ room_1.cells ∧ slots ≤ room_1.slots := ⟨Nat.le_of_succ_le hcs.1, Nat.le_trans (Nat.le_add_right _ _) hcs.2⟩
  unfold m_law_25_xIOB at hf
  refine lv_aload_n hx hb dL_law_1385 rfl (lv_at hl 1 rfl) ?_
  refine lv_aload_n hx hb dL_law_1386 rfl (lv_at hl 0 rfl) ?_
  refine lv_iload hx hb dL_law_1387 (lv_at hl 4 rfl) ?_
  refine lv_iconst (v := (1 : Int32)) hx hb dL_law_1389 (by decide) ?_
  refine lv_iadd hx hb dL_law_1390 ?_
  obtain ⟨hi1, hf⟩ := ck_e hf
  refine va_sld hx hb hX hbl hbA h.1.2.2.1 hi1 dL_law_1391 ?_
  refine lv_aload_n hx hb dL_law_1392 rfl (lv_at hl 0 rfl) ?_
  refine lv_iload hx hb dL_law_1393 (lv_at hl 4 rfl) ?_
  refine lv_iconst (v := (2 : Int32)) hx hb dL_law_1395 (by decide) ?_
  refine lv_iadd hx hb dL_law_1396 ?_
  obtain ⟨hi2, hf⟩ := ck_e hf
  refine va_sld hx hb hX hbl hbA h.1.2.2.1 hi2 dL_law_1397 ?_
  refine lv_aload_n hx hb dL_law_1398 rfl (lv_at hl 3 rfl) ?_
  obtain ⟨r3, hy4, hf⟩ := ob_e hf
  refine xipc h 431 sLW_0 (Nat.le_of_ble_eq_true rfl) (vx_runSW (As := [.ref (q 0), .int (xs (i + (1 : Int32)).toNatClampNeg), .int (xs (i + (2 : Int32)).toNatClampNeg), .ref (q 430)]) (rest := []) hC (x_L_order_xIOB l hst G sa q v (xs (i + (1 : Int32)).toNatClampNeg) (xs (i + (2 : Int32)).toNatClampNeg) (xthE_e hy4) H.size) (xcgSW hC hin lk_L_187 in_L co_L_order st_L_order rfl rfl dd_L_order ⟨Nat.le_of_ble_eq_true rfl, Nat.le_of_ble_eq_true rfl⟩) (preSP h hT 431 sLW_0 (Nat.le_of_ble_eq_true rfl) [.ref (q 0), .int (xs (i + (1 : Int32)).toNatClampNeg), .int (xs (i + (2 : Int32)).toNatClampNeg), .ref (q 430)]) rfl rfl hl.1 rfl (lv_room (Nat.le_of_ble_eq_true rfl)) dL_law_1399 hcs) (fun H locs h => ?_)
  obtain ⟨v5, ev5, hf⟩ := lt_e hf
  rw [← ev5] at h
  refine lv_istore (lv' := [(5, .int (1 : Int32)), (0, .ref b), (1, .ref (q 0)), (2, .ref (q 431)), (3, .ref (q 430)), (4, .int i)]) hx hb dL_law_1402 hl (by decide) rfl (fun ls hl => ?_)
  refine lv_aload_n hx hb dL_law_1404 rfl (lv_at hl 3 rfl) ?_
  refine lv_aload_n hx hb dL_law_1405 rfl (lv_at hl 1 rfl) ?_
  refine lv_iload hx hb dL_law_1406 (lv_at hl 5 rfl) ?_
  refine lv_iconst (v := (1 : Int32)) hx hb dL_law_1408 (by decide) ?_
  refine lv_iadd hx hb dL_law_1409 ?_
  obtain ⟨hi6, hf⟩ := ck_e hf
  refine va_sld hx hb hX hbl hbA h.1.2.2.1 hi6 dL_law_1410 ?_
  refine lv_aload_n hx hb dL_law_1411 rfl (lv_at hl 1 rfl) ?_
  refine lv_iload hx hb dL_law_1412 (lv_at hl 5 rfl) ?_
  refine lv_iconst (v := (2 : Int32)) hx hb dL_law_1414 (by decide) ?_
  refine lv_iadd hx hb dL_law_1415 ?_
  obtain ⟨hi7, hf⟩ := ck_e hf
  refine va_sld hx hb hX hbl hbA h.1.2.2.1 hi7 dL_law_1416 ?_
  obtain ⟨r9, hy8, hf⟩ := ob_e hf
  refine xi1 h 431 8 sLW_431 (Nat.le_of_ble_eq_true rfl) (va_runV (As := [.int (xs (i + (1 : Int32)).toNatClampNeg), .int (xs (i + (2 : Int32)).toNatClampNeg)]) (rest := []) hC (c_X9_order l G (sh 431 q) (sh 431 v5) (xs (i + (1 : Int32)).toNatClampNeg) (xs (i + (2 : Int32)).toNatClampNeg) hy8 H.size) (xcgV hC hin lk_L_189 in_X9 co_X9_order im_X9_order se_X9_order rfl rfl dd_X9_order ⟨Nat.le_of_ble_eq_true rfl, Nat.le_of_ble_eq_true rfl⟩) (preV1 h 431 8 sLW_431 (Nat.le_of_ble_eq_true rfl) (Nat.le_of_ble_eq_true rfl) eLW_431 rfl [.int (xs (i + (1 : Int32)).toNatClampNeg), .int (xs (i + (2 : Int32)).toNatClampNeg)]) rfl rfl hl.1 rfl (lv_room (Nat.le_of_ble_eq_true rfl)) dL_law_1417 hcs) (fun H locs h => ?_)
  obtain ⟨v10, ev10, hf⟩ := lt_e hf
  rw [← ev10] at h
  refine lv_istore (lv' := [(6, .int r9.1), (5, .int (1 : Int32)), (0, .ref b), (1, .ref (q 0)), (2, .ref (q 431)), (3, .ref (q 430)), (4, .int i)]) hx hb dL_law_1420 hl (by decide) rfl (fun ls hl => ?_)
  refine lv_aload_n hx hb dL_law_1422 rfl (lv_at hl 4 rfl) ?_
  obtain ⟨r12, hy11, hf⟩ := ob_e hf
  refine xiG h (va_runV (As := []) (rest := []) hC (c_X9_thrown l G (sh 431 q) (sh 431 v10) hy11 H.size) (xcgV hC hin lk_L_104 in_X9 co_X9_thrown im_X9_thrown se_X9_thrown rfl rfl dd_X9_thrown ⟨Nat.le_of_ble_eq_true rfl, Nat.le_of_ble_eq_true rfl⟩) (preVO h.o 431 8 sLW_431 (Nat.le_of_ble_eq_true rfl) (Nat.le_of_ble_eq_true rfl) eLW_431 rfl []) rfl rfl hl.1 rfl (lv_room (Nat.le_of_ble_eq_true rfl)) dL_law_1423 hcs) (fun H locs h => ?_)
  refine lv_iload hx hb dL_law_1426 (lv_at hl 1 rfl) ?_
  refine lv_icmp_eq (tgt := 1433) hx hb dL_law_1428 (by decide) (fun c13 => ?_) (fun c13 => ?_)
  · have hf := it_t c13 hf
    refine lv_iload hx hb dL_law_1433 (lv_at hl 1 rfl) ?_
    refine lv_if_ne (tgt := 1450) hx hb dL_law_1435 (by decide) (fun c14 => ?_) (fun c14 => ?_)
    · have hf := it_f c14 hf
      refine lv_goto (tgt := 1839) hx hb dL_law_1450 (by decide) ?_
      have hf := sm_e hf
      subst hf
      refine W.widen (k := cells + 1) (n := slots + 6) (by omega) (by omega) ?_
      exact kk H locs ls h (lv_sub hl [2, 3, 4, 5, 6] rfl)
    · have hf := it_t c14 hf
      refine lv_aload_n hx hb dL_law_1438 rfl (lv_at hl 5 rfl) ?_
      refine lv_iconst (v := (0 : Int32)) hx hb dL_law_1439 (by decide) ?_
      refine xlald hC h.o 430 (Nat.le_of_ble_eq_true rfl) eLW_430 dL_law_1440 ?_
      refine lv_iload hx hb dL_law_1441 (lv_at hl 0 rfl) ?_
      refine lv_i2l hx hb dL_law_1443 rfl ?_
      refine W.lcmp hx hb dL_law_1444 ?_
      refine lv_if_eq (tgt := 1450) hx hb dL_law_1445 (by decide) (fun c15 => ?_) (fun c15 => ?_)
      · have hf := it_t c15 hf
        refine lv_goto (tgt := 1839) hx hb dL_law_1450 (by decide) ?_
        have hf := sm_e hf
        subst hf
        refine W.widen (k := cells + 1) (n := slots + 6) (by omega) (by omega) ?_
        exact kk H locs ls h (lv_sub hl [2, 3, 4, 5, 6] rfl)
      · have hf := it_f c15 hf
        cases hf
  · have hf := it_f c13 hf
    cases hf
def m_law_25_xIAE (v : xSt) (xs : Nat → Int32) (L : Nat) (i : Int32) : Option xSt := ck (¬ ((i + (1 : Int32)) < 0 ∨ L ≤ (i + (1 : Int32)).toNatClampNeg)) (ck (¬ ((i + (2 : Int32)) < 0 ∨ L ≤ (i + (2 : Int32)).toNatClampNeg)) (ob (xthE xIAE (m_X8_order_t v (xs (i + (1 : Int32)).toNatClampNeg) (xs (i + (2 : Int32)).toNatClampNeg))) (fun r3 => lt (pu 0 431 v (pu 0 430 v r3)) (fun v5 => ck (¬ ((i + (1 : Int32)) < 0 ∨ L ≤ (i + (1 : Int32)).toNatClampNeg)) (ck (¬ ((i + (2 : Int32)) < 0 ∨ L ≤ (i + (2 : Int32)).toNatClampNeg)) (ob (m_X9_order (sh 431 v5) (xs (i + (1 : Int32)).toNatClampNeg) (xs (i + (2 : Int32)).toNatClampNeg)) (fun r9 => lt (pu 431 8 v5 r9.2) (fun v10 => ob (m_X9_thrown (sh 431 v10)) (fun r12 => (if r12 = (2 : Int32) then (if (2 : Int32) = 0 then (if (lg_cmp ((v10 430 0).toInt64) ((r9.1).toInt64)) = 0 then some v10 else none) else some v10) else none))))))))))
set_option maxHeartbeats 4000000 in
set_option maxRecDepth 100000 in
theorem k_law_25_xIAE {p : Program} {l : Launch} {e : Env} {R : Room} {s : State} {m : MethodId} {args : Array Value} {below : List Frame} {meth : Method} {c : Code} {H : Heap} {locs : List Loc} {cells slots : Nat} {Q : State → Prop} {G : xGl} {sa q : Nat → Nat} {v : xSt} {A : Nat → Prop} {ls : Array Slot} {b L : Nat} {xs : Nat → Int32} {i : Int32} (hst : l.stackTraces = false) (hC : CallFix p m c cL_law 9 s args lw_tbl RL) (hin : ∀ w ∈ wG, w ∈ lw_tbl) (hT : xT G sa A s s.heap) (hX : va_X b L xs s s.heap) (hbl : b < s.heap.size) (hbA : ¬ A b) (hcs : cells + 1 ≤ room_1.cells ∧ slots + 6 ≤ room_1.slots) (h : hg G (LW G) 439 q v A s H locs) (hl : lv_has ls 9 [(0, .ref b), (1, .ref (q 0)), (2, .ref (q 431)), (3, .ref (q 430)), (4, .int i)]) {z : xSt} (hf : m_law_25_xIAE v xs L i = some z) (kk : ∀ (H : Heap) (locs : List Loc) (ls : Array Slot), hg G (LW G) 439 q z A s H locs → lv_has ls 9 [(0, .ref b), (1, .ref (q 0)), (2, .ref (q 431)), (3, .ref (q 430)), (4, .int i)] → W p l e room_1 s m args below meth c H locs (cells + 1) (slots + 6) Q (F0 m 1839 ls [])) : W p l e room_1 s m args below meth c H locs cells slots Q (F0 m 1385 ls []) := by
  have hx := hC.1
  have hb := hC.2.1
  have hc0 : cells ≤ room_1.cells ∧ slots ≤ room_1.slots := ⟨Nat.le_of_succ_le hcs.1, Nat.le_trans (Nat.le_add_right _ _) hcs.2⟩
  unfold m_law_25_xIAE at hf
  refine lv_aload_n hx hb dL_law_1385 rfl (lv_at hl 1 rfl) ?_
  refine lv_aload_n hx hb dL_law_1386 rfl (lv_at hl 0 rfl) ?_
  refine lv_iload hx hb dL_law_1387 (lv_at hl 4 rfl) ?_
  refine lv_iconst (v := (1 : Int32)) hx hb dL_law_1389 (by decide) ?_
  refine lv_iadd hx hb dL_law_1390 ?_
  obtain ⟨hi1, hf⟩ := ck_e hf
  refine va_sld hx hb hX hbl hbA h.1.2.2.1 hi1 dL_law_1391 ?_
  refine lv_aload_n hx hb dL_law_1392 rfl (lv_at hl 0 rfl) ?_
  refine lv_iload hx hb dL_law_1393 (lv_at hl 4 rfl) ?_
  refine lv_iconst (v := (2 : Int32)) hx hb dL_law_1395 (by decide) ?_
  refine lv_iadd hx hb dL_law_1396 ?_
  obtain ⟨hi2, hf⟩ := ck_e hf
  refine va_sld hx hb hX hbl hbA h.1.2.2.1 hi2 dL_law_1397 ?_
  refine lv_aload_n hx hb dL_law_1398 rfl (lv_at hl 3 rfl) ?_
  obtain ⟨r3, hy4, hf⟩ := ob_e hf
  refine xipc h 431 sLW_0 (Nat.le_of_ble_eq_true rfl) (vx_runSW (As := [.ref (q 0), .int (xs (i + (1 : Int32)).toNatClampNeg), .int (xs (i + (2 : Int32)).toNatClampNeg), .ref (q 430)]) (rest := []) hC (x_L_order_xIAE l hst G sa q v (xs (i + (1 : Int32)).toNatClampNeg) (xs (i + (2 : Int32)).toNatClampNeg) (xthE_e hy4) H.size) (xcgSW hC hin lk_L_187 in_L co_L_order st_L_order rfl rfl dd_L_order ⟨Nat.le_of_ble_eq_true rfl, Nat.le_of_ble_eq_true rfl⟩) (preSP h hT 431 sLW_0 (Nat.le_of_ble_eq_true rfl) [.ref (q 0), .int (xs (i + (1 : Int32)).toNatClampNeg), .int (xs (i + (2 : Int32)).toNatClampNeg), .ref (q 430)]) rfl rfl hl.1 rfl (lv_room (Nat.le_of_ble_eq_true rfl)) dL_law_1399 hcs) (fun H locs h => ?_)
  obtain ⟨v5, ev5, hf⟩ := lt_e hf
  rw [← ev5] at h
  refine lv_istore (lv' := [(5, .int (2 : Int32)), (0, .ref b), (1, .ref (q 0)), (2, .ref (q 431)), (3, .ref (q 430)), (4, .int i)]) hx hb dL_law_1402 hl (by decide) rfl (fun ls hl => ?_)
  refine lv_aload_n hx hb dL_law_1404 rfl (lv_at hl 3 rfl) ?_
  refine lv_aload_n hx hb dL_law_1405 rfl (lv_at hl 1 rfl) ?_
  refine lv_iload hx hb dL_law_1406 (lv_at hl 5 rfl) ?_
  refine lv_iconst (v := (1 : Int32)) hx hb dL_law_1408 (by decide) ?_
  refine lv_iadd hx hb dL_law_1409 ?_
  obtain ⟨hi6, hf⟩ := ck_e hf
  refine va_sld hx hb hX hbl hbA h.1.2.2.1 hi6 dL_law_1410 ?_
  refine lv_aload_n hx hb dL_law_1411 rfl (lv_at hl 1 rfl) ?_
  refine lv_iload hx hb dL_law_1412 (lv_at hl 5 rfl) ?_
  refine lv_iconst (v := (2 : Int32)) hx hb dL_law_1414 (by decide) ?_
  refine lv_iadd hx hb dL_law_1415 ?_
  obtain ⟨hi7, hf⟩ := ck_e hf
  refine va_sld hx hb hX hbl hbA h.1.2.2.1 hi7 dL_law_1416 ?_
  obtain ⟨r9, hy8, hf⟩ := ob_e hf
  refine xi1 h 431 8 sLW_431 (Nat.le_of_ble_eq_true rfl) (va_runV (As := [.int (xs (i + (1 : Int32)).toNatClampNeg), .int (xs (i + (2 : Int32)).toNatClampNeg)]) (rest := []) hC (c_X9_order l G (sh 431 q) (sh 431 v5) (xs (i + (1 : Int32)).toNatClampNeg) (xs (i + (2 : Int32)).toNatClampNeg) hy8 H.size) (xcgV hC hin lk_L_189 in_X9 co_X9_order im_X9_order se_X9_order rfl rfl dd_X9_order ⟨Nat.le_of_ble_eq_true rfl, Nat.le_of_ble_eq_true rfl⟩) (preV1 h 431 8 sLW_431 (Nat.le_of_ble_eq_true rfl) (Nat.le_of_ble_eq_true rfl) eLW_431 rfl [.int (xs (i + (1 : Int32)).toNatClampNeg), .int (xs (i + (2 : Int32)).toNatClampNeg)]) rfl rfl hl.1 rfl (lv_room (Nat.le_of_ble_eq_true rfl)) dL_law_1417 hcs) (fun H locs h => ?_)
  obtain ⟨v10, ev10, hf⟩ := lt_e hf
  rw [← ev10] at h
  refine lv_istore (lv' := [(6, .int r9.1), (5, .int (2 : Int32)), (0, .ref b), (1, .ref (q 0)), (2, .ref (q 431)), (3, .ref (q 430)), (4, .int i)]) hx hb dL_law_1420 hl (by decide) rfl (fun ls hl => ?_)
  refine lv_aload_n hx hb dL_law_1422 rfl (lv_at hl 4 rfl) ?_
  obtain ⟨r12, hy11, hf⟩ := ob_e hf
  refine xiG h (va_runV (As := []) (rest := []) hC (c_X9_thrown l G (sh 431 q) (sh 431 v10) hy11 H.size) (xcgV hC hin lk_L_104 in_X9 co_X9_thrown im_X9_thrown se_X9_thrown rfl rfl dd_X9_thrown ⟨Nat.le_of_ble_eq_true rfl, Nat.le_of_ble_eq_true rfl⟩) (preVO h.o 431 8 sLW_431 (Nat.le_of_ble_eq_true rfl) (Nat.le_of_ble_eq_true rfl) eLW_431 rfl []) rfl rfl hl.1 rfl (lv_room (Nat.le_of_ble_eq_true rfl)) dL_law_1423 hcs) (fun H locs h => ?_)
  refine lv_iload hx hb dL_law_1426 (lv_at hl 1 rfl) ?_
  refine lv_icmp_eq (tgt := 1433) hx hb dL_law_1428 (by decide) (fun c13 => ?_) (fun c13 => ?_)
  · have hf := it_t c13 hf
    refine lv_iload hx hb dL_law_1433 (lv_at hl 1 rfl) ?_
    refine lv_if_ne (tgt := 1450) hx hb dL_law_1435 (by decide) (fun c14 => ?_) (fun c14 => ?_)
    · have hf := it_f c14 hf
      refine lv_goto (tgt := 1839) hx hb dL_law_1450 (by decide) ?_
      have hf := sm_e hf
      subst hf
      refine W.widen (k := cells + 1) (n := slots + 6) (by omega) (by omega) ?_
      exact kk H locs ls h (lv_sub hl [2, 3, 4, 5, 6] rfl)
    · have hf := it_t c14 hf
      refine lv_aload_n hx hb dL_law_1438 rfl (lv_at hl 5 rfl) ?_
      refine lv_iconst (v := (0 : Int32)) hx hb dL_law_1439 (by decide) ?_
      refine xlald hC h.o 430 (Nat.le_of_ble_eq_true rfl) eLW_430 dL_law_1440 ?_
      refine lv_iload hx hb dL_law_1441 (lv_at hl 0 rfl) ?_
      refine lv_i2l hx hb dL_law_1443 rfl ?_
      refine W.lcmp hx hb dL_law_1444 ?_
      refine lv_if_eq (tgt := 1450) hx hb dL_law_1445 (by decide) (fun c15 => ?_) (fun c15 => ?_)
      · have hf := it_t c15 hf
        refine lv_goto (tgt := 1839) hx hb dL_law_1450 (by decide) ?_
        have hf := sm_e hf
        subst hf
        refine W.widen (k := cells + 1) (n := slots + 6) (by omega) (by omega) ?_
        exact kk H locs ls h (lv_sub hl [2, 3, 4, 5, 6] rfl)
      · have hf := it_f c15 hf
        cases hf
  · have hf := it_f c13 hf
    cases hf
def m_law_26 (v : xSt) (xs : Nat → Int32) (L : Nat) (i : Int32) : Option xSt := ck (¬ ((i + (1 : Int32)) < 0 ∨ L ≤ (i + (1 : Int32)).toNatClampNeg)) (ob (m_L_count v (xs (i + (1 : Int32)).toNatClampNeg)) (fun r2 => lt (pu 0 431 v r2.2) (fun v4 => ck (¬ ((i + (1 : Int32)) < 0 ∨ L ≤ (i + (1 : Int32)).toNatClampNeg)) (ob (m_X9_count (sh 431 v4) (xs (i + (1 : Int32)).toNatClampNeg)) (fun r7 => lt (pu 431 8 v4 r7.2) (fun v8 => ob (m_X9_thrown (sh 431 v8)) (fun r10 => (if r10 = r2.1 then (if r2.1 = 0 then (if (lg_cmp ((v8 430 0).toInt64) ((r7.1).toInt64)) = 0 then some v8 else none) else some v8) else none))))))))
set_option maxHeartbeats 4000000 in
set_option maxRecDepth 100000 in
theorem k_law_26 {p : Program} {l : Launch} {e : Env} {R : Room} {s : State} {m : MethodId} {args : Array Value} {below : List Frame} {meth : Method} {c : Code} {H : Heap} {locs : List Loc} {cells slots : Nat} {Q : State → Prop} {G : xGl} {sa q : Nat → Nat} {v : xSt} {A : Nat → Prop} {ls : Array Slot} {b L : Nat} {xs : Nat → Int32} {i : Int32} (hst : l.stackTraces = false) (hC : CallFix p m c cL_law 9 s args lw_tbl RL) (hin : ∀ w ∈ wG, w ∈ lw_tbl) (hT : xT G sa A s s.heap) (hX : va_X b L xs s s.heap) (hbl : b < s.heap.size) (hbA : ¬ A b) (hcs : cells + 1 ≤ room_1.cells ∧ slots + 6 ≤ room_1.slots) (h : hg G (LW G) 439 q v A s H locs) (hl : lv_has ls 9 [(0, .ref b), (1, .ref (q 0)), (2, .ref (q 431)), (3, .ref (q 430)), (4, .int i)]) {z : xSt} (hf : m_law_26 v xs L i = some z) (kk : ∀ (H : Heap) (locs : List Loc) (ls : Array Slot), hg G (LW G) 439 q z A s H locs → lv_has ls 9 [(0, .ref b), (1, .ref (q 0)), (2, .ref (q 431)), (3, .ref (q 430)), (4, .int i)] → W p l e room_1 s m args below meth c H locs (cells + 1) (slots + 6) Q (F0 m 1839 ls [])) : W p l e room_1 s m args below meth c H locs cells slots Q (F0 m 1453 ls []) := by
  have hx := hC.1
  have hb := hC.2.1
  have hc0 : cells ≤ room_1.cells ∧ slots ≤ room_1.slots := ⟨Nat.le_of_succ_le hcs.1, Nat.le_trans (Nat.le_add_right _ _) hcs.2⟩
  unfold m_law_26 at hf
  refine lv_aload_n hx hb dL_law_1453 rfl (lv_at hl 1 rfl) ?_
  refine lv_aload_n hx hb dL_law_1454 rfl (lv_at hl 0 rfl) ?_
  refine lv_iload hx hb dL_law_1455 (lv_at hl 4 rfl) ?_
  refine lv_iconst (v := (1 : Int32)) hx hb dL_law_1457 (by decide) ?_
  refine lv_iadd hx hb dL_law_1458 ?_
  obtain ⟨hi1, hf⟩ := ck_e hf
  refine va_sld hx hb hX hbl hbA h.1.2.2.1 hi1 dL_law_1459 ?_
  refine lv_aload_n hx hb dL_law_1460 rfl (lv_at hl 3 rfl) ?_
  obtain ⟨r2, hy3, hf⟩ := ob_e hf
  refine xipc h 431 sLW_0 (Nat.le_of_ble_eq_true rfl) (vx_runSW (As := [.ref (q 0), .int (xs (i + (1 : Int32)).toNatClampNeg), .ref (q 430)]) (rest := []) hC (c_L_count l G sa q v (xs (i + (1 : Int32)).toNatClampNeg) hy3 H.size) (xcgSW hC hin lk_L_190 in_L co_L_count st_L_count rfl rfl dd_L_count ⟨Nat.le_of_ble_eq_true rfl, Nat.le_of_ble_eq_true rfl⟩) (preSP h hT 431 sLW_0 (Nat.le_of_ble_eq_true rfl) [.ref (q 0), .int (xs (i + (1 : Int32)).toNatClampNeg), .ref (q 430)]) rfl rfl hl.1 rfl (lv_room (Nat.le_of_ble_eq_true rfl)) dL_law_1461 ⟨Nat.le_of_succ_le hcs.1, Nat.le_trans (Nat.le_add_right _ _) hcs.2⟩) (fun H locs h => ?_)
  obtain ⟨v4, ev4, hf⟩ := lt_e hf
  rw [← ev4] at h
  refine lv_istore (lv' := [(5, .int r2.1), (0, .ref b), (1, .ref (q 0)), (2, .ref (q 431)), (3, .ref (q 430)), (4, .int i)]) hx hb dL_law_1464 hl (by decide) rfl (fun ls hl => ?_)
  refine lv_aload_n hx hb dL_law_1466 rfl (lv_at hl 3 rfl) ?_
  refine lv_aload_n hx hb dL_law_1467 rfl (lv_at hl 1 rfl) ?_
  refine lv_iload hx hb dL_law_1468 (lv_at hl 5 rfl) ?_
  refine lv_iconst (v := (1 : Int32)) hx hb dL_law_1470 (by decide) ?_
  refine lv_iadd hx hb dL_law_1471 ?_
  obtain ⟨hi5, hf⟩ := ck_e hf
  refine va_sld hx hb hX hbl hbA h.1.2.2.1 hi5 dL_law_1472 ?_
  obtain ⟨r7, hy6, hf⟩ := ob_e hf
  refine xi1 h 431 8 sLW_431 (Nat.le_of_ble_eq_true rfl) (va_runV (As := [.int (xs (i + (1 : Int32)).toNatClampNeg)]) (rest := []) hC (c_X9_count l G (sh 431 q) (sh 431 v4) (xs (i + (1 : Int32)).toNatClampNeg) hy6 H.size) (xcgV hC hin lk_L_192 in_X9 co_X9_count im_X9_count se_X9_count rfl rfl dd_X9_count ⟨Nat.le_of_ble_eq_true rfl, Nat.le_of_ble_eq_true rfl⟩) (preV1 h 431 8 sLW_431 (Nat.le_of_ble_eq_true rfl) (Nat.le_of_ble_eq_true rfl) eLW_431 rfl [.int (xs (i + (1 : Int32)).toNatClampNeg)]) rfl rfl hl.1 rfl (lv_room (Nat.le_of_ble_eq_true rfl)) dL_law_1473 hc0) (fun H locs h => ?_)
  obtain ⟨v8, ev8, hf⟩ := lt_e hf
  rw [← ev8] at h
  refine lv_istore (lv' := [(6, .int r7.1), (5, .int r2.1), (0, .ref b), (1, .ref (q 0)), (2, .ref (q 431)), (3, .ref (q 430)), (4, .int i)]) hx hb dL_law_1476 hl (by decide) rfl (fun ls hl => ?_)
  refine lv_aload_n hx hb dL_law_1478 rfl (lv_at hl 4 rfl) ?_
  obtain ⟨r10, hy9, hf⟩ := ob_e hf
  refine xiG h (va_runV (As := []) (rest := []) hC (c_X9_thrown l G (sh 431 q) (sh 431 v8) hy9 H.size) (xcgV hC hin lk_L_104 in_X9 co_X9_thrown im_X9_thrown se_X9_thrown rfl rfl dd_X9_thrown ⟨Nat.le_of_ble_eq_true rfl, Nat.le_of_ble_eq_true rfl⟩) (preVO h.o 431 8 sLW_431 (Nat.le_of_ble_eq_true rfl) (Nat.le_of_ble_eq_true rfl) eLW_431 rfl []) rfl rfl hl.1 rfl (lv_room (Nat.le_of_ble_eq_true rfl)) dL_law_1479 hc0) (fun H locs h => ?_)
  refine lv_iload hx hb dL_law_1482 (lv_at hl 1 rfl) ?_
  refine lv_icmp_eq (tgt := 1489) hx hb dL_law_1484 (by decide) (fun c11 => ?_) (fun c11 => ?_)
  · have hf := it_t c11 hf
    refine lv_iload hx hb dL_law_1489 (lv_at hl 1 rfl) ?_
    refine lv_if_ne (tgt := 1506) hx hb dL_law_1491 (by decide) (fun c12 => ?_) (fun c12 => ?_)
    · have hf := it_f c12 hf
      refine lv_goto (tgt := 1839) hx hb dL_law_1506 (by decide) ?_
      have hf := sm_e hf
      subst hf
      refine W.widen (k := cells + 1) (n := slots + 6) (by omega) (by omega) ?_
      exact kk H locs ls h (lv_sub hl [2, 3, 4, 5, 6] rfl)
    · have hf := it_t c12 hf
      refine lv_aload_n hx hb dL_law_1494 rfl (lv_at hl 5 rfl) ?_
      refine lv_iconst (v := (0 : Int32)) hx hb dL_law_1495 (by decide) ?_
      refine xlald hC h.o 430 (Nat.le_of_ble_eq_true rfl) eLW_430 dL_law_1496 ?_
      refine lv_iload hx hb dL_law_1497 (lv_at hl 0 rfl) ?_
      refine lv_i2l hx hb dL_law_1499 rfl ?_
      refine W.lcmp hx hb dL_law_1500 ?_
      refine lv_if_eq (tgt := 1506) hx hb dL_law_1501 (by decide) (fun c13 => ?_) (fun c13 => ?_)
      · have hf := it_t c13 hf
        refine lv_goto (tgt := 1839) hx hb dL_law_1506 (by decide) ?_
        have hf := sm_e hf
        subst hf
        refine W.widen (k := cells + 1) (n := slots + 6) (by omega) (by omega) ?_
        exact kk H locs ls h (lv_sub hl [2, 3, 4, 5, 6] rfl)
      · have hf := it_f c13 hf
        cases hf
  · have hf := it_f c11 hf
    cases hf
def m_law_26_xIAE (v : xSt) (xs : Nat → Int32) (L : Nat) (i : Int32) : Option xSt := ck (¬ ((i + (1 : Int32)) < 0 ∨ L ≤ (i + (1 : Int32)).toNatClampNeg)) (ob (xthE xIAE (m_X8_count_t v (xs (i + (1 : Int32)).toNatClampNeg))) (fun r2 => lt (pu 0 431 v (pu 0 430 v r2)) (fun v4 => ck (¬ ((i + (1 : Int32)) < 0 ∨ L ≤ (i + (1 : Int32)).toNatClampNeg)) (ob (m_X9_count (sh 431 v4) (xs (i + (1 : Int32)).toNatClampNeg)) (fun r7 => lt (pu 431 8 v4 r7.2) (fun v8 => ob (m_X9_thrown (sh 431 v8)) (fun r10 => (if r10 = (1 : Int32) then (if (1 : Int32) = 0 then (if (lg_cmp ((v8 430 0).toInt64) ((r7.1).toInt64)) = 0 then some v8 else none) else some v8) else none))))))))
set_option maxHeartbeats 4000000 in
set_option maxRecDepth 100000 in
theorem k_law_26_xIAE {p : Program} {l : Launch} {e : Env} {R : Room} {s : State} {m : MethodId} {args : Array Value} {below : List Frame} {meth : Method} {c : Code} {H : Heap} {locs : List Loc} {cells slots : Nat} {Q : State → Prop} {G : xGl} {sa q : Nat → Nat} {v : xSt} {A : Nat → Prop} {ls : Array Slot} {b L : Nat} {xs : Nat → Int32} {i : Int32} (hst : l.stackTraces = false) (hC : CallFix p m c cL_law 9 s args lw_tbl RL) (hin : ∀ w ∈ wG, w ∈ lw_tbl) (hT : xT G sa A s s.heap) (hX : va_X b L xs s s.heap) (hbl : b < s.heap.size) (hbA : ¬ A b) (hcs : cells + 1 ≤ room_1.cells ∧ slots + 6 ≤ room_1.slots) (h : hg G (LW G) 439 q v A s H locs) (hl : lv_has ls 9 [(0, .ref b), (1, .ref (q 0)), (2, .ref (q 431)), (3, .ref (q 430)), (4, .int i)]) {z : xSt} (hf : m_law_26_xIAE v xs L i = some z) (kk : ∀ (H : Heap) (locs : List Loc) (ls : Array Slot), hg G (LW G) 439 q z A s H locs → lv_has ls 9 [(0, .ref b), (1, .ref (q 0)), (2, .ref (q 431)), (3, .ref (q 430)), (4, .int i)] → W p l e room_1 s m args below meth c H locs (cells + 1) (slots + 6) Q (F0 m 1839 ls [])) : W p l e room_1 s m args below meth c H locs cells slots Q (F0 m 1453 ls []) := by
  have hx := hC.1
  have hb := hC.2.1
  have hc0 : cells ≤ room_1.cells ∧ slots ≤ room_1.slots := ⟨Nat.le_of_succ_le hcs.1, Nat.le_trans (Nat.le_add_right _ _) hcs.2⟩
  unfold m_law_26_xIAE at hf
  refine lv_aload_n hx hb dL_law_1453 rfl (lv_at hl 1 rfl) ?_
  refine lv_aload_n hx hb dL_law_1454 rfl (lv_at hl 0 rfl) ?_
  refine lv_iload hx hb dL_law_1455 (lv_at hl 4 rfl) ?_
  refine lv_iconst (v := (1 : Int32)) hx hb dL_law_1457 (by decide) ?_
  refine lv_iadd hx hb dL_law_1458 ?_
  obtain ⟨hi1, hf⟩ := ck_e hf
  refine va_sld hx hb hX hbl hbA h.1.2.2.1 hi1 dL_law_1459 ?_
  refine lv_aload_n hx hb dL_law_1460 rfl (lv_at hl 3 rfl) ?_
  obtain ⟨r2, hy3, hf⟩ := ob_e hf
  refine xipc h 431 sLW_0 (Nat.le_of_ble_eq_true rfl) (vx_runSW (As := [.ref (q 0), .int (xs (i + (1 : Int32)).toNatClampNeg), .ref (q 430)]) (rest := []) hC (x_L_count_xIAE l hst G sa q v (xs (i + (1 : Int32)).toNatClampNeg) (xthE_e hy3) H.size) (xcgSW hC hin lk_L_190 in_L co_L_count st_L_count rfl rfl dd_L_count ⟨Nat.le_of_ble_eq_true rfl, Nat.le_of_ble_eq_true rfl⟩) (preSP h hT 431 sLW_0 (Nat.le_of_ble_eq_true rfl) [.ref (q 0), .int (xs (i + (1 : Int32)).toNatClampNeg), .ref (q 430)]) rfl rfl hl.1 rfl (lv_room (Nat.le_of_ble_eq_true rfl)) dL_law_1461 hcs) (fun H locs h => ?_)
  obtain ⟨v4, ev4, hf⟩ := lt_e hf
  rw [← ev4] at h
  refine lv_istore (lv' := [(5, .int (1 : Int32)), (0, .ref b), (1, .ref (q 0)), (2, .ref (q 431)), (3, .ref (q 430)), (4, .int i)]) hx hb dL_law_1464 hl (by decide) rfl (fun ls hl => ?_)
  refine lv_aload_n hx hb dL_law_1466 rfl (lv_at hl 3 rfl) ?_
  refine lv_aload_n hx hb dL_law_1467 rfl (lv_at hl 1 rfl) ?_
  refine lv_iload hx hb dL_law_1468 (lv_at hl 5 rfl) ?_
  refine lv_iconst (v := (1 : Int32)) hx hb dL_law_1470 (by decide) ?_
  refine lv_iadd hx hb dL_law_1471 ?_
  obtain ⟨hi5, hf⟩ := ck_e hf
  refine va_sld hx hb hX hbl hbA h.1.2.2.1 hi5 dL_law_1472 ?_
  obtain ⟨r7, hy6, hf⟩ := ob_e hf
  refine xi1 h 431 8 sLW_431 (Nat.le_of_ble_eq_true rfl) (va_runV (As := [.int (xs (i + (1 : Int32)).toNatClampNeg)]) (rest := []) hC (c_X9_count l G (sh 431 q) (sh 431 v4) (xs (i + (1 : Int32)).toNatClampNeg) hy6 H.size) (xcgV hC hin lk_L_192 in_X9 co_X9_count im_X9_count se_X9_count rfl rfl dd_X9_count ⟨Nat.le_of_ble_eq_true rfl, Nat.le_of_ble_eq_true rfl⟩) (preV1 h 431 8 sLW_431 (Nat.le_of_ble_eq_true rfl) (Nat.le_of_ble_eq_true rfl) eLW_431 rfl [.int (xs (i + (1 : Int32)).toNatClampNeg)]) rfl rfl hl.1 rfl (lv_room (Nat.le_of_ble_eq_true rfl)) dL_law_1473 hcs) (fun H locs h => ?_)
  obtain ⟨v8, ev8, hf⟩ := lt_e hf
  rw [← ev8] at h
  refine lv_istore (lv' := [(6, .int r7.1), (5, .int (1 : Int32)), (0, .ref b), (1, .ref (q 0)), (2, .ref (q 431)), (3, .ref (q 430)), (4, .int i)]) hx hb dL_law_1476 hl (by decide) rfl (fun ls hl => ?_)
  refine lv_aload_n hx hb dL_law_1478 rfl (lv_at hl 4 rfl) ?_
  obtain ⟨r10, hy9, hf⟩ := ob_e hf
  refine xiG h (va_runV (As := []) (rest := []) hC (c_X9_thrown l G (sh 431 q) (sh 431 v8) hy9 H.size) (xcgV hC hin lk_L_104 in_X9 co_X9_thrown im_X9_thrown se_X9_thrown rfl rfl dd_X9_thrown ⟨Nat.le_of_ble_eq_true rfl, Nat.le_of_ble_eq_true rfl⟩) (preVO h.o 431 8 sLW_431 (Nat.le_of_ble_eq_true rfl) (Nat.le_of_ble_eq_true rfl) eLW_431 rfl []) rfl rfl hl.1 rfl (lv_room (Nat.le_of_ble_eq_true rfl)) dL_law_1479 hcs) (fun H locs h => ?_)
  refine lv_iload hx hb dL_law_1482 (lv_at hl 1 rfl) ?_
  refine lv_icmp_eq (tgt := 1489) hx hb dL_law_1484 (by decide) (fun c11 => ?_) (fun c11 => ?_)
  · have hf := it_t c11 hf
    refine lv_iload hx hb dL_law_1489 (lv_at hl 1 rfl) ?_
    refine lv_if_ne (tgt := 1506) hx hb dL_law_1491 (by decide) (fun c12 => ?_) (fun c12 => ?_)
    · have hf := it_f c12 hf
      refine lv_goto (tgt := 1839) hx hb dL_law_1506 (by decide) ?_
      have hf := sm_e hf
      subst hf
      refine W.widen (k := cells + 1) (n := slots + 6) (by omega) (by omega) ?_
      exact kk H locs ls h (lv_sub hl [2, 3, 4, 5, 6] rfl)
    · have hf := it_t c12 hf
      refine lv_aload_n hx hb dL_law_1494 rfl (lv_at hl 5 rfl) ?_
      refine lv_iconst (v := (0 : Int32)) hx hb dL_law_1495 (by decide) ?_
      refine xlald hC h.o 430 (Nat.le_of_ble_eq_true rfl) eLW_430 dL_law_1496 ?_
      refine lv_iload hx hb dL_law_1497 (lv_at hl 0 rfl) ?_
      refine lv_i2l hx hb dL_law_1499 rfl ?_
      refine W.lcmp hx hb dL_law_1500 ?_
      refine lv_if_eq (tgt := 1506) hx hb dL_law_1501 (by decide) (fun c13 => ?_) (fun c13 => ?_)
      · have hf := it_t c13 hf
        refine lv_goto (tgt := 1839) hx hb dL_law_1506 (by decide) ?_
        have hf := sm_e hf
        subst hf
        refine W.widen (k := cells + 1) (n := slots + 6) (by omega) (by omega) ?_
        exact kk H locs ls h (lv_sub hl [2, 3, 4, 5, 6] rfl)
      · have hf := it_f c13 hf
        cases hf
  · have hf := it_f c11 hf
    cases hf
def m_law_27 (v : xSt) (xs : Nat → Int32) (L : Nat) (i : Int32) : Option xSt := ck (¬ ((i + (1 : Int32)) < 0 ∨ L ≤ (i + (1 : Int32)).toNatClampNeg)) (ob (m_L_setting v (xs (i + (1 : Int32)).toNatClampNeg)) (fun r2 => lt (pu 0 431 v r2.2) (fun v4 => ck (¬ ((i + (1 : Int32)) < 0 ∨ L ≤ (i + (1 : Int32)).toNatClampNeg)) (ob (m_X9_setting (sh 431 v4) (xs (i + (1 : Int32)).toNatClampNeg)) (fun r7 => lt (pu 431 8 v4 r7.2) (fun v8 => ob (m_X9_thrown (sh 431 v8)) (fun r10 => (if r10 = r2.1 then (if r2.1 = 0 then (if (lg_cmp ((v8 430 0).toInt64) ((r7.1).toInt64)) = 0 then some v8 else none) else some v8) else none))))))))
set_option maxHeartbeats 4000000 in
set_option maxRecDepth 100000 in
theorem k_law_27 {p : Program} {l : Launch} {e : Env} {R : Room} {s : State} {m : MethodId} {args : Array Value} {below : List Frame} {meth : Method} {c : Code} {H : Heap} {locs : List Loc} {cells slots : Nat} {Q : State → Prop} {G : xGl} {sa q : Nat → Nat} {v : xSt} {A : Nat → Prop} {ls : Array Slot} {b L : Nat} {xs : Nat → Int32} {i : Int32} (hst : l.stackTraces = false) (hC : CallFix p m c cL_law 9 s args lw_tbl RL) (hin : ∀ w ∈ wG, w ∈ lw_tbl) (hT : xT G sa A s s.heap) (hX : va_X b L xs s s.heap) (hbl : b < s.heap.size) (hbA : ¬ A b) (hcs : cells + 1 ≤ room_1.cells ∧ slots + 6 ≤ room_1.slots) (h : hg G (LW G) 439 q v A s H locs) (hl : lv_has ls 9 [(0, .ref b), (1, .ref (q 0)), (2, .ref (q 431)), (3, .ref (q 430)), (4, .int i)]) {z : xSt} (hf : m_law_27 v xs L i = some z) (kk : ∀ (H : Heap) (locs : List Loc) (ls : Array Slot), hg G (LW G) 439 q z A s H locs → lv_has ls 9 [(0, .ref b), (1, .ref (q 0)), (2, .ref (q 431)), (3, .ref (q 430)), (4, .int i)] → W p l e room_1 s m args below meth c H locs (cells + 1) (slots + 6) Q (F0 m 1839 ls [])) : W p l e room_1 s m args below meth c H locs cells slots Q (F0 m 1509 ls []) := by
  have hx := hC.1
  have hb := hC.2.1
  have hc0 : cells ≤ room_1.cells ∧ slots ≤ room_1.slots := ⟨Nat.le_of_succ_le hcs.1, Nat.le_trans (Nat.le_add_right _ _) hcs.2⟩
  unfold m_law_27 at hf
  refine lv_aload_n hx hb dL_law_1509 rfl (lv_at hl 1 rfl) ?_
  refine lv_aload_n hx hb dL_law_1510 rfl (lv_at hl 0 rfl) ?_
  refine lv_iload hx hb dL_law_1511 (lv_at hl 4 rfl) ?_
  refine lv_iconst (v := (1 : Int32)) hx hb dL_law_1513 (by decide) ?_
  refine lv_iadd hx hb dL_law_1514 ?_
  obtain ⟨hi1, hf⟩ := ck_e hf
  refine va_sld hx hb hX hbl hbA h.1.2.2.1 hi1 dL_law_1515 ?_
  refine lv_aload_n hx hb dL_law_1516 rfl (lv_at hl 3 rfl) ?_
  obtain ⟨r2, hy3, hf⟩ := ob_e hf
  refine xipc h 431 sLW_0 (Nat.le_of_ble_eq_true rfl) (vx_runSW (As := [.ref (q 0), .int (xs (i + (1 : Int32)).toNatClampNeg), .ref (q 430)]) (rest := []) hC (c_L_setting l G sa q v (xs (i + (1 : Int32)).toNatClampNeg) hy3 H.size) (xcgSW hC hin lk_L_193 in_L co_L_setting st_L_setting rfl rfl dd_L_setting ⟨Nat.le_of_ble_eq_true rfl, Nat.le_of_ble_eq_true rfl⟩) (preSP h hT 431 sLW_0 (Nat.le_of_ble_eq_true rfl) [.ref (q 0), .int (xs (i + (1 : Int32)).toNatClampNeg), .ref (q 430)]) rfl rfl hl.1 rfl (lv_room (Nat.le_of_ble_eq_true rfl)) dL_law_1517 ⟨Nat.le_of_succ_le hcs.1, Nat.le_trans (Nat.le_add_right _ _) hcs.2⟩) (fun H locs h => ?_)
  obtain ⟨v4, ev4, hf⟩ := lt_e hf
  rw [← ev4] at h
  refine lv_istore (lv' := [(5, .int r2.1), (0, .ref b), (1, .ref (q 0)), (2, .ref (q 431)), (3, .ref (q 430)), (4, .int i)]) hx hb dL_law_1520 hl (by decide) rfl (fun ls hl => ?_)
  refine lv_aload_n hx hb dL_law_1522 rfl (lv_at hl 3 rfl) ?_
  refine lv_aload_n hx hb dL_law_1523 rfl (lv_at hl 1 rfl) ?_
  refine lv_iload hx hb dL_law_1524 (lv_at hl 5 rfl) ?_
  refine lv_iconst (v := (1 : Int32)) hx hb dL_law_1526 (by decide) ?_
  refine lv_iadd hx hb dL_law_1527 ?_
  obtain ⟨hi5, hf⟩ := ck_e hf
  refine va_sld hx hb hX hbl hbA h.1.2.2.1 hi5 dL_law_1528 ?_
  obtain ⟨r7, hy6, hf⟩ := ob_e hf
  refine xi1 h 431 8 sLW_431 (Nat.le_of_ble_eq_true rfl) (va_runV (As := [.int (xs (i + (1 : Int32)).toNatClampNeg)]) (rest := []) hC (c_X9_setting l G (sh 431 q) (sh 431 v4) (xs (i + (1 : Int32)).toNatClampNeg) hy6 H.size) (xcgV hC hin lk_L_195 in_X9 co_X9_setting im_X9_setting se_X9_setting rfl rfl dd_X9_setting ⟨Nat.le_of_ble_eq_true rfl, Nat.le_of_ble_eq_true rfl⟩) (preV1 h 431 8 sLW_431 (Nat.le_of_ble_eq_true rfl) (Nat.le_of_ble_eq_true rfl) eLW_431 rfl [.int (xs (i + (1 : Int32)).toNatClampNeg)]) rfl rfl hl.1 rfl (lv_room (Nat.le_of_ble_eq_true rfl)) dL_law_1529 hc0) (fun H locs h => ?_)
  obtain ⟨v8, ev8, hf⟩ := lt_e hf
  rw [← ev8] at h
  refine lv_istore (lv' := [(6, .int r7.1), (5, .int r2.1), (0, .ref b), (1, .ref (q 0)), (2, .ref (q 431)), (3, .ref (q 430)), (4, .int i)]) hx hb dL_law_1532 hl (by decide) rfl (fun ls hl => ?_)
  refine lv_aload_n hx hb dL_law_1534 rfl (lv_at hl 4 rfl) ?_
  obtain ⟨r10, hy9, hf⟩ := ob_e hf
  refine xiG h (va_runV (As := []) (rest := []) hC (c_X9_thrown l G (sh 431 q) (sh 431 v8) hy9 H.size) (xcgV hC hin lk_L_104 in_X9 co_X9_thrown im_X9_thrown se_X9_thrown rfl rfl dd_X9_thrown ⟨Nat.le_of_ble_eq_true rfl, Nat.le_of_ble_eq_true rfl⟩) (preVO h.o 431 8 sLW_431 (Nat.le_of_ble_eq_true rfl) (Nat.le_of_ble_eq_true rfl) eLW_431 rfl []) rfl rfl hl.1 rfl (lv_room (Nat.le_of_ble_eq_true rfl)) dL_law_1535 hc0) (fun H locs h => ?_)
  refine lv_iload hx hb dL_law_1538 (lv_at hl 1 rfl) ?_
  refine lv_icmp_eq (tgt := 1545) hx hb dL_law_1540 (by decide) (fun c11 => ?_) (fun c11 => ?_)
  · have hf := it_t c11 hf
    refine lv_iload hx hb dL_law_1545 (lv_at hl 1 rfl) ?_
    refine lv_if_ne (tgt := 1562) hx hb dL_law_1547 (by decide) (fun c12 => ?_) (fun c12 => ?_)
    · have hf := it_f c12 hf
      refine lv_goto (tgt := 1839) hx hb dL_law_1562 (by decide) ?_
      have hf := sm_e hf
      subst hf
      refine W.widen (k := cells + 1) (n := slots + 6) (by omega) (by omega) ?_
      exact kk H locs ls h (lv_sub hl [2, 3, 4, 5, 6] rfl)
    · have hf := it_t c12 hf
      refine lv_aload_n hx hb dL_law_1550 rfl (lv_at hl 5 rfl) ?_
      refine lv_iconst (v := (0 : Int32)) hx hb dL_law_1551 (by decide) ?_
      refine xlald hC h.o 430 (Nat.le_of_ble_eq_true rfl) eLW_430 dL_law_1552 ?_
      refine lv_iload hx hb dL_law_1553 (lv_at hl 0 rfl) ?_
      refine lv_i2l hx hb dL_law_1555 rfl ?_
      refine W.lcmp hx hb dL_law_1556 ?_
      refine lv_if_eq (tgt := 1562) hx hb dL_law_1557 (by decide) (fun c13 => ?_) (fun c13 => ?_)
      · have hf := it_t c13 hf
        refine lv_goto (tgt := 1839) hx hb dL_law_1562 (by decide) ?_
        have hf := sm_e hf
        subst hf
        refine W.widen (k := cells + 1) (n := slots + 6) (by omega) (by omega) ?_
        exact kk H locs ls h (lv_sub hl [2, 3, 4, 5, 6] rfl)
      · have hf := it_f c13 hf
        cases hf
  · have hf := it_f c11 hf
    cases hf
def m_law_27_xIOB (v : xSt) (xs : Nat → Int32) (L : Nat) (i : Int32) : Option xSt := ck (¬ ((i + (1 : Int32)) < 0 ∨ L ≤ (i + (1 : Int32)).toNatClampNeg)) (ob (xthE xIOB (m_X8_setting_t v (xs (i + (1 : Int32)).toNatClampNeg))) (fun r2 => lt (pu 0 431 v (pu 0 430 v r2)) (fun v4 => ck (¬ ((i + (1 : Int32)) < 0 ∨ L ≤ (i + (1 : Int32)).toNatClampNeg)) (ob (m_X9_setting (sh 431 v4) (xs (i + (1 : Int32)).toNatClampNeg)) (fun r7 => lt (pu 431 8 v4 r7.2) (fun v8 => ob (m_X9_thrown (sh 431 v8)) (fun r10 => (if r10 = (1 : Int32) then (if (1 : Int32) = 0 then (if (lg_cmp ((v8 430 0).toInt64) ((r7.1).toInt64)) = 0 then some v8 else none) else some v8) else none))))))))
set_option maxHeartbeats 4000000 in
set_option maxRecDepth 100000 in
theorem k_law_27_xIOB {p : Program} {l : Launch} {e : Env} {R : Room} {s : State} {m : MethodId} {args : Array Value} {below : List Frame} {meth : Method} {c : Code} {H : Heap} {locs : List Loc} {cells slots : Nat} {Q : State → Prop} {G : xGl} {sa q : Nat → Nat} {v : xSt} {A : Nat → Prop} {ls : Array Slot} {b L : Nat} {xs : Nat → Int32} {i : Int32} (hst : l.stackTraces = false) (hC : CallFix p m c cL_law 9 s args lw_tbl RL) (hin : ∀ w ∈ wG, w ∈ lw_tbl) (hT : xT G sa A s s.heap) (hX : va_X b L xs s s.heap) (hbl : b < s.heap.size) (hbA : ¬ A b) (hcs : cells + 1 ≤ room_1.cells ∧ slots + 6 ≤ room_1.slots) (h : hg G (LW G) 439 q v A s H locs) (hl : lv_has ls 9 [(0, .ref b), (1, .ref (q 0)), (2, .ref (q 431)), (3, .ref (q 430)), (4, .int i)]) {z : xSt} (hf : m_law_27_xIOB v xs L i = some z) (kk : ∀ (H : Heap) (locs : List Loc) (ls : Array Slot), hg G (LW G) 439 q z A s H locs → lv_has ls 9 [(0, .ref b), (1, .ref (q 0)), (2, .ref (q 431)), (3, .ref (q 430)), (4, .int i)] → W p l e room_1 s m args below meth c H locs (cells + 1) (slots + 6) Q (F0 m 1839 ls [])) : W p l e room_1 s m args below meth c H locs cells slots Q (F0 m 1509 ls []) := by
  have hx := hC.1
  have hb := hC.2.1
  have hc0 : cells ≤ room_1.cells ∧ slots ≤ room_1.slots := ⟨Nat.le_of_succ_le hcs.1, Nat.le_trans (Nat.le_add_right _ _) hcs.2⟩
  unfold m_law_27_xIOB at hf
  refine lv_aload_n hx hb dL_law_1509 rfl (lv_at hl 1 rfl) ?_
  refine lv_aload_n hx hb dL_law_1510 rfl (lv_at hl 0 rfl) ?_
  refine lv_iload hx hb dL_law_1511 (lv_at hl 4 rfl) ?_
  refine lv_iconst (v := (1 : Int32)) hx hb dL_law_1513 (by decide) ?_
  refine lv_iadd hx hb dL_law_1514 ?_
  obtain ⟨hi1, hf⟩ := ck_e hf
  refine va_sld hx hb hX hbl hbA h.1.2.2.1 hi1 dL_law_1515 ?_
  refine lv_aload_n hx hb dL_law_1516 rfl (lv_at hl 3 rfl) ?_
  obtain ⟨r2, hy3, hf⟩ := ob_e hf
  refine xipc h 431 sLW_0 (Nat.le_of_ble_eq_true rfl) (vx_runSW (As := [.ref (q 0), .int (xs (i + (1 : Int32)).toNatClampNeg), .ref (q 430)]) (rest := []) hC (x_L_setting_xIOB l hst G sa q v (xs (i + (1 : Int32)).toNatClampNeg) (xthE_e hy3) H.size) (xcgSW hC hin lk_L_193 in_L co_L_setting st_L_setting rfl rfl dd_L_setting ⟨Nat.le_of_ble_eq_true rfl, Nat.le_of_ble_eq_true rfl⟩) (preSP h hT 431 sLW_0 (Nat.le_of_ble_eq_true rfl) [.ref (q 0), .int (xs (i + (1 : Int32)).toNatClampNeg), .ref (q 430)]) rfl rfl hl.1 rfl (lv_room (Nat.le_of_ble_eq_true rfl)) dL_law_1517 hcs) (fun H locs h => ?_)
  obtain ⟨v4, ev4, hf⟩ := lt_e hf
  rw [← ev4] at h
  refine lv_istore (lv' := [(5, .int (1 : Int32)), (0, .ref b), (1, .ref (q 0)), (2, .ref (q 431)), (3, .ref (q 430)), (4, .int i)]) hx hb dL_law_1520 hl (by decide) rfl (fun ls hl => ?_)
  refine lv_aload_n hx hb dL_law_1522 rfl (lv_at hl 3 rfl) ?_
  refine lv_aload_n hx hb dL_law_1523 rfl (lv_at hl 1 rfl) ?_
  refine lv_iload hx hb dL_law_1524 (lv_at hl 5 rfl) ?_
  refine lv_iconst (v := (1 : Int32)) hx hb dL_law_1526 (by decide) ?_
  refine lv_iadd hx hb dL_law_1527 ?_
  obtain ⟨hi5, hf⟩ := ck_e hf
  refine va_sld hx hb hX hbl hbA h.1.2.2.1 hi5 dL_law_1528 ?_
  obtain ⟨r7, hy6, hf⟩ := ob_e hf
  refine xi1 h 431 8 sLW_431 (Nat.le_of_ble_eq_true rfl) (va_runV (As := [.int (xs (i + (1 : Int32)).toNatClampNeg)]) (rest := []) hC (c_X9_setting l G (sh 431 q) (sh 431 v4) (xs (i + (1 : Int32)).toNatClampNeg) hy6 H.size) (xcgV hC hin lk_L_195 in_X9 co_X9_setting im_X9_setting se_X9_setting rfl rfl dd_X9_setting ⟨Nat.le_of_ble_eq_true rfl, Nat.le_of_ble_eq_true rfl⟩) (preV1 h 431 8 sLW_431 (Nat.le_of_ble_eq_true rfl) (Nat.le_of_ble_eq_true rfl) eLW_431 rfl [.int (xs (i + (1 : Int32)).toNatClampNeg)]) rfl rfl hl.1 rfl (lv_room (Nat.le_of_ble_eq_true rfl)) dL_law_1529 hcs) (fun H locs h => ?_)
  obtain ⟨v8, ev8, hf⟩ := lt_e hf
  rw [← ev8] at h
  refine lv_istore (lv' := [(6, .int r7.1), (5, .int (1 : Int32)), (0, .ref b), (1, .ref (q 0)), (2, .ref (q 431)), (3, .ref (q 430)), (4, .int i)]) hx hb dL_law_1532 hl (by decide) rfl (fun ls hl => ?_)
  refine lv_aload_n hx hb dL_law_1534 rfl (lv_at hl 4 rfl) ?_
  obtain ⟨r10, hy9, hf⟩ := ob_e hf
  refine xiG h (va_runV (As := []) (rest := []) hC (c_X9_thrown l G (sh 431 q) (sh 431 v8) hy9 H.size) (xcgV hC hin lk_L_104 in_X9 co_X9_thrown im_X9_thrown se_X9_thrown rfl rfl dd_X9_thrown ⟨Nat.le_of_ble_eq_true rfl, Nat.le_of_ble_eq_true rfl⟩) (preVO h.o 431 8 sLW_431 (Nat.le_of_ble_eq_true rfl) (Nat.le_of_ble_eq_true rfl) eLW_431 rfl []) rfl rfl hl.1 rfl (lv_room (Nat.le_of_ble_eq_true rfl)) dL_law_1535 hcs) (fun H locs h => ?_)
  refine lv_iload hx hb dL_law_1538 (lv_at hl 1 rfl) ?_
  refine lv_icmp_eq (tgt := 1545) hx hb dL_law_1540 (by decide) (fun c11 => ?_) (fun c11 => ?_)
  · have hf := it_t c11 hf
    refine lv_iload hx hb dL_law_1545 (lv_at hl 1 rfl) ?_
    refine lv_if_ne (tgt := 1562) hx hb dL_law_1547 (by decide) (fun c12 => ?_) (fun c12 => ?_)
    · have hf := it_f c12 hf
      refine lv_goto (tgt := 1839) hx hb dL_law_1562 (by decide) ?_
      have hf := sm_e hf
      subst hf
      refine W.widen (k := cells + 1) (n := slots + 6) (by omega) (by omega) ?_
      exact kk H locs ls h (lv_sub hl [2, 3, 4, 5, 6] rfl)
    · have hf := it_t c12 hf
      refine lv_aload_n hx hb dL_law_1550 rfl (lv_at hl 5 rfl) ?_
      refine lv_iconst (v := (0 : Int32)) hx hb dL_law_1551 (by decide) ?_
      refine xlald hC h.o 430 (Nat.le_of_ble_eq_true rfl) eLW_430 dL_law_1552 ?_
      refine lv_iload hx hb dL_law_1553 (lv_at hl 0 rfl) ?_
      refine lv_i2l hx hb dL_law_1555 rfl ?_
      refine W.lcmp hx hb dL_law_1556 ?_
      refine lv_if_eq (tgt := 1562) hx hb dL_law_1557 (by decide) (fun c13 => ?_) (fun c13 => ?_)
      · have hf := it_t c13 hf
        refine lv_goto (tgt := 1839) hx hb dL_law_1562 (by decide) ?_
        have hf := sm_e hf
        subst hf
        refine W.widen (k := cells + 1) (n := slots + 6) (by omega) (by omega) ?_
        exact kk H locs ls h (lv_sub hl [2, 3, 4, 5, 6] rfl)
      · have hf := it_f c13 hf
        cases hf
  · have hf := it_f c11 hf
    cases hf
def m_law_28 (v : xSt) (xs : Nat → Int32) (L : Nat) (i : Int32) : Option xSt := ck (¬ ((i + (1 : Int32)) < 0 ∨ L ≤ (i + (1 : Int32)).toNatClampNeg)) (ck (¬ ((i + (2 : Int32)) < 0 ∨ L ≤ (i + (2 : Int32)).toNatClampNeg)) (ob (m_L_why v (xs (i + (1 : Int32)).toNatClampNeg) (xs (i + (2 : Int32)).toNatClampNeg)) (fun r3 => lt (pu 0 431 v r3.2) (fun v5 => ck (¬ ((i + (1 : Int32)) < 0 ∨ L ≤ (i + (1 : Int32)).toNatClampNeg)) (ck (¬ ((i + (2 : Int32)) < 0 ∨ L ≤ (i + (2 : Int32)).toNatClampNeg)) (ob (m_X9_why (sh 431 v5) (xs (i + (1 : Int32)).toNatClampNeg) (xs (i + (2 : Int32)).toNatClampNeg)) (fun r9 => lt (pu 431 8 v5 r9.2) (fun v10 => ob (m_X9_thrown (sh 431 v10)) (fun r12 => (if r12 = r3.1 then (if r3.1 = 0 then (if (lg_cmp ((v10 430 0).toInt64) ((r9.1).toInt64)) = 0 then some v10 else none) else some v10) else none))))))))))
set_option maxHeartbeats 4000000 in
set_option maxRecDepth 100000 in
theorem k_law_28 {p : Program} {l : Launch} {e : Env} {R : Room} {s : State} {m : MethodId} {args : Array Value} {below : List Frame} {meth : Method} {c : Code} {H : Heap} {locs : List Loc} {cells slots : Nat} {Q : State → Prop} {G : xGl} {sa q : Nat → Nat} {v : xSt} {A : Nat → Prop} {ls : Array Slot} {b L : Nat} {xs : Nat → Int32} {i : Int32} (hst : l.stackTraces = false) (hC : CallFix p m c cL_law 9 s args lw_tbl RL) (hin : ∀ w ∈ wG, w ∈ lw_tbl) (hT : xT G sa A s s.heap) (hX : va_X b L xs s s.heap) (hbl : b < s.heap.size) (hbA : ¬ A b) (hcs : cells + 1 ≤ room_1.cells ∧ slots + 6 ≤ room_1.slots) (h : hg G (LW G) 439 q v A s H locs) (hl : lv_has ls 9 [(0, .ref b), (1, .ref (q 0)), (2, .ref (q 431)), (3, .ref (q 430)), (4, .int i)]) {z : xSt} (hf : m_law_28 v xs L i = some z) (kk : ∀ (H : Heap) (locs : List Loc) (ls : Array Slot), hg G (LW G) 439 q z A s H locs → lv_has ls 9 [(0, .ref b), (1, .ref (q 0)), (2, .ref (q 431)), (3, .ref (q 430)), (4, .int i)] → W p l e room_1 s m args below meth c H locs (cells + 1) (slots + 6) Q (F0 m 1839 ls [])) : W p l e room_1 s m args below meth c H locs cells slots Q (F0 m 1565 ls []) := by
  have hx := hC.1
  have hb := hC.2.1
  have hc0 : cells ≤ room_1.cells ∧ slots ≤ room_1.slots := ⟨Nat.le_of_succ_le hcs.1, Nat.le_trans (Nat.le_add_right _ _) hcs.2⟩
  unfold m_law_28 at hf
  refine lv_aload_n hx hb dL_law_1565 rfl (lv_at hl 1 rfl) ?_
  refine lv_aload_n hx hb dL_law_1566 rfl (lv_at hl 0 rfl) ?_
  refine lv_iload hx hb dL_law_1567 (lv_at hl 4 rfl) ?_
  refine lv_iconst (v := (1 : Int32)) hx hb dL_law_1569 (by decide) ?_
  refine lv_iadd hx hb dL_law_1570 ?_
  obtain ⟨hi1, hf⟩ := ck_e hf
  refine va_sld hx hb hX hbl hbA h.1.2.2.1 hi1 dL_law_1571 ?_
  refine lv_aload_n hx hb dL_law_1572 rfl (lv_at hl 0 rfl) ?_
  refine lv_iload hx hb dL_law_1573 (lv_at hl 4 rfl) ?_
  refine lv_iconst (v := (2 : Int32)) hx hb dL_law_1575 (by decide) ?_
  refine lv_iadd hx hb dL_law_1576 ?_
  obtain ⟨hi2, hf⟩ := ck_e hf
  refine va_sld hx hb hX hbl hbA h.1.2.2.1 hi2 dL_law_1577 ?_
  refine lv_aload_n hx hb dL_law_1578 rfl (lv_at hl 3 rfl) ?_
  obtain ⟨r3, hy4, hf⟩ := ob_e hf
  refine xipc h 431 sLW_0 (Nat.le_of_ble_eq_true rfl) (vx_runSW (As := [.ref (q 0), .int (xs (i + (1 : Int32)).toNatClampNeg), .int (xs (i + (2 : Int32)).toNatClampNeg), .ref (q 430)]) (rest := []) hC (c_L_why l G sa q v (xs (i + (1 : Int32)).toNatClampNeg) (xs (i + (2 : Int32)).toNatClampNeg) hy4 H.size) (xcgSW hC hin lk_L_196 in_L co_L_why st_L_why rfl rfl dd_L_why ⟨Nat.le_of_ble_eq_true rfl, Nat.le_of_ble_eq_true rfl⟩) (preSP h hT 431 sLW_0 (Nat.le_of_ble_eq_true rfl) [.ref (q 0), .int (xs (i + (1 : Int32)).toNatClampNeg), .int (xs (i + (2 : Int32)).toNatClampNeg), .ref (q 430)]) rfl rfl hl.1 rfl (lv_room (Nat.le_of_ble_eq_true rfl)) dL_law_1579 ⟨Nat.le_of_succ_le hcs.1, Nat.le_trans (Nat.le_add_right _ _) hcs.2⟩) (fun H locs h => ?_)
  obtain ⟨v5, ev5, hf⟩ := lt_e hf
  rw [← ev5] at h
  refine lv_istore (lv' := [(5, .int r3.1), (0, .ref b), (1, .ref (q 0)), (2, .ref (q 431)), (3, .ref (q 430)), (4, .int i)]) hx hb dL_law_1582 hl (by decide) rfl (fun ls hl => ?_)
  refine lv_aload_n hx hb dL_law_1584 rfl (lv_at hl 3 rfl) ?_
  refine lv_aload_n hx hb dL_law_1585 rfl (lv_at hl 1 rfl) ?_
  refine lv_iload hx hb dL_law_1586 (lv_at hl 5 rfl) ?_
  refine lv_iconst (v := (1 : Int32)) hx hb dL_law_1588 (by decide) ?_
  refine lv_iadd hx hb dL_law_1589 ?_
  obtain ⟨hi6, hf⟩ := ck_e hf
  refine va_sld hx hb hX hbl hbA h.1.2.2.1 hi6 dL_law_1590 ?_
  refine lv_aload_n hx hb dL_law_1591 rfl (lv_at hl 1 rfl) ?_
  refine lv_iload hx hb dL_law_1592 (lv_at hl 5 rfl) ?_
  refine lv_iconst (v := (2 : Int32)) hx hb dL_law_1594 (by decide) ?_
  refine lv_iadd hx hb dL_law_1595 ?_
  obtain ⟨hi7, hf⟩ := ck_e hf
  refine va_sld hx hb hX hbl hbA h.1.2.2.1 hi7 dL_law_1596 ?_
  obtain ⟨r9, hy8, hf⟩ := ob_e hf
  refine xi1 h 431 8 sLW_431 (Nat.le_of_ble_eq_true rfl) (va_runV (As := [.int (xs (i + (1 : Int32)).toNatClampNeg), .int (xs (i + (2 : Int32)).toNatClampNeg)]) (rest := []) hC (c_X9_why l G (sh 431 q) (sh 431 v5) (xs (i + (1 : Int32)).toNatClampNeg) (xs (i + (2 : Int32)).toNatClampNeg) hy8 H.size) (xcgV hC hin lk_L_198 in_X9 co_X9_why im_X9_why se_X9_why rfl rfl dd_X9_why ⟨Nat.le_of_ble_eq_true rfl, Nat.le_of_ble_eq_true rfl⟩) (preV1 h 431 8 sLW_431 (Nat.le_of_ble_eq_true rfl) (Nat.le_of_ble_eq_true rfl) eLW_431 rfl [.int (xs (i + (1 : Int32)).toNatClampNeg), .int (xs (i + (2 : Int32)).toNatClampNeg)]) rfl rfl hl.1 rfl (lv_room (Nat.le_of_ble_eq_true rfl)) dL_law_1597 hc0) (fun H locs h => ?_)
  obtain ⟨v10, ev10, hf⟩ := lt_e hf
  rw [← ev10] at h
  refine lv_istore (lv' := [(6, .int r9.1), (5, .int r3.1), (0, .ref b), (1, .ref (q 0)), (2, .ref (q 431)), (3, .ref (q 430)), (4, .int i)]) hx hb dL_law_1600 hl (by decide) rfl (fun ls hl => ?_)
  refine lv_aload_n hx hb dL_law_1602 rfl (lv_at hl 4 rfl) ?_
  obtain ⟨r12, hy11, hf⟩ := ob_e hf
  refine xiG h (va_runV (As := []) (rest := []) hC (c_X9_thrown l G (sh 431 q) (sh 431 v10) hy11 H.size) (xcgV hC hin lk_L_104 in_X9 co_X9_thrown im_X9_thrown se_X9_thrown rfl rfl dd_X9_thrown ⟨Nat.le_of_ble_eq_true rfl, Nat.le_of_ble_eq_true rfl⟩) (preVO h.o 431 8 sLW_431 (Nat.le_of_ble_eq_true rfl) (Nat.le_of_ble_eq_true rfl) eLW_431 rfl []) rfl rfl hl.1 rfl (lv_room (Nat.le_of_ble_eq_true rfl)) dL_law_1603 hc0) (fun H locs h => ?_)
  refine lv_iload hx hb dL_law_1606 (lv_at hl 1 rfl) ?_
  refine lv_icmp_eq (tgt := 1613) hx hb dL_law_1608 (by decide) (fun c13 => ?_) (fun c13 => ?_)
  · have hf := it_t c13 hf
    refine lv_iload hx hb dL_law_1613 (lv_at hl 1 rfl) ?_
    refine lv_if_ne (tgt := 1630) hx hb dL_law_1615 (by decide) (fun c14 => ?_) (fun c14 => ?_)
    · have hf := it_f c14 hf
      refine lv_goto (tgt := 1839) hx hb dL_law_1630 (by decide) ?_
      have hf := sm_e hf
      subst hf
      refine W.widen (k := cells + 1) (n := slots + 6) (by omega) (by omega) ?_
      exact kk H locs ls h (lv_sub hl [2, 3, 4, 5, 6] rfl)
    · have hf := it_t c14 hf
      refine lv_aload_n hx hb dL_law_1618 rfl (lv_at hl 5 rfl) ?_
      refine lv_iconst (v := (0 : Int32)) hx hb dL_law_1619 (by decide) ?_
      refine xlald hC h.o 430 (Nat.le_of_ble_eq_true rfl) eLW_430 dL_law_1620 ?_
      refine lv_iload hx hb dL_law_1621 (lv_at hl 0 rfl) ?_
      refine lv_i2l hx hb dL_law_1623 rfl ?_
      refine W.lcmp hx hb dL_law_1624 ?_
      refine lv_if_eq (tgt := 1630) hx hb dL_law_1625 (by decide) (fun c15 => ?_) (fun c15 => ?_)
      · have hf := it_t c15 hf
        refine lv_goto (tgt := 1839) hx hb dL_law_1630 (by decide) ?_
        have hf := sm_e hf
        subst hf
        refine W.widen (k := cells + 1) (n := slots + 6) (by omega) (by omega) ?_
        exact kk H locs ls h (lv_sub hl [2, 3, 4, 5, 6] rfl)
      · have hf := it_f c15 hf
        cases hf
  · have hf := it_f c13 hf
    cases hf
def m_law_28_xIAE (v : xSt) (xs : Nat → Int32) (L : Nat) (i : Int32) : Option xSt := ck (¬ ((i + (1 : Int32)) < 0 ∨ L ≤ (i + (1 : Int32)).toNatClampNeg)) (ck (¬ ((i + (2 : Int32)) < 0 ∨ L ≤ (i + (2 : Int32)).toNatClampNeg)) (ob (xthE xIAE (m_X8_why_t v (xs (i + (1 : Int32)).toNatClampNeg) (xs (i + (2 : Int32)).toNatClampNeg))) (fun r3 => lt (pu 0 431 v (pu 0 430 v r3)) (fun v5 => ck (¬ ((i + (1 : Int32)) < 0 ∨ L ≤ (i + (1 : Int32)).toNatClampNeg)) (ck (¬ ((i + (2 : Int32)) < 0 ∨ L ≤ (i + (2 : Int32)).toNatClampNeg)) (ob (m_X9_why (sh 431 v5) (xs (i + (1 : Int32)).toNatClampNeg) (xs (i + (2 : Int32)).toNatClampNeg)) (fun r9 => lt (pu 431 8 v5 r9.2) (fun v10 => ob (m_X9_thrown (sh 431 v10)) (fun r12 => (if r12 = (1 : Int32) then (if (1 : Int32) = 0 then (if (lg_cmp ((v10 430 0).toInt64) ((r9.1).toInt64)) = 0 then some v10 else none) else some v10) else none))))))))))
set_option maxHeartbeats 4000000 in
set_option maxRecDepth 100000 in
theorem k_law_28_xIAE {p : Program} {l : Launch} {e : Env} {R : Room} {s : State} {m : MethodId} {args : Array Value} {below : List Frame} {meth : Method} {c : Code} {H : Heap} {locs : List Loc} {cells slots : Nat} {Q : State → Prop} {G : xGl} {sa q : Nat → Nat} {v : xSt} {A : Nat → Prop} {ls : Array Slot} {b L : Nat} {xs : Nat → Int32} {i : Int32} (hst : l.stackTraces = false) (hC : CallFix p m c cL_law 9 s args lw_tbl RL) (hin : ∀ w ∈ wG, w ∈ lw_tbl) (hT : xT G sa A s s.heap) (hX : va_X b L xs s s.heap) (hbl : b < s.heap.size) (hbA : ¬ A b) (hcs : cells + 1 ≤ room_1.cells ∧ slots + 6 ≤ room_1.slots) (h : hg G (LW G) 439 q v A s H locs) (hl : lv_has ls 9 [(0, .ref b), (1, .ref (q 0)), (2, .ref (q 431)), (3, .ref (q 430)), (4, .int i)]) {z : xSt} (hf : m_law_28_xIAE v xs L i = some z) (kk : ∀ (H : Heap) (locs : List Loc) (ls : Array Slot), hg G (LW G) 439 q z A s H locs → lv_has ls 9 [(0, .ref b), (1, .ref (q 0)), (2, .ref (q 431)), (3, .ref (q 430)), (4, .int i)] → W p l e room_1 s m args below meth c H locs (cells + 1) (slots + 6) Q (F0 m 1839 ls [])) : W p l e room_1 s m args below meth c H locs cells slots Q (F0 m 1565 ls []) := by
  have hx := hC.1
  have hb := hC.2.1
  have hc0 : cells ≤ room_1.cells ∧ slots ≤ room_1.slots := ⟨Nat.le_of_succ_le hcs.1, Nat.le_trans (Nat.le_add_right _ _) hcs.2⟩
  unfold m_law_28_xIAE at hf
  refine lv_aload_n hx hb dL_law_1565 rfl (lv_at hl 1 rfl) ?_
  refine lv_aload_n hx hb dL_law_1566 rfl (lv_at hl 0 rfl) ?_
  refine lv_iload hx hb dL_law_1567 (lv_at hl 4 rfl) ?_
  refine lv_iconst (v := (1 : Int32)) hx hb dL_law_1569 (by decide) ?_
  refine lv_iadd hx hb dL_law_1570 ?_
  obtain ⟨hi1, hf⟩ := ck_e hf
  refine va_sld hx hb hX hbl hbA h.1.2.2.1 hi1 dL_law_1571 ?_
  refine lv_aload_n hx hb dL_law_1572 rfl (lv_at hl 0 rfl) ?_
  refine lv_iload hx hb dL_law_1573 (lv_at hl 4 rfl) ?_
  refine lv_iconst (v := (2 : Int32)) hx hb dL_law_1575 (by decide) ?_
  refine lv_iadd hx hb dL_law_1576 ?_
  obtain ⟨hi2, hf⟩ := ck_e hf
  refine va_sld hx hb hX hbl hbA h.1.2.2.1 hi2 dL_law_1577 ?_
  refine lv_aload_n hx hb dL_law_1578 rfl (lv_at hl 3 rfl) ?_
  obtain ⟨r3, hy4, hf⟩ := ob_e hf
  refine xipc h 431 sLW_0 (Nat.le_of_ble_eq_true rfl) (vx_runSW (As := [.ref (q 0), .int (xs (i + (1 : Int32)).toNatClampNeg), .int (xs (i + (2 : Int32)).toNatClampNeg), .ref (q 430)]) (rest := []) hC (x_L_why_xIAE l hst G sa q v (xs (i + (1 : Int32)).toNatClampNeg) (xs (i + (2 : Int32)).toNatClampNeg) (xthE_e hy4) H.size) (xcgSW hC hin lk_L_196 in_L co_L_why st_L_why rfl rfl dd_L_why ⟨Nat.le_of_ble_eq_true rfl, Nat.le_of_ble_eq_true rfl⟩) (preSP h hT 431 sLW_0 (Nat.le_of_ble_eq_true rfl) [.ref (q 0), .int (xs (i + (1 : Int32)).toNatClampNeg), .int (xs (i + (2 : Int32)).toNatClampNeg), .ref (q 430)]) rfl rfl hl.1 rfl (lv_room (Nat.le_of_ble_eq_true rfl)) dL_law_1579 hcs) (fun H locs h => ?_)
  obtain ⟨v5, ev5, hf⟩ := lt_e hf
  rw [← ev5] at h
  refine lv_istore (lv' := [(5, .int (1 : Int32)), (0, .ref b), (1, .ref (q 0)), (2, .ref (q 431)), (3, .ref (q 430)), (4, .int i)]) hx hb dL_law_1582 hl (by decide) rfl (fun ls hl => ?_)
  refine lv_aload_n hx hb dL_law_1584 rfl (lv_at hl 3 rfl) ?_
  refine lv_aload_n hx hb dL_law_1585 rfl (lv_at hl 1 rfl) ?_
  refine lv_iload hx hb dL_law_1586 (lv_at hl 5 rfl) ?_
  refine lv_iconst (v := (1 : Int32)) hx hb dL_law_1588 (by decide) ?_
  refine lv_iadd hx hb dL_law_1589 ?_
  obtain ⟨hi6, hf⟩ := ck_e hf
  refine va_sld hx hb hX hbl hbA h.1.2.2.1 hi6 dL_law_1590 ?_
  refine lv_aload_n hx hb dL_law_1591 rfl (lv_at hl 1 rfl) ?_
  refine lv_iload hx hb dL_law_1592 (lv_at hl 5 rfl) ?_
  refine lv_iconst (v := (2 : Int32)) hx hb dL_law_1594 (by decide) ?_
  refine lv_iadd hx hb dL_law_1595 ?_
  obtain ⟨hi7, hf⟩ := ck_e hf
  refine va_sld hx hb hX hbl hbA h.1.2.2.1 hi7 dL_law_1596 ?_
  obtain ⟨r9, hy8, hf⟩ := ob_e hf
  refine xi1 h 431 8 sLW_431 (Nat.le_of_ble_eq_true rfl) (va_runV (As := [.int (xs (i + (1 : Int32)).toNatClampNeg), .int (xs (i + (2 : Int32)).toNatClampNeg)]) (rest := []) hC (c_X9_why l G (sh 431 q) (sh 431 v5) (xs (i + (1 : Int32)).toNatClampNeg) (xs (i + (2 : Int32)).toNatClampNeg) hy8 H.size) (xcgV hC hin lk_L_198 in_X9 co_X9_why im_X9_why se_X9_why rfl rfl dd_X9_why ⟨Nat.le_of_ble_eq_true rfl, Nat.le_of_ble_eq_true rfl⟩) (preV1 h 431 8 sLW_431 (Nat.le_of_ble_eq_true rfl) (Nat.le_of_ble_eq_true rfl) eLW_431 rfl [.int (xs (i + (1 : Int32)).toNatClampNeg), .int (xs (i + (2 : Int32)).toNatClampNeg)]) rfl rfl hl.1 rfl (lv_room (Nat.le_of_ble_eq_true rfl)) dL_law_1597 hcs) (fun H locs h => ?_)
  obtain ⟨v10, ev10, hf⟩ := lt_e hf
  rw [← ev10] at h
  refine lv_istore (lv' := [(6, .int r9.1), (5, .int (1 : Int32)), (0, .ref b), (1, .ref (q 0)), (2, .ref (q 431)), (3, .ref (q 430)), (4, .int i)]) hx hb dL_law_1600 hl (by decide) rfl (fun ls hl => ?_)
  refine lv_aload_n hx hb dL_law_1602 rfl (lv_at hl 4 rfl) ?_
  obtain ⟨r12, hy11, hf⟩ := ob_e hf
  refine xiG h (va_runV (As := []) (rest := []) hC (c_X9_thrown l G (sh 431 q) (sh 431 v10) hy11 H.size) (xcgV hC hin lk_L_104 in_X9 co_X9_thrown im_X9_thrown se_X9_thrown rfl rfl dd_X9_thrown ⟨Nat.le_of_ble_eq_true rfl, Nat.le_of_ble_eq_true rfl⟩) (preVO h.o 431 8 sLW_431 (Nat.le_of_ble_eq_true rfl) (Nat.le_of_ble_eq_true rfl) eLW_431 rfl []) rfl rfl hl.1 rfl (lv_room (Nat.le_of_ble_eq_true rfl)) dL_law_1603 hcs) (fun H locs h => ?_)
  refine lv_iload hx hb dL_law_1606 (lv_at hl 1 rfl) ?_
  refine lv_icmp_eq (tgt := 1613) hx hb dL_law_1608 (by decide) (fun c13 => ?_) (fun c13 => ?_)
  · have hf := it_t c13 hf
    refine lv_iload hx hb dL_law_1613 (lv_at hl 1 rfl) ?_
    refine lv_if_ne (tgt := 1630) hx hb dL_law_1615 (by decide) (fun c14 => ?_) (fun c14 => ?_)
    · have hf := it_f c14 hf
      refine lv_goto (tgt := 1839) hx hb dL_law_1630 (by decide) ?_
      have hf := sm_e hf
      subst hf
      refine W.widen (k := cells + 1) (n := slots + 6) (by omega) (by omega) ?_
      exact kk H locs ls h (lv_sub hl [2, 3, 4, 5, 6] rfl)
    · have hf := it_t c14 hf
      refine lv_aload_n hx hb dL_law_1618 rfl (lv_at hl 5 rfl) ?_
      refine lv_iconst (v := (0 : Int32)) hx hb dL_law_1619 (by decide) ?_
      refine xlald hC h.o 430 (Nat.le_of_ble_eq_true rfl) eLW_430 dL_law_1620 ?_
      refine lv_iload hx hb dL_law_1621 (lv_at hl 0 rfl) ?_
      refine lv_i2l hx hb dL_law_1623 rfl ?_
      refine W.lcmp hx hb dL_law_1624 ?_
      refine lv_if_eq (tgt := 1630) hx hb dL_law_1625 (by decide) (fun c15 => ?_) (fun c15 => ?_)
      · have hf := it_t c15 hf
        refine lv_goto (tgt := 1839) hx hb dL_law_1630 (by decide) ?_
        have hf := sm_e hf
        subst hf
        refine W.widen (k := cells + 1) (n := slots + 6) (by omega) (by omega) ?_
        exact kk H locs ls h (lv_sub hl [2, 3, 4, 5, 6] rfl)
      · have hf := it_f c15 hf
        cases hf
  · have hf := it_f c13 hf
    cases hf
def m_law_28_xIOB (v : xSt) (xs : Nat → Int32) (L : Nat) (i : Int32) : Option xSt := ck (¬ ((i + (1 : Int32)) < 0 ∨ L ≤ (i + (1 : Int32)).toNatClampNeg)) (ck (¬ ((i + (2 : Int32)) < 0 ∨ L ≤ (i + (2 : Int32)).toNatClampNeg)) (ob (xthE xIOB (m_X8_why_t v (xs (i + (1 : Int32)).toNatClampNeg) (xs (i + (2 : Int32)).toNatClampNeg))) (fun r3 => lt (pu 0 431 v (pu 0 430 v r3)) (fun v5 => ck (¬ ((i + (1 : Int32)) < 0 ∨ L ≤ (i + (1 : Int32)).toNatClampNeg)) (ck (¬ ((i + (2 : Int32)) < 0 ∨ L ≤ (i + (2 : Int32)).toNatClampNeg)) (ob (m_X9_why (sh 431 v5) (xs (i + (1 : Int32)).toNatClampNeg) (xs (i + (2 : Int32)).toNatClampNeg)) (fun r9 => lt (pu 431 8 v5 r9.2) (fun v10 => ob (m_X9_thrown (sh 431 v10)) (fun r12 => (if r12 = (2 : Int32) then (if (2 : Int32) = 0 then (if (lg_cmp ((v10 430 0).toInt64) ((r9.1).toInt64)) = 0 then some v10 else none) else some v10) else none))))))))))
set_option maxHeartbeats 4000000 in
set_option maxRecDepth 100000 in
theorem k_law_28_xIOB {p : Program} {l : Launch} {e : Env} {R : Room} {s : State} {m : MethodId} {args : Array Value} {below : List Frame} {meth : Method} {c : Code} {H : Heap} {locs : List Loc} {cells slots : Nat} {Q : State → Prop} {G : xGl} {sa q : Nat → Nat} {v : xSt} {A : Nat → Prop} {ls : Array Slot} {b L : Nat} {xs : Nat → Int32} {i : Int32} (hst : l.stackTraces = false) (hC : CallFix p m c cL_law 9 s args lw_tbl RL) (hin : ∀ w ∈ wG, w ∈ lw_tbl) (hT : xT G sa A s s.heap) (hX : va_X b L xs s s.heap) (hbl : b < s.heap.size) (hbA : ¬ A b) (hcs : cells + 1 ≤ room_1.cells ∧ slots + 6 ≤ room_1.slots) (h : hg G (LW G) 439 q v A s H locs) (hl : lv_has ls 9 [(0, .ref b), (1, .ref (q 0)), (2, .ref (q 431)), (3, .ref (q 430)), (4, .int i)]) {z : xSt} (hf : m_law_28_xIOB v xs L i = some z) (kk : ∀ (H : Heap) (locs : List Loc) (ls : Array Slot), hg G (LW G) 439 q z A s H locs → lv_has ls 9 [(0, .ref b), (1, .ref (q 0)), (2, .ref (q 431)), (3, .ref (q 430)), (4, .int i)] → W p l e room_1 s m args below meth c H locs (cells + 1) (slots + 6) Q (F0 m 1839 ls [])) : W p l e room_1 s m args below meth c H locs cells slots Q (F0 m 1565 ls []) := by
  have hx := hC.1
  have hb := hC.2.1
  have hc0 : cells ≤ room_1.cells ∧ slots ≤ room_1.slots := ⟨Nat.le_of_succ_le hcs.1, Nat.le_trans (Nat.le_add_right _ _) hcs.2⟩
  unfold m_law_28_xIOB at hf
  refine lv_aload_n hx hb dL_law_1565 rfl (lv_at hl 1 rfl) ?_
  refine lv_aload_n hx hb dL_law_1566 rfl (lv_at hl 0 rfl) ?_
  refine lv_iload hx hb dL_law_1567 (lv_at hl 4 rfl) ?_
  refine lv_iconst (v := (1 : Int32)) hx hb dL_law_1569 (by decide) ?_
  refine lv_iadd hx hb dL_law_1570 ?_
  obtain ⟨hi1, hf⟩ := ck_e hf
  refine va_sld hx hb hX hbl hbA h.1.2.2.1 hi1 dL_law_1571 ?_
  refine lv_aload_n hx hb dL_law_1572 rfl (lv_at hl 0 rfl) ?_
  refine lv_iload hx hb dL_law_1573 (lv_at hl 4 rfl) ?_
  refine lv_iconst (v := (2 : Int32)) hx hb dL_law_1575 (by decide) ?_
  refine lv_iadd hx hb dL_law_1576 ?_
  obtain ⟨hi2, hf⟩ := ck_e hf
  refine va_sld hx hb hX hbl hbA h.1.2.2.1 hi2 dL_law_1577 ?_
  refine lv_aload_n hx hb dL_law_1578 rfl (lv_at hl 3 rfl) ?_
  obtain ⟨r3, hy4, hf⟩ := ob_e hf
  refine xipc h 431 sLW_0 (Nat.le_of_ble_eq_true rfl) (vx_runSW (As := [.ref (q 0), .int (xs (i + (1 : Int32)).toNatClampNeg), .int (xs (i + (2 : Int32)).toNatClampNeg), .ref (q 430)]) (rest := []) hC (x_L_why_xIOB l hst G sa q v (xs (i + (1 : Int32)).toNatClampNeg) (xs (i + (2 : Int32)).toNatClampNeg) (xthE_e hy4) H.size) (xcgSW hC hin lk_L_196 in_L co_L_why st_L_why rfl rfl dd_L_why ⟨Nat.le_of_ble_eq_true rfl, Nat.le_of_ble_eq_true rfl⟩) (preSP h hT 431 sLW_0 (Nat.le_of_ble_eq_true rfl) [.ref (q 0), .int (xs (i + (1 : Int32)).toNatClampNeg), .int (xs (i + (2 : Int32)).toNatClampNeg), .ref (q 430)]) rfl rfl hl.1 rfl (lv_room (Nat.le_of_ble_eq_true rfl)) dL_law_1579 hcs) (fun H locs h => ?_)
  obtain ⟨v5, ev5, hf⟩ := lt_e hf
  rw [← ev5] at h
  refine lv_istore (lv' := [(5, .int (2 : Int32)), (0, .ref b), (1, .ref (q 0)), (2, .ref (q 431)), (3, .ref (q 430)), (4, .int i)]) hx hb dL_law_1582 hl (by decide) rfl (fun ls hl => ?_)
  refine lv_aload_n hx hb dL_law_1584 rfl (lv_at hl 3 rfl) ?_
  refine lv_aload_n hx hb dL_law_1585 rfl (lv_at hl 1 rfl) ?_
  refine lv_iload hx hb dL_law_1586 (lv_at hl 5 rfl) ?_
  refine lv_iconst (v := (1 : Int32)) hx hb dL_law_1588 (by decide) ?_
  refine lv_iadd hx hb dL_law_1589 ?_
  obtain ⟨hi6, hf⟩ := ck_e hf
  refine va_sld hx hb hX hbl hbA h.1.2.2.1 hi6 dL_law_1590 ?_
  refine lv_aload_n hx hb dL_law_1591 rfl (lv_at hl 1 rfl) ?_
  refine lv_iload hx hb dL_law_1592 (lv_at hl 5 rfl) ?_
  refine lv_iconst (v := (2 : Int32)) hx hb dL_law_1594 (by decide) ?_
  refine lv_iadd hx hb dL_law_1595 ?_
  obtain ⟨hi7, hf⟩ := ck_e hf
  refine va_sld hx hb hX hbl hbA h.1.2.2.1 hi7 dL_law_1596 ?_
  obtain ⟨r9, hy8, hf⟩ := ob_e hf
  refine xi1 h 431 8 sLW_431 (Nat.le_of_ble_eq_true rfl) (va_runV (As := [.int (xs (i + (1 : Int32)).toNatClampNeg), .int (xs (i + (2 : Int32)).toNatClampNeg)]) (rest := []) hC (c_X9_why l G (sh 431 q) (sh 431 v5) (xs (i + (1 : Int32)).toNatClampNeg) (xs (i + (2 : Int32)).toNatClampNeg) hy8 H.size) (xcgV hC hin lk_L_198 in_X9 co_X9_why im_X9_why se_X9_why rfl rfl dd_X9_why ⟨Nat.le_of_ble_eq_true rfl, Nat.le_of_ble_eq_true rfl⟩) (preV1 h 431 8 sLW_431 (Nat.le_of_ble_eq_true rfl) (Nat.le_of_ble_eq_true rfl) eLW_431 rfl [.int (xs (i + (1 : Int32)).toNatClampNeg), .int (xs (i + (2 : Int32)).toNatClampNeg)]) rfl rfl hl.1 rfl (lv_room (Nat.le_of_ble_eq_true rfl)) dL_law_1597 hcs) (fun H locs h => ?_)
  obtain ⟨v10, ev10, hf⟩ := lt_e hf
  rw [← ev10] at h
  refine lv_istore (lv' := [(6, .int r9.1), (5, .int (2 : Int32)), (0, .ref b), (1, .ref (q 0)), (2, .ref (q 431)), (3, .ref (q 430)), (4, .int i)]) hx hb dL_law_1600 hl (by decide) rfl (fun ls hl => ?_)
  refine lv_aload_n hx hb dL_law_1602 rfl (lv_at hl 4 rfl) ?_
  obtain ⟨r12, hy11, hf⟩ := ob_e hf
  refine xiG h (va_runV (As := []) (rest := []) hC (c_X9_thrown l G (sh 431 q) (sh 431 v10) hy11 H.size) (xcgV hC hin lk_L_104 in_X9 co_X9_thrown im_X9_thrown se_X9_thrown rfl rfl dd_X9_thrown ⟨Nat.le_of_ble_eq_true rfl, Nat.le_of_ble_eq_true rfl⟩) (preVO h.o 431 8 sLW_431 (Nat.le_of_ble_eq_true rfl) (Nat.le_of_ble_eq_true rfl) eLW_431 rfl []) rfl rfl hl.1 rfl (lv_room (Nat.le_of_ble_eq_true rfl)) dL_law_1603 hcs) (fun H locs h => ?_)
  refine lv_iload hx hb dL_law_1606 (lv_at hl 1 rfl) ?_
  refine lv_icmp_eq (tgt := 1613) hx hb dL_law_1608 (by decide) (fun c13 => ?_) (fun c13 => ?_)
  · have hf := it_t c13 hf
    refine lv_iload hx hb dL_law_1613 (lv_at hl 1 rfl) ?_
    refine lv_if_ne (tgt := 1630) hx hb dL_law_1615 (by decide) (fun c14 => ?_) (fun c14 => ?_)
    · have hf := it_f c14 hf
      refine lv_goto (tgt := 1839) hx hb dL_law_1630 (by decide) ?_
      have hf := sm_e hf
      subst hf
      refine W.widen (k := cells + 1) (n := slots + 6) (by omega) (by omega) ?_
      exact kk H locs ls h (lv_sub hl [2, 3, 4, 5, 6] rfl)
    · have hf := it_t c14 hf
      refine lv_aload_n hx hb dL_law_1618 rfl (lv_at hl 5 rfl) ?_
      refine lv_iconst (v := (0 : Int32)) hx hb dL_law_1619 (by decide) ?_
      refine xlald hC h.o 430 (Nat.le_of_ble_eq_true rfl) eLW_430 dL_law_1620 ?_
      refine lv_iload hx hb dL_law_1621 (lv_at hl 0 rfl) ?_
      refine lv_i2l hx hb dL_law_1623 rfl ?_
      refine W.lcmp hx hb dL_law_1624 ?_
      refine lv_if_eq (tgt := 1630) hx hb dL_law_1625 (by decide) (fun c15 => ?_) (fun c15 => ?_)
      · have hf := it_t c15 hf
        refine lv_goto (tgt := 1839) hx hb dL_law_1630 (by decide) ?_
        have hf := sm_e hf
        subst hf
        refine W.widen (k := cells + 1) (n := slots + 6) (by omega) (by omega) ?_
        exact kk H locs ls h (lv_sub hl [2, 3, 4, 5, 6] rfl)
      · have hf := it_f c15 hf
        cases hf
  · have hf := it_f c13 hf
    cases hf
def m_law_29 (v : xSt) (xs : Nat → Int32) (L : Nat) (i : Int32) : Option xSt := ck (¬ ((i + (1 : Int32)) < 0 ∨ L ≤ (i + (1 : Int32)).toNatClampNeg)) (ob (m_L_misses v (xs (i + (1 : Int32)).toNatClampNeg)) (fun r2 => lt (pu 0 431 v r2.2) (fun v4 => ck (¬ ((i + (1 : Int32)) < 0 ∨ L ≤ (i + (1 : Int32)).toNatClampNeg)) (ob (m_X9_misses (sh 431 v4) (xs (i + (1 : Int32)).toNatClampNeg)) (fun r7 => lt (pu 431 8 v4 r7.2) (fun v8 => ob (m_X9_thrown (sh 431 v8)) (fun r10 => (if r10 = r2.1 then (if r2.1 = 0 then (if (lg_cmp ((v8 430 0).toInt64) ((r7.1).toInt64)) = 0 then some v8 else none) else some v8) else none))))))))
set_option maxHeartbeats 4000000 in
set_option maxRecDepth 100000 in
theorem k_law_29 {p : Program} {l : Launch} {e : Env} {R : Room} {s : State} {m : MethodId} {args : Array Value} {below : List Frame} {meth : Method} {c : Code} {H : Heap} {locs : List Loc} {cells slots : Nat} {Q : State → Prop} {G : xGl} {sa q : Nat → Nat} {v : xSt} {A : Nat → Prop} {ls : Array Slot} {b L : Nat} {xs : Nat → Int32} {i : Int32} (hst : l.stackTraces = false) (hC : CallFix p m c cL_law 9 s args lw_tbl RL) (hin : ∀ w ∈ wG, w ∈ lw_tbl) (hT : xT G sa A s s.heap) (hX : va_X b L xs s s.heap) (hbl : b < s.heap.size) (hbA : ¬ A b) (hcs : cells + 1 ≤ room_1.cells ∧ slots + 6 ≤ room_1.slots) (h : hg G (LW G) 439 q v A s H locs) (hl : lv_has ls 9 [(0, .ref b), (1, .ref (q 0)), (2, .ref (q 431)), (3, .ref (q 430)), (4, .int i)]) {z : xSt} (hf : m_law_29 v xs L i = some z) (kk : ∀ (H : Heap) (locs : List Loc) (ls : Array Slot), hg G (LW G) 439 q z A s H locs → lv_has ls 9 [(0, .ref b), (1, .ref (q 0)), (2, .ref (q 431)), (3, .ref (q 430)), (4, .int i)] → W p l e room_1 s m args below meth c H locs (cells + 1) (slots + 6) Q (F0 m 1839 ls [])) : W p l e room_1 s m args below meth c H locs cells slots Q (F0 m 1633 ls []) := by
  have hx := hC.1
  have hb := hC.2.1
  have hc0 : cells ≤ room_1.cells ∧ slots ≤ room_1.slots := ⟨Nat.le_of_succ_le hcs.1, Nat.le_trans (Nat.le_add_right _ _) hcs.2⟩
  unfold m_law_29 at hf
  refine lv_aload_n hx hb dL_law_1633 rfl (lv_at hl 1 rfl) ?_
  refine lv_aload_n hx hb dL_law_1634 rfl (lv_at hl 0 rfl) ?_
  refine lv_iload hx hb dL_law_1635 (lv_at hl 4 rfl) ?_
  refine lv_iconst (v := (1 : Int32)) hx hb dL_law_1637 (by decide) ?_
  refine lv_iadd hx hb dL_law_1638 ?_
  obtain ⟨hi1, hf⟩ := ck_e hf
  refine va_sld hx hb hX hbl hbA h.1.2.2.1 hi1 dL_law_1639 ?_
  refine lv_aload_n hx hb dL_law_1640 rfl (lv_at hl 3 rfl) ?_
  obtain ⟨r2, hy3, hf⟩ := ob_e hf
  refine xipc h 431 sLW_0 (Nat.le_of_ble_eq_true rfl) (vx_runSW (As := [.ref (q 0), .int (xs (i + (1 : Int32)).toNatClampNeg), .ref (q 430)]) (rest := []) hC (c_L_misses l G sa q v (xs (i + (1 : Int32)).toNatClampNeg) hy3 H.size) (xcgSW hC hin lk_L_199 in_L co_L_misses st_L_misses rfl rfl dd_L_misses ⟨Nat.le_of_ble_eq_true rfl, Nat.le_of_ble_eq_true rfl⟩) (preSP h hT 431 sLW_0 (Nat.le_of_ble_eq_true rfl) [.ref (q 0), .int (xs (i + (1 : Int32)).toNatClampNeg), .ref (q 430)]) rfl rfl hl.1 rfl (lv_room (Nat.le_of_ble_eq_true rfl)) dL_law_1641 ⟨Nat.le_of_succ_le hcs.1, Nat.le_trans (Nat.le_add_right _ _) hcs.2⟩) (fun H locs h => ?_)
  obtain ⟨v4, ev4, hf⟩ := lt_e hf
  rw [← ev4] at h
  refine lv_istore (lv' := [(5, .int r2.1), (0, .ref b), (1, .ref (q 0)), (2, .ref (q 431)), (3, .ref (q 430)), (4, .int i)]) hx hb dL_law_1644 hl (by decide) rfl (fun ls hl => ?_)
  refine lv_aload_n hx hb dL_law_1646 rfl (lv_at hl 3 rfl) ?_
  refine lv_aload_n hx hb dL_law_1647 rfl (lv_at hl 1 rfl) ?_
  refine lv_iload hx hb dL_law_1648 (lv_at hl 5 rfl) ?_
  refine lv_iconst (v := (1 : Int32)) hx hb dL_law_1650 (by decide) ?_
  refine lv_iadd hx hb dL_law_1651 ?_
  obtain ⟨hi5, hf⟩ := ck_e hf
  refine va_sld hx hb hX hbl hbA h.1.2.2.1 hi5 dL_law_1652 ?_
  obtain ⟨r7, hy6, hf⟩ := ob_e hf
  refine xi1 h 431 8 sLW_431 (Nat.le_of_ble_eq_true rfl) (va_runV (As := [.int (xs (i + (1 : Int32)).toNatClampNeg)]) (rest := []) hC (c_X9_misses l G (sh 431 q) (sh 431 v4) (xs (i + (1 : Int32)).toNatClampNeg) hy6 H.size) (xcgV hC hin lk_L_201 in_X9 co_X9_misses im_X9_misses se_X9_misses rfl rfl dd_X9_misses ⟨Nat.le_of_ble_eq_true rfl, Nat.le_of_ble_eq_true rfl⟩) (preV1 h 431 8 sLW_431 (Nat.le_of_ble_eq_true rfl) (Nat.le_of_ble_eq_true rfl) eLW_431 rfl [.int (xs (i + (1 : Int32)).toNatClampNeg)]) rfl rfl hl.1 rfl (lv_room (Nat.le_of_ble_eq_true rfl)) dL_law_1653 hc0) (fun H locs h => ?_)
  obtain ⟨v8, ev8, hf⟩ := lt_e hf
  rw [← ev8] at h
  refine lv_istore (lv' := [(6, .int r7.1), (5, .int r2.1), (0, .ref b), (1, .ref (q 0)), (2, .ref (q 431)), (3, .ref (q 430)), (4, .int i)]) hx hb dL_law_1656 hl (by decide) rfl (fun ls hl => ?_)
  refine lv_aload_n hx hb dL_law_1658 rfl (lv_at hl 4 rfl) ?_
  obtain ⟨r10, hy9, hf⟩ := ob_e hf
  refine xiG h (va_runV (As := []) (rest := []) hC (c_X9_thrown l G (sh 431 q) (sh 431 v8) hy9 H.size) (xcgV hC hin lk_L_104 in_X9 co_X9_thrown im_X9_thrown se_X9_thrown rfl rfl dd_X9_thrown ⟨Nat.le_of_ble_eq_true rfl, Nat.le_of_ble_eq_true rfl⟩) (preVO h.o 431 8 sLW_431 (Nat.le_of_ble_eq_true rfl) (Nat.le_of_ble_eq_true rfl) eLW_431 rfl []) rfl rfl hl.1 rfl (lv_room (Nat.le_of_ble_eq_true rfl)) dL_law_1659 hc0) (fun H locs h => ?_)
  refine lv_iload hx hb dL_law_1662 (lv_at hl 1 rfl) ?_
  refine lv_icmp_eq (tgt := 1669) hx hb dL_law_1664 (by decide) (fun c11 => ?_) (fun c11 => ?_)
  · have hf := it_t c11 hf
    refine lv_iload hx hb dL_law_1669 (lv_at hl 1 rfl) ?_
    refine lv_if_ne (tgt := 1686) hx hb dL_law_1671 (by decide) (fun c12 => ?_) (fun c12 => ?_)
    · have hf := it_f c12 hf
      refine lv_goto (tgt := 1839) hx hb dL_law_1686 (by decide) ?_
      have hf := sm_e hf
      subst hf
      refine W.widen (k := cells + 1) (n := slots + 6) (by omega) (by omega) ?_
      exact kk H locs ls h (lv_sub hl [2, 3, 4, 5, 6] rfl)
    · have hf := it_t c12 hf
      refine lv_aload_n hx hb dL_law_1674 rfl (lv_at hl 5 rfl) ?_
      refine lv_iconst (v := (0 : Int32)) hx hb dL_law_1675 (by decide) ?_
      refine xlald hC h.o 430 (Nat.le_of_ble_eq_true rfl) eLW_430 dL_law_1676 ?_
      refine lv_iload hx hb dL_law_1677 (lv_at hl 0 rfl) ?_
      refine lv_i2l hx hb dL_law_1679 rfl ?_
      refine W.lcmp hx hb dL_law_1680 ?_
      refine lv_if_eq (tgt := 1686) hx hb dL_law_1681 (by decide) (fun c13 => ?_) (fun c13 => ?_)
      · have hf := it_t c13 hf
        refine lv_goto (tgt := 1839) hx hb dL_law_1686 (by decide) ?_
        have hf := sm_e hf
        subst hf
        refine W.widen (k := cells + 1) (n := slots + 6) (by omega) (by omega) ?_
        exact kk H locs ls h (lv_sub hl [2, 3, 4, 5, 6] rfl)
      · have hf := it_f c13 hf
        cases hf
  · have hf := it_f c11 hf
    cases hf
def m_law_29_xIOB (v : xSt) (xs : Nat → Int32) (L : Nat) (i : Int32) : Option xSt := ck (¬ ((i + (1 : Int32)) < 0 ∨ L ≤ (i + (1 : Int32)).toNatClampNeg)) (ob (xthE xIOB (m_X8_misses_t v (xs (i + (1 : Int32)).toNatClampNeg))) (fun r2 => lt (pu 0 431 v (pu 0 430 v r2)) (fun v4 => ck (¬ ((i + (1 : Int32)) < 0 ∨ L ≤ (i + (1 : Int32)).toNatClampNeg)) (ob (m_X9_misses (sh 431 v4) (xs (i + (1 : Int32)).toNatClampNeg)) (fun r7 => lt (pu 431 8 v4 r7.2) (fun v8 => ob (m_X9_thrown (sh 431 v8)) (fun r10 => (if r10 = (1 : Int32) then (if (1 : Int32) = 0 then (if (lg_cmp ((v8 430 0).toInt64) ((r7.1).toInt64)) = 0 then some v8 else none) else some v8) else none))))))))
set_option maxHeartbeats 4000000 in
set_option maxRecDepth 100000 in
theorem k_law_29_xIOB {p : Program} {l : Launch} {e : Env} {R : Room} {s : State} {m : MethodId} {args : Array Value} {below : List Frame} {meth : Method} {c : Code} {H : Heap} {locs : List Loc} {cells slots : Nat} {Q : State → Prop} {G : xGl} {sa q : Nat → Nat} {v : xSt} {A : Nat → Prop} {ls : Array Slot} {b L : Nat} {xs : Nat → Int32} {i : Int32} (hst : l.stackTraces = false) (hC : CallFix p m c cL_law 9 s args lw_tbl RL) (hin : ∀ w ∈ wG, w ∈ lw_tbl) (hT : xT G sa A s s.heap) (hX : va_X b L xs s s.heap) (hbl : b < s.heap.size) (hbA : ¬ A b) (hcs : cells + 1 ≤ room_1.cells ∧ slots + 6 ≤ room_1.slots) (h : hg G (LW G) 439 q v A s H locs) (hl : lv_has ls 9 [(0, .ref b), (1, .ref (q 0)), (2, .ref (q 431)), (3, .ref (q 430)), (4, .int i)]) {z : xSt} (hf : m_law_29_xIOB v xs L i = some z) (kk : ∀ (H : Heap) (locs : List Loc) (ls : Array Slot), hg G (LW G) 439 q z A s H locs → lv_has ls 9 [(0, .ref b), (1, .ref (q 0)), (2, .ref (q 431)), (3, .ref (q 430)), (4, .int i)] → W p l e room_1 s m args below meth c H locs (cells + 1) (slots + 6) Q (F0 m 1839 ls [])) : W p l e room_1 s m args below meth c H locs cells slots Q (F0 m 1633 ls []) := by
  have hx := hC.1
  have hb := hC.2.1
  have hc0 : cells ≤ room_1.cells ∧ slots ≤ room_1.slots := ⟨Nat.le_of_succ_le hcs.1, Nat.le_trans (Nat.le_add_right _ _) hcs.2⟩
  unfold m_law_29_xIOB at hf
  refine lv_aload_n hx hb dL_law_1633 rfl (lv_at hl 1 rfl) ?_
  refine lv_aload_n hx hb dL_law_1634 rfl (lv_at hl 0 rfl) ?_
  refine lv_iload hx hb dL_law_1635 (lv_at hl 4 rfl) ?_
  refine lv_iconst (v := (1 : Int32)) hx hb dL_law_1637 (by decide) ?_
  refine lv_iadd hx hb dL_law_1638 ?_
  obtain ⟨hi1, hf⟩ := ck_e hf
  refine va_sld hx hb hX hbl hbA h.1.2.2.1 hi1 dL_law_1639 ?_
  refine lv_aload_n hx hb dL_law_1640 rfl (lv_at hl 3 rfl) ?_
  obtain ⟨r2, hy3, hf⟩ := ob_e hf
  refine xipc h 431 sLW_0 (Nat.le_of_ble_eq_true rfl) (vx_runSW (As := [.ref (q 0), .int (xs (i + (1 : Int32)).toNatClampNeg), .ref (q 430)]) (rest := []) hC (x_L_misses_xIOB l hst G sa q v (xs (i + (1 : Int32)).toNatClampNeg) (xthE_e hy3) H.size) (xcgSW hC hin lk_L_199 in_L co_L_misses st_L_misses rfl rfl dd_L_misses ⟨Nat.le_of_ble_eq_true rfl, Nat.le_of_ble_eq_true rfl⟩) (preSP h hT 431 sLW_0 (Nat.le_of_ble_eq_true rfl) [.ref (q 0), .int (xs (i + (1 : Int32)).toNatClampNeg), .ref (q 430)]) rfl rfl hl.1 rfl (lv_room (Nat.le_of_ble_eq_true rfl)) dL_law_1641 hcs) (fun H locs h => ?_)
  obtain ⟨v4, ev4, hf⟩ := lt_e hf
  rw [← ev4] at h
  refine lv_istore (lv' := [(5, .int (1 : Int32)), (0, .ref b), (1, .ref (q 0)), (2, .ref (q 431)), (3, .ref (q 430)), (4, .int i)]) hx hb dL_law_1644 hl (by decide) rfl (fun ls hl => ?_)
  refine lv_aload_n hx hb dL_law_1646 rfl (lv_at hl 3 rfl) ?_
  refine lv_aload_n hx hb dL_law_1647 rfl (lv_at hl 1 rfl) ?_
  refine lv_iload hx hb dL_law_1648 (lv_at hl 5 rfl) ?_
  refine lv_iconst (v := (1 : Int32)) hx hb dL_law_1650 (by decide) ?_
  refine lv_iadd hx hb dL_law_1651 ?_
  obtain ⟨hi5, hf⟩ := ck_e hf
  refine va_sld hx hb hX hbl hbA h.1.2.2.1 hi5 dL_law_1652 ?_
  obtain ⟨r7, hy6, hf⟩ := ob_e hf
  refine xi1 h 431 8 sLW_431 (Nat.le_of_ble_eq_true rfl) (va_runV (As := [.int (xs (i + (1 : Int32)).toNatClampNeg)]) (rest := []) hC (c_X9_misses l G (sh 431 q) (sh 431 v4) (xs (i + (1 : Int32)).toNatClampNeg) hy6 H.size) (xcgV hC hin lk_L_201 in_X9 co_X9_misses im_X9_misses se_X9_misses rfl rfl dd_X9_misses ⟨Nat.le_of_ble_eq_true rfl, Nat.le_of_ble_eq_true rfl⟩) (preV1 h 431 8 sLW_431 (Nat.le_of_ble_eq_true rfl) (Nat.le_of_ble_eq_true rfl) eLW_431 rfl [.int (xs (i + (1 : Int32)).toNatClampNeg)]) rfl rfl hl.1 rfl (lv_room (Nat.le_of_ble_eq_true rfl)) dL_law_1653 hcs) (fun H locs h => ?_)
  obtain ⟨v8, ev8, hf⟩ := lt_e hf
  rw [← ev8] at h
  refine lv_istore (lv' := [(6, .int r7.1), (5, .int (1 : Int32)), (0, .ref b), (1, .ref (q 0)), (2, .ref (q 431)), (3, .ref (q 430)), (4, .int i)]) hx hb dL_law_1656 hl (by decide) rfl (fun ls hl => ?_)
  refine lv_aload_n hx hb dL_law_1658 rfl (lv_at hl 4 rfl) ?_
  obtain ⟨r10, hy9, hf⟩ := ob_e hf
  refine xiG h (va_runV (As := []) (rest := []) hC (c_X9_thrown l G (sh 431 q) (sh 431 v8) hy9 H.size) (xcgV hC hin lk_L_104 in_X9 co_X9_thrown im_X9_thrown se_X9_thrown rfl rfl dd_X9_thrown ⟨Nat.le_of_ble_eq_true rfl, Nat.le_of_ble_eq_true rfl⟩) (preVO h.o 431 8 sLW_431 (Nat.le_of_ble_eq_true rfl) (Nat.le_of_ble_eq_true rfl) eLW_431 rfl []) rfl rfl hl.1 rfl (lv_room (Nat.le_of_ble_eq_true rfl)) dL_law_1659 hcs) (fun H locs h => ?_)
  refine lv_iload hx hb dL_law_1662 (lv_at hl 1 rfl) ?_
  refine lv_icmp_eq (tgt := 1669) hx hb dL_law_1664 (by decide) (fun c11 => ?_) (fun c11 => ?_)
  · have hf := it_t c11 hf
    refine lv_iload hx hb dL_law_1669 (lv_at hl 1 rfl) ?_
    refine lv_if_ne (tgt := 1686) hx hb dL_law_1671 (by decide) (fun c12 => ?_) (fun c12 => ?_)
    · have hf := it_f c12 hf
      refine lv_goto (tgt := 1839) hx hb dL_law_1686 (by decide) ?_
      have hf := sm_e hf
      subst hf
      refine W.widen (k := cells + 1) (n := slots + 6) (by omega) (by omega) ?_
      exact kk H locs ls h (lv_sub hl [2, 3, 4, 5, 6] rfl)
    · have hf := it_t c12 hf
      refine lv_aload_n hx hb dL_law_1674 rfl (lv_at hl 5 rfl) ?_
      refine lv_iconst (v := (0 : Int32)) hx hb dL_law_1675 (by decide) ?_
      refine xlald hC h.o 430 (Nat.le_of_ble_eq_true rfl) eLW_430 dL_law_1676 ?_
      refine lv_iload hx hb dL_law_1677 (lv_at hl 0 rfl) ?_
      refine lv_i2l hx hb dL_law_1679 rfl ?_
      refine W.lcmp hx hb dL_law_1680 ?_
      refine lv_if_eq (tgt := 1686) hx hb dL_law_1681 (by decide) (fun c13 => ?_) (fun c13 => ?_)
      · have hf := it_t c13 hf
        refine lv_goto (tgt := 1839) hx hb dL_law_1686 (by decide) ?_
        have hf := sm_e hf
        subst hf
        refine W.widen (k := cells + 1) (n := slots + 6) (by omega) (by omega) ?_
        exact kk H locs ls h (lv_sub hl [2, 3, 4, 5, 6] rfl)
      · have hf := it_f c13 hf
        cases hf
  · have hf := it_f c11 hf
    cases hf
def m_law_30 (v : xSt) (xs : Nat → Int32) (L : Nat) (i : Int32) : Option xSt := ob (m_X8_fits v) (fun r2 => ob (m_X9_fits (sh 431 v)) (fun r4 => lt (pu 431 8 v r4.2) (fun v5 => (if r2 = r4.1 then some v5 else none))))
set_option maxHeartbeats 4000000 in
set_option maxRecDepth 100000 in
theorem k_law_30 {p : Program} {l : Launch} {e : Env} {R : Room} {s : State} {m : MethodId} {args : Array Value} {below : List Frame} {meth : Method} {c : Code} {H : Heap} {locs : List Loc} {cells slots : Nat} {Q : State → Prop} {G : xGl} {sa q : Nat → Nat} {v : xSt} {A : Nat → Prop} {ls : Array Slot} {b L : Nat} {xs : Nat → Int32} {i : Int32} (hst : l.stackTraces = false) (hC : CallFix p m c cL_law 9 s args lw_tbl RL) (hin : ∀ w ∈ wG, w ∈ lw_tbl) (hT : xT G sa A s s.heap) (hX : va_X b L xs s s.heap) (hbl : b < s.heap.size) (hbA : ¬ A b) (hcs : cells + 1 ≤ room_1.cells ∧ slots + 6 ≤ room_1.slots) (h : hg G (LW G) 439 q v A s H locs) (hl : lv_has ls 9 [(0, .ref b), (1, .ref (q 0)), (2, .ref (q 431)), (3, .ref (q 430)), (4, .int i)]) {z : xSt} (hf : m_law_30 v xs L i = some z) (kk : ∀ (H : Heap) (locs : List Loc) (ls : Array Slot), hg G (LW G) 439 q z A s H locs → lv_has ls 9 [(0, .ref b), (1, .ref (q 0)), (2, .ref (q 431)), (3, .ref (q 430)), (4, .int i)] → W p l e room_1 s m args below meth c H locs (cells + 1) (slots + 6) Q (F0 m 1839 ls [])) : W p l e room_1 s m args below meth c H locs cells slots Q (F0 m 1689 ls []) := by
  have hx := hC.1
  have hb := hC.2.1
  have hc0 : cells ≤ room_1.cells ∧ slots ≤ room_1.slots := ⟨Nat.le_of_succ_le hcs.1, Nat.le_trans (Nat.le_add_right _ _) hcs.2⟩
  unfold m_law_30 at hf
  refine lv_aload_n hx hb dL_law_1689 rfl (lv_at hl 1 rfl) ?_
  obtain ⟨r2, hy1, hf⟩ := ob_e hf
  refine xiG h (va_runV (As := []) (rest := []) hC (c_X8_fits l G q v hy1 H.size) (xcgV hC hin lk_L_202 in_X8 co_X8_fits im_X8_fits se_X8_fits rfl rfl dd_X8_fits ⟨Nat.le_of_ble_eq_true rfl, Nat.le_of_ble_eq_true rfl⟩) (preVOp h.o 430 sLW_0b (Nat.le_of_ble_eq_true rfl) (Nat.le_of_ble_eq_true rfl) eLW_0 rfl []) rfl rfl hl.1 rfl (lv_room (Nat.le_of_ble_eq_true rfl)) dL_law_1690 hc0) (fun H locs h => ?_)
  refine lv_aload_n hx hb dL_law_1693 rfl (lv_at hl 2 rfl) ?_
  obtain ⟨r4, hy3, hf⟩ := ob_e hf
  refine xi1 h 431 8 sLW_431 (Nat.le_of_ble_eq_true rfl) (va_runV (As := []) (rest := [.int r2]) hC (c_X9_fits l G (sh 431 q) (sh 431 v) hy3 H.size) (xcgV hC hin lk_L_205 in_X9 co_X9_fits im_X9_fits se_X9_fits rfl rfl dd_X9_fits ⟨Nat.le_of_ble_eq_true rfl, Nat.le_of_ble_eq_true rfl⟩) (preV1 h 431 8 sLW_431 (Nat.le_of_ble_eq_true rfl) (Nat.le_of_ble_eq_true rfl) eLW_431 rfl []) rfl rfl hl.1 rfl (lv_room (Nat.le_of_ble_eq_true rfl)) dL_law_1694 hc0) (fun H locs h => ?_)
  obtain ⟨v5, ev5, hf⟩ := lt_e hf
  rw [← ev5] at h
  refine lv_icmp_eq (tgt := 1839) hx hb dL_law_1697 (by decide) (fun c6 => ?_) (fun c6 => ?_)
  · have hf := it_t c6 hf
    have hf := sm_e hf
    subst hf
    refine W.widen (k := cells + 1) (n := slots + 6) (by omega) (by omega) ?_
    exact kk H locs ls h (lv_sub hl [0, 1, 2, 3, 4] rfl)
  · have hf := it_f c6 hf
    cases hf
def m_law_31 (v : xSt) (xs : Nat → Int32) (L : Nat) (i : Int32) : Option xSt := ob (m_X8_freeIn v) (fun r2 => lt (pu 0 430 v r2.2) (fun v3 => ob (m_X9_freeIn (sh 431 v3)) (fun r5 => lt (pu 431 8 v3 r5.2) (fun v6 => (if r2.1 = r5.1 then some v6 else none)))))
set_option maxHeartbeats 4000000 in
set_option maxRecDepth 100000 in
theorem k_law_31 {p : Program} {l : Launch} {e : Env} {R : Room} {s : State} {m : MethodId} {args : Array Value} {below : List Frame} {meth : Method} {c : Code} {H : Heap} {locs : List Loc} {cells slots : Nat} {Q : State → Prop} {G : xGl} {sa q : Nat → Nat} {v : xSt} {A : Nat → Prop} {ls : Array Slot} {b L : Nat} {xs : Nat → Int32} {i : Int32} (hst : l.stackTraces = false) (hC : CallFix p m c cL_law 9 s args lw_tbl RL) (hin : ∀ w ∈ wG, w ∈ lw_tbl) (hT : xT G sa A s s.heap) (hX : va_X b L xs s s.heap) (hbl : b < s.heap.size) (hbA : ¬ A b) (hcs : cells + 1 ≤ room_1.cells ∧ slots + 6 ≤ room_1.slots) (h : hg G (LW G) 439 q v A s H locs) (hl : lv_has ls 9 [(0, .ref b), (1, .ref (q 0)), (2, .ref (q 431)), (3, .ref (q 430)), (4, .int i)]) {z : xSt} (hf : m_law_31 v xs L i = some z) (kk : ∀ (H : Heap) (locs : List Loc) (ls : Array Slot), hg G (LW G) 439 q z A s H locs → lv_has ls 9 [(0, .ref b), (1, .ref (q 0)), (2, .ref (q 431)), (3, .ref (q 430)), (4, .int i)] → W p l e room_1 s m args below meth c H locs (cells + 1) (slots + 6) Q (F0 m 1839 ls [])) : W p l e room_1 s m args below meth c H locs cells slots Q (F0 m 1702 ls []) := by
  have hx := hC.1
  have hb := hC.2.1
  have hc0 : cells ≤ room_1.cells ∧ slots ≤ room_1.slots := ⟨Nat.le_of_succ_le hcs.1, Nat.le_trans (Nat.le_add_right _ _) hcs.2⟩
  unfold m_law_31 at hf
  refine lv_aload_n hx hb dL_law_1702 rfl (lv_at hl 1 rfl) ?_
  obtain ⟨r2, hy1, hf⟩ := ob_e hf
  refine xip h 430 sLW_0b (Nat.le_of_ble_eq_true rfl) (va_runV (As := []) (rest := []) hC (c_X8_freeIn l G q v hy1 H.size) (xcgV hC hin lk_L_206 in_X8 co_X8_freeIn im_X8_freeIn se_X8_freeIn rfl rfl dd_X8_freeIn ⟨Nat.le_of_ble_eq_true rfl, Nat.le_of_ble_eq_true rfl⟩) (preVp h 430 sLW_0b (Nat.le_of_ble_eq_true rfl) (Nat.le_of_ble_eq_true rfl) eLW_0 rfl []) rfl rfl hl.1 rfl (lv_room (Nat.le_of_ble_eq_true rfl)) dL_law_1703 hc0) (fun H locs h => ?_)
  obtain ⟨v3, ev3, hf⟩ := lt_e hf
  rw [← ev3] at h
  refine lv_aload_n hx hb dL_law_1706 rfl (lv_at hl 2 rfl) ?_
  obtain ⟨r5, hy4, hf⟩ := ob_e hf
  refine xi1 h 431 8 sLW_431 (Nat.le_of_ble_eq_true rfl) (va_runV (As := []) (rest := [.int r2.1]) hC (c_X9_freeIn l G (sh 431 q) (sh 431 v3) hy4 H.size) (xcgV hC hin lk_L_209 in_X9 co_X9_freeIn im_X9_freeIn se_X9_freeIn rfl rfl dd_X9_freeIn ⟨Nat.le_of_ble_eq_true rfl, Nat.le_of_ble_eq_true rfl⟩) (preV1 h 431 8 sLW_431 (Nat.le_of_ble_eq_true rfl) (Nat.le_of_ble_eq_true rfl) eLW_431 rfl []) rfl rfl hl.1 rfl (lv_room (Nat.le_of_ble_eq_true rfl)) dL_law_1707 hc0) (fun H locs h => ?_)
  obtain ⟨v6, ev6, hf⟩ := lt_e hf
  rw [← ev6] at h
  refine lv_icmp_eq (tgt := 1839) hx hb dL_law_1710 (by decide) (fun c7 => ?_) (fun c7 => ?_)
  · have hf := it_t c7 hf
    have hf := sm_e hf
    subst hf
    refine W.widen (k := cells + 1) (n := slots + 6) (by omega) (by omega) ?_
    exact kk H locs ls h (lv_sub hl [0, 1, 2, 3, 4] rfl)
  · have hf := it_f c7 hf
    cases hf
def m_law_32 (v : xSt) (xs : Nat → Int32) (L : Nat) (i : Int32) : Option xSt := ob (m_X8_leastWorn v) (fun r2 => ob (m_X9_leastWorn (sh 431 v)) (fun r4 => lt (pu 431 8 v r4.2) (fun v5 => (if r2 = r4.1 then some v5 else none))))
set_option maxHeartbeats 4000000 in
set_option maxRecDepth 100000 in
theorem k_law_32 {p : Program} {l : Launch} {e : Env} {R : Room} {s : State} {m : MethodId} {args : Array Value} {below : List Frame} {meth : Method} {c : Code} {H : Heap} {locs : List Loc} {cells slots : Nat} {Q : State → Prop} {G : xGl} {sa q : Nat → Nat} {v : xSt} {A : Nat → Prop} {ls : Array Slot} {b L : Nat} {xs : Nat → Int32} {i : Int32} (hst : l.stackTraces = false) (hC : CallFix p m c cL_law 9 s args lw_tbl RL) (hin : ∀ w ∈ wG, w ∈ lw_tbl) (hT : xT G sa A s s.heap) (hX : va_X b L xs s s.heap) (hbl : b < s.heap.size) (hbA : ¬ A b) (hcs : cells + 1 ≤ room_1.cells ∧ slots + 6 ≤ room_1.slots) (h : hg G (LW G) 439 q v A s H locs) (hl : lv_has ls 9 [(0, .ref b), (1, .ref (q 0)), (2, .ref (q 431)), (3, .ref (q 430)), (4, .int i)]) {z : xSt} (hf : m_law_32 v xs L i = some z) (kk : ∀ (H : Heap) (locs : List Loc) (ls : Array Slot), hg G (LW G) 439 q z A s H locs → lv_has ls 9 [(0, .ref b), (1, .ref (q 0)), (2, .ref (q 431)), (3, .ref (q 430)), (4, .int i)] → W p l e room_1 s m args below meth c H locs (cells + 1) (slots + 6) Q (F0 m 1839 ls [])) : W p l e room_1 s m args below meth c H locs cells slots Q (F0 m 1715 ls []) := by
  have hx := hC.1
  have hb := hC.2.1
  have hc0 : cells ≤ room_1.cells ∧ slots ≤ room_1.slots := ⟨Nat.le_of_succ_le hcs.1, Nat.le_trans (Nat.le_add_right _ _) hcs.2⟩
  unfold m_law_32 at hf
  refine lv_aload_n hx hb dL_law_1715 rfl (lv_at hl 1 rfl) ?_
  obtain ⟨r2, hy1, hf⟩ := ob_e hf
  refine xiG h (va_runV (As := []) (rest := []) hC (c_X8_leastWorn l G q v hy1 H.size) (xcgV hC hin lk_L_210 in_X8 co_X8_leastWorn im_X8_leastWorn se_X8_leastWorn rfl rfl dd_X8_leastWorn ⟨Nat.le_of_ble_eq_true rfl, Nat.le_of_ble_eq_true rfl⟩) (preVOp h.o 430 sLW_0b (Nat.le_of_ble_eq_true rfl) (Nat.le_of_ble_eq_true rfl) eLW_0 rfl []) rfl rfl hl.1 rfl (lv_room (Nat.le_of_ble_eq_true rfl)) dL_law_1716 hc0) (fun H locs h => ?_)
  refine lv_aload_n hx hb dL_law_1719 rfl (lv_at hl 2 rfl) ?_
  obtain ⟨r4, hy3, hf⟩ := ob_e hf
  refine xi1 h 431 8 sLW_431 (Nat.le_of_ble_eq_true rfl) (va_runV (As := []) (rest := [.int r2]) hC (c_X9_leastWorn l G (sh 431 q) (sh 431 v) hy3 H.size) (xcgV hC hin lk_L_213 in_X9 co_X9_leastWorn im_X9_leastWorn se_X9_leastWorn rfl rfl dd_X9_leastWorn ⟨Nat.le_of_ble_eq_true rfl, Nat.le_of_ble_eq_true rfl⟩) (preV1 h 431 8 sLW_431 (Nat.le_of_ble_eq_true rfl) (Nat.le_of_ble_eq_true rfl) eLW_431 rfl []) rfl rfl hl.1 rfl (lv_room (Nat.le_of_ble_eq_true rfl)) dL_law_1720 hc0) (fun H locs h => ?_)
  obtain ⟨v5, ev5, hf⟩ := lt_e hf
  rw [← ev5] at h
  refine lv_icmp_eq (tgt := 1839) hx hb dL_law_1723 (by decide) (fun c6 => ?_) (fun c6 => ?_)
  · have hf := it_t c6 hf
    have hf := sm_e hf
    subst hf
    refine W.widen (k := cells + 1) (n := slots + 6) (by omega) (by omega) ?_
    exact kk H locs ls h (lv_sub hl [0, 1, 2, 3, 4] rfl)
  · have hf := it_f c6 hf
    cases hf
def m_law_33 (v : xSt) (xs : Nat → Int32) (L : Nat) (i : Int32) : Option xSt := ob (m_X8_commonest v) (fun r2 => lt (pu 0 430 v r2.2) (fun v3 => ob (m_X9_commonest (sh 431 v3)) (fun r5 => lt (pu 431 8 v3 r5.2) (fun v6 => (if r2.1 = r5.1 then some v6 else none)))))
set_option maxHeartbeats 4000000 in
set_option maxRecDepth 100000 in
theorem k_law_33 {p : Program} {l : Launch} {e : Env} {R : Room} {s : State} {m : MethodId} {args : Array Value} {below : List Frame} {meth : Method} {c : Code} {H : Heap} {locs : List Loc} {cells slots : Nat} {Q : State → Prop} {G : xGl} {sa q : Nat → Nat} {v : xSt} {A : Nat → Prop} {ls : Array Slot} {b L : Nat} {xs : Nat → Int32} {i : Int32} (hst : l.stackTraces = false) (hC : CallFix p m c cL_law 9 s args lw_tbl RL) (hin : ∀ w ∈ wG, w ∈ lw_tbl) (hT : xT G sa A s s.heap) (hX : va_X b L xs s s.heap) (hbl : b < s.heap.size) (hbA : ¬ A b) (hcs : cells + 1 ≤ room_1.cells ∧ slots + 6 ≤ room_1.slots) (h : hg G (LW G) 439 q v A s H locs) (hl : lv_has ls 9 [(0, .ref b), (1, .ref (q 0)), (2, .ref (q 431)), (3, .ref (q 430)), (4, .int i)]) {z : xSt} (hf : m_law_33 v xs L i = some z) (kk : ∀ (H : Heap) (locs : List Loc) (ls : Array Slot), hg G (LW G) 439 q z A s H locs → lv_has ls 9 [(0, .ref b), (1, .ref (q 0)), (2, .ref (q 431)), (3, .ref (q 430)), (4, .int i)] → W p l e room_1 s m args below meth c H locs (cells + 1) (slots + 6) Q (F0 m 1839 ls [])) : W p l e room_1 s m args below meth c H locs cells slots Q (F0 m 1728 ls []) := by
  have hx := hC.1
  have hb := hC.2.1
  have hc0 : cells ≤ room_1.cells ∧ slots ≤ room_1.slots := ⟨Nat.le_of_succ_le hcs.1, Nat.le_trans (Nat.le_add_right _ _) hcs.2⟩
  unfold m_law_33 at hf
  refine lv_aload_n hx hb dL_law_1728 rfl (lv_at hl 1 rfl) ?_
  obtain ⟨r2, hy1, hf⟩ := ob_e hf
  refine xip h 430 sLW_0b (Nat.le_of_ble_eq_true rfl) (va_runV (As := []) (rest := []) hC (c_X8_commonest l G q v hy1 H.size) (xcgV hC hin lk_L_214 in_X8 co_X8_commonest im_X8_commonest se_X8_commonest rfl rfl dd_X8_commonest ⟨Nat.le_of_ble_eq_true rfl, Nat.le_of_ble_eq_true rfl⟩) (preVp h 430 sLW_0b (Nat.le_of_ble_eq_true rfl) (Nat.le_of_ble_eq_true rfl) eLW_0 rfl []) rfl rfl hl.1 rfl (lv_room (Nat.le_of_ble_eq_true rfl)) dL_law_1729 hc0) (fun H locs h => ?_)
  obtain ⟨v3, ev3, hf⟩ := lt_e hf
  rw [← ev3] at h
  refine lv_aload_n hx hb dL_law_1732 rfl (lv_at hl 2 rfl) ?_
  obtain ⟨r5, hy4, hf⟩ := ob_e hf
  refine xi1 h 431 8 sLW_431 (Nat.le_of_ble_eq_true rfl) (va_runV (As := []) (rest := [.int r2.1]) hC (c_X9_commonest l G (sh 431 q) (sh 431 v3) hy4 H.size) (xcgV hC hin lk_L_217 in_X9 co_X9_commonest im_X9_commonest se_X9_commonest rfl rfl dd_X9_commonest ⟨Nat.le_of_ble_eq_true rfl, Nat.le_of_ble_eq_true rfl⟩) (preV1 h 431 8 sLW_431 (Nat.le_of_ble_eq_true rfl) (Nat.le_of_ble_eq_true rfl) eLW_431 rfl []) rfl rfl hl.1 rfl (lv_room (Nat.le_of_ble_eq_true rfl)) dL_law_1733 hc0) (fun H locs h => ?_)
  obtain ⟨v6, ev6, hf⟩ := lt_e hf
  rw [← ev6] at h
  refine lv_icmp_eq (tgt := 1839) hx hb dL_law_1736 (by decide) (fun c7 => ?_) (fun c7 => ?_)
  · have hf := it_t c7 hf
    have hf := sm_e hf
    subst hf
    refine W.widen (k := cells + 1) (n := slots + 6) (by omega) (by omega) ?_
    exact kk H locs ls h (lv_sub hl [0, 1, 2, 3, 4] rfl)
  · have hf := it_f c7 hf
    cases hf
def m_law_34 (v : xSt) (xs : Nat → Int32) (L : Nat) (i : Int32) : Option xSt := ob (m_X8_onesShare v) (fun r2 => lt (r2) (fun x3 => ob (m_X9_onesShare (sh 431 v)) (fun r5 => lt (pu 431 8 v r5.2) (fun v6 => lt (r5.1) (fun x7 => (if (Op.cmpValue (FP.dcmp x3 x7) .l) = 0 then some v6 else (if (Op.cmpValue (FP.dcmp x3 x3) .l) = 0 then none else (if (Op.cmpValue (FP.dcmp x7 x7) .l) = 0 then none else some v6))))))))
set_option maxHeartbeats 4000000 in
set_option maxRecDepth 100000 in
theorem k_law_34 {p : Program} {l : Launch} {e : Env} {R : Room} {s : State} {m : MethodId} {args : Array Value} {below : List Frame} {meth : Method} {c : Code} {H : Heap} {locs : List Loc} {cells slots : Nat} {Q : State → Prop} {G : xGl} {sa q : Nat → Nat} {v : xSt} {A : Nat → Prop} {ls : Array Slot} {b L : Nat} {xs : Nat → Int32} {i : Int32} (hst : l.stackTraces = false) (hC : CallFix p m c cL_law 9 s args lw_tbl RL) (hin : ∀ w ∈ wG, w ∈ lw_tbl) (hT : xT G sa A s s.heap) (hX : va_X b L xs s s.heap) (hbl : b < s.heap.size) (hbA : ¬ A b) (hcs : cells + 1 ≤ room_1.cells ∧ slots + 6 ≤ room_1.slots) (h : hg G (LW G) 439 q v A s H locs) (hl : lv_has ls 9 [(0, .ref b), (1, .ref (q 0)), (2, .ref (q 431)), (3, .ref (q 430)), (4, .int i)]) {z : xSt} (hf : m_law_34 v xs L i = some z) (kk : ∀ (H : Heap) (locs : List Loc) (ls : Array Slot), hg G (LW G) 439 q z A s H locs → lv_has ls 9 [(0, .ref b), (1, .ref (q 0)), (2, .ref (q 431)), (3, .ref (q 430)), (4, .int i)] → W p l e room_1 s m args below meth c H locs (cells + 1) (slots + 6) Q (F0 m 1839 ls [])) : W p l e room_1 s m args below meth c H locs cells slots Q (F0 m 1741 ls []) := by
  have hx := hC.1
  have hb := hC.2.1
  have hc0 : cells ≤ room_1.cells ∧ slots ≤ room_1.slots := ⟨Nat.le_of_succ_le hcs.1, Nat.le_trans (Nat.le_add_right _ _) hcs.2⟩
  unfold m_law_34 at hf
  refine lv_aload_n hx hb dL_law_1741 rfl (lv_at hl 1 rfl) ?_
  obtain ⟨r2, hy1, hf⟩ := ob_e hf
  refine xdG h (va_runV (As := []) (rest := []) hC (c_X8_onesShare l G q v hy1 H.size) (xcgV hC hin lk_L_218 in_X8 co_X8_onesShare im_X8_onesShare se_X8_onesShare rfl rfl dd_X8_onesShare ⟨Nat.le_of_ble_eq_true rfl, Nat.le_of_ble_eq_true rfl⟩) (preVOp h.o 430 sLW_0b (Nat.le_of_ble_eq_true rfl) (Nat.le_of_ble_eq_true rfl) eLW_0 rfl []) rfl rfl hl.1 rfl (lv_room (Nat.le_of_ble_eq_true rfl)) dL_law_1742 hc0) (fun H locs h => ?_)
  obtain ⟨x3, ex3, hf⟩ := lt_e hf
  refine lv_nmD ex3 ?_
  refine lv_dstore (lv' := [(5, .double x3), (0, .ref b), (1, .ref (q 0)), (2, .ref (q 431)), (3, .ref (q 430)), (4, .int i)]) hx hb dL_law_1745 hl (by decide) rfl (fun ls hl => ?_)
  refine lv_aload_n hx hb dL_law_1747 rfl (lv_at hl 3 rfl) ?_
  obtain ⟨r5, hy4, hf⟩ := ob_e hf
  refine xd1 h 431 8 sLW_431 (Nat.le_of_ble_eq_true rfl) (va_runV (As := []) (rest := []) hC (c_X9_onesShare l G (sh 431 q) (sh 431 v) hy4 H.size) (xcgV hC hin lk_L_222 in_X9 co_X9_onesShare im_X9_onesShare se_X9_onesShare rfl rfl dd_X9_onesShare ⟨Nat.le_of_ble_eq_true rfl, Nat.le_of_ble_eq_true rfl⟩) (preV1 h 431 8 sLW_431 (Nat.le_of_ble_eq_true rfl) (Nat.le_of_ble_eq_true rfl) eLW_431 rfl []) rfl rfl hl.1 rfl (lv_room (Nat.le_of_ble_eq_true rfl)) dL_law_1748 hc0) (fun H locs h => ?_)
  obtain ⟨v6, ev6, hf⟩ := lt_e hf
  rw [← ev6] at h
  obtain ⟨x7, ex7, hf⟩ := lt_e hf
  refine lv_nmD ex7 ?_
  refine lv_dstore (lv' := [(7, .double x7), (5, .double x3), (0, .ref b), (1, .ref (q 0)), (2, .ref (q 431)), (3, .ref (q 430)), (4, .int i)]) hx hb dL_law_1751 hl (by decide) rfl (fun ls hl => ?_)
  refine lv_dload hx hb dL_law_1753 (lv_at hl 1 rfl) ?_
  refine lv_dload hx hb dL_law_1755 (lv_at hl 0 rfl) ?_
  refine lv_dcmp hx hb dL_law_1757 ?_
  refine lv_if_eq (tgt := 1779) hx hb dL_law_1758 (by decide) (fun c8 => ?_) (fun c8 => ?_)
  · have hf := it_t c8 hf
    refine lv_goto (tgt := 1839) hx hb dL_law_1779 (by decide) ?_
    have hf := sm_e hf
    subst hf
    refine W.widen (k := cells + 1) (n := slots + 6) (by omega) (by omega) ?_
    exact kk H locs ls h (lv_sub hl [2, 3, 4, 5, 6] rfl)
  · have hf := it_f c8 hf
    refine lv_dload hx hb dL_law_1761 (lv_at hl 1 rfl) ?_
    refine lv_dload hx hb dL_law_1763 (lv_at hl 1 rfl) ?_
    refine lv_dcmp hx hb dL_law_1765 ?_
    refine lv_if_eq (tgt := 1777) hx hb dL_law_1766 (by decide) (fun c9 => ?_) (fun c9 => ?_)
    · have hf := it_t c9 hf
      cases hf
    · have hf := it_f c9 hf
      refine lv_dload hx hb dL_law_1769 (lv_at hl 0 rfl) ?_
      refine lv_dload hx hb dL_law_1771 (lv_at hl 0 rfl) ?_
      refine lv_dcmp hx hb dL_law_1773 ?_
      refine lv_if_ne (tgt := 1779) hx hb dL_law_1774 (by decide) (fun c10 => ?_) (fun c10 => ?_)
      · have hf := it_f c10 hf
        refine lv_goto (tgt := 1839) hx hb dL_law_1779 (by decide) ?_
        have hf := sm_e hf
        subst hf
        refine W.widen (k := cells + 1) (n := slots + 6) (by omega) (by omega) ?_
        exact kk H locs ls h (lv_sub hl [2, 3, 4, 5, 6] rfl)
      · have hf := it_t c10 hf
        cases hf
def m_law_35 (v : xSt) (xs : Nat → Int32) (L : Nat) (i : Int32) : Option xSt := ob (m_X8_meanWear v) (fun r2 => ck (xn64 (FP.f2d r2)) (lt ((FP.f2d r2)) (fun x4 => ob (m_X9_meanWear (sh 431 v)) (fun r6 => lt (pu 431 8 v r6.2) (fun v7 => ck (xn64 (FP.f2d r6.1)) (lt ((FP.f2d r6.1)) (fun x9 => (if (Op.cmpValue (FP.dcmp x4 x9) .l) = 0 then some v7 else (if (Op.cmpValue (FP.dcmp x4 x4) .l) = 0 then none else (if (Op.cmpValue (FP.dcmp x9 x9) .l) = 0 then none else some v7))))))))))
set_option maxHeartbeats 4000000 in
set_option maxRecDepth 100000 in
theorem k_law_35 {p : Program} {l : Launch} {e : Env} {R : Room} {s : State} {m : MethodId} {args : Array Value} {below : List Frame} {meth : Method} {c : Code} {H : Heap} {locs : List Loc} {cells slots : Nat} {Q : State → Prop} {G : xGl} {sa q : Nat → Nat} {v : xSt} {A : Nat → Prop} {ls : Array Slot} {b L : Nat} {xs : Nat → Int32} {i : Int32} (hst : l.stackTraces = false) (hC : CallFix p m c cL_law 9 s args lw_tbl RL) (hin : ∀ w ∈ wG, w ∈ lw_tbl) (hT : xT G sa A s s.heap) (hX : va_X b L xs s s.heap) (hbl : b < s.heap.size) (hbA : ¬ A b) (hcs : cells + 1 ≤ room_1.cells ∧ slots + 6 ≤ room_1.slots) (h : hg G (LW G) 439 q v A s H locs) (hl : lv_has ls 9 [(0, .ref b), (1, .ref (q 0)), (2, .ref (q 431)), (3, .ref (q 430)), (4, .int i)]) {z : xSt} (hf : m_law_35 v xs L i = some z) (kk : ∀ (H : Heap) (locs : List Loc) (ls : Array Slot), hg G (LW G) 439 q z A s H locs → lv_has ls 9 [(0, .ref b), (1, .ref (q 0)), (2, .ref (q 431)), (3, .ref (q 430)), (4, .int i)] → W p l e room_1 s m args below meth c H locs (cells + 1) (slots + 6) Q (F0 m 1839 ls [])) : W p l e room_1 s m args below meth c H locs cells slots Q (F0 m 1782 ls []) := by
  have hx := hC.1
  have hb := hC.2.1
  have hc0 : cells ≤ room_1.cells ∧ slots ≤ room_1.slots := ⟨Nat.le_of_succ_le hcs.1, Nat.le_trans (Nat.le_add_right _ _) hcs.2⟩
  unfold m_law_35 at hf
  refine lv_aload_n hx hb dL_law_1782 rfl (lv_at hl 1 rfl) ?_
  obtain ⟨r2, hy1, hf⟩ := ob_e hf
  refine xfG h (va_runV (As := []) (rest := []) hC (c_X8_meanWear l G q v hy1 H.size) (xcgV hC hin lk_L_223 in_X8 co_X8_meanWear im_X8_meanWear se_X8_meanWear rfl rfl dd_X8_meanWear ⟨Nat.le_of_ble_eq_true rfl, Nat.le_of_ble_eq_true rfl⟩) (preVOp h.o 430 sLW_0b (Nat.le_of_ble_eq_true rfl) (Nat.le_of_ble_eq_true rfl) eLW_0 rfl []) rfl rfl hl.1 rfl (lv_room (Nat.le_of_ble_eq_true rfl)) dL_law_1783 hc0) (fun H locs h => ?_)
  obtain ⟨hn3, hf⟩ := ck_e hf
  refine lv_f2d hx hb dL_law_1786 hn3 ?_
  obtain ⟨x4, ex4, hf⟩ := lt_e hf
  refine lv_nmD ex4 ?_
  refine lv_dstore (lv' := [(5, .double x4), (0, .ref b), (1, .ref (q 0)), (2, .ref (q 431)), (3, .ref (q 430)), (4, .int i)]) hx hb dL_law_1787 hl (by decide) rfl (fun ls hl => ?_)
  refine lv_aload_n hx hb dL_law_1789 rfl (lv_at hl 3 rfl) ?_
  obtain ⟨r6, hy5, hf⟩ := ob_e hf
  refine xf1 h 431 8 sLW_431 (Nat.le_of_ble_eq_true rfl) (va_runV (As := []) (rest := []) hC (c_X9_meanWear l G (sh 431 q) (sh 431 v) hy5 H.size) (xcgV hC hin lk_L_227 in_X9 co_X9_meanWear im_X9_meanWear se_X9_meanWear rfl rfl dd_X9_meanWear ⟨Nat.le_of_ble_eq_true rfl, Nat.le_of_ble_eq_true rfl⟩) (preV1 h 431 8 sLW_431 (Nat.le_of_ble_eq_true rfl) (Nat.le_of_ble_eq_true rfl) eLW_431 rfl []) rfl rfl hl.1 rfl (lv_room (Nat.le_of_ble_eq_true rfl)) dL_law_1790 hc0) (fun H locs h => ?_)
  obtain ⟨v7, ev7, hf⟩ := lt_e hf
  rw [← ev7] at h
  obtain ⟨hn8, hf⟩ := ck_e hf
  refine lv_f2d hx hb dL_law_1793 hn8 ?_
  obtain ⟨x9, ex9, hf⟩ := lt_e hf
  refine lv_nmD ex9 ?_
  refine lv_dstore (lv' := [(7, .double x9), (5, .double x4), (0, .ref b), (1, .ref (q 0)), (2, .ref (q 431)), (3, .ref (q 430)), (4, .int i)]) hx hb dL_law_1794 hl (by decide) rfl (fun ls hl => ?_)
  refine lv_dload hx hb dL_law_1796 (lv_at hl 1 rfl) ?_
  refine lv_dload hx hb dL_law_1798 (lv_at hl 0 rfl) ?_
  refine lv_dcmp hx hb dL_law_1800 ?_
  refine lv_if_eq (tgt := 1822) hx hb dL_law_1801 (by decide) (fun c10 => ?_) (fun c10 => ?_)
  · have hf := it_t c10 hf
    refine lv_goto (tgt := 1839) hx hb dL_law_1822 (by decide) ?_
    have hf := sm_e hf
    subst hf
    refine W.widen (k := cells + 1) (n := slots + 6) (by omega) (by omega) ?_
    exact kk H locs ls h (lv_sub hl [2, 3, 4, 5, 6] rfl)
  · have hf := it_f c10 hf
    refine lv_dload hx hb dL_law_1804 (lv_at hl 1 rfl) ?_
    refine lv_dload hx hb dL_law_1806 (lv_at hl 1 rfl) ?_
    refine lv_dcmp hx hb dL_law_1808 ?_
    refine lv_if_eq (tgt := 1820) hx hb dL_law_1809 (by decide) (fun c11 => ?_) (fun c11 => ?_)
    · have hf := it_t c11 hf
      cases hf
    · have hf := it_f c11 hf
      refine lv_dload hx hb dL_law_1812 (lv_at hl 0 rfl) ?_
      refine lv_dload hx hb dL_law_1814 (lv_at hl 0 rfl) ?_
      refine lv_dcmp hx hb dL_law_1816 ?_
      refine lv_if_ne (tgt := 1822) hx hb dL_law_1817 (by decide) (fun c12 => ?_) (fun c12 => ?_)
      · have hf := it_f c12 hf
        refine lv_goto (tgt := 1839) hx hb dL_law_1822 (by decide) ?_
        have hf := sm_e hf
        subst hf
        refine W.widen (k := cells + 1) (n := slots + 6) (by omega) (by omega) ?_
        exact kk H locs ls h (lv_sub hl [2, 3, 4, 5, 6] rfl)
      · have hf := it_t c12 hf
        cases hf
def m_law_36 (v : xSt) (xs : Nat → Int32) (L : Nat) (i : Int32) : Option xSt := ob (m_X8_digest v) (fun r2 => lt (pu 0 430 v r2.2) (fun v3 => ob (m_X9_digest (sh 431 v3)) (fun r5 => lt (pu 431 8 v3 r5.2) (fun v6 => (if (lg_cmp r2.1 r5.1) = 0 then some v6 else none)))))
set_option maxHeartbeats 4000000 in
set_option maxRecDepth 100000 in
theorem k_law_36 {p : Program} {l : Launch} {e : Env} {R : Room} {s : State} {m : MethodId} {args : Array Value} {below : List Frame} {meth : Method} {c : Code} {H : Heap} {locs : List Loc} {cells slots : Nat} {Q : State → Prop} {G : xGl} {sa q : Nat → Nat} {v : xSt} {A : Nat → Prop} {ls : Array Slot} {b L : Nat} {xs : Nat → Int32} {i : Int32} (hst : l.stackTraces = false) (hC : CallFix p m c cL_law 9 s args lw_tbl RL) (hin : ∀ w ∈ wG, w ∈ lw_tbl) (hT : xT G sa A s s.heap) (hX : va_X b L xs s s.heap) (hbl : b < s.heap.size) (hbA : ¬ A b) (hcs : cells + 1 ≤ room_1.cells ∧ slots + 6 ≤ room_1.slots) (h : hg G (LW G) 439 q v A s H locs) (hl : lv_has ls 9 [(0, .ref b), (1, .ref (q 0)), (2, .ref (q 431)), (3, .ref (q 430)), (4, .int i)]) {z : xSt} (hf : m_law_36 v xs L i = some z) (kk : ∀ (H : Heap) (locs : List Loc) (ls : Array Slot), hg G (LW G) 439 q z A s H locs → lv_has ls 9 [(0, .ref b), (1, .ref (q 0)), (2, .ref (q 431)), (3, .ref (q 430)), (4, .int i)] → W p l e room_1 s m args below meth c H locs (cells + 1) (slots + 6) Q (F0 m 1839 ls [])) : W p l e room_1 s m args below meth c H locs cells slots Q (F0 m 1825 ls []) := by
  have hx := hC.1
  have hb := hC.2.1
  have hc0 : cells ≤ room_1.cells ∧ slots ≤ room_1.slots := ⟨Nat.le_of_succ_le hcs.1, Nat.le_trans (Nat.le_add_right _ _) hcs.2⟩
  unfold m_law_36 at hf
  refine lv_aload_n hx hb dL_law_1825 rfl (lv_at hl 1 rfl) ?_
  obtain ⟨r2, hy1, hf⟩ := ob_e hf
  refine xlp h 430 sLW_0b (Nat.le_of_ble_eq_true rfl) (va_runV (As := []) (rest := []) hC (c_X8_digest l G q v hy1 H.size) (xcgV hC hin lk_L_228 in_X8 co_X8_digest im_X8_digest se_X8_digest rfl rfl dd_X8_digest ⟨Nat.le_of_ble_eq_true rfl, Nat.le_of_ble_eq_true rfl⟩) (preVp h 430 sLW_0b (Nat.le_of_ble_eq_true rfl) (Nat.le_of_ble_eq_true rfl) eLW_0 rfl []) rfl rfl hl.1 rfl (lv_room (Nat.le_of_ble_eq_true rfl)) dL_law_1826 hc0) (fun H locs h => ?_)
  obtain ⟨v3, ev3, hf⟩ := lt_e hf
  rw [← ev3] at h
  refine lv_aload_n hx hb dL_law_1829 rfl (lv_at hl 2 rfl) ?_
  obtain ⟨r5, hy4, hf⟩ := ob_e hf
  refine xl1 h 431 8 sLW_431 (Nat.le_of_ble_eq_true rfl) (va_runV (As := []) (rest := [.long r2.1]) hC (c_X9_digest l G (sh 431 q) (sh 431 v3) hy4 H.size) (xcgV hC hin lk_L_232 in_X9 co_X9_digest im_X9_digest se_X9_digest rfl rfl dd_X9_digest ⟨Nat.le_of_ble_eq_true rfl, Nat.le_of_ble_eq_true rfl⟩) (preV1 h 431 8 sLW_431 (Nat.le_of_ble_eq_true rfl) (Nat.le_of_ble_eq_true rfl) eLW_431 rfl []) rfl rfl hl.1 rfl (lv_room (Nat.le_of_ble_eq_true rfl)) dL_law_1830 hc0) (fun H locs h => ?_)
  obtain ⟨v6, ev6, hf⟩ := lt_e hf
  rw [← ev6] at h
  refine W.lcmp hx hb dL_law_1833 ?_
  refine lv_if_eq (tgt := 1839) hx hb dL_law_1834 (by decide) (fun c7 => ?_) (fun c7 => ?_)
  · have hf := it_t c7 hf
    have hf := sm_e hf
    subst hf
    refine W.widen (k := cells + 1) (n := slots + 6) (by omega) (by omega) ?_
    exact kk H locs ls h (lv_sub hl [0, 1, 2, 3, 4] rfl)
  · have hf := it_f c7 hf
    cases hf
