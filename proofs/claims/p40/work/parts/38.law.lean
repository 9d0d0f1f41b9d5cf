/-! THE LAW'S CASES: each from its first row to the loop's step -/
theorem xus {Ts : List Cond} (hin : ∀ w ∈ wG, w ∈ Ts) {L : List Cond} (h : ∀ w ∈ L, w ∈ wG) : ∀ w ∈ L, w ∈ Ts := fun w hw => hin w (h w hw)
theorem wG_law : ∀ w ∈ wG, w ∈ lw_tbl := fun _ h => (List.mem_filter.mp h).1
section XK
variable {p : Program} {l : Launch} {e : Env} {R : Room} {s : State} {m : MethodId} {args : Array Value} {below : List Frame} {meth : Method} {c : Code} {H : Heap} {locs : List Loc} {cells slots : Nat} {Q : State → Prop} {pcc : Nat} {ls : Array Slot} {rest : List Value}
theorem lv_nmD {x z : UInt64} (h : z = x) (k : W p l e R s m args below meth c H locs cells slots Q (F0 m pcc ls (.double z :: rest))) : W p l e R s m args below meth c H locs cells slots Q (F0 m pcc ls (.double x :: rest)) := h ▸ k
end XK
def un7 {α β γ δ ε ζ η θ : Type} (f : α → β → γ → δ → ε → ζ → η → θ) (p : α × β × γ × δ × ε × ζ × η) : θ := f p.1 p.2.1 p.2.2.1 p.2.2.2.1 p.2.2.2.2.1 p.2.2.2.2.2.1 p.2.2.2.2.2.2
theorem un7_e {α β γ δ ε ζ η θ : Type} {f : α → β → γ → δ → ε → ζ → η → θ} {a : α} {b : β} {c : γ} {d : δ} {e : ε} {g : ζ} {i : η} {z : θ} (h : un7 f (a, b, c, d, e, g, i) = z) : f a b c d e g i = z := h
theorem cn_L_72 : Cond.constantLong RL 72 (337 : Int64) ∈ wG := wG_t 539 (by decide +kernel) rfl
theorem co_X8_count : Cond.code yX8_count cX8_count 2 (some .int) ∈ wG := wG_t 390 (by decide +kernel) rfl
theorem dd_X8_count : yX8_count.cls ≠ "java/lang/invoke/MethodHandle" ∧ yX8_count.cls ≠ "java/lang/invoke/VarHandle" ∧ (parseMethodDescriptor yX8_count.desc).map (fun d => d.parameters.length) = some 1 := by decide +kernel
theorem lk_L_76 : Cond.methodLink RL 76 yX8_count ∈ wG := wG_t 387 (by decide +kernel) rfl
theorem im_X8_count : Cond.instanceMethod yX8_count ∈ wG := wG_t 388 (by decide +kernel) rfl
theorem se_X8_count : Cond.selects RX8 yX8_count yX8_count ∈ wG := wG_t 389 (by decide +kernel) rfl
theorem cn_L_74 : Cond.constantLong RL 74 (31 : Int64) ∈ wG := wG_t 540 (by decide +kernel) rfl
theorem co_X8_order : Cond.code yX8_order cX8_order 4 (some .int) ∈ wG := wG_t 638 (by decide +kernel) rfl
theorem dd_X8_order : yX8_order.cls ≠ "java/lang/invoke/MethodHandle" ∧ yX8_order.cls ≠ "java/lang/invoke/VarHandle" ∧ (parseMethodDescriptor yX8_order.desc).map (fun d => d.parameters.length) = some 2 := by decide +kernel
theorem lk_L_91 : Cond.methodLink RL 91 yX8_order ∈ wG := wG_t 635 (by decide +kernel) rfl
theorem im_X8_order : Cond.instanceMethod yX8_order ∈ wG := wG_t 636 (by decide +kernel) rfl
theorem se_X8_order : Cond.selects RX8 yX8_order yX8_order ∈ wG := wG_t 637 (by decide +kernel) rfl
theorem co_X8_work : Cond.code yX8_work cX8_work 4 (some .int) ∈ wG := wG_t 619 (by decide +kernel) rfl
theorem dd_X8_work : yX8_work.cls ≠ "java/lang/invoke/MethodHandle" ∧ yX8_work.cls ≠ "java/lang/invoke/VarHandle" ∧ (parseMethodDescriptor yX8_work.desc).map (fun d => d.parameters.length) = some 2 := by decide +kernel
theorem lk_L_85 : Cond.methodLink RL 85 yX8_work ∈ wG := wG_t 616 (by decide +kernel) rfl
theorem im_X8_work : Cond.instanceMethod yX8_work ∈ wG := wG_t 617 (by decide +kernel) rfl
theorem se_X8_work : Cond.selects RX8 yX8_work yX8_work ∈ wG := wG_t 618 (by decide +kernel) rfl
theorem co_X8_setting : Cond.code yX8_setting cX8_setting 2 (some .int) ∈ wG := wG_t 628 (by decide +kernel) rfl
theorem dd_X8_setting : yX8_setting.cls ≠ "java/lang/invoke/MethodHandle" ∧ yX8_setting.cls ≠ "java/lang/invoke/VarHandle" ∧ (parseMethodDescriptor yX8_setting.desc).map (fun d => d.parameters.length) = some 1 := by decide +kernel
theorem lk_L_88 : Cond.methodLink RL 88 yX8_setting ∈ wG := wG_t 625 (by decide +kernel) rfl
theorem im_X8_setting : Cond.instanceMethod yX8_setting ∈ wG := wG_t 626 (by decide +kernel) rfl
theorem se_X8_setting : Cond.selects RX8 yX8_setting yX8_setting ∈ wG := wG_t 627 (by decide +kernel) rfl
theorem co_X8_sector : Cond.code yX8_sector cX8_sector 3 (some .int) ∈ wG := wG_t 578 (by decide +kernel) rfl
theorem dd_X8_sector : yX8_sector.cls ≠ "java/lang/invoke/MethodHandle" ∧ yX8_sector.cls ≠ "java/lang/invoke/VarHandle" ∧ (parseMethodDescriptor yX8_sector.desc).map (fun d => d.parameters.length) = some 2 := by decide +kernel
theorem lk_L_82 : Cond.methodLink RL 82 yX8_sector ∈ wG := wG_t 575 (by decide +kernel) rfl
theorem im_X8_sector : Cond.instanceMethod yX8_sector ∈ wG := wG_t 576 (by decide +kernel) rfl
theorem se_X8_sector : Cond.selects RX8 yX8_sector yX8_sector ∈ wG := wG_t 577 (by decide +kernel) rfl
theorem co_X8_cell : Cond.code yX8_cell cX8_cell 3 (some .int) ∈ wG := wG_t 544 (by decide +kernel) rfl
theorem dd_X8_cell : yX8_cell.cls ≠ "java/lang/invoke/MethodHandle" ∧ yX8_cell.cls ≠ "java/lang/invoke/VarHandle" ∧ (parseMethodDescriptor yX8_cell.desc).map (fun d => d.parameters.length) = some 2 := by decide +kernel
theorem lk_L_79 : Cond.methodLink RL 79 yX8_cell ∈ wG := wG_t 541 (by decide +kernel) rfl
theorem im_X8_cell : Cond.instanceMethod yX8_cell ∈ wG := wG_t 542 (by decide +kernel) rfl
theorem se_X8_cell : Cond.selects RX8 yX8_cell yX8_cell ∈ wG := wG_t 543 (by decide +kernel) rfl
theorem co_X8_onesShare : Cond.code yX8_onesShare cX8_onesShare 1 (some .double) ∈ wG := wG_t 648 (by decide +kernel) rfl
theorem dd_X8_onesShare : yX8_onesShare.cls ≠ "java/lang/invoke/MethodHandle" ∧ yX8_onesShare.cls ≠ "java/lang/invoke/VarHandle" ∧ (parseMethodDescriptor yX8_onesShare.desc).map (fun d => d.parameters.length) = some 0 := by decide +kernel
theorem lk_L_94 : Cond.methodLink RL 94 yX8_onesShare ∈ wG := wG_t 645 (by decide +kernel) rfl
theorem im_X8_onesShare : Cond.instanceMethod yX8_onesShare ∈ wG := wG_t 646 (by decide +kernel) rfl
theorem se_X8_onesShare : Cond.selects RX8 yX8_onesShare yX8_onesShare ∈ wG := wG_t 647 (by decide +kernel) rfl
theorem cn_L_98 : Cond.constantDouble RL 98 (4656722014701092864 : UInt64) ∈ wG := wG_t 650 (by decide +kernel) rfl
theorem co_X8_why : Cond.code yX8_why cX8_why 3 (some .int) ∈ wG := wG_t 664 (by decide +kernel) rfl
theorem dd_X8_why : yX8_why.cls ≠ "java/lang/invoke/MethodHandle" ∧ yX8_why.cls ≠ "java/lang/invoke/VarHandle" ∧ (parseMethodDescriptor yX8_why.desc).map (fun d => d.parameters.length) = some 2 := by decide +kernel
theorem lk_L_110 : Cond.methodLink RL 110 yX8_why ∈ wG := wG_t 661 (by decide +kernel) rfl
theorem im_X8_why : Cond.instanceMethod yX8_why ∈ wG := wG_t 662 (by decide +kernel) rfl
theorem se_X8_why : Cond.selects RX8 yX8_why yX8_why ∈ wG := wG_t 663 (by decide +kernel) rfl
theorem co_X8_meanWear : Cond.code yX8_meanWear cX8_meanWear 1 (some .float) ∈ wG := wG_t 654 (by decide +kernel) rfl
theorem dd_X8_meanWear : yX8_meanWear.cls ≠ "java/lang/invoke/MethodHandle" ∧ yX8_meanWear.cls ≠ "java/lang/invoke/VarHandle" ∧ (parseMethodDescriptor yX8_meanWear.desc).map (fun d => d.parameters.length) = some 0 := by decide +kernel
theorem lk_L_100 : Cond.methodLink RL 100 yX8_meanWear ∈ wG := wG_t 651 (by decide +kernel) rfl
theorem im_X8_meanWear : Cond.instanceMethod yX8_meanWear ∈ wG := wG_t 652 (by decide +kernel) rfl
theorem se_X8_meanWear : Cond.selects RX8 yX8_meanWear yX8_meanWear ∈ wG := wG_t 653 (by decide +kernel) rfl
theorem cn_L_104 : Cond.constantFloat RL 104 (1090519040 : UInt32) ∈ wG := wG_t 656 (by decide +kernel) rfl
theorem co_X8_leastWorn : Cond.code yX8_leastWorn cX8_leastWorn 3 (some .int) ∈ wG := wG_t 660 (by decide +kernel) rfl
theorem dd_X8_leastWorn : yX8_leastWorn.cls ≠ "java/lang/invoke/MethodHandle" ∧ yX8_leastWorn.cls ≠ "java/lang/invoke/VarHandle" ∧ (parseMethodDescriptor yX8_leastWorn.desc).map (fun d => d.parameters.length) = some 0 := by decide +kernel
theorem lk_L_105 : Cond.methodLink RL 105 yX8_leastWorn ∈ wG := wG_t 657 (by decide +kernel) rfl
theorem im_X8_leastWorn : Cond.instanceMethod yX8_leastWorn ∈ wG := wG_t 658 (by decide +kernel) rfl
theorem se_X8_leastWorn : Cond.selects RX8 yX8_leastWorn yX8_leastWorn ∈ wG := wG_t 659 (by decide +kernel) rfl
theorem in_L : Cond.initialized RL ∈ wG := wG_t 0 (by decide +kernel) rfl
theorem co_L_low : Cond.code yL_low cL_low 2 (some .int) ∈ wG := wG_t 490 (by decide +kernel) rfl
theorem dd_L_low : yL_low.cls ≠ "java/lang/invoke/MethodHandle" ∧ yL_low.cls ≠ "java/lang/invoke/VarHandle" ∧ (parseMethodDescriptor yL_low.desc).map (fun d => d.parameters.length) = some 2 := by decide +kernel
theorem st_L_low : Cond.static yL_low ∈ wG := wG_t 489 (by decide +kernel) rfl
theorem lk_L_113 : Cond.methodLink RL 113 yL_low ∈ wG := wG_t 488 (by decide +kernel) rfl
theorem co_X8_misses : Cond.code yX8_misses cX8_misses 2 (some .int) ∈ wG := wG_t 690 (by decide +kernel) rfl
theorem dd_X8_misses : yX8_misses.cls ≠ "java/lang/invoke/MethodHandle" ∧ yX8_misses.cls ≠ "java/lang/invoke/VarHandle" ∧ (parseMethodDescriptor yX8_misses.desc).map (fun d => d.parameters.length) = some 1 := by decide +kernel
theorem lk_L_116 : Cond.methodLink RL 116 yX8_misses ∈ wG := wG_t 687 (by decide +kernel) rfl
theorem im_X8_misses : Cond.instanceMethod yX8_misses ∈ wG := wG_t 688 (by decide +kernel) rfl
theorem se_X8_misses : Cond.selects RX8 yX8_misses yX8_misses ∈ wG := wG_t 689 (by decide +kernel) rfl
theorem co_X8_freeIn : Cond.code yX8_freeIn cX8_freeIn 2 (some .int) ∈ wG := wG_t 706 (by decide +kernel) rfl
theorem dd_X8_freeIn : yX8_freeIn.cls ≠ "java/lang/invoke/MethodHandle" ∧ yX8_freeIn.cls ≠ "java/lang/invoke/VarHandle" ∧ (parseMethodDescriptor yX8_freeIn.desc).map (fun d => d.parameters.length) = some 0 := by decide +kernel
theorem lk_L_119 : Cond.methodLink RL 119 yX8_freeIn ∈ wG := wG_t 703 (by decide +kernel) rfl
theorem im_X8_freeIn : Cond.instanceMethod yX8_freeIn ∈ wG := wG_t 704 (by decide +kernel) rfl
theorem se_X8_freeIn : Cond.selects RX8 yX8_freeIn yX8_freeIn ∈ wG := wG_t 705 (by decide +kernel) rfl
theorem co_X8_fits : Cond.code yX8_fits cX8_fits 2 (some .int) ∈ wG := wG_t 791 (by decide +kernel) rfl
theorem dd_X8_fits : yX8_fits.cls ≠ "java/lang/invoke/MethodHandle" ∧ yX8_fits.cls ≠ "java/lang/invoke/VarHandle" ∧ (parseMethodDescriptor yX8_fits.desc).map (fun d => d.parameters.length) = some 0 := by decide +kernel
theorem lk_L_122 : Cond.methodLink RL 122 yX8_fits ∈ wG := wG_t 788 (by decide +kernel) rfl
theorem im_X8_fits : Cond.instanceMethod yX8_fits ∈ wG := wG_t 789 (by decide +kernel) rfl
theorem se_X8_fits : Cond.selects RX8 yX8_fits yX8_fits ∈ wG := wG_t 790 (by decide +kernel) rfl
theorem co_L_read : Cond.codeWith yL_read cL_read 3 (some .int) [(0, 5, 6, 26), (0, 5, 10, 15)] ∈ wG := wG_t 794 (by decide +kernel) rfl
theorem dd_L_read : yL_read.cls ≠ "java/lang/invoke/MethodHandle" ∧ yL_read.cls ≠ "java/lang/invoke/VarHandle" ∧ (parseMethodDescriptor yL_read.desc).map (fun d => d.parameters.length) = some 2 := by decide +kernel
theorem st_L_read : Cond.static yL_read ∈ wG := wG_t 793 (by decide +kernel) rfl
theorem lk_L_125 : Cond.methodLink RL 125 yL_read ∈ wG := wG_t 792 (by decide +kernel) rfl
theorem co_X8_clearBuffer : Cond.code yX8_clearBuffer cX8_clearBuffer 2 (some .int) ∈ wG := wG_t 984 (by decide +kernel) rfl
theorem dd_X8_clearBuffer : yX8_clearBuffer.cls ≠ "java/lang/invoke/MethodHandle" ∧ yX8_clearBuffer.cls ≠ "java/lang/invoke/VarHandle" ∧ (parseMethodDescriptor yX8_clearBuffer.desc).map (fun d => d.parameters.length) = some 0 := by decide +kernel
theorem lk_L_128 : Cond.methodLink RL 128 yX8_clearBuffer ∈ wG := wG_t 981 (by decide +kernel) rfl
theorem im_X8_clearBuffer : Cond.instanceMethod yX8_clearBuffer ∈ wG := wG_t 982 (by decide +kernel) rfl
theorem se_X8_clearBuffer : Cond.selects RX8 yX8_clearBuffer yX8_clearBuffer ∈ wG := wG_t 983 (by decide +kernel) rfl
theorem co_L_append : Cond.codeWith yL_append cL_append 3 (some .int) [(0, 5, 6, 21), (0, 5, 10, 15)] ∈ wG := wG_t 987 (by decide +kernel) rfl
theorem dd_L_append : yL_append.cls ≠ "java/lang/invoke/MethodHandle" ∧ yL_append.cls ≠ "java/lang/invoke/VarHandle" ∧ (parseMethodDescriptor yL_append.desc).map (fun d => d.parameters.length) = some 2 := by decide +kernel
theorem st_L_append : Cond.static yL_append ∈ wG := wG_t 986 (by decide +kernel) rfl
theorem lk_L_131 : Cond.methodLink RL 131 yL_append ∈ wG := wG_t 985 (by decide +kernel) rfl
theorem co_L_look : Cond.code yL_look cL_look 4 (some .long) ∈ wG := wG_t 538 (by decide +kernel) rfl
theorem dd_L_look : yL_look.cls ≠ "java/lang/invoke/MethodHandle" ∧ yL_look.cls ≠ "java/lang/invoke/VarHandle" ∧ (parseMethodDescriptor yL_look.desc).map (fun d => d.parameters.length) = some 1 := by decide +kernel
theorem st_L_look : Cond.static yL_look ∈ wG := wG_t 537 (by decide +kernel) rfl
theorem lk_L_133 : Cond.methodLink RL 133 yL_look ∈ wG := wG_t 536 (by decide +kernel) rfl
theorem co_L_types : Cond.code yL_types cL_types 11 (some .boolean) ∈ wG := wG_t 980 (by decide +kernel) rfl
theorem dd_L_types : yL_types.cls ≠ "java/lang/invoke/MethodHandle" ∧ yL_types.cls ≠ "java/lang/invoke/VarHandle" ∧ (parseMethodDescriptor yL_types.desc).map (fun d => d.parameters.length) = some 2 := by decide +kernel
theorem st_L_types : Cond.static yL_types ∈ wG := wG_t 979 (by decide +kernel) rfl
theorem lk_L_137 : Cond.methodLink RL 137 yL_types ∈ wG := wG_t 978 (by decide +kernel) rfl
theorem lk_L_141 : Cond.methodLink RL 141 yX8_firstError ∈ wG := wG_t 994 (by decide +kernel) rfl
theorem co_L_obey : Cond.codeWith yL_obey cL_obey 2 (some .int) [(0, 4, 5, 21)] ∈ wG := wG_t 1052 (by decide +kernel) rfl
theorem dd_L_obey : yL_obey.cls ≠ "java/lang/invoke/MethodHandle" ∧ yL_obey.cls ≠ "java/lang/invoke/VarHandle" ∧ (parseMethodDescriptor yL_obey.desc).map (fun d => d.parameters.length) = some 1 := by decide +kernel
theorem st_L_obey : Cond.static yL_obey ∈ wG := wG_t 1051 (by decide +kernel) rfl
theorem lk_L_144 : Cond.methodLink RL 144 yL_obey ∈ wG := wG_t 1050 (by decide +kernel) rfl
theorem co_L_lock : Cond.codeWith yL_lock cL_lock 4 (some .int) [(0, 6, 7, 21), (0, 6, 11, 15)] ∈ wG := wG_t 846 (by decide +kernel) rfl
theorem dd_L_lock : yL_lock.cls ≠ "java/lang/invoke/MethodHandle" ∧ yL_lock.cls ≠ "java/lang/invoke/VarHandle" ∧ (parseMethodDescriptor yL_lock.desc).map (fun d => d.parameters.length) = some 3 := by decide +kernel
theorem st_L_lock : Cond.static yL_lock ∈ wG := wG_t 845 (by decide +kernel) rfl
theorem lk_L_151 : Cond.methodLink RL 151 yL_lock ∈ wG := wG_t 844 (by decide +kernel) rfl
theorem co_L_erase : Cond.codeWith yL_erase cL_erase 3 (some .int) [(0, 5, 6, 26), (0, 5, 10, 15)] ∈ wG := wG_t 837 (by decide +kernel) rfl
theorem dd_L_erase : yL_erase.cls ≠ "java/lang/invoke/MethodHandle" ∧ yL_erase.cls ≠ "java/lang/invoke/VarHandle" ∧ (parseMethodDescriptor yL_erase.desc).map (fun d => d.parameters.length) = some 2 := by decide +kernel
theorem st_L_erase : Cond.static yL_erase ∈ wG := wG_t 836 (by decide +kernel) rfl
theorem lk_L_149 : Cond.methodLink RL 149 yL_erase ∈ wG := wG_t 835 (by decide +kernel) rfl
theorem co_L_write : Cond.codeWith yL_write cL_write 3 (some .int) [(0, 5, 6, 26), (0, 5, 10, 15)] ∈ wG := wG_t 828 (by decide +kernel) rfl
theorem dd_L_write : yL_write.cls ≠ "java/lang/invoke/MethodHandle" ∧ yL_write.cls ≠ "java/lang/invoke/VarHandle" ∧ (parseMethodDescriptor yL_write.desc).map (fun d => d.parameters.length) = some 2 := by decide +kernel
theorem st_L_write : Cond.static yL_write ∈ wG := wG_t 827 (by decide +kernel) rfl
theorem lk_L_147 : Cond.methodLink RL 147 yL_write ∈ wG := wG_t 826 (by decide +kernel) rfl
theorem co_L_post : Cond.codeWith yL_post cL_post 5 (some .int) [(0, 7, 8, 21), (0, 7, 13, 26), (0, 7, 18, 15)] ∈ wG := wG_t 871 (by decide +kernel) rfl
theorem dd_L_post : yL_post.cls ≠ "java/lang/invoke/MethodHandle" ∧ yL_post.cls ≠ "java/lang/invoke/VarHandle" ∧ (parseMethodDescriptor yL_post.desc).map (fun d => d.parameters.length) = some 4 := by decide +kernel
theorem st_L_post : Cond.static yL_post ∈ wG := wG_t 870 (by decide +kernel) rfl
theorem lk_L_156 : Cond.methodLink RL 156 yL_post ∈ wG := wG_t 869 (by decide +kernel) rfl
theorem co_L_withdraw : Cond.codeWith yL_withdraw cL_withdraw 3 (some .int) [(0, 5, 6, 26)] ∈ wG := wG_t 858 (by decide +kernel) rfl
theorem dd_L_withdraw : yL_withdraw.cls ≠ "java/lang/invoke/MethodHandle" ∧ yL_withdraw.cls ≠ "java/lang/invoke/VarHandle" ∧ (parseMethodDescriptor yL_withdraw.desc).map (fun d => d.parameters.length) = some 2 := by decide +kernel
theorem st_L_withdraw : Cond.static yL_withdraw ∈ wG := wG_t 857 (by decide +kernel) rfl
theorem lk_L_154 : Cond.methodLink RL 154 yL_withdraw ∈ wG := wG_t 856 (by decide +kernel) rfl
theorem co_L_set : Cond.codeWith yL_set cL_set 4 (some .int) [(0, 6, 7, 26), (0, 6, 11, 21)] ∈ wG := wG_t 964 (by decide +kernel) rfl
theorem dd_L_set : yL_set.cls ≠ "java/lang/invoke/MethodHandle" ∧ yL_set.cls ≠ "java/lang/invoke/VarHandle" ∧ (parseMethodDescriptor yL_set.desc).map (fun d => d.parameters.length) = some 3 := by decide +kernel
theorem st_L_set : Cond.static yL_set ∈ wG := wG_t 963 (by decide +kernel) rfl
theorem lk_L_170 : Cond.methodLink RL 170 yL_set ∈ wG := wG_t 962 (by decide +kernel) rfl
theorem co_X8_cut : Cond.code yX8_cut cX8_cut 1 (some .int) ∈ wG := wG_t 945 (by decide +kernel) rfl
theorem dd_X8_cut : yX8_cut.cls ≠ "java/lang/invoke/MethodHandle" ∧ yX8_cut.cls ≠ "java/lang/invoke/VarHandle" ∧ (parseMethodDescriptor yX8_cut.desc).map (fun d => d.parameters.length) = some 0 := by decide +kernel
theorem lk_L_167 : Cond.methodLink RL 167 yX8_cut ∈ wG := wG_t 942 (by decide +kernel) rfl
theorem im_X8_cut : Cond.instanceMethod yX8_cut ∈ wG := wG_t 943 (by decide +kernel) rfl
theorem se_X8_cut : Cond.selects RX8 yX8_cut yX8_cut ∈ wG := wG_t 944 (by decide +kernel) rfl
theorem co_L_resume : Cond.codeWith yL_resume cL_resume 2 (some .int) [(0, 4, 5, 15)] ∈ wG := wG_t 935 (by decide +kernel) rfl
theorem dd_L_resume : yL_resume.cls ≠ "java/lang/invoke/MethodHandle" ∧ yL_resume.cls ≠ "java/lang/invoke/VarHandle" ∧ (parseMethodDescriptor yL_resume.desc).map (fun d => d.parameters.length) = some 1 := by decide +kernel
theorem st_L_resume : Cond.static yL_resume ∈ wG := wG_t 934 (by decide +kernel) rfl
theorem lk_L_165 : Cond.methodLink RL 165 yL_resume ∈ wG := wG_t 933 (by decide +kernel) rfl
theorem co_L_suspend : Cond.codeWith yL_suspend cL_suspend 2 (some .int) [(0, 4, 5, 15)] ∈ wG := wG_t 926 (by decide +kernel) rfl
theorem dd_L_suspend : yL_suspend.cls ≠ "java/lang/invoke/MethodHandle" ∧ yL_suspend.cls ≠ "java/lang/invoke/VarHandle" ∧ (parseMethodDescriptor yL_suspend.desc).map (fun d => d.parameters.length) = some 1 := by decide +kernel
theorem st_L_suspend : Cond.static yL_suspend ∈ wG := wG_t 925 (by decide +kernel) rfl
theorem lk_L_163 : Cond.methodLink RL 163 yL_suspend ∈ wG := wG_t 924 (by decide +kernel) rfl
theorem co_L_freeze : Cond.codeWith yL_freeze cL_freeze 2 (some .int) [(0, 4, 5, 15)] ∈ wG := wG_t 919 (by decide +kernel) rfl
theorem dd_L_freeze : yL_freeze.cls ≠ "java/lang/invoke/MethodHandle" ∧ yL_freeze.cls ≠ "java/lang/invoke/VarHandle" ∧ (parseMethodDescriptor yL_freeze.desc).map (fun d => d.parameters.length) = some 1 := by decide +kernel
theorem st_L_freeze : Cond.static yL_freeze ∈ wG := wG_t 918 (by decide +kernel) rfl
theorem lk_L_161 : Cond.methodLink RL 161 yL_freeze ∈ wG := wG_t 917 (by decide +kernel) rfl
theorem co_L_arm : Cond.codeWith yL_arm cL_arm 2 (some .int) [(0, 4, 5, 15)] ∈ wG := wG_t 911 (by decide +kernel) rfl
theorem dd_L_arm : yL_arm.cls ≠ "java/lang/invoke/MethodHandle" ∧ yL_arm.cls ≠ "java/lang/invoke/VarHandle" ∧ (parseMethodDescriptor yL_arm.desc).map (fun d => d.parameters.length) = some 1 := by decide +kernel
theorem st_L_arm : Cond.static yL_arm ∈ wG := wG_t 910 (by decide +kernel) rfl
theorem lk_L_159 : Cond.methodLink RL 159 yL_arm ∈ wG := wG_t 909 (by decide +kernel) rfl
theorem co_L_reads : Cond.code yL_reads cL_reads 9 (some .boolean) ∈ wG := wG_t 977 (by decide +kernel) rfl
theorem dd_L_reads : yL_reads.cls ≠ "java/lang/invoke/MethodHandle" ∧ yL_reads.cls ≠ "java/lang/invoke/VarHandle" ∧ (parseMethodDescriptor yL_reads.desc).map (fun d => d.parameters.length) = some 2 := by decide +kernel
theorem st_L_reads : Cond.static yL_reads ∈ wG := wG_t 976 (by decide +kernel) rfl
theorem lk_L_186 : Cond.methodLink RL 186 yL_reads ∈ wG := wG_t 975 (by decide +kernel) rfl
theorem co_L_chip : Cond.code yL_chip cL_chip 12 (some .boolean) ∈ wG := wG_t 908 (by decide +kernel) rfl
theorem dd_L_chip : yL_chip.cls ≠ "java/lang/invoke/MethodHandle" ∧ yL_chip.cls ≠ "java/lang/invoke/VarHandle" ∧ (parseMethodDescriptor yL_chip.desc).map (fun d => d.parameters.length) = some 3 := by decide +kernel
theorem st_L_chip : Cond.static yL_chip ∈ wG := wG_t 907 (by decide +kernel) rfl
theorem lk_L_183 : Cond.methodLink RL 183 yL_chip ∈ wG := wG_t 906 (by decide +kernel) rfl
theorem co_L_pass : Cond.codeWith yL_pass cL_pass 3 (some .int) [(0, 5, 6, 21)] ∈ wG := wG_t 900 (by decide +kernel) rfl
theorem dd_L_pass : yL_pass.cls ≠ "java/lang/invoke/MethodHandle" ∧ yL_pass.cls ≠ "java/lang/invoke/VarHandle" ∧ (parseMethodDescriptor yL_pass.desc).map (fun d => d.parameters.length) = some 2 := by decide +kernel
theorem st_L_pass : Cond.static yL_pass ∈ wG := wG_t 899 (by decide +kernel) rfl
theorem lk_L_181 : Cond.methodLink RL 181 yL_pass ∈ wG := wG_t 898 (by decide +kernel) rfl
theorem co_L_orders : Cond.code yL_orders cL_orders 12 (some .boolean) ∈ wG := wG_t 855 (by decide +kernel) rfl
theorem dd_L_orders : yL_orders.cls ≠ "java/lang/invoke/MethodHandle" ∧ yL_orders.cls ≠ "java/lang/invoke/VarHandle" ∧ (parseMethodDescriptor yL_orders.desc).map (fun d => d.parameters.length) = some 2 := by decide +kernel
theorem st_L_orders : Cond.static yL_orders ∈ wG := wG_t 854 (by decide +kernel) rfl
theorem lk_L_178 : Cond.methodLink RL 178 yL_orders ∈ wG := wG_t 853 (by decide +kernel) rfl
theorem co_L_begins : Cond.code yL_begins cL_begins 10 (some .boolean) ∈ wG := wG_t 825 (by decide +kernel) rfl
theorem dd_L_begins : yL_begins.cls ≠ "java/lang/invoke/MethodHandle" ∧ yL_begins.cls ≠ "java/lang/invoke/VarHandle" ∧ (parseMethodDescriptor yL_begins.desc).map (fun d => d.parameters.length) = some 3 := by decide +kernel
theorem st_L_begins : Cond.static yL_begins ∈ wG := wG_t 824 (by decide +kernel) rfl
theorem lk_L_174 : Cond.methodLink RL 174 yL_begins ∈ wG := wG_t 823 (by decide +kernel) rfl
theorem co_L_load : Cond.codeWith yL_load cL_load 3 (some .int) [(0, 5, 6, 21), (0, 5, 10, 15)] ∈ wG := wG_t 811 (by decide +kernel) rfl
theorem dd_L_load : yL_load.cls ≠ "java/lang/invoke/MethodHandle" ∧ yL_load.cls ≠ "java/lang/invoke/VarHandle" ∧ (parseMethodDescriptor yL_load.desc).map (fun d => d.parameters.length) = some 2 := by decide +kernel
theorem st_L_load : Cond.static yL_load ∈ wG := wG_t 810 (by decide +kernel) rfl
theorem lk_L_172 : Cond.methodLink RL 172 yL_load ∈ wG := wG_t 809 (by decide +kernel) rfl
def m_L_look (v : xSt) : Option (Int64 × xSt) := lp (fun (rec3 : Int64 × Int32 → Option (Int64 × xSt)) => un2 (fun (a1 : Int64) (a2 : Int32) => (if (15 : Int32) ≤ a2 then lp (fun (rec7 : Int64 × Int32 → Option (Int64 × xSt)) => un2 (fun (a5 : Int64) (a6 : Int32) => (if (256 : Int32) ≤ a6 then lp (fun (rec11 : Int64 × Int32 → Option (Int64 × xSt)) => un2 (fun (a9 : Int64) (a10 : Int32) => (if (8 : Int32) ≤ a10 then lp (fun (rec16 : Int64 × Int32 × xSt → Option (Int64 × xSt)) => un3 (fun (a13 : Int64) (a14 : Int32) (v15 : xSt) => (if (10 : Int32) ≤ a14 then lp (fun (rec20 : Int64 × Int32 → Option (Int64 × xSt)) => un2 (fun (a18 : Int64) (a19 : Int32) => ob (m_X8_count_n v15 (10 : Int32)) (fun r22 => (if ((6 : Int32) * r22) ≤ a19 then some (a18, v15) else ob (m_X8_order_n v15 (a19 / (6 : Int32)) (a19 - a19 / (6 : Int32) * (6 : Int32))) (fun r25 => rec20 ((((31 : Int64) * a18) + (r25).toInt64), (a19 + 1))))))) xF (a13, (0 : Int32)) else ob (m_X8_work_n v15 (a14 / (5 : Int32)) (a14 - a14 / (5 : Int32) * (5 : Int32))) (fun r27 => lt (fun (t28 : Int64) (t29 : Int32) (v30 : xSt) => rec16 ((t28 + (t29).toInt64), (a14 + 1), v30)) (fun j31 => (if (5 : Int32) ≤ a14 then j31 ((31 : Int64) * (((31 : Int64) * a13) + (r27).toInt64)) (0 : Int32) v15 else ob (m_X8_setting_n v15 a14) (fun r34 => lt (r34.2) (fun v35 => j31 ((31 : Int64) * (((31 : Int64) * a13) + (r27).toInt64)) r34.1 v35)))))))) xF (a9, (0 : Int32), v) else ob (m_X8_sector_n v a10 (0 : Int32)) (fun r37 => ob (m_X8_sector_n v a10 (4 : Int32)) (fun r39 => lt ((((31 : Int64) * (((31 : Int64) * a9) + (r37).toInt64)) + (r39).toInt64)) (fun x40 => rec11 (x40, (a10 + 1)))))))) xF (a5, (0 : Int32)) else ob (m_X8_cell_n v a6 (0 : Int32)) (fun r42 => ob (m_X8_cell_n v a6 (3 : Int32)) (fun r44 => lt ((((31 : Int64) * (((31 : Int64) * a5) + (r42).toInt64)) + (r44).toInt64)) (fun x45 => rec7 (x45, (a6 + 1)))))))) xF (a1, (0 : Int32)) else ob (m_X8_count_n v a2) (fun r47 => rec3 ((((31 : Int64) * a1) + (r47).toInt64), (a2 + 1)))))) xF ((337 : Int64), (0 : Int32))
set_option maxHeartbeats 4000000 in
set_option maxRecDepth 100000 in
theorem c_L_look (l : Launch) (hst : l.stackTraces = false) (G : xGl) (sa q : Nat → Nat) (v : xSt) {z : (Int64 × xSt)} (hf : m_L_look v = some z) : mRS l yL_look (wM yL_look cL_look 4 (some .long)) { frames := 4, cells := 0, slots := 0, locals := 90 } G sa (eBC G) 430 q v [.ref (q 0)] (qL z.1) z.2 0 0 := by
  refine xRSg (cc := cL_look) (maxL := 4) (ret := (some .long)) (by decide) rfl (Nat.le_of_ble_eq_true rfl) ?_
  intro p e s m below meth c ls A hC hr hlk h hT hl
  have hx := hC.1
  have hb := hC.2.1
  have hl : lv_has ls 4 [(0, .ref (q 0))] := hl
  unfold m_L_look at hf
  obtain ⟨H, hH⟩ : ∃ H, H = s.heap := ⟨_, rfl⟩
  obtain ⟨locs, hlo⟩ : ∃ x : List Loc, x = [] := ⟨_, rfl⟩
  have h : hg G (eBC G) 430 q v A s H locs := by rw [hH, hlo]; exact h
  rw [← hlo, ← hH]
  clear hH hlo
  refine lv_ldc2 hx hb hC.2.2.2.1 (hC.2.2.2.2 _ (wM_in cn_L_72)) dL_look_0 ?_
  refine lv_lstore_n (lv' := [(1, .long (337 : Int64)), (0, .ref (q 0))]) hx hb dL_look_3 rfl hl (by decide) rfl (fun ls hl => ?_)
  refine lv_iconst (v := (0 : Int32)) hx hb dL_look_4 (by decide) ?_
  refine lv_istore_n (lv' := [(3, .int (0 : Int32)), (1, .long (337 : Int64)), (0, .ref (q 0))]) hx hb dL_look_5 rfl hl (by decide) rfl (fun ls hl => ?_)
  refine lp_i (z := z) (P := fun (pp : Int64 × Int32) => ∀ (H : Heap) (locs : List Loc), hg G (eBC G) 430 q v A s H locs → ∀ (ls : Array Slot), lv_has ls 4 [(0, .ref (q 0)), (1, .long pp.1), (3, .int pp.2)] → W p l e { frames := 4, cells := 0, slots := 0, locals := 90 } s m [.ref (q 0)].toArray below meth c H locs 0 0 (MQ below ((qL z.1) (cB G (eBC G) 430 q z.2 A) A) [.ref (q 0)].toArray s 0 0 A) (F0 m 6 ls [])) ?_ _ _ hf H locs h ls (lv_sub hl [2, 1, 0] rfl)
  intro rec3 hrec3 pp hf H locs h ls hl
  obtain ⟨a1, a2⟩ := pp
  have h : hg G (eBC G) 430 q v A s H locs := h
  have hl : lv_has ls 4 [(0, .ref (q 0)), (1, .long a1), (3, .int a2)] := hl
  have hf := un2_e hf
  refine lv_iload_n hx hb dL_look_6 rfl (lv_at hl 2 rfl) ?_
  refine lv_bipush (v := (15 : Int32)) hx hb dL_look_7 (by decide) ?_
  refine lv_icmp_ge (tgt := 31) hx hb dL_look_9 (by decide) (fun c4 => ?_) (fun c4 => ?_)
  · have hf := it_t c4 hf
    refine lv_iconst (v := (0 : Int32)) hx hb dL_look_31 (by decide) ?_
    refine lv_istore_n (lv' := [(3, .int (0 : Int32)), (0, .ref (q 0)), (1, .long a1)]) hx hb dL_look_32 rfl hl (by decide) rfl (fun ls hl => ?_)
    refine lp_i (z := z) (P := fun (pp : Int64 × Int32) => ∀ (H : Heap) (locs : List Loc), hg G (eBC G) 430 q v A s H locs → ∀ (ls : Array Slot), lv_has ls 4 [(0, .ref (q 0)), (1, .long pp.1), (3, .int pp.2)] → W p l e { frames := 4, cells := 0, slots := 0, locals := 90 } s m [.ref (q 0)].toArray below meth c H locs 0 0 (MQ below ((qL z.1) (cB G (eBC G) 430 q z.2 A) A) [.ref (q 0)].toArray s 0 0 A) (F0 m 33 ls [])) ?_ _ _ hf H locs h ls (lv_sub hl [1, 2, 0] rfl)
    intro rec7 hrec7 pp hf H locs h ls hl
    obtain ⟨a5, a6⟩ := pp
    have h : hg G (eBC G) 430 q v A s H locs := h
    have hl : lv_has ls 4 [(0, .ref (q 0)), (1, .long a5), (3, .int a6)] := hl
    have hf := un2_e hf
    refine lv_iload_n hx hb dL_look_33 rfl (lv_at hl 2 rfl) ?_
    refine lv_sipush (v := (256 : Int32)) hx hb dL_look_34 (by decide) ?_
    refine lv_icmp_ge (tgt := 72) hx hb dL_look_37 (by decide) (fun c8 => ?_) (fun c8 => ?_)
    · have hf := it_t c8 hf
      refine lv_iconst (v := (0 : Int32)) hx hb dL_look_72 (by decide) ?_
      refine lv_istore_n (lv' := [(3, .int (0 : Int32)), (0, .ref (q 0)), (1, .long a5)]) hx hb dL_look_73 rfl hl (by decide) rfl (fun ls hl => ?_)
      refine lp_i (z := z) (P := fun (pp : Int64 × Int32) => ∀ (H : Heap) (locs : List Loc), hg G (eBC G) 430 q v A s H locs → ∀ (ls : Array Slot), lv_has ls 4 [(0, .ref (q 0)), (1, .long pp.1), (3, .int pp.2)] → W p l e { frames := 4, cells := 0, slots := 0, locals := 90 } s m [.ref (q 0)].toArray below meth c H locs 0 0 (MQ below ((qL z.1) (cB G (eBC G) 430 q z.2 A) A) [.ref (q 0)].toArray s 0 0 A) (F0 m 74 ls [])) ?_ _ _ hf H locs h ls (lv_sub hl [1, 2, 0] rfl)
      intro rec11 hrec11 pp hf H locs h ls hl
      obtain ⟨a9, a10⟩ := pp
      have h : hg G (eBC G) 430 q v A s H locs := h
      have hl : lv_has ls 4 [(0, .ref (q 0)), (1, .long a9), (3, .int a10)] := hl
      have hf := un2_e hf
      refine lv_iload_n hx hb dL_look_74 rfl (lv_at hl 2 rfl) ?_
      refine lv_bipush (v := (8 : Int32)) hx hb dL_look_75 (by decide) ?_
      refine lv_icmp_ge (tgt := 112) hx hb dL_look_77 (by decide) (fun c12 => ?_) (fun c12 => ?_)
      · have hf := it_t c12 hf
        refine lv_iconst (v := (0 : Int32)) hx hb dL_look_112 (by decide) ?_
        refine lv_istore_n (lv' := [(3, .int (0 : Int32)), (0, .ref (q 0)), (1, .long a9)]) hx hb dL_look_113 rfl hl (by decide) rfl (fun ls hl => ?_)
        refine lp_i (z := z) (P := fun (pp : Int64 × Int32 × xSt) => ∀ (H : Heap) (locs : List Loc), hg G (eBC G) 430 q pp.2.2 A s H locs → ∀ (ls : Array Slot), lv_has ls 4 [(0, .ref (q 0)), (1, .long pp.1), (3, .int pp.2.1)] → W p l e { frames := 4, cells := 0, slots := 0, locals := 90 } s m [.ref (q 0)].toArray below meth c H locs 0 0 (MQ below ((qL z.1) (cB G (eBC G) 430 q z.2 A) A) [.ref (q 0)].toArray s 0 0 A) (F0 m 114 ls [])) ?_ _ _ hf H locs h ls (lv_sub hl [1, 2, 0] rfl)
        intro rec16 hrec16 pp hf H locs h ls hl
        obtain ⟨a13, a14, v15⟩ := pp
        have h : hg G (eBC G) 430 q v15 A s H locs := h
        have hl : lv_has ls 4 [(0, .ref (q 0)), (1, .long a13), (3, .int a14)] := hl
        have hf := un3_e hf
        refine lv_iload_n hx hb dL_look_114 rfl (lv_at hl 2 rfl) ?_
        refine lv_bipush (v := (10 : Int32)) hx hb dL_look_115 (by decide) ?_
        refine lv_icmp_ge (tgt := 164) hx hb dL_look_117 (by decide) (fun c17 => ?_) (fun c17 => ?_)
        · have hf := it_t c17 hf
          refine lv_iconst (v := (0 : Int32)) hx hb dL_look_164 (by decide) ?_
          refine lv_istore_n (lv' := [(3, .int (0 : Int32)), (0, .ref (q 0)), (1, .long a13)]) hx hb dL_look_165 rfl hl (by decide) rfl (fun ls hl => ?_)
          refine lp_i (z := z) (P := fun (pp : Int64 × Int32) => ∀ (H : Heap) (locs : List Loc), hg G (eBC G) 430 q v15 A s H locs → ∀ (ls : Array Slot), lv_has ls 4 [(0, .ref (q 0)), (1, .long pp.1), (3, .int pp.2)] → W p l e { frames := 4, cells := 0, slots := 0, locals := 90 } s m [.ref (q 0)].toArray below meth c H locs 0 0 (MQ below ((qL z.1) (cB G (eBC G) 430 q z.2 A) A) [.ref (q 0)].toArray s 0 0 A) (F0 m 166 ls [])) ?_ _ _ hf H locs h ls (lv_sub hl [1, 2, 0] rfl)
          intro rec20 hrec20 pp hf H locs h ls hl
          obtain ⟨a18, a19⟩ := pp
          have h : hg G (eBC G) 430 q v15 A s H locs := h
          have hl : lv_has ls 4 [(0, .ref (q 0)), (1, .long a18), (3, .int a19)] := hl
          have hf := un2_e hf
          refine lv_iload_n hx hb dL_look_166 rfl (lv_at hl 2 rfl) ?_
          refine lv_bipush (v := (6 : Int32)) hx hb dL_look_167 (by decide) ?_
          refine lv_aload_n hx hb dL_look_169 rfl (lv_at hl 0 rfl) ?_
          refine lv_bipush (v := (10 : Int32)) hx hb dL_look_170 (by decide) ?_
          obtain ⟨r22, hy21, hf⟩ := ob_e hf
          refine xiG h (va_runV (As := [.int (10 : Int32)]) (rest := [.int (6 : Int32), .int a19]) hC (c_X8_count_n l G q v15 (10 : Int32) hy21 H.size) (xcwV hC lk_L_76 in_X8 co_X8_count im_X8_count se_X8_count rfl rfl dd_X8_count ⟨Nat.le_of_ble_eq_true rfl, Nat.le_of_ble_eq_true rfl⟩) (preVO0 h.o (Nat.le_of_ble_eq_true rfl) eBC_0 rfl [.int (10 : Int32)]) rfl rfl hl.1 rfl (lv_room (Nat.le_of_ble_eq_true rfl)) dL_look_172 ⟨Nat.le_of_ble_eq_true rfl, Nat.le_of_ble_eq_true rfl⟩) (fun H locs h => ?_)
          refine lv_imul hx hb dL_look_175 ?_
          refine lv_icmp_ge (tgt := 205) hx hb dL_look_176 (by decide) (fun c23 => ?_) (fun c23 => ?_)
          · have hf := it_t c23 hf
            refine lv_lload_n hx hb dL_look_205 rfl (lv_at hl 1 rfl) ?_
            have hf := sm_e hf
            exact xlretc hC hr hlk h (by rw [← hf]) (by rw [← hf]) dL_look_206
          · have hf := it_f c23 hf
            refine lv_ldc2 hx hb hC.2.2.2.1 (hC.2.2.2.2 _ (wM_in cn_L_74)) dL_look_179 ?_
            refine lv_lload_n hx hb dL_look_182 rfl (lv_at hl 1 rfl) ?_
            refine lv_lmul hx hb dL_look_183 ?_
            refine lv_aload_n hx hb dL_look_184 rfl (lv_at hl 0 rfl) ?_
            refine lv_iload_n hx hb dL_look_185 rfl (lv_at hl 2 rfl) ?_
            refine lv_bipush (v := (6 : Int32)) hx hb dL_look_186 (by decide) ?_
            refine lv_idiv hx hb dL_look_188 (by decide) ?_
            refine lv_iload_n hx hb dL_look_189 rfl (lv_at hl 2 rfl) ?_
            refine lv_bipush (v := (6 : Int32)) hx hb dL_look_190 (by decide) ?_
            refine lv_irem hx hb dL_look_192 (by decide) ?_
            obtain ⟨r25, hy24, hf⟩ := ob_e hf
            refine xiG h (va_runV (As := [.int (a19 / (6 : Int32)), .int (a19 - a19 / (6 : Int32) * (6 : Int32))]) (rest := [.long ((31 : Int64) * a18)]) hC (c_X8_order_n l G q v15 (a19 / (6 : Int32)) (a19 - a19 / (6 : Int32) * (6 : Int32)) hy24 H.size) (xcwV hC lk_L_91 in_X8 co_X8_order im_X8_order se_X8_order rfl rfl dd_X8_order ⟨Nat.le_of_ble_eq_true rfl, Nat.le_of_ble_eq_true rfl⟩) (preVO0 h.o (Nat.le_of_ble_eq_true rfl) eBC_0 rfl [.int (a19 / (6 : Int32)), .int (a19 - a19 / (6 : Int32) * (6 : Int32))]) rfl rfl hl.1 rfl (lv_room (Nat.le_of_ble_eq_true rfl)) dL_look_193 ⟨Nat.le_of_ble_eq_true rfl, Nat.le_of_ble_eq_true rfl⟩) (fun H locs h => ?_)
            refine lv_i2l hx hb dL_look_196 rfl ?_
            refine lv_ladd hx hb dL_look_197 ?_
            refine lv_lstore_n (lv' := [(1, .long (((31 : Int64) * a18) + (r25).toInt64)), (0, .ref (q 0)), (3, .int a19)]) hx hb dL_look_198 rfl hl (by decide) rfl (fun ls hl => ?_)
            refine lv_iinc (v := (a19 + 1)) (lv' := [(3, .int (a19 + 1)), (1, .long (((31 : Int64) * a18) + (r25).toInt64)), (0, .ref (q 0))]) hx hb dL_look_199 hl (k := 2) rfl rfl (by decide) rfl (fun ls hl => ?_)
            refine lv_goto (tgt := 166) hx hb dL_look_202 (by decide) ?_
            exact hrec20 ((((31 : Int64) * a18) + (r25).toInt64), (a19 + 1)) hf H locs h ls (lv_sub hl [2, 1, 0] rfl)
        · have hf := it_f c17 hf
          refine lv_ldc2 hx hb hC.2.2.2.1 (hC.2.2.2.2 _ (wM_in cn_L_74)) dL_look_120 ?_
          refine lv_ldc2 hx hb hC.2.2.2.1 (hC.2.2.2.2 _ (wM_in cn_L_74)) dL_look_123 ?_
          refine lv_lload_n hx hb dL_look_126 rfl (lv_at hl 1 rfl) ?_
          refine lv_lmul hx hb dL_look_127 ?_
          refine lv_aload_n hx hb dL_look_128 rfl (lv_at hl 0 rfl) ?_
          refine lv_iload_n hx hb dL_look_129 rfl (lv_at hl 2 rfl) ?_
          refine lv_iconst (v := (5 : Int32)) hx hb dL_look_130 (by decide) ?_
          refine lv_idiv hx hb dL_look_131 (by decide) ?_
          refine lv_iload_n hx hb dL_look_132 rfl (lv_at hl 2 rfl) ?_
          refine lv_iconst (v := (5 : Int32)) hx hb dL_look_133 (by decide) ?_
          refine lv_irem hx hb dL_look_134 (by decide) ?_
          obtain ⟨r27, hy26, hf⟩ := ob_e hf
          refine xiG h (va_runV (As := [.int (a14 / (5 : Int32)), .int (a14 - a14 / (5 : Int32) * (5 : Int32))]) (rest := [.long ((31 : Int64) * a13), .long (31 : Int64)]) hC (c_X8_work_n l G q v15 (a14 / (5 : Int32)) (a14 - a14 / (5 : Int32) * (5 : Int32)) hy26 H.size) (xcwV hC lk_L_85 in_X8 co_X8_work im_X8_work se_X8_work rfl rfl dd_X8_work ⟨Nat.le_of_ble_eq_true rfl, Nat.le_of_ble_eq_true rfl⟩) (preVO0 h.o (Nat.le_of_ble_eq_true rfl) eBC_0 rfl [.int (a14 / (5 : Int32)), .int (a14 - a14 / (5 : Int32) * (5 : Int32))]) rfl rfl hl.1 rfl (lv_room (Nat.le_of_ble_eq_true rfl)) dL_look_135 ⟨Nat.le_of_ble_eq_true rfl, Nat.le_of_ble_eq_true rfl⟩) (fun H locs h => ?_)
          refine lv_i2l hx hb dL_look_138 rfl ?_
          refine lv_ladd hx hb dL_look_139 ?_
          refine lv_lmul hx hb dL_look_140 ?_
          refine lv_iload_n hx hb dL_look_141 rfl (lv_at hl 2 rfl) ?_
          refine lv_iconst (v := (5 : Int32)) hx hb dL_look_142 (by decide) ?_
          obtain ⟨j31, ej31, hf⟩ := lt_e hf
          have hj31 : ∀ (t28 : Int64) (t29 : Int32) (v30 : xSt) (H : Heap) (locs : List Loc), hg G (eBC G) 430 q v30 A s H locs → ∀ (ls : Array Slot), lv_has ls 4 [(0, .ref (q 0)), (3, .int a14)] → j31 t28 t29 v30 = some z → W p l e { frames := 4, cells := 0, slots := 0, locals := 90 } s m [.ref (q 0)].toArray below meth c H locs 0 0 (MQ below ((qL z.1) (cB G (eBC G) 430 q z.2 A) A) [.ref (q 0)].toArray s 0 0 A) (F0 m 155 ls [.int t29, .long t28]) := by
            intro t28 t29 v30 H locs h ls hl hf
            rw [ej31] at hf
            refine lv_i2l hx hb dL_look_155 rfl ?_
            refine lv_ladd hx hb dL_look_156 ?_
            refine lv_lstore_n (lv' := [(1, .long (t28 + (t29).toInt64)), (0, .ref (q 0)), (3, .int a14)]) hx hb dL_look_157 rfl hl (by decide) rfl (fun ls hl => ?_)
            refine lv_iinc (v := (a14 + 1)) (lv' := [(3, .int (a14 + 1)), (1, .long (t28 + (t29).toInt64)), (0, .ref (q 0))]) hx hb dL_look_158 hl (k := 2) rfl rfl (by decide) rfl (fun ls hl => ?_)
            refine lv_goto (tgt := 114) hx hb dL_look_161 (by decide) ?_
            exact hrec16 ((t28 + (t29).toInt64), (a14 + 1), v30) hf H locs h ls (lv_sub hl [2, 1, 0] rfl)
          refine lv_icmp_ge (tgt := 154) hx hb dL_look_143 (by decide) (fun c32 => ?_) (fun c32 => ?_)
          · have hf := it_t c32 hf
            refine lv_iconst (v := (0 : Int32)) hx hb dL_look_154 (by decide) ?_
            exact hj31 ((31 : Int64) * (((31 : Int64) * a13) + (r27).toInt64)) (0 : Int32) v15 H locs h ls (lv_sub hl [0, 2] rfl) hf
          · have hf := it_f c32 hf
            refine lv_aload_n hx hb dL_look_146 rfl (lv_at hl 0 rfl) ?_
            refine lv_iload_n hx hb dL_look_147 rfl (lv_at hl 2 rfl) ?_
            obtain ⟨r34, hy33, hf⟩ := ob_e hf
            refine xi0 h (va_runV (As := [.int a14]) (rest := [.long ((31 : Int64) * (((31 : Int64) * a13) + (r27).toInt64))]) hC (c_X8_setting_n l G sa q v15 a14 hy33 H.size) (xcwV hC lk_L_88 in_X8 co_X8_setting im_X8_setting se_X8_setting rfl rfl dd_X8_setting ⟨Nat.le_of_ble_eq_true rfl, Nat.le_of_ble_eq_true rfl⟩) (preV0T h hT (Nat.le_of_ble_eq_true rfl) eBC_0 rfl [.int a14]) rfl rfl hl.1 rfl (lv_room (Nat.le_of_ble_eq_true rfl)) dL_look_148 ⟨Nat.le_of_ble_eq_true rfl, Nat.le_of_ble_eq_true rfl⟩) (fun H locs h => ?_)
            obtain ⟨v35, ev35, hf⟩ := lt_e hf
            rw [← ev35] at h
            refine lv_goto (tgt := 155) hx hb dL_look_151 (by decide) ?_
            exact hj31 ((31 : Int64) * (((31 : Int64) * a13) + (r27).toInt64)) r34.1 v35 H locs h ls (lv_sub hl [0, 2] rfl) hf
      · have hf := it_f c12 hf
        refine lv_ldc2 hx hb hC.2.2.2.1 (hC.2.2.2.2 _ (wM_in cn_L_74)) dL_look_80 ?_
        refine lv_ldc2 hx hb hC.2.2.2.1 (hC.2.2.2.2 _ (wM_in cn_L_74)) dL_look_83 ?_
        refine lv_lload_n hx hb dL_look_86 rfl (lv_at hl 1 rfl) ?_
        refine lv_lmul hx hb dL_look_87 ?_
        refine lv_aload_n hx hb dL_look_88 rfl (lv_at hl 0 rfl) ?_
        refine lv_iload_n hx hb dL_look_89 rfl (lv_at hl 2 rfl) ?_
        refine lv_iconst (v := (0 : Int32)) hx hb dL_look_90 (by decide) ?_
        obtain ⟨r37, hy36, hf⟩ := ob_e hf
        refine xiG h (va_runV (As := [.int a10, .int (0 : Int32)]) (rest := [.long ((31 : Int64) * a9), .long (31 : Int64)]) hC (c_X8_sector_n l G q v a10 (0 : Int32) hy36 H.size) (xcwV hC lk_L_82 in_X8 co_X8_sector im_X8_sector se_X8_sector rfl rfl dd_X8_sector ⟨Nat.le_of_ble_eq_true rfl, Nat.le_of_ble_eq_true rfl⟩) (preVO0 h.o (Nat.le_of_ble_eq_true rfl) eBC_0 rfl [.int a10, .int (0 : Int32)]) rfl rfl hl.1 rfl (lv_room (Nat.le_of_ble_eq_true rfl)) dL_look_91 ⟨Nat.le_of_ble_eq_true rfl, Nat.le_of_ble_eq_true rfl⟩) (fun H locs h => ?_)
        refine lv_i2l hx hb dL_look_94 rfl ?_
        refine lv_ladd hx hb dL_look_95 ?_
        refine lv_lmul hx hb dL_look_96 ?_
        refine lv_aload_n hx hb dL_look_97 rfl (lv_at hl 0 rfl) ?_
        refine lv_iload_n hx hb dL_look_98 rfl (lv_at hl 2 rfl) ?_
        refine lv_iconst (v := (4 : Int32)) hx hb dL_look_99 (by decide) ?_
        obtain ⟨r39, hy38, hf⟩ := ob_e hf
        refine xiG h (va_runV (As := [.int a10, .int (4 : Int32)]) (rest := [.long ((31 : Int64) * (((31 : Int64) * a9) + (r37).toInt64))]) hC (c_X8_sector_n l G q v a10 (4 : Int32) hy38 H.size) (xcwV hC lk_L_82 in_X8 co_X8_sector im_X8_sector se_X8_sector rfl rfl dd_X8_sector ⟨Nat.le_of_ble_eq_true rfl, Nat.le_of_ble_eq_true rfl⟩) (preVO0 h.o (Nat.le_of_ble_eq_true rfl) eBC_0 rfl [.int a10, .int (4 : Int32)]) rfl rfl hl.1 rfl (lv_room (Nat.le_of_ble_eq_true rfl)) dL_look_100 ⟨Nat.le_of_ble_eq_true rfl, Nat.le_of_ble_eq_true rfl⟩) (fun H locs h => ?_)
        refine lv_i2l hx hb dL_look_103 rfl ?_
        refine lv_ladd hx hb dL_look_104 ?_
        obtain ⟨x40, ex40, hf⟩ := lt_e hf
        refine lv_nmL ex40 ?_
        refine lv_lstore_n (lv' := [(1, .long x40), (0, .ref (q 0)), (3, .int a10)]) hx hb dL_look_105 rfl hl (by decide) rfl (fun ls hl => ?_)
        refine lv_iinc (v := (a10 + 1)) (lv' := [(3, .int (a10 + 1)), (1, .long x40), (0, .ref (q 0))]) hx hb dL_look_106 hl (k := 2) rfl rfl (by decide) rfl (fun ls hl => ?_)
        refine lv_goto (tgt := 74) hx hb dL_look_109 (by decide) ?_
        exact hrec11 (x40, (a10 + 1)) hf H locs h ls (lv_sub hl [2, 1, 0] rfl)
    · have hf := it_f c8 hf
      refine lv_ldc2 hx hb hC.2.2.2.1 (hC.2.2.2.2 _ (wM_in cn_L_74)) dL_look_40 ?_
      refine lv_ldc2 hx hb hC.2.2.2.1 (hC.2.2.2.2 _ (wM_in cn_L_74)) dL_look_43 ?_
      refine lv_lload_n hx hb dL_look_46 rfl (lv_at hl 1 rfl) ?_
      refine lv_lmul hx hb dL_look_47 ?_
      refine lv_aload_n hx hb dL_look_48 rfl (lv_at hl 0 rfl) ?_
      refine lv_iload_n hx hb dL_look_49 rfl (lv_at hl 2 rfl) ?_
      refine lv_iconst (v := (0 : Int32)) hx hb dL_look_50 (by decide) ?_
      obtain ⟨r42, hy41, hf⟩ := ob_e hf
      refine xiG h (va_runV (As := [.int a6, .int (0 : Int32)]) (rest := [.long ((31 : Int64) * a5), .long (31 : Int64)]) hC (c_X8_cell_n l G q v a6 (0 : Int32) hy41 H.size) (xcwV hC lk_L_79 in_X8 co_X8_cell im_X8_cell se_X8_cell rfl rfl dd_X8_cell ⟨Nat.le_of_ble_eq_true rfl, Nat.le_of_ble_eq_true rfl⟩) (preVO0 h.o (Nat.le_of_ble_eq_true rfl) eBC_0 rfl [.int a6, .int (0 : Int32)]) rfl rfl hl.1 rfl (lv_room (Nat.le_of_ble_eq_true rfl)) dL_look_51 ⟨Nat.le_of_ble_eq_true rfl, Nat.le_of_ble_eq_true rfl⟩) (fun H locs h => ?_)
      refine lv_i2l hx hb dL_look_54 rfl ?_
      refine lv_ladd hx hb dL_look_55 ?_
      refine lv_lmul hx hb dL_look_56 ?_
      refine lv_aload_n hx hb dL_look_57 rfl (lv_at hl 0 rfl) ?_
      refine lv_iload_n hx hb dL_look_58 rfl (lv_at hl 2 rfl) ?_
      refine lv_iconst (v := (3 : Int32)) hx hb dL_look_59 (by decide) ?_
      obtain ⟨r44, hy43, hf⟩ := ob_e hf
      refine xiG h (va_runV (As := [.int a6, .int (3 : Int32)]) (rest := [.long ((31 : Int64) * (((31 : Int64) * a5) + (r42).toInt64))]) hC (c_X8_cell_n l G q v a6 (3 : Int32) hy43 H.size) (xcwV hC lk_L_79 in_X8 co_X8_cell im_X8_cell se_X8_cell rfl rfl dd_X8_cell ⟨Nat.le_of_ble_eq_true rfl, Nat.le_of_ble_eq_true rfl⟩) (preVO0 h.o (Nat.le_of_ble_eq_true rfl) eBC_0 rfl [.int a6, .int (3 : Int32)]) rfl rfl hl.1 rfl (lv_room (Nat.le_of_ble_eq_true rfl)) dL_look_60 ⟨Nat.le_of_ble_eq_true rfl, Nat.le_of_ble_eq_true rfl⟩) (fun H locs h => ?_)
      refine lv_i2l hx hb dL_look_63 rfl ?_
      refine lv_ladd hx hb dL_look_64 ?_
      obtain ⟨x45, ex45, hf⟩ := lt_e hf
      refine lv_nmL ex45 ?_
      refine lv_lstore_n (lv' := [(1, .long x45), (0, .ref (q 0)), (3, .int a6)]) hx hb dL_look_65 rfl hl (by decide) rfl (fun ls hl => ?_)
      refine lv_iinc (v := (a6 + 1)) (lv' := [(3, .int (a6 + 1)), (1, .long x45), (0, .ref (q 0))]) hx hb dL_look_66 hl (k := 2) rfl rfl (by decide) rfl (fun ls hl => ?_)
      refine lv_goto (tgt := 33) hx hb dL_look_69 (by decide) ?_
      exact hrec7 (x45, (a6 + 1)) hf H locs h ls (lv_sub hl [2, 1, 0] rfl)
  · have hf := it_f c4 hf
    refine lv_ldc2 hx hb hC.2.2.2.1 (hC.2.2.2.2 _ (wM_in cn_L_74)) dL_look_12 ?_
    refine lv_lload_n hx hb dL_look_15 rfl (lv_at hl 1 rfl) ?_
    refine lv_lmul hx hb dL_look_16 ?_
    refine lv_aload_n hx hb dL_look_17 rfl (lv_at hl 0 rfl) ?_
    refine lv_iload_n hx hb dL_look_18 rfl (lv_at hl 2 rfl) ?_
    obtain ⟨r47, hy46, hf⟩ := ob_e hf
    refine xiG h (va_runV (As := [.int a2]) (rest := [.long ((31 : Int64) * a1)]) hC (c_X8_count_n l G q v a2 hy46 H.size) (xcwV hC lk_L_76 in_X8 co_X8_count im_X8_count se_X8_count rfl rfl dd_X8_count ⟨Nat.le_of_ble_eq_true rfl, Nat.le_of_ble_eq_true rfl⟩) (preVO0 h.o (Nat.le_of_ble_eq_true rfl) eBC_0 rfl [.int a2]) rfl rfl hl.1 rfl (lv_room (Nat.le_of_ble_eq_true rfl)) dL_look_19 ⟨Nat.le_of_ble_eq_true rfl, Nat.le_of_ble_eq_true rfl⟩) (fun H locs h => ?_)
    refine lv_i2l hx hb dL_look_22 rfl ?_
    refine lv_ladd hx hb dL_look_23 ?_
    refine lv_lstore_n (lv' := [(1, .long (((31 : Int64) * a1) + (r47).toInt64)), (0, .ref (q 0)), (3, .int a2)]) hx hb dL_look_24 rfl hl (by decide) rfl (fun ls hl => ?_)
    refine lv_iinc (v := (a2 + 1)) (lv' := [(3, .int (a2 + 1)), (1, .long (((31 : Int64) * a1) + (r47).toInt64)), (0, .ref (q 0))]) hx hb dL_look_25 hl (k := 2) rfl rfl (by decide) rfl (fun ls hl => ?_)
    refine lv_goto (tgt := 6) hx hb dL_look_28 (by decide) ?_
    exact hrec3 ((((31 : Int64) * a1) + (r47).toInt64), (a2 + 1)) hf H locs h ls (lv_sub hl [2, 1, 0] rfl)
def m_L_holds (v : xSt) : Option (Int32 × xSt) := ob (m_X8_count_n v (3 : Int32)) (fun r2 => lt (fun (t3 : Int32) => ob (m_X8_onesShare v) (fun r6 => ob (m_X8_count_n v (5 : Int32)) (fun r8 => ck (xn64 (FP.ddiv (FP.i2d r8) (4656722014701092864 : UInt64))) (lt (fun (t10 : Int32) => lp (fun (rec19 : Int32 × Int32 × Int32 × Int32 × Int32 × Int32 × xSt → Option (Int32 × xSt)) => un7 (fun (a12 : Int32) (a13 : Int32) (a14 : Int32) (a15 : Int32) (a16 : Int32) (a17 : Int32) (v18 : xSt) => lt (fun (_ : Unit) => lp (fun (rec23 : Int32 × Int32 → Option (Int32 × xSt)) => un2 (fun (a21 : Int32) (a22 : Int32) => ob (m_X8_count_n v18 (10 : Int32)) (fun r25 => lt (fun (_ : Unit) => lt (fun (_ : Unit) => some ((0 : Int32), v18)) (fun j27 => (if a21 = 0 then j27 () else ob (m_X8_count_n v18 (5 : Int32)) (fun r30 => (if a12 = r30 then ob (m_X8_count_n v18 (6 : Int32)) (fun r33 => (if a13 = r33 then ob (m_X8_count_n v18 (13 : Int32)) (fun r36 => (if a14 = r36 then ob (m_X8_count_n v18 (10 : Int32)) (fun r39 => (if a15 = r39 then ob (m_X8_count_n v18 (10 : Int32)) (fun r42 => (if (10 : Int32) < r42 then j27 () else ob (m_X8_count_n v18 (11 : Int32)) (fun r45 => (if (12 : Int32) < r45 then j27 () else ob (m_X8_work_n v18 (0 : Int32) (2 : Int32)) (fun r48 => (if r48 < 0 then j27 () else ob (m_X8_work_n v18 (1 : Int32) (2 : Int32)) (fun r51 => (if r51 < 0 then j27 () else ob (m_X8_work_n v18 (0 : Int32) (0 : Int32)) (fun r54 => lt (fun (t55 : Int32) => ob (m_X8_work_n v18 (0 : Int32) (2 : Int32)) (fun r58 => lt (fun (t59 : Int32) (t60 : Int32) => (if t59 = t60 then ob (m_X8_work_n v18 (1 : Int32) (0 : Int32)) (fun r64 => lt (fun (t65 : Int32) => ob (m_X8_work_n v18 (1 : Int32) (2 : Int32)) (fun r68 => lt (fun (t69 : Int32) (t70 : Int32) => (if t69 = t70 then some ((1 : Int32), v18) else j27 ())) (fun j71 => (if r68 = 0 then j71 t65 (1 : Int32) else j71 t65 (0 : Int32))))) (fun j66 => (if r64 = 0 then j66 (1 : Int32) else j66 (0 : Int32)))) else j27 ())) (fun j61 => (if r58 = 0 then j61 t55 (1 : Int32) else j61 t55 (0 : Int32))))) (fun j56 => (if r54 = 0 then j56 (1 : Int32) else j56 (0 : Int32)))))))))))) else j27 ())) else j27 ())) else j27 ())) else j27 ()))))) (fun j26 => (if r25 ≤ a22 then j26 () else (if a21 = 0 then j26 () else ob (m_X8_order_n v18 (a22 - (1 : Int32)) (3 : Int32)) (fun r80 => ob (m_X8_order_n v18 a22 (3 : Int32)) (fun r82 => lt (fun (t83 : Int32) => rec23 (t83, (a22 + 1))) (fun j84 => lt (fun (_ : Unit) => j84 (1 : Int32)) (fun j85 => (if r82 < r80 then j85 () else ob (m_X8_order_n v18 (a22 - (1 : Int32)) (3 : Int32)) (fun r88 => ob (m_X8_order_n v18 a22 (3 : Int32)) (fun r90 => lt (fun (_ : Unit) => j84 (0 : Int32)) (fun j91 => (if r88 = r90 then ob (m_X8_order_n v18 (a22 - (1 : Int32)) (0 : Int32)) (fun r94 => ob (m_X8_order_n v18 a22 (0 : Int32)) (fun r96 => (if r96 ≤ r94 then j91 () else j85 ()))) else j91 ()))))))))))))))) xF (a16, (1 : Int32))) (fun j20 => (if (8 : Int32) ≤ a17 then j20 () else (if a16 = 0 then j20 () else ob (m_X8_sector_n v18 a17 (2 : Int32)) (fun r101 => ob (m_X8_sector_n v18 a17 (0 : Int32)) (fun r103 => ob (m_X8_sector_n v18 a17 (4 : Int32)) (fun r105 => ob (m_X8_sector_n v18 a17 (6 : Int32)) (fun r107 => ob (m_X8_count_n v18 (4 : Int32)) (fun r109 => lt (fun (t110 : Int32) => ob (m_X8_sector_n v18 a17 (1 : Int32)) (fun r113 => lt (fun (t114 : Int32) (t115 : Int32) => lt (fun (t117 : Int32) (v118 : xSt) => rec19 ((a12 + r101), (a13 + r103), (a14 + r105), (a15 + r107), t117, (a17 + 1), v118)) (fun j119 => lt (fun (v120 : xSt) => j119 (0 : Int32) v120) (fun j121 => (if t114 = t115 then ob (m_X8_sector_n v18 a17 (5 : Int32)) (fun r124 => ob (m_X8_setting_n v18 (1 : Int32)) (fun r126 => lt (r126.2) (fun v127 => ob (m_X8_sector_n v127 a17 (0 : Int32)) (fun r129 => (if r124 = (((4 : Int32) + r126.1) + (r129 / (4 : Int32))) then ob (m_X8_why_n v127 (2 : Int32) a17) (fun r132 => ob (m_X8_work_n v127 (0 : Int32) (0 : Int32)) (fun r134 => lt (fun (t135 : Int32) (t136 : Int32) => (if t135 = t136 then j119 (1 : Int32) v127 else j121 v127)) (fun j137 => (if r134 ≤ 0 then ob (m_X8_count_n v127 (1 : Int32)) (fun r141 => (if r141 = 0 then j137 r132 (2 : Int32) else (if t110 = 0 then ob (m_X8_work_n v127 (1 : Int32) (0 : Int32)) (fun r145 => (if r145 ≤ 0 then j137 r132 (0 : Int32) else j137 r132 (4 : Int32))) else j137 r132 (3 : Int32)))) else j137 r132 (1 : Int32))))) else j121 v127))))) else j121 v18)))) (fun j116 => (if t110 = 0 then j116 r113 (0 : Int32) else j116 r113 (1 : Int32))))) (fun j111 => (if r109 = (1 : Int32) then (if a17 < ((8 : Int32) - t3) then j111 (0 : Int32) else j111 (1 : Int32)) else (if t3 ≤ a17 then j111 (0 : Int32) else j111 (1 : Int32)))))))))))))) xF ((0 : Int32), (0 : Int32), (0 : Int32), (0 : Int32), t10, (0 : Int32), v)) (fun j11 => lt (fun (_ : Unit) => j11 (0 : Int32)) (fun j151 => (if (Op.cmpValue (FP.dcmp r6 (FP.ddiv (FP.i2d r8) (4656722014701092864 : UInt64))) .l) = 0 then ob (m_X8_meanWear v) (fun r154 => ob (m_X8_count_n v (6 : Int32)) (fun r156 => ck (xn32 (FP.fdiv (FP.i2f r156) (1090519040 : UInt32))) ((if (Op.cmpValue (FP.fcmp r154 (FP.fdiv (FP.i2f r156) (1090519040 : UInt32))) .l) = 0 then ob (m_X8_leastWorn v) (fun r160 => lt (fun (t161 : Int32) => ob (m_X8_count_n v (3 : Int32)) (fun r164 => lt (fun (t165 : Int32) (t166 : Int32) => (if t165 = t166 then j11 (1 : Int32) else j151 ())) (fun j167 => (if r164 = (4 : Int32) then j167 t161 (1 : Int32) else j167 t161 (0 : Int32))))) (fun j162 => (if r160 = (-1 : Int32) then j162 (1 : Int32) else j162 (0 : Int32)))) else j151 ())))) else j151 ()))))))) (fun j4 => (if r2 = 0 then j4 (0 : Int32) else ob (m_X8_count_n v (3 : Int32)) (fun r173 => j4 ((1 : Int32) <<< ((r173 - (1 : Int32)) &&& 31))))))
set_option maxHeartbeats 4000000 in
set_option maxRecDepth 100000 in
theorem c_L_holds (l : Launch) (hst : l.stackTraces = false) (G : xGl) (sa q : Nat → Nat) (v : xSt) {z : (Int32 × xSt)} (hf : m_L_holds v = some z) : mRS l yL_holds (wM yL_holds cL_holds 9 (some .boolean)) { frames := 4, cells := 0, slots := 0, locals := 90 } G sa (eBC G) 430 q v [.ref (q 0)] (qZ z.1) z.2 0 0 := by
  refine xRSg (cc := cL_holds) (maxL := 9) (ret := (some .boolean)) (by decide) rfl (Nat.le_of_ble_eq_true rfl) ?_
  intro p e s m below meth c ls A hC hr hlk h hT hl
  have hx := hC.1
  have hb := hC.2.1
  have hl : lv_has ls 9 [(0, .ref (q 0))] := hl
  unfold m_L_holds at hf
  obtain ⟨H, hH⟩ : ∃ H, H = s.heap := ⟨_, rfl⟩
  obtain ⟨locs, hlo⟩ : ∃ x : List Loc, x = [] := ⟨_, rfl⟩
  have h : hg G (eBC G) 430 q v A s H locs := by rw [hH, hlo]; exact h
  rw [← hlo, ← hH]
  clear hH hlo
  refine lv_iconst (v := (0 : Int32)) hx hb dL_holds_0 (by decide) ?_
  refine lv_istore_n (lv' := [(1, .int (0 : Int32)), (0, .ref (q 0))]) hx hb dL_holds_1 rfl hl (by decide) rfl (fun ls hl => ?_)
  refine lv_iconst (v := (0 : Int32)) hx hb dL_holds_2 (by decide) ?_
  refine lv_istore_n (lv' := [(2, .int (0 : Int32)), (1, .int (0 : Int32)), (0, .ref (q 0))]) hx hb dL_holds_3 rfl hl (by decide) rfl (fun ls hl => ?_)
  refine lv_iconst (v := (0 : Int32)) hx hb dL_holds_4 (by decide) ?_
  refine lv_istore_n (lv' := [(3, .int (0 : Int32)), (2, .int (0 : Int32)), (1, .int (0 : Int32)), (0, .ref (q 0))]) hx hb dL_holds_5 rfl hl (by decide) rfl (fun ls hl => ?_)
  refine lv_iconst (v := (0 : Int32)) hx hb dL_holds_6 (by decide) ?_
  refine lv_istore (lv' := [(4, .int (0 : Int32)), (3, .int (0 : Int32)), (2, .int (0 : Int32)), (1, .int (0 : Int32)), (0, .ref (q 0))]) hx hb dL_holds_7 hl (by decide) rfl (fun ls hl => ?_)
  refine lv_aload_n hx hb dL_holds_9 rfl (lv_at hl 4 rfl) ?_
  refine lv_iconst (v := (3 : Int32)) hx hb dL_holds_10 (by decide) ?_
  obtain ⟨r2, hy1, hf⟩ := ob_e hf
  refine xiG h (va_runV (As := [.int (3 : Int32)]) (rest := []) hC (c_X8_count_n l G q v (3 : Int32) hy1 H.size) (xcwV hC lk_L_76 in_X8 co_X8_count im_X8_count se_X8_count rfl rfl dd_X8_count ⟨Nat.le_of_ble_eq_true rfl, Nat.le_of_ble_eq_true rfl⟩) (preVO0 h.o (Nat.le_of_ble_eq_true rfl) eBC_0 rfl [.int (3 : Int32)]) rfl rfl hl.1 rfl (lv_room (Nat.le_of_ble_eq_true rfl)) dL_holds_11 ⟨Nat.le_of_ble_eq_true rfl, Nat.le_of_ble_eq_true rfl⟩) (fun H locs h => ?_)
  obtain ⟨j4, ej4, hf⟩ := lt_e hf
  have hj4 : ∀ (t3 : Int32) (H : Heap) (locs : List Loc), hg G (eBC G) 430 q v A s H locs → ∀ (ls : Array Slot), lv_has ls 9 [(0, .ref (q 0)), (1, .int (0 : Int32)), (2, .int (0 : Int32)), (3, .int (0 : Int32)), (4, .int (0 : Int32))] → j4 t3 = some z → W p l e { frames := 4, cells := 0, slots := 0, locals := 90 } s m [.ref (q 0)].toArray below meth c H locs 0 0 (MQ below ((qZ z.1) (cB G (eBC G) 430 q z.2 A) A) [.ref (q 0)].toArray s 0 0 A) (F0 m 30 ls [.int t3]) := by
    intro t3 H locs h ls hl hf
    rw [ej4] at hf
    refine lv_istore (lv' := [(5, .int t3), (0, .ref (q 0)), (1, .int (0 : Int32)), (2, .int (0 : Int32)), (3, .int (0 : Int32)), (4, .int (0 : Int32))]) hx hb dL_holds_30 hl (by decide) rfl (fun ls hl => ?_)
    refine lv_aload_n hx hb dL_holds_32 rfl (lv_at hl 1 rfl) ?_
    obtain ⟨r6, hy5, hf⟩ := ob_e hf
    refine xdG h (va_runV (As := []) (rest := []) hC (c_X8_onesShare l G q v hy5 H.size) (xcwV hC lk_L_94 in_X8 co_X8_onesShare im_X8_onesShare se_X8_onesShare rfl rfl dd_X8_onesShare ⟨Nat.le_of_ble_eq_true rfl, Nat.le_of_ble_eq_true rfl⟩) (preVO0 h.o (Nat.le_of_ble_eq_true rfl) eBC_0 rfl []) rfl rfl hl.1 rfl (lv_room (Nat.le_of_ble_eq_true rfl)) dL_holds_33 ⟨Nat.le_of_ble_eq_true rfl, Nat.le_of_ble_eq_true rfl⟩) (fun H locs h => ?_)
    refine lv_aload_n hx hb dL_holds_36 rfl (lv_at hl 1 rfl) ?_
    refine lv_iconst (v := (5 : Int32)) hx hb dL_holds_37 (by decide) ?_
    obtain ⟨r8, hy7, hf⟩ := ob_e hf
    refine xiG h (va_runV (As := [.int (5 : Int32)]) (rest := [.double r6]) hC (c_X8_count_n l G q v (5 : Int32) hy7 H.size) (xcwV hC lk_L_76 in_X8 co_X8_count im_X8_count se_X8_count rfl rfl dd_X8_count ⟨Nat.le_of_ble_eq_true rfl, Nat.le_of_ble_eq_true rfl⟩) (preVO0 h.o (Nat.le_of_ble_eq_true rfl) eBC_0 rfl [.int (5 : Int32)]) rfl rfl hl.1 rfl (lv_room (Nat.le_of_ble_eq_true rfl)) dL_holds_38 ⟨Nat.le_of_ble_eq_true rfl, Nat.le_of_ble_eq_true rfl⟩) (fun H locs h => ?_)
    refine lv_i2d hx hb dL_holds_41 ?_
    refine lv_ldc2d hx hb hC.2.2.2.1 (hC.2.2.2.2 _ (wM_in cn_L_98)) dL_holds_42 ?_
    obtain ⟨hn9, hf⟩ := ck_e hf
    refine lv_ddiv hx hb dL_holds_45 hn9 ?_
    refine lv_dcmp hx hb dL_holds_46 ?_
    obtain ⟨j11, ej11, hf⟩ := lt_e hf
    have hj11 : ∀ (t10 : Int32) (H : Heap) (locs : List Loc), hg G (eBC G) 430 q v A s H locs → ∀ (ls : Array Slot), lv_has ls 9 [(0, .ref (q 0)), (1, .int (0 : Int32)), (2, .int (0 : Int32)), (3, .int (0 : Int32)), (4, .int (0 : Int32)), (5, .int t3)] → j11 t10 = some z → W p l e { frames := 4, cells := 0, slots := 0, locals := 90 } s m [.ref (q 0)].toArray below meth c H locs 0 0 (MQ below ((qZ z.1) (cB G (eBC G) 430 q z.2 A) A) [.ref (q 0)].toArray s 0 0 A) (F0 m 103 ls [.int t10]) := by
      intro t10 H locs h ls hl hf
      rw [ej11] at hf
      refine lv_istore (lv' := [(6, .int t10), (0, .ref (q 0)), (1, .int (0 : Int32)), (2, .int (0 : Int32)), (3, .int (0 : Int32)), (4, .int (0 : Int32)), (5, .int t3)]) hx hb dL_holds_103 hl (by decide) rfl (fun ls hl => ?_)
      refine lv_iconst (v := (0 : Int32)) hx hb dL_holds_105 (by decide) ?_
      refine lv_istore (lv' := [(7, .int (0 : Int32)), (6, .int t10), (0, .ref (q 0)), (1, .int (0 : Int32)), (2, .int (0 : Int32)), (3, .int (0 : Int32)), (4, .int (0 : Int32)), (5, .int t3)]) hx hb dL_holds_106 hl (by decide) rfl (fun ls hl => ?_)
      refine lp_i (z := z) (P := fun (pp : Int32 × Int32 × Int32 × Int32 × Int32 × Int32 × xSt) => ∀ (H : Heap) (locs : List Loc), hg G (eBC G) 430 q pp.2.2.2.2.2.2 A s H locs → ∀ (ls : Array Slot), lv_has ls 9 [(0, .ref (q 0)), (1, .int pp.1), (2, .int pp.2.1), (3, .int pp.2.2.1), (4, .int pp.2.2.2.1), (5, .int t3), (6, .int pp.2.2.2.2.1), (7, .int pp.2.2.2.2.2.1)] → W p l e { frames := 4, cells := 0, slots := 0, locals := 90 } s m [.ref (q 0)].toArray below meth c H locs 0 0 (MQ below ((qZ z.1) (cB G (eBC G) 430 q z.2 A) A) [.ref (q 0)].toArray s 0 0 A) (F0 m 108 ls [])) ?_ _ _ hf H locs h ls (lv_sub hl [2, 3, 4, 5, 6, 7, 1, 0] rfl)
      intro rec19 hrec19 pp hf H locs h ls hl
      obtain ⟨a12, a13, a14, a15, a16, a17, v18⟩ := pp
      have h : hg G (eBC G) 430 q v18 A s H locs := h
      have hl : lv_has ls 9 [(0, .ref (q 0)), (1, .int a12), (2, .int a13), (3, .int a14), (4, .int a15), (5, .int t3), (6, .int a16), (7, .int a17)] := hl
      have hf := un7_e hf
      refine lv_iload hx hb dL_holds_108 (lv_at hl 7 rfl) ?_
      refine lv_bipush (v := (8 : Int32)) hx hb dL_holds_110 (by decide) ?_
      obtain ⟨j20, ej20, hf⟩ := lt_e hf
      have hj20 : ∀ (uu : Unit) (H : Heap) (locs : List Loc), hg G (eBC G) 430 q v18 A s H locs → ∀ (ls : Array Slot), lv_has ls 9 [(0, .ref (q 0)), (1, .int a12), (2, .int a13), (3, .int a14), (4, .int a15), (6, .int a16)] → j20 uu = some z → W p l e { frames := 4, cells := 0, slots := 0, locals := 90 } s m [.ref (q 0)].toArray below meth c H locs 0 0 (MQ below ((qZ z.1) (cB G (eBC G) 430 q z.2 A) A) [.ref (q 0)].toArray s 0 0 A) (F0 m 322 ls []) := by
        intro uu H locs h ls hl hf
        rw [ej20] at hf
        refine lv_iconst (v := (1 : Int32)) hx hb dL_holds_322 (by decide) ?_
        refine lv_istore (lv' := [(7, .int (1 : Int32)), (0, .ref (q 0)), (1, .int a12), (2, .int a13), (3, .int a14), (4, .int a15), (6, .int a16)]) hx hb dL_holds_323 hl (by decide) rfl (fun ls hl => ?_)
        refine lp_i (z := z) (P := fun (pp : Int32 × Int32) => ∀ (H : Heap) (locs : List Loc), hg G (eBC G) 430 q v18 A s H locs → ∀ (ls : Array Slot), lv_has ls 9 [(0, .ref (q 0)), (1, .int a12), (2, .int a13), (3, .int a14), (4, .int a15), (6, .int pp.1), (7, .int pp.2)] → W p l e { frames := 4, cells := 0, slots := 0, locals := 90 } s m [.ref (q 0)].toArray below meth c H locs 0 0 (MQ below ((qZ z.1) (cB G (eBC G) 430 q z.2 A) A) [.ref (q 0)].toArray s 0 0 A) (F0 m 325 ls [])) ?_ _ _ hf H locs h ls (lv_sub hl [1, 2, 3, 4, 5, 6, 0] rfl)
        intro rec23 hrec23 pp hf H locs h ls hl
        obtain ⟨a21, a22⟩ := pp
        have h : hg G (eBC G) 430 q v18 A s H locs := h
        have hl : lv_has ls 9 [(0, .ref (q 0)), (1, .int a12), (2, .int a13), (3, .int a14), (4, .int a15), (6, .int a21), (7, .int a22)] := hl
        have hf := un2_e hf
        refine lv_iload hx hb dL_holds_325 (lv_at hl 6 rfl) ?_
        refine lv_aload_n hx hb dL_holds_327 rfl (lv_at hl 0 rfl) ?_
        refine lv_bipush (v := (10 : Int32)) hx hb dL_holds_328 (by decide) ?_
        obtain ⟨r25, hy24, hf⟩ := ob_e hf
        refine xiG h (va_runV (As := [.int (10 : Int32)]) (rest := [.int a22]) hC (c_X8_count_n l G q v18 (10 : Int32) hy24 H.size) (xcwV hC lk_L_76 in_X8 co_X8_count im_X8_count se_X8_count rfl rfl dd_X8_count ⟨Nat.le_of_ble_eq_true rfl, Nat.le_of_ble_eq_true rfl⟩) (preVO0 h.o (Nat.le_of_ble_eq_true rfl) eBC_0 rfl [.int (10 : Int32)]) rfl rfl hl.1 rfl (lv_room (Nat.le_of_ble_eq_true rfl)) dL_holds_330 ⟨Nat.le_of_ble_eq_true rfl, Nat.le_of_ble_eq_true rfl⟩) (fun H locs h => ?_)
        obtain ⟨j26, ej26, hf⟩ := lt_e hf
        have hj26 : ∀ (uu : Unit) (H : Heap) (locs : List Loc), hg G (eBC G) 430 q v18 A s H locs → ∀ (ls : Array Slot), lv_has ls 9 [(0, .ref (q 0)), (1, .int a12), (2, .int a13), (3, .int a14), (4, .int a15), (6, .int a21)] → j26 uu = some z → W p l e { frames := 4, cells := 0, slots := 0, locals := 90 } s m [.ref (q 0)].toArray below meth c H locs 0 0 (MQ below ((qZ z.1) (cB G (eBC G) 430 q z.2 A) A) [.ref (q 0)].toArray s 0 0 A) (F0 m 411 ls []) := by
          intro uu H locs h ls hl hf
          rw [ej26] at hf
          refine lv_iload hx hb dL_holds_411 (lv_at hl 5 rfl) ?_
          obtain ⟨j27, ej27, hf⟩ := lt_e hf
          have hj27 : ∀ (uu : Unit) (H : Heap) (locs : List Loc), hg G (eBC G) 430 q v18 A s H locs → ∀ (ls : Array Slot), lv_has ls 9 [] → j27 uu = some z → W p l e { frames := 4, cells := 0, slots := 0, locals := 90 } s m [.ref (q 0)].toArray below meth c H locs 0 0 (MQ below ((qZ z.1) (cB G (eBC G) 430 q z.2 A) A) [.ref (q 0)].toArray s 0 0 A) (F0 m 562 ls []) := by
            intro uu H locs h ls hl hf
            rw [ej27] at hf
            refine lv_iconst (v := (0 : Int32)) hx hb dL_holds_562 (by decide) ?_
            have hf := sm_e hf
            exact xzretc hC hr hlk h (by rw [← hf]) (by decide) (by rw [← hf]) dL_holds_563
          refine lv_if_eq (tgt := 562) hx hb dL_holds_413 (by decide) (fun c28 => ?_) (fun c28 => ?_)
          · have hf := it_t c28 hf
            exact hj27 () H locs h ls (lv_sub hl [] rfl) hf
          · have hf := it_f c28 hf
            refine lv_iload_n hx hb dL_holds_416 rfl (lv_at hl 1 rfl) ?_
            refine lv_aload_n hx hb dL_holds_417 rfl (lv_at hl 0 rfl) ?_
            refine lv_iconst (v := (5 : Int32)) hx hb dL_holds_418 (by decide) ?_
            obtain ⟨r30, hy29, hf⟩ := ob_e hf
            refine xiG h (va_runV (As := [.int (5 : Int32)]) (rest := [.int a12]) hC (c_X8_count_n l G q v18 (5 : Int32) hy29 H.size) (xcwV hC lk_L_76 in_X8 co_X8_count im_X8_count se_X8_count rfl rfl dd_X8_count ⟨Nat.le_of_ble_eq_true rfl, Nat.le_of_ble_eq_true rfl⟩) (preVO0 h.o (Nat.le_of_ble_eq_true rfl) eBC_0 rfl [.int (5 : Int32)]) rfl rfl hl.1 rfl (lv_room (Nat.le_of_ble_eq_true rfl)) dL_holds_419 ⟨Nat.le_of_ble_eq_true rfl, Nat.le_of_ble_eq_true rfl⟩) (fun H locs h => ?_)
            refine lv_icmp_ne (tgt := 562) hx hb dL_holds_422 (by decide) (fun c31 => ?_) (fun c31 => ?_)
            · have hf := it_f c31 hf
              exact hj27 () H locs h ls (lv_sub hl [] rfl) hf
            · have hf := it_t c31 hf
              refine lv_iload_n hx hb dL_holds_425 rfl (lv_at hl 2 rfl) ?_
              refine lv_aload_n hx hb dL_holds_426 rfl (lv_at hl 0 rfl) ?_
              refine lv_bipush (v := (6 : Int32)) hx hb dL_holds_427 (by decide) ?_
              obtain ⟨r33, hy32, hf⟩ := ob_e hf
              refine xiG h (va_runV (As := [.int (6 : Int32)]) (rest := [.int a13]) hC (c_X8_count_n l G q v18 (6 : Int32) hy32 H.size) (xcwV hC lk_L_76 in_X8 co_X8_count im_X8_count se_X8_count rfl rfl dd_X8_count ⟨Nat.le_of_ble_eq_true rfl, Nat.le_of_ble_eq_true rfl⟩) (preVO0 h.o (Nat.le_of_ble_eq_true rfl) eBC_0 rfl [.int (6 : Int32)]) rfl rfl hl.1 rfl (lv_room (Nat.le_of_ble_eq_true rfl)) dL_holds_429 ⟨Nat.le_of_ble_eq_true rfl, Nat.le_of_ble_eq_true rfl⟩) (fun H locs h => ?_)
              refine lv_icmp_ne (tgt := 562) hx hb dL_holds_432 (by decide) (fun c34 => ?_) (fun c34 => ?_)
              · have hf := it_f c34 hf
                exact hj27 () H locs h ls (lv_sub hl [] rfl) hf
              · have hf := it_t c34 hf
                refine lv_iload_n hx hb dL_holds_435 rfl (lv_at hl 3 rfl) ?_
                refine lv_aload_n hx hb dL_holds_436 rfl (lv_at hl 0 rfl) ?_
                refine lv_bipush (v := (13 : Int32)) hx hb dL_holds_437 (by decide) ?_
                obtain ⟨r36, hy35, hf⟩ := ob_e hf
                refine xiG h (va_runV (As := [.int (13 : Int32)]) (rest := [.int a14]) hC (c_X8_count_n l G q v18 (13 : Int32) hy35 H.size) (xcwV hC lk_L_76 in_X8 co_X8_count im_X8_count se_X8_count rfl rfl dd_X8_count ⟨Nat.le_of_ble_eq_true rfl, Nat.le_of_ble_eq_true rfl⟩) (preVO0 h.o (Nat.le_of_ble_eq_true rfl) eBC_0 rfl [.int (13 : Int32)]) rfl rfl hl.1 rfl (lv_room (Nat.le_of_ble_eq_true rfl)) dL_holds_439 ⟨Nat.le_of_ble_eq_true rfl, Nat.le_of_ble_eq_true rfl⟩) (fun H locs h => ?_)
                refine lv_icmp_ne (tgt := 562) hx hb dL_holds_442 (by decide) (fun c37 => ?_) (fun c37 => ?_)
                · have hf := it_f c37 hf
                  exact hj27 () H locs h ls (lv_sub hl [] rfl) hf
                · have hf := it_t c37 hf
                  refine lv_iload hx hb dL_holds_445 (lv_at hl 4 rfl) ?_
                  refine lv_aload_n hx hb dL_holds_447 rfl (lv_at hl 0 rfl) ?_
                  refine lv_bipush (v := (10 : Int32)) hx hb dL_holds_448 (by decide) ?_
                  obtain ⟨r39, hy38, hf⟩ := ob_e hf
                  refine xiG h (va_runV (As := [.int (10 : Int32)]) (rest := [.int a15]) hC (c_X8_count_n l G q v18 (10 : Int32) hy38 H.size) (xcwV hC lk_L_76 in_X8 co_X8_count im_X8_count se_X8_count rfl rfl dd_X8_count ⟨Nat.le_of_ble_eq_true rfl, Nat.le_of_ble_eq_true rfl⟩) (preVO0 h.o (Nat.le_of_ble_eq_true rfl) eBC_0 rfl [.int (10 : Int32)]) rfl rfl hl.1 rfl (lv_room (Nat.le_of_ble_eq_true rfl)) dL_holds_450 ⟨Nat.le_of_ble_eq_true rfl, Nat.le_of_ble_eq_true rfl⟩) (fun H locs h => ?_)
                  refine lv_icmp_ne (tgt := 562) hx hb dL_holds_453 (by decide) (fun c40 => ?_) (fun c40 => ?_)
                  · have hf := it_f c40 hf
                    exact hj27 () H locs h ls (lv_sub hl [] rfl) hf
                  · have hf := it_t c40 hf
                    refine lv_aload_n hx hb dL_holds_456 rfl (lv_at hl 0 rfl) ?_
                    refine lv_bipush (v := (10 : Int32)) hx hb dL_holds_457 (by decide) ?_
                    obtain ⟨r42, hy41, hf⟩ := ob_e hf
                    refine xiG h (va_runV (As := [.int (10 : Int32)]) (rest := []) hC (c_X8_count_n l G q v18 (10 : Int32) hy41 H.size) (xcwV hC lk_L_76 in_X8 co_X8_count im_X8_count se_X8_count rfl rfl dd_X8_count ⟨Nat.le_of_ble_eq_true rfl, Nat.le_of_ble_eq_true rfl⟩) (preVO0 h.o (Nat.le_of_ble_eq_true rfl) eBC_0 rfl [.int (10 : Int32)]) rfl rfl hl.1 rfl (lv_room (Nat.le_of_ble_eq_true rfl)) dL_holds_459 ⟨Nat.le_of_ble_eq_true rfl, Nat.le_of_ble_eq_true rfl⟩) (fun H locs h => ?_)
                    refine lv_bipush (v := (10 : Int32)) hx hb dL_holds_462 (by decide) ?_
                    refine lv_icmp_gt (tgt := 562) hx hb dL_holds_464 (by decide) (fun c43 => ?_) (fun c43 => ?_)
                    · have hf := it_t c43 hf
                      exact hj27 () H locs h ls (lv_sub hl [] rfl) hf
                    · have hf := it_f c43 hf
                      refine lv_aload_n hx hb dL_holds_467 rfl (lv_at hl 0 rfl) ?_
                      refine lv_bipush (v := (11 : Int32)) hx hb dL_holds_468 (by decide) ?_
                      obtain ⟨r45, hy44, hf⟩ := ob_e hf
                      refine xiG h (va_runV (As := [.int (11 : Int32)]) (rest := []) hC (c_X8_count_n l G q v18 (11 : Int32) hy44 H.size) (xcwV hC lk_L_76 in_X8 co_X8_count im_X8_count se_X8_count rfl rfl dd_X8_count ⟨Nat.le_of_ble_eq_true rfl, Nat.le_of_ble_eq_true rfl⟩) (preVO0 h.o (Nat.le_of_ble_eq_true rfl) eBC_0 rfl [.int (11 : Int32)]) rfl rfl hl.1 rfl (lv_room (Nat.le_of_ble_eq_true rfl)) dL_holds_470 ⟨Nat.le_of_ble_eq_true rfl, Nat.le_of_ble_eq_true rfl⟩) (fun H locs h => ?_)
                      refine lv_bipush (v := (12 : Int32)) hx hb dL_holds_473 (by decide) ?_
                      refine lv_icmp_gt (tgt := 562) hx hb dL_holds_475 (by decide) (fun c46 => ?_) (fun c46 => ?_)
                      · have hf := it_t c46 hf
                        exact hj27 () H locs h ls (lv_sub hl [] rfl) hf
                      · have hf := it_f c46 hf
                        refine lv_aload_n hx hb dL_holds_478 rfl (lv_at hl 0 rfl) ?_
                        refine lv_iconst (v := (0 : Int32)) hx hb dL_holds_479 (by decide) ?_
                        refine lv_iconst (v := (2 : Int32)) hx hb dL_holds_480 (by decide) ?_
                        obtain ⟨r48, hy47, hf⟩ := ob_e hf
                        refine xiG h (va_runV (As := [.int (0 : Int32), .int (2 : Int32)]) (rest := []) hC (c_X8_work_n l G q v18 (0 : Int32) (2 : Int32) hy47 H.size) (xcwV hC lk_L_85 in_X8 co_X8_work im_X8_work se_X8_work rfl rfl dd_X8_work ⟨Nat.le_of_ble_eq_true rfl, Nat.le_of_ble_eq_true rfl⟩) (preVO0 h.o (Nat.le_of_ble_eq_true rfl) eBC_0 rfl [.int (0 : Int32), .int (2 : Int32)]) rfl rfl hl.1 rfl (lv_room (Nat.le_of_ble_eq_true rfl)) dL_holds_481 ⟨Nat.le_of_ble_eq_true rfl, Nat.le_of_ble_eq_true rfl⟩) (fun H locs h => ?_)
                        refine lv_if_lt (tgt := 562) hx hb dL_holds_484 (by decide) (fun c49 => ?_) (fun c49 => ?_)
                        · have hf := it_t c49 hf
                          exact hj27 () H locs h ls (lv_sub hl [] rfl) hf
                        · have hf := it_f c49 hf
                          refine lv_aload_n hx hb dL_holds_487 rfl (lv_at hl 0 rfl) ?_
                          refine lv_iconst (v := (1 : Int32)) hx hb dL_holds_488 (by decide) ?_
                          refine lv_iconst (v := (2 : Int32)) hx hb dL_holds_489 (by decide) ?_
                          obtain ⟨r51, hy50, hf⟩ := ob_e hf
                          refine xiG h (va_runV (As := [.int (1 : Int32), .int (2 : Int32)]) (rest := []) hC (c_X8_work_n l G q v18 (1 : Int32) (2 : Int32) hy50 H.size) (xcwV hC lk_L_85 in_X8 co_X8_work im_X8_work se_X8_work rfl rfl dd_X8_work ⟨Nat.le_of_ble_eq_true rfl, Nat.le_of_ble_eq_true rfl⟩) (preVO0 h.o (Nat.le_of_ble_eq_true rfl) eBC_0 rfl [.int (1 : Int32), .int (2 : Int32)]) rfl rfl hl.1 rfl (lv_room (Nat.le_of_ble_eq_true rfl)) dL_holds_490 ⟨Nat.le_of_ble_eq_true rfl, Nat.le_of_ble_eq_true rfl⟩) (fun H locs h => ?_)
                          refine lv_if_lt (tgt := 562) hx hb dL_holds_493 (by decide) (fun c52 => ?_) (fun c52 => ?_)
                          · have hf := it_t c52 hf
                            exact hj27 () H locs h ls (lv_sub hl [] rfl) hf
                          · have hf := it_f c52 hf
                            refine lv_aload_n hx hb dL_holds_496 rfl (lv_at hl 0 rfl) ?_
                            refine lv_iconst (v := (0 : Int32)) hx hb dL_holds_497 (by decide) ?_
                            refine lv_iconst (v := (0 : Int32)) hx hb dL_holds_498 (by decide) ?_
                            obtain ⟨r54, hy53, hf⟩ := ob_e hf
                            refine xiG h (va_runV (As := [.int (0 : Int32), .int (0 : Int32)]) (rest := []) hC (c_X8_work_n l G q v18 (0 : Int32) (0 : Int32) hy53 H.size) (xcwV hC lk_L_85 in_X8 co_X8_work im_X8_work se_X8_work rfl rfl dd_X8_work ⟨Nat.le_of_ble_eq_true rfl, Nat.le_of_ble_eq_true rfl⟩) (preVO0 h.o (Nat.le_of_ble_eq_true rfl) eBC_0 rfl [.int (0 : Int32), .int (0 : Int32)]) rfl rfl hl.1 rfl (lv_room (Nat.le_of_ble_eq_true rfl)) dL_holds_499 ⟨Nat.le_of_ble_eq_true rfl, Nat.le_of_ble_eq_true rfl⟩) (fun H locs h => ?_)
                            obtain ⟨j56, ej56, hf⟩ := lt_e hf
                            have hj56 : ∀ (t55 : Int32) (H : Heap) (locs : List Loc), hg G (eBC G) 430 q v18 A s H locs → ∀ (ls : Array Slot), lv_has ls 9 [(0, .ref (q 0))] → j56 t55 = some z → W p l e { frames := 4, cells := 0, slots := 0, locals := 90 } s m [.ref (q 0)].toArray below meth c H locs 0 0 (MQ below ((qZ z.1) (cB G (eBC G) 430 q z.2 A) A) [.ref (q 0)].toArray s 0 0 A) (F0 m 510 ls [.int t55]) := by
                              intro t55 H locs h ls hl hf
                              rw [ej56] at hf
                              refine lv_aload_n hx hb dL_holds_510 rfl (lv_at hl 0 rfl) ?_
                              refine lv_iconst (v := (0 : Int32)) hx hb dL_holds_511 (by decide) ?_
                              refine lv_iconst (v := (2 : Int32)) hx hb dL_holds_512 (by decide) ?_
                              obtain ⟨r58, hy57, hf⟩ := ob_e hf
                              refine xiG h (va_runV (As := [.int (0 : Int32), .int (2 : Int32)]) (rest := [.int t55]) hC (c_X8_work_n l G q v18 (0 : Int32) (2 : Int32) hy57 H.size) (xcwV hC lk_L_85 in_X8 co_X8_work im_X8_work se_X8_work rfl rfl dd_X8_work ⟨Nat.le_of_ble_eq_true rfl, Nat.le_of_ble_eq_true rfl⟩) (preVO0 h.o (Nat.le_of_ble_eq_true rfl) eBC_0 rfl [.int (0 : Int32), .int (2 : Int32)]) rfl rfl hl.1 rfl (lv_room (Nat.le_of_ble_eq_true rfl)) dL_holds_513 ⟨Nat.le_of_ble_eq_true rfl, Nat.le_of_ble_eq_true rfl⟩) (fun H locs h => ?_)
                              obtain ⟨j61, ej61, hf⟩ := lt_e hf
                              have hj61 : ∀ (t59 : Int32) (t60 : Int32) (H : Heap) (locs : List Loc), hg G (eBC G) 430 q v18 A s H locs → ∀ (ls : Array Slot), lv_has ls 9 [(0, .ref (q 0))] → j61 t59 t60 = some z → W p l e { frames := 4, cells := 0, slots := 0, locals := 90 } s m [.ref (q 0)].toArray below meth c H locs 0 0 (MQ below ((qZ z.1) (cB G (eBC G) 430 q z.2 A) A) [.ref (q 0)].toArray s 0 0 A) (F0 m 524 ls [.int t60, .int t59]) := by
                                intro t59 t60 H locs h ls hl hf
                                rw [ej61] at hf
                                refine lv_icmp_ne (tgt := 562) hx hb dL_holds_524 (by decide) (fun c62 => ?_) (fun c62 => ?_)
                                · have hf := it_f c62 hf
                                  exact hj27 () H locs h ls (lv_sub hl [] rfl) hf
                                · have hf := it_t c62 hf
                                  refine lv_aload_n hx hb dL_holds_527 rfl (lv_at hl 0 rfl) ?_
                                  refine lv_iconst (v := (1 : Int32)) hx hb dL_holds_528 (by decide) ?_
                                  refine lv_iconst (v := (0 : Int32)) hx hb dL_holds_529 (by decide) ?_
                                  obtain ⟨r64, hy63, hf⟩ := ob_e hf
                                  refine xiG h (va_runV (As := [.int (1 : Int32), .int (0 : Int32)]) (rest := []) hC (c_X8_work_n l G q v18 (1 : Int32) (0 : Int32) hy63 H.size) (xcwV hC lk_L_85 in_X8 co_X8_work im_X8_work se_X8_work rfl rfl dd_X8_work ⟨Nat.le_of_ble_eq_true rfl, Nat.le_of_ble_eq_true rfl⟩) (preVO0 h.o (Nat.le_of_ble_eq_true rfl) eBC_0 rfl [.int (1 : Int32), .int (0 : Int32)]) rfl rfl hl.1 rfl (lv_room (Nat.le_of_ble_eq_true rfl)) dL_holds_530 ⟨Nat.le_of_ble_eq_true rfl, Nat.le_of_ble_eq_true rfl⟩) (fun H locs h => ?_)
                                  obtain ⟨j66, ej66, hf⟩ := lt_e hf
                                  have hj66 : ∀ (t65 : Int32) (H : Heap) (locs : List Loc), hg G (eBC G) 430 q v18 A s H locs → ∀ (ls : Array Slot), lv_has ls 9 [(0, .ref (q 0))] → j66 t65 = some z → W p l e { frames := 4, cells := 0, slots := 0, locals := 90 } s m [.ref (q 0)].toArray below meth c H locs 0 0 (MQ below ((qZ z.1) (cB G (eBC G) 430 q z.2 A) A) [.ref (q 0)].toArray s 0 0 A) (F0 m 541 ls [.int t65]) := by
                                    intro t65 H locs h ls hl hf
                                    rw [ej66] at hf
                                    refine lv_aload_n hx hb dL_holds_541 rfl (lv_at hl 0 rfl) ?_
                                    refine lv_iconst (v := (1 : Int32)) hx hb dL_holds_542 (by decide) ?_
                                    refine lv_iconst (v := (2 : Int32)) hx hb dL_holds_543 (by decide) ?_
                                    obtain ⟨r68, hy67, hf⟩ := ob_e hf
                                    refine xiG h (va_runV (As := [.int (1 : Int32), .int (2 : Int32)]) (rest := [.int t65]) hC (c_X8_work_n l G q v18 (1 : Int32) (2 : Int32) hy67 H.size) (xcwV hC lk_L_85 in_X8 co_X8_work im_X8_work se_X8_work rfl rfl dd_X8_work ⟨Nat.le_of_ble_eq_true rfl, Nat.le_of_ble_eq_true rfl⟩) (preVO0 h.o (Nat.le_of_ble_eq_true rfl) eBC_0 rfl [.int (1 : Int32), .int (2 : Int32)]) rfl rfl hl.1 rfl (lv_room (Nat.le_of_ble_eq_true rfl)) dL_holds_544 ⟨Nat.le_of_ble_eq_true rfl, Nat.le_of_ble_eq_true rfl⟩) (fun H locs h => ?_)
                                    obtain ⟨j71, ej71, hf⟩ := lt_e hf
                                    have hj71 : ∀ (t69 : Int32) (t70 : Int32) (H : Heap) (locs : List Loc), hg G (eBC G) 430 q v18 A s H locs → ∀ (ls : Array Slot), lv_has ls 9 [] → j71 t69 t70 = some z → W p l e { frames := 4, cells := 0, slots := 0, locals := 90 } s m [.ref (q 0)].toArray below meth c H locs 0 0 (MQ below ((qZ z.1) (cB G (eBC G) 430 q z.2 A) A) [.ref (q 0)].toArray s 0 0 A) (F0 m 555 ls [.int t70, .int t69]) := by
                                      intro t69 t70 H locs h ls hl hf
                                      rw [ej71] at hf
                                      refine lv_icmp_ne (tgt := 562) hx hb dL_holds_555 (by decide) (fun c72 => ?_) (fun c72 => ?_)
                                      · have hf := it_f c72 hf
                                        exact hj27 () H locs h ls (lv_sub hl [] rfl) hf
                                      · have hf := it_t c72 hf
                                        refine lv_iconst (v := (1 : Int32)) hx hb dL_holds_558 (by decide) ?_
                                        refine lv_goto (tgt := 563) hx hb dL_holds_559 (by decide) ?_
                                        have hf := sm_e hf
                                        exact xzretc hC hr hlk h (by rw [← hf]) (by decide) (by rw [← hf]) dL_holds_563
                                    refine lv_if_ne (tgt := 554) hx hb dL_holds_547 (by decide) (fun c73 => ?_) (fun c73 => ?_)
                                    · have hf := it_f c73 hf
                                      refine lv_iconst (v := (0 : Int32)) hx hb dL_holds_554 (by decide) ?_
                                      exact hj71 t65 (0 : Int32) H locs h ls (lv_sub hl [] rfl) hf
                                    · have hf := it_t c73 hf
                                      refine lv_iconst (v := (1 : Int32)) hx hb dL_holds_550 (by decide) ?_
                                      refine lv_goto (tgt := 555) hx hb dL_holds_551 (by decide) ?_
                                      exact hj71 t65 (1 : Int32) H locs h ls (lv_sub hl [] rfl) hf
                                  refine lv_if_ne (tgt := 540) hx hb dL_holds_533 (by decide) (fun c74 => ?_) (fun c74 => ?_)
                                  · have hf := it_f c74 hf
                                    refine lv_iconst (v := (0 : Int32)) hx hb dL_holds_540 (by decide) ?_
                                    exact hj66 (0 : Int32) H locs h ls (lv_sub hl [0] rfl) hf
                                  · have hf := it_t c74 hf
                                    refine lv_iconst (v := (1 : Int32)) hx hb dL_holds_536 (by decide) ?_
                                    refine lv_goto (tgt := 541) hx hb dL_holds_537 (by decide) ?_
                                    exact hj66 (1 : Int32) H locs h ls (lv_sub hl [0] rfl) hf
                              refine lv_if_ne (tgt := 523) hx hb dL_holds_516 (by decide) (fun c75 => ?_) (fun c75 => ?_)
                              · have hf := it_f c75 hf
                                refine lv_iconst (v := (0 : Int32)) hx hb dL_holds_523 (by decide) ?_
                                exact hj61 t55 (0 : Int32) H locs h ls (lv_sub hl [0] rfl) hf
                              · have hf := it_t c75 hf
                                refine lv_iconst (v := (1 : Int32)) hx hb dL_holds_519 (by decide) ?_
                                refine lv_goto (tgt := 524) hx hb dL_holds_520 (by decide) ?_
                                exact hj61 t55 (1 : Int32) H locs h ls (lv_sub hl [0] rfl) hf
                            refine lv_if_ne (tgt := 509) hx hb dL_holds_502 (by decide) (fun c76 => ?_) (fun c76 => ?_)
                            · have hf := it_f c76 hf
                              refine lv_iconst (v := (0 : Int32)) hx hb dL_holds_509 (by decide) ?_
                              exact hj56 (0 : Int32) H locs h ls (lv_sub hl [0] rfl) hf
                            · have hf := it_t c76 hf
                              refine lv_iconst (v := (1 : Int32)) hx hb dL_holds_505 (by decide) ?_
                              refine lv_goto (tgt := 510) hx hb dL_holds_506 (by decide) ?_
                              exact hj56 (1 : Int32) H locs h ls (lv_sub hl [0] rfl) hf
        refine lv_icmp_ge (tgt := 411) hx hb dL_holds_333 (by decide) (fun c77 => ?_) (fun c77 => ?_)
        · have hf := it_t c77 hf
          exact hj26 () H locs h ls (lv_sub hl [0, 1, 2, 3, 4, 5] rfl) hf
        · have hf := it_f c77 hf
          refine lv_iload hx hb dL_holds_336 (lv_at hl 5 rfl) ?_
          refine lv_if_eq (tgt := 411) hx hb dL_holds_338 (by decide) (fun c78 => ?_) (fun c78 => ?_)
          · have hf := it_t c78 hf
            exact hj26 () H locs h ls (lv_sub hl [0, 1, 2, 3, 4, 5] rfl) hf
          · have hf := it_f c78 hf
            refine lv_aload_n hx hb dL_holds_341 rfl (lv_at hl 0 rfl) ?_
            refine lv_iload hx hb dL_holds_342 (lv_at hl 6 rfl) ?_
            refine lv_iconst (v := (1 : Int32)) hx hb dL_holds_344 (by decide) ?_
            refine lv_isub hx hb dL_holds_345 ?_
            refine lv_iconst (v := (3 : Int32)) hx hb dL_holds_346 (by decide) ?_
            obtain ⟨r80, hy79, hf⟩ := ob_e hf
            refine xiG h (va_runV (As := [.int (a22 - (1 : Int32)), .int (3 : Int32)]) (rest := []) hC (c_X8_order_n l G q v18 (a22 - (1 : Int32)) (3 : Int32) hy79 H.size) (xcwV hC lk_L_91 in_X8 co_X8_order im_X8_order se_X8_order rfl rfl dd_X8_order ⟨Nat.le_of_ble_eq_true rfl, Nat.le_of_ble_eq_true rfl⟩) (preVO0 h.o (Nat.le_of_ble_eq_true rfl) eBC_0 rfl [.int (a22 - (1 : Int32)), .int (3 : Int32)]) rfl rfl hl.1 rfl (lv_room (Nat.le_of_ble_eq_true rfl)) dL_holds_347 ⟨Nat.le_of_ble_eq_true rfl, Nat.le_of_ble_eq_true rfl⟩) (fun H locs h => ?_)
            refine lv_aload_n hx hb dL_holds_350 rfl (lv_at hl 0 rfl) ?_
            refine lv_iload hx hb dL_holds_351 (lv_at hl 6 rfl) ?_
            refine lv_iconst (v := (3 : Int32)) hx hb dL_holds_353 (by decide) ?_
            obtain ⟨r82, hy81, hf⟩ := ob_e hf
            refine xiG h (va_runV (As := [.int a22, .int (3 : Int32)]) (rest := [.int r80]) hC (c_X8_order_n l G q v18 a22 (3 : Int32) hy81 H.size) (xcwV hC lk_L_91 in_X8 co_X8_order im_X8_order se_X8_order rfl rfl dd_X8_order ⟨Nat.le_of_ble_eq_true rfl, Nat.le_of_ble_eq_true rfl⟩) (preVO0 h.o (Nat.le_of_ble_eq_true rfl) eBC_0 rfl [.int a22, .int (3 : Int32)]) rfl rfl hl.1 rfl (lv_room (Nat.le_of_ble_eq_true rfl)) dL_holds_354 ⟨Nat.le_of_ble_eq_true rfl, Nat.le_of_ble_eq_true rfl⟩) (fun H locs h => ?_)
            obtain ⟨j84, ej84, hf⟩ := lt_e hf
            have hj84 : ∀ (t83 : Int32) (H : Heap) (locs : List Loc), hg G (eBC G) 430 q v18 A s H locs → ∀ (ls : Array Slot), lv_has ls 9 [(0, .ref (q 0)), (1, .int a12), (2, .int a13), (3, .int a14), (4, .int a15), (7, .int a22)] → j84 t83 = some z → W p l e { frames := 4, cells := 0, slots := 0, locals := 90 } s m [.ref (q 0)].toArray below meth c H locs 0 0 (MQ below ((qZ z.1) (cB G (eBC G) 430 q z.2 A) A) [.ref (q 0)].toArray s 0 0 A) (F0 m 403 ls [.int t83]) := by
              intro t83 H locs h ls hl hf
              rw [ej84] at hf
              refine lv_istore (lv' := [(6, .int t83), (0, .ref (q 0)), (1, .int a12), (2, .int a13), (3, .int a14), (4, .int a15), (7, .int a22)]) hx hb dL_holds_403 hl (by decide) rfl (fun ls hl => ?_)
              refine lv_iinc (v := (a22 + 1)) (lv' := [(7, .int (a22 + 1)), (6, .int t83), (0, .ref (q 0)), (1, .int a12), (2, .int a13), (3, .int a14), (4, .int a15)]) hx hb dL_holds_405 hl (k := 6) rfl rfl (by decide) rfl (fun ls hl => ?_)
              refine lv_goto (tgt := 325) hx hb dL_holds_408 (by decide) ?_
              exact hrec23 (t83, (a22 + 1)) hf H locs h ls (lv_sub hl [2, 3, 4, 5, 6, 1, 0] rfl)
            obtain ⟨j85, ej85, hf⟩ := lt_e hf
            have hj85 : ∀ (uu : Unit) (H : Heap) (locs : List Loc), hg G (eBC G) 430 q v18 A s H locs → ∀ (ls : Array Slot), lv_has ls 9 [(0, .ref (q 0)), (1, .int a12), (2, .int a13), (3, .int a14), (4, .int a15), (7, .int a22)] → j85 uu = some z → W p l e { frames := 4, cells := 0, slots := 0, locals := 90 } s m [.ref (q 0)].toArray below meth c H locs 0 0 (MQ below ((qZ z.1) (cB G (eBC G) 430 q z.2 A) A) [.ref (q 0)].toArray s 0 0 A) (F0 m 398 ls []) := by
              intro uu H locs h ls hl hf
              rw [ej85] at hf
              refine lv_iconst (v := (1 : Int32)) hx hb dL_holds_398 (by decide) ?_
              refine lv_goto (tgt := 403) hx hb dL_holds_399 (by decide) ?_
              exact hj84 (1 : Int32) H locs h ls (lv_sub hl [0, 1, 2, 3, 4, 5] rfl) hf
            refine lv_icmp_gt (tgt := 398) hx hb dL_holds_357 (by decide) (fun c86 => ?_) (fun c86 => ?_)
            · have hf := it_t c86 hf
              exact hj85 () H locs h ls (lv_sub hl [0, 1, 2, 3, 4, 6] rfl) hf
            · have hf := it_f c86 hf
              refine lv_aload_n hx hb dL_holds_360 rfl (lv_at hl 0 rfl) ?_
              refine lv_iload hx hb dL_holds_361 (lv_at hl 6 rfl) ?_
              refine lv_iconst (v := (1 : Int32)) hx hb dL_holds_363 (by decide) ?_
              refine lv_isub hx hb dL_holds_364 ?_
              refine lv_iconst (v := (3 : Int32)) hx hb dL_holds_365 (by decide) ?_
              obtain ⟨r88, hy87, hf⟩ := ob_e hf
              refine xiG h (va_runV (As := [.int (a22 - (1 : Int32)), .int (3 : Int32)]) (rest := []) hC (c_X8_order_n l G q v18 (a22 - (1 : Int32)) (3 : Int32) hy87 H.size) (xcwV hC lk_L_91 in_X8 co_X8_order im_X8_order se_X8_order rfl rfl dd_X8_order ⟨Nat.le_of_ble_eq_true rfl, Nat.le_of_ble_eq_true rfl⟩) (preVO0 h.o (Nat.le_of_ble_eq_true rfl) eBC_0 rfl [.int (a22 - (1 : Int32)), .int (3 : Int32)]) rfl rfl hl.1 rfl (lv_room (Nat.le_of_ble_eq_true rfl)) dL_holds_366 ⟨Nat.le_of_ble_eq_true rfl, Nat.le_of_ble_eq_true rfl⟩) (fun H locs h => ?_)
              refine lv_aload_n hx hb dL_holds_369 rfl (lv_at hl 0 rfl) ?_
              refine lv_iload hx hb dL_holds_370 (lv_at hl 6 rfl) ?_
              refine lv_iconst (v := (3 : Int32)) hx hb dL_holds_372 (by decide) ?_
              obtain ⟨r90, hy89, hf⟩ := ob_e hf
              refine xiG h (va_runV (As := [.int a22, .int (3 : Int32)]) (rest := [.int r88]) hC (c_X8_order_n l G q v18 a22 (3 : Int32) hy89 H.size) (xcwV hC lk_L_91 in_X8 co_X8_order im_X8_order se_X8_order rfl rfl dd_X8_order ⟨Nat.le_of_ble_eq_true rfl, Nat.le_of_ble_eq_true rfl⟩) (preVO0 h.o (Nat.le_of_ble_eq_true rfl) eBC_0 rfl [.int a22, .int (3 : Int32)]) rfl rfl hl.1 rfl (lv_room (Nat.le_of_ble_eq_true rfl)) dL_holds_373 ⟨Nat.le_of_ble_eq_true rfl, Nat.le_of_ble_eq_true rfl⟩) (fun H locs h => ?_)
              obtain ⟨j91, ej91, hf⟩ := lt_e hf
              have hj91 : ∀ (uu : Unit) (H : Heap) (locs : List Loc), hg G (eBC G) 430 q v18 A s H locs → ∀ (ls : Array Slot), lv_has ls 9 [(0, .ref (q 0)), (1, .int a12), (2, .int a13), (3, .int a14), (4, .int a15), (7, .int a22)] → j91 uu = some z → W p l e { frames := 4, cells := 0, slots := 0, locals := 90 } s m [.ref (q 0)].toArray below meth c H locs 0 0 (MQ below ((qZ z.1) (cB G (eBC G) 430 q z.2 A) A) [.ref (q 0)].toArray s 0 0 A) (F0 m 402 ls []) := by
                intro uu H locs h ls hl hf
                rw [ej91] at hf
                refine lv_iconst (v := (0 : Int32)) hx hb dL_holds_402 (by decide) ?_
                exact hj84 (0 : Int32) H locs h ls (lv_sub hl [0, 1, 2, 3, 4, 5] rfl) hf
              refine lv_icmp_ne (tgt := 402) hx hb dL_holds_376 (by decide) (fun c92 => ?_) (fun c92 => ?_)
              · have hf := it_f c92 hf
                exact hj91 () H locs h ls (lv_sub hl [0, 1, 2, 3, 4, 6] rfl) hf
              · have hf := it_t c92 hf
                refine lv_aload_n hx hb dL_holds_379 rfl (lv_at hl 0 rfl) ?_
                refine lv_iload hx hb dL_holds_380 (lv_at hl 6 rfl) ?_
                refine lv_iconst (v := (1 : Int32)) hx hb dL_holds_382 (by decide) ?_
                refine lv_isub hx hb dL_holds_383 ?_
                refine lv_iconst (v := (0 : Int32)) hx hb dL_holds_384 (by decide) ?_
                obtain ⟨r94, hy93, hf⟩ := ob_e hf
                refine xiG h (va_runV (As := [.int (a22 - (1 : Int32)), .int (0 : Int32)]) (rest := []) hC (c_X8_order_n l G q v18 (a22 - (1 : Int32)) (0 : Int32) hy93 H.size) (xcwV hC lk_L_91 in_X8 co_X8_order im_X8_order se_X8_order rfl rfl dd_X8_order ⟨Nat.le_of_ble_eq_true rfl, Nat.le_of_ble_eq_true rfl⟩) (preVO0 h.o (Nat.le_of_ble_eq_true rfl) eBC_0 rfl [.int (a22 - (1 : Int32)), .int (0 : Int32)]) rfl rfl hl.1 rfl (lv_room (Nat.le_of_ble_eq_true rfl)) dL_holds_385 ⟨Nat.le_of_ble_eq_true rfl, Nat.le_of_ble_eq_true rfl⟩) (fun H locs h => ?_)
                refine lv_aload_n hx hb dL_holds_388 rfl (lv_at hl 0 rfl) ?_
                refine lv_iload hx hb dL_holds_389 (lv_at hl 6 rfl) ?_
                refine lv_iconst (v := (0 : Int32)) hx hb dL_holds_391 (by decide) ?_
                obtain ⟨r96, hy95, hf⟩ := ob_e hf
                refine xiG h (va_runV (As := [.int a22, .int (0 : Int32)]) (rest := [.int r94]) hC (c_X8_order_n l G q v18 a22 (0 : Int32) hy95 H.size) (xcwV hC lk_L_91 in_X8 co_X8_order im_X8_order se_X8_order rfl rfl dd_X8_order ⟨Nat.le_of_ble_eq_true rfl, Nat.le_of_ble_eq_true rfl⟩) (preVO0 h.o (Nat.le_of_ble_eq_true rfl) eBC_0 rfl [.int a22, .int (0 : Int32)]) rfl rfl hl.1 rfl (lv_room (Nat.le_of_ble_eq_true rfl)) dL_holds_392 ⟨Nat.le_of_ble_eq_true rfl, Nat.le_of_ble_eq_true rfl⟩) (fun H locs h => ?_)
                refine lv_icmp_ge (tgt := 402) hx hb dL_holds_395 (by decide) (fun c97 => ?_) (fun c97 => ?_)
                · have hf := it_t c97 hf
                  exact hj91 () H locs h ls (lv_sub hl [0, 1, 2, 3, 4, 6] rfl) hf
                · have hf := it_f c97 hf
                  exact hj85 () H locs h ls (lv_sub hl [0, 1, 2, 3, 4, 6] rfl) hf
      refine lv_icmp_ge (tgt := 322) hx hb dL_holds_112 (by decide) (fun c98 => ?_) (fun c98 => ?_)
      · have hf := it_t c98 hf
        exact hj20 () H locs h ls (lv_sub hl [0, 1, 2, 3, 4, 6] rfl) hf
      · have hf := it_f c98 hf
        refine lv_iload hx hb dL_holds_115 (lv_at hl 6 rfl) ?_
        refine lv_if_eq (tgt := 322) hx hb dL_holds_117 (by decide) (fun c99 => ?_) (fun c99 => ?_)
        · have hf := it_t c99 hf
          exact hj20 () H locs h ls (lv_sub hl [0, 1, 2, 3, 4, 6] rfl) hf
        · have hf := it_f c99 hf
          refine lv_iload_n hx hb dL_holds_120 rfl (lv_at hl 1 rfl) ?_
          refine lv_aload_n hx hb dL_holds_121 rfl (lv_at hl 0 rfl) ?_
          refine lv_iload hx hb dL_holds_122 (lv_at hl 7 rfl) ?_
          refine lv_iconst (v := (2 : Int32)) hx hb dL_holds_124 (by decide) ?_
          obtain ⟨r101, hy100, hf⟩ := ob_e hf
          refine xiG h (va_runV (As := [.int a17, .int (2 : Int32)]) (rest := [.int a12]) hC (c_X8_sector_n l G q v18 a17 (2 : Int32) hy100 H.size) (xcwV hC lk_L_82 in_X8 co_X8_sector im_X8_sector se_X8_sector rfl rfl dd_X8_sector ⟨Nat.le_of_ble_eq_true rfl, Nat.le_of_ble_eq_true rfl⟩) (preVO0 h.o (Nat.le_of_ble_eq_true rfl) eBC_0 rfl [.int a17, .int (2 : Int32)]) rfl rfl hl.1 rfl (lv_room (Nat.le_of_ble_eq_true rfl)) dL_holds_125 ⟨Nat.le_of_ble_eq_true rfl, Nat.le_of_ble_eq_true rfl⟩) (fun H locs h => ?_)
          refine lv_iadd hx hb dL_holds_128 ?_
          refine lv_istore_n (lv' := [(1, .int (a12 + r101)), (0, .ref (q 0)), (2, .int a13), (3, .int a14), (4, .int a15), (5, .int t3), (6, .int a16), (7, .int a17)]) hx hb dL_holds_129 rfl hl (by decide) rfl (fun ls hl => ?_)
          refine lv_iload_n hx hb dL_holds_130 rfl (lv_at hl 2 rfl) ?_
          refine lv_aload_n hx hb dL_holds_131 rfl (lv_at hl 1 rfl) ?_
          refine lv_iload hx hb dL_holds_132 (lv_at hl 7 rfl) ?_
          refine lv_iconst (v := (0 : Int32)) hx hb dL_holds_134 (by decide) ?_
          obtain ⟨r103, hy102, hf⟩ := ob_e hf
          refine xiG h (va_runV (As := [.int a17, .int (0 : Int32)]) (rest := [.int a13]) hC (c_X8_sector_n l G q v18 a17 (0 : Int32) hy102 H.size) (xcwV hC lk_L_82 in_X8 co_X8_sector im_X8_sector se_X8_sector rfl rfl dd_X8_sector ⟨Nat.le_of_ble_eq_true rfl, Nat.le_of_ble_eq_true rfl⟩) (preVO0 h.o (Nat.le_of_ble_eq_true rfl) eBC_0 rfl [.int a17, .int (0 : Int32)]) rfl rfl hl.1 rfl (lv_room (Nat.le_of_ble_eq_true rfl)) dL_holds_135 ⟨Nat.le_of_ble_eq_true rfl, Nat.le_of_ble_eq_true rfl⟩) (fun H locs h => ?_)
          refine lv_iadd hx hb dL_holds_138 ?_
          refine lv_istore_n (lv' := [(2, .int (a13 + r103)), (1, .int (a12 + r101)), (0, .ref (q 0)), (3, .int a14), (4, .int a15), (5, .int t3), (6, .int a16), (7, .int a17)]) hx hb dL_holds_139 rfl hl (by decide) rfl (fun ls hl => ?_)
          refine lv_iload_n hx hb dL_holds_140 rfl (lv_at hl 3 rfl) ?_
          refine lv_aload_n hx hb dL_holds_141 rfl (lv_at hl 2 rfl) ?_
          refine lv_iload hx hb dL_holds_142 (lv_at hl 7 rfl) ?_
          refine lv_iconst (v := (4 : Int32)) hx hb dL_holds_144 (by decide) ?_
          obtain ⟨r105, hy104, hf⟩ := ob_e hf
          refine xiG h (va_runV (As := [.int a17, .int (4 : Int32)]) (rest := [.int a14]) hC (c_X8_sector_n l G q v18 a17 (4 : Int32) hy104 H.size) (xcwV hC lk_L_82 in_X8 co_X8_sector im_X8_sector se_X8_sector rfl rfl dd_X8_sector ⟨Nat.le_of_ble_eq_true rfl, Nat.le_of_ble_eq_true rfl⟩) (preVO0 h.o (Nat.le_of_ble_eq_true rfl) eBC_0 rfl [.int a17, .int (4 : Int32)]) rfl rfl hl.1 rfl (lv_room (Nat.le_of_ble_eq_true rfl)) dL_holds_145 ⟨Nat.le_of_ble_eq_true rfl, Nat.le_of_ble_eq_true rfl⟩) (fun H locs h => ?_)
          refine lv_iadd hx hb dL_holds_148 ?_
          refine lv_istore_n (lv' := [(3, .int (a14 + r105)), (2, .int (a13 + r103)), (1, .int (a12 + r101)), (0, .ref (q 0)), (4, .int a15), (5, .int t3), (6, .int a16), (7, .int a17)]) hx hb dL_holds_149 rfl hl (by decide) rfl (fun ls hl => ?_)
          refine lv_iload hx hb dL_holds_150 (lv_at hl 4 rfl) ?_
          refine lv_aload_n hx hb dL_holds_152 rfl (lv_at hl 3 rfl) ?_
          refine lv_iload hx hb dL_holds_153 (lv_at hl 7 rfl) ?_
          refine lv_bipush (v := (6 : Int32)) hx hb dL_holds_155 (by decide) ?_
          obtain ⟨r107, hy106, hf⟩ := ob_e hf
          refine xiG h (va_runV (As := [.int a17, .int (6 : Int32)]) (rest := [.int a15]) hC (c_X8_sector_n l G q v18 a17 (6 : Int32) hy106 H.size) (xcwV hC lk_L_82 in_X8 co_X8_sector im_X8_sector se_X8_sector rfl rfl dd_X8_sector ⟨Nat.le_of_ble_eq_true rfl, Nat.le_of_ble_eq_true rfl⟩) (preVO0 h.o (Nat.le_of_ble_eq_true rfl) eBC_0 rfl [.int a17, .int (6 : Int32)]) rfl rfl hl.1 rfl (lv_room (Nat.le_of_ble_eq_true rfl)) dL_holds_157 ⟨Nat.le_of_ble_eq_true rfl, Nat.le_of_ble_eq_true rfl⟩) (fun H locs h => ?_)
          refine lv_iadd hx hb dL_holds_160 ?_
          refine lv_istore (lv' := [(4, .int (a15 + r107)), (3, .int (a14 + r105)), (2, .int (a13 + r103)), (1, .int (a12 + r101)), (0, .ref (q 0)), (5, .int t3), (6, .int a16), (7, .int a17)]) hx hb dL_holds_161 hl (by decide) rfl (fun ls hl => ?_)
          refine lv_aload_n hx hb dL_holds_163 rfl (lv_at hl 4 rfl) ?_
          refine lv_iconst (v := (4 : Int32)) hx hb dL_holds_164 (by decide) ?_
          obtain ⟨r109, hy108, hf⟩ := ob_e hf
          refine xiG h (va_runV (As := [.int (4 : Int32)]) (rest := []) hC (c_X8_count_n l G q v18 (4 : Int32) hy108 H.size) (xcwV hC lk_L_76 in_X8 co_X8_count im_X8_count se_X8_count rfl rfl dd_X8_count ⟨Nat.le_of_ble_eq_true rfl, Nat.le_of_ble_eq_true rfl⟩) (preVO0 h.o (Nat.le_of_ble_eq_true rfl) eBC_0 rfl [.int (4 : Int32)]) rfl rfl hl.1 rfl (lv_room (Nat.le_of_ble_eq_true rfl)) dL_holds_165 ⟨Nat.le_of_ble_eq_true rfl, Nat.le_of_ble_eq_true rfl⟩) (fun H locs h => ?_)
          refine lv_iconst (v := (1 : Int32)) hx hb dL_holds_168 (by decide) ?_
          obtain ⟨j111, ej111, hf⟩ := lt_e hf
          have hj111 : ∀ (t110 : Int32) (H : Heap) (locs : List Loc), hg G (eBC G) 430 q v18 A s H locs → ∀ (ls : Array Slot), lv_has ls 9 [(0, .ref (q 0)), (1, .int (a12 + r101)), (2, .int (a13 + r103)), (3, .int (a14 + r105)), (4, .int (a15 + r107)), (5, .int t3), (7, .int a17)] → j111 t110 = some z → W p l e { frames := 4, cells := 0, slots := 0, locals := 90 } s m [.ref (q 0)].toArray below meth c H locs 0 0 (MQ below ((qZ z.1) (cB G (eBC G) 430 q z.2 A) A) [.ref (q 0)].toArray s 0 0 A) (F0 m 202 ls [.int t110]) := by
            intro t110 H locs h ls hl hf
            rw [ej111] at hf
            refine lv_istore (lv' := [(8, .int t110), (0, .ref (q 0)), (1, .int (a12 + r101)), (2, .int (a13 + r103)), (3, .int (a14 + r105)), (4, .int (a15 + r107)), (5, .int t3), (7, .int a17)]) hx hb dL_holds_202 hl (by decide) rfl (fun ls hl => ?_)
            refine lv_aload_n hx hb dL_holds_204 rfl (lv_at hl 1 rfl) ?_
            refine lv_iload hx hb dL_holds_205 (lv_at hl 7 rfl) ?_
            refine lv_iconst (v := (1 : Int32)) hx hb dL_holds_207 (by decide) ?_
            obtain ⟨r113, hy112, hf⟩ := ob_e hf
            refine xiG h (va_runV (As := [.int a17, .int (1 : Int32)]) (rest := []) hC (c_X8_sector_n l G q v18 a17 (1 : Int32) hy112 H.size) (xcwV hC lk_L_82 in_X8 co_X8_sector im_X8_sector se_X8_sector rfl rfl dd_X8_sector ⟨Nat.le_of_ble_eq_true rfl, Nat.le_of_ble_eq_true rfl⟩) (preVO0 h.o (Nat.le_of_ble_eq_true rfl) eBC_0 rfl [.int a17, .int (1 : Int32)]) rfl rfl hl.1 rfl (lv_room (Nat.le_of_ble_eq_true rfl)) dL_holds_208 ⟨Nat.le_of_ble_eq_true rfl, Nat.le_of_ble_eq_true rfl⟩) (fun H locs h => ?_)
            refine lv_iload hx hb dL_holds_211 (lv_at hl 0 rfl) ?_
            obtain ⟨j116, ej116, hf⟩ := lt_e hf
            have hj116 : ∀ (t114 : Int32) (t115 : Int32) (H : Heap) (locs : List Loc), hg G (eBC G) 430 q v18 A s H locs → ∀ (ls : Array Slot), lv_has ls 9 [(0, .ref (q 0)), (1, .int (a12 + r101)), (2, .int (a13 + r103)), (3, .int (a14 + r105)), (4, .int (a15 + r107)), (5, .int t3), (7, .int a17), (8, .int t110)] → j116 t114 t115 = some z → W p l e { frames := 4, cells := 0, slots := 0, locals := 90 } s m [.ref (q 0)].toArray below meth c H locs 0 0 (MQ below ((qZ z.1) (cB G (eBC G) 430 q z.2 A) A) [.ref (q 0)].toArray s 0 0 A) (F0 m 221 ls [.int t115, .int t114]) := by
              intro t114 t115 H locs h ls hl hf
              rw [ej116] at hf
              obtain ⟨j119, ej119, hf⟩ := lt_e hf
              have hj119 : ∀ (t117 : Int32) (v118 : xSt) (H : Heap) (locs : List Loc), hg G (eBC G) 430 q v118 A s H locs → ∀ (ls : Array Slot), lv_has ls 9 [(0, .ref (q 0)), (1, .int (a12 + r101)), (2, .int (a13 + r103)), (3, .int (a14 + r105)), (4, .int (a15 + r107)), (5, .int t3), (7, .int a17)] → j119 t117 v118 = some z → W p l e { frames := 4, cells := 0, slots := 0, locals := 90 } s m [.ref (q 0)].toArray below meth c H locs 0 0 (MQ below ((qZ z.1) (cB G (eBC G) 430 q z.2 A) A) [.ref (q 0)].toArray s 0 0 A) (F0 m 314 ls [.int t117]) := by
                intro t117 v118 H locs h ls hl hf
                rw [ej119] at hf
                refine lv_istore (lv' := [(6, .int t117), (0, .ref (q 0)), (1, .int (a12 + r101)), (2, .int (a13 + r103)), (3, .int (a14 + r105)), (4, .int (a15 + r107)), (5, .int t3), (7, .int a17)]) hx hb dL_holds_314 hl (by decide) rfl (fun ls hl => ?_)
                refine lv_iinc (v := (a17 + 1)) (lv' := [(7, .int (a17 + 1)), (6, .int t117), (0, .ref (q 0)), (1, .int (a12 + r101)), (2, .int (a13 + r103)), (3, .int (a14 + r105)), (4, .int (a15 + r107)), (5, .int t3)]) hx hb dL_holds_316 hl (k := 7) rfl rfl (by decide) rfl (fun ls hl => ?_)
                refine lv_goto (tgt := 108) hx hb dL_holds_319 (by decide) ?_
                exact hrec19 ((a12 + r101), (a13 + r103), (a14 + r105), (a15 + r107), t117, (a17 + 1), v118) hf H locs h ls (lv_sub hl [2, 3, 4, 5, 6, 7, 1, 0] rfl)
              obtain ⟨j121, ej121, hf⟩ := lt_e hf
              have hj121 : ∀ (v120 : xSt) (H : Heap) (locs : List Loc), hg G (eBC G) 430 q v120 A s H locs → ∀ (ls : Array Slot), lv_has ls 9 [(0, .ref (q 0)), (1, .int (a12 + r101)), (2, .int (a13 + r103)), (3, .int (a14 + r105)), (4, .int (a15 + r107)), (5, .int t3), (7, .int a17)] → j121 v120 = some z → W p l e { frames := 4, cells := 0, slots := 0, locals := 90 } s m [.ref (q 0)].toArray below meth c H locs 0 0 (MQ below ((qZ z.1) (cB G (eBC G) 430 q z.2 A) A) [.ref (q 0)].toArray s 0 0 A) (F0 m 313 ls []) := by
                intro v120 H locs h ls hl hf
                rw [ej121] at hf
                refine lv_iconst (v := (0 : Int32)) hx hb dL_holds_313 (by decide) ?_
                exact hj119 (0 : Int32) v120 H locs h ls (lv_sub hl [0, 1, 2, 3, 4, 5, 6] rfl) hf
              refine lv_icmp_ne (tgt := 313) hx hb dL_holds_221 (by decide) (fun c122 => ?_) (fun c122 => ?_)
              · have hf := it_f c122 hf
                exact hj121 v18 H locs h ls (lv_sub hl [0, 1, 2, 3, 4, 5, 6] rfl) hf
              · have hf := it_t c122 hf
                refine lv_aload_n hx hb dL_holds_224 rfl (lv_at hl 0 rfl) ?_
                refine lv_iload hx hb dL_holds_225 (lv_at hl 6 rfl) ?_
                refine lv_iconst (v := (5 : Int32)) hx hb dL_holds_227 (by decide) ?_
                obtain ⟨r124, hy123, hf⟩ := ob_e hf
                refine xiG h (va_runV (As := [.int a17, .int (5 : Int32)]) (rest := []) hC (c_X8_sector_n l G q v18 a17 (5 : Int32) hy123 H.size) (xcwV hC lk_L_82 in_X8 co_X8_sector im_X8_sector se_X8_sector rfl rfl dd_X8_sector ⟨Nat.le_of_ble_eq_true rfl, Nat.le_of_ble_eq_true rfl⟩) (preVO0 h.o (Nat.le_of_ble_eq_true rfl) eBC_0 rfl [.int a17, .int (5 : Int32)]) rfl rfl hl.1 rfl (lv_room (Nat.le_of_ble_eq_true rfl)) dL_holds_228 ⟨Nat.le_of_ble_eq_true rfl, Nat.le_of_ble_eq_true rfl⟩) (fun H locs h => ?_)
                refine lv_iconst (v := (4 : Int32)) hx hb dL_holds_231 (by decide) ?_
                refine lv_aload_n hx hb dL_holds_232 rfl (lv_at hl 0 rfl) ?_
                refine lv_iconst (v := (1 : Int32)) hx hb dL_holds_233 (by decide) ?_
                obtain ⟨r126, hy125, hf⟩ := ob_e hf
                refine xi0 h (va_runV (As := [.int (1 : Int32)]) (rest := [.int (4 : Int32), .int r124]) hC (c_X8_setting_n l G sa q v18 (1 : Int32) hy125 H.size) (xcwV hC lk_L_88 in_X8 co_X8_setting im_X8_setting se_X8_setting rfl rfl dd_X8_setting ⟨Nat.le_of_ble_eq_true rfl, Nat.le_of_ble_eq_true rfl⟩) (preV0T h hT (Nat.le_of_ble_eq_true rfl) eBC_0 rfl [.int (1 : Int32)]) rfl rfl hl.1 rfl (lv_room (Nat.le_of_ble_eq_true rfl)) dL_holds_234 ⟨Nat.le_of_ble_eq_true rfl, Nat.le_of_ble_eq_true rfl⟩) (fun H locs h => ?_)
                obtain ⟨v127, ev127, hf⟩ := lt_e hf
                rw [← ev127] at h
                refine lv_iadd hx hb dL_holds_237 ?_
                refine lv_aload_n hx hb dL_holds_238 rfl (lv_at hl 0 rfl) ?_
                refine lv_iload hx hb dL_holds_239 (lv_at hl 6 rfl) ?_
                refine lv_iconst (v := (0 : Int32)) hx hb dL_holds_241 (by decide) ?_
                obtain ⟨r129, hy128, hf⟩ := ob_e hf
                refine xiG h (va_runV (As := [.int a17, .int (0 : Int32)]) (rest := [.int ((4 : Int32) + r126.1), .int r124]) hC (c_X8_sector_n l G q v127 a17 (0 : Int32) hy128 H.size) (xcwV hC lk_L_82 in_X8 co_X8_sector im_X8_sector se_X8_sector rfl rfl dd_X8_sector ⟨Nat.le_of_ble_eq_true rfl, Nat.le_of_ble_eq_true rfl⟩) (preVO0 h.o (Nat.le_of_ble_eq_true rfl) eBC_0 rfl [.int a17, .int (0 : Int32)]) rfl rfl hl.1 rfl (lv_room (Nat.le_of_ble_eq_true rfl)) dL_holds_242 ⟨Nat.le_of_ble_eq_true rfl, Nat.le_of_ble_eq_true rfl⟩) (fun H locs h => ?_)
                refine lv_iconst (v := (4 : Int32)) hx hb dL_holds_245 (by decide) ?_
                refine lv_idiv hx hb dL_holds_246 (by decide) ?_
                refine lv_iadd hx hb dL_holds_247 ?_
                refine lv_icmp_ne (tgt := 313) hx hb dL_holds_248 (by decide) (fun c130 => ?_) (fun c130 => ?_)
                · have hf := it_f c130 hf
                  exact hj121 v127 H locs h ls (lv_sub hl [0, 1, 2, 3, 4, 5, 6] rfl) hf
                · have hf := it_t c130 hf
                  refine lv_aload_n hx hb dL_holds_251 rfl (lv_at hl 0 rfl) ?_
                  refine lv_iconst (v := (2 : Int32)) hx hb dL_holds_252 (by decide) ?_
                  refine lv_iload hx hb dL_holds_253 (lv_at hl 6 rfl) ?_
                  obtain ⟨r132, hy131, hf⟩ := ob_e hf
                  refine xiG h (va_runV (As := [.int (2 : Int32), .int a17]) (rest := []) hC (c_X8_why_n l G q v127 (2 : Int32) a17 hy131 H.size) (xcwV hC lk_L_110 in_X8 co_X8_why im_X8_why se_X8_why rfl rfl dd_X8_why ⟨Nat.le_of_ble_eq_true rfl, Nat.le_of_ble_eq_true rfl⟩) (preVO0 h.o (Nat.le_of_ble_eq_true rfl) eBC_0 rfl [.int (2 : Int32), .int a17]) rfl rfl hl.1 rfl (lv_room (Nat.le_of_ble_eq_true rfl)) dL_holds_255 ⟨Nat.le_of_ble_eq_true rfl, Nat.le_of_ble_eq_true rfl⟩) (fun H locs h => ?_)
                  refine lv_aload_n hx hb dL_holds_258 rfl (lv_at hl 0 rfl) ?_
                  refine lv_iconst (v := (0 : Int32)) hx hb dL_holds_259 (by decide) ?_
                  refine lv_iconst (v := (0 : Int32)) hx hb dL_holds_260 (by decide) ?_
                  obtain ⟨r134, hy133, hf⟩ := ob_e hf
                  refine xiG h (va_runV (As := [.int (0 : Int32), .int (0 : Int32)]) (rest := [.int r132]) hC (c_X8_work_n l G q v127 (0 : Int32) (0 : Int32) hy133 H.size) (xcwV hC lk_L_85 in_X8 co_X8_work im_X8_work se_X8_work rfl rfl dd_X8_work ⟨Nat.le_of_ble_eq_true rfl, Nat.le_of_ble_eq_true rfl⟩) (preVO0 h.o (Nat.le_of_ble_eq_true rfl) eBC_0 rfl [.int (0 : Int32), .int (0 : Int32)]) rfl rfl hl.1 rfl (lv_room (Nat.le_of_ble_eq_true rfl)) dL_holds_261 ⟨Nat.le_of_ble_eq_true rfl, Nat.le_of_ble_eq_true rfl⟩) (fun H locs h => ?_)
                  obtain ⟨j137, ej137, hf⟩ := lt_e hf
                  have hj137 : ∀ (t135 : Int32) (t136 : Int32) (H : Heap) (locs : List Loc), hg G (eBC G) 430 q v127 A s H locs → ∀ (ls : Array Slot), lv_has ls 9 [(0, .ref (q 0)), (1, .int (a12 + r101)), (2, .int (a13 + r103)), (3, .int (a14 + r105)), (4, .int (a15 + r107)), (5, .int t3), (7, .int a17)] → j137 t135 t136 = some z → W p l e { frames := 4, cells := 0, slots := 0, locals := 90 } s m [.ref (q 0)].toArray below meth c H locs 0 0 (MQ below ((qZ z.1) (cB G (eBC G) 430 q z.2 A) A) [.ref (q 0)].toArray s 0 0 A) (F0 m 306 ls [.int t136, .int t135]) := by
                    intro t135 t136 H locs h ls hl hf
                    rw [ej137] at hf
                    refine lv_icmp_ne (tgt := 313) hx hb dL_holds_306 (by decide) (fun c138 => ?_) (fun c138 => ?_)
                    · have hf := it_f c138 hf
                      exact hj121 v127 H locs h ls (lv_sub hl [0, 1, 2, 3, 4, 5, 6] rfl) hf
                    · have hf := it_t c138 hf
                      refine lv_iconst (v := (1 : Int32)) hx hb dL_holds_309 (by decide) ?_
                      refine lv_goto (tgt := 314) hx hb dL_holds_310 (by decide) ?_
                      exact hj119 (1 : Int32) v127 H locs h ls (lv_sub hl [0, 1, 2, 3, 4, 5, 6] rfl) hf
                  refine lv_if_le (tgt := 271) hx hb dL_holds_264 (by decide) (fun c139 => ?_) (fun c139 => ?_)
                  · have hf := it_t c139 hf
                    refine lv_aload_n hx hb dL_holds_271 rfl (lv_at hl 0 rfl) ?_
                    refine lv_iconst (v := (1 : Int32)) hx hb dL_holds_272 (by decide) ?_
                    obtain ⟨r141, hy140, hf⟩ := ob_e hf
                    refine xiG h (va_runV (As := [.int (1 : Int32)]) (rest := [.int r132]) hC (c_X8_count_n l G q v127 (1 : Int32) hy140 H.size) (xcwV hC lk_L_76 in_X8 co_X8_count im_X8_count se_X8_count rfl rfl dd_X8_count ⟨Nat.le_of_ble_eq_true rfl, Nat.le_of_ble_eq_true rfl⟩) (preVO0 h.o (Nat.le_of_ble_eq_true rfl) eBC_0 rfl [.int (1 : Int32)]) rfl rfl hl.1 rfl (lv_room (Nat.le_of_ble_eq_true rfl)) dL_holds_273 ⟨Nat.le_of_ble_eq_true rfl, Nat.le_of_ble_eq_true rfl⟩) (fun H locs h => ?_)
                    refine lv_if_ne (tgt := 283) hx hb dL_holds_276 (by decide) (fun c142 => ?_) (fun c142 => ?_)
                    · have hf := it_f c142 hf
                      refine lv_iload hx hb dL_holds_283 (lv_at hl 7 rfl) ?_
                      refine lv_if_eq (tgt := 292) hx hb dL_holds_285 (by decide) (fun c143 => ?_) (fun c143 => ?_)
                      · have hf := it_t c143 hf
                        refine lv_aload_n hx hb dL_holds_292 rfl (lv_at hl 0 rfl) ?_
                        refine lv_iconst (v := (1 : Int32)) hx hb dL_holds_293 (by decide) ?_
                        refine lv_iconst (v := (0 : Int32)) hx hb dL_holds_294 (by decide) ?_
                        obtain ⟨r145, hy144, hf⟩ := ob_e hf
                        refine xiG h (va_runV (As := [.int (1 : Int32), .int (0 : Int32)]) (rest := [.int r132]) hC (c_X8_work_n l G q v127 (1 : Int32) (0 : Int32) hy144 H.size) (xcwV hC lk_L_85 in_X8 co_X8_work im_X8_work se_X8_work rfl rfl dd_X8_work ⟨Nat.le_of_ble_eq_true rfl, Nat.le_of_ble_eq_true rfl⟩) (preVO0 h.o (Nat.le_of_ble_eq_true rfl) eBC_0 rfl [.int (1 : Int32), .int (0 : Int32)]) rfl rfl hl.1 rfl (lv_room (Nat.le_of_ble_eq_true rfl)) dL_holds_295 ⟨Nat.le_of_ble_eq_true rfl, Nat.le_of_ble_eq_true rfl⟩) (fun H locs h => ?_)
                        refine lv_if_le (tgt := 305) hx hb dL_holds_298 (by decide) (fun c146 => ?_) (fun c146 => ?_)
                        · have hf := it_t c146 hf
                          refine lv_iconst (v := (0 : Int32)) hx hb dL_holds_305 (by decide) ?_
                          exact hj137 r132 (0 : Int32) H locs h ls (lv_sub hl [0, 1, 2, 3, 4, 5, 6] rfl) hf
                        · have hf := it_f c146 hf
                          refine lv_iconst (v := (4 : Int32)) hx hb dL_holds_301 (by decide) ?_
                          refine lv_goto (tgt := 306) hx hb dL_holds_302 (by decide) ?_
                          exact hj137 r132 (4 : Int32) H locs h ls (lv_sub hl [0, 1, 2, 3, 4, 5, 6] rfl) hf
                      · have hf := it_f c143 hf
                        refine lv_iconst (v := (3 : Int32)) hx hb dL_holds_288 (by decide) ?_
                        refine lv_goto (tgt := 306) hx hb dL_holds_289 (by decide) ?_
                        exact hj137 r132 (3 : Int32) H locs h ls (lv_sub hl [0, 1, 2, 3, 4, 5, 6] rfl) hf
                    · have hf := it_t c142 hf
                      refine lv_iconst (v := (2 : Int32)) hx hb dL_holds_279 (by decide) ?_
                      refine lv_goto (tgt := 306) hx hb dL_holds_280 (by decide) ?_
                      exact hj137 r132 (2 : Int32) H locs h ls (lv_sub hl [0, 1, 2, 3, 4, 5, 6] rfl) hf
                  · have hf := it_f c139 hf
                    refine lv_iconst (v := (1 : Int32)) hx hb dL_holds_267 (by decide) ?_
                    refine lv_goto (tgt := 306) hx hb dL_holds_268 (by decide) ?_
                    exact hj137 r132 (1 : Int32) H locs h ls (lv_sub hl [0, 1, 2, 3, 4, 5, 6] rfl) hf
            refine lv_if_eq (tgt := 220) hx hb dL_holds_213 (by decide) (fun c147 => ?_) (fun c147 => ?_)
            · have hf := it_t c147 hf
              refine lv_iconst (v := (0 : Int32)) hx hb dL_holds_220 (by decide) ?_
              exact hj116 r113 (0 : Int32) H locs h ls (lv_sub hl [1, 2, 3, 4, 5, 6, 7, 0] rfl) hf
            · have hf := it_f c147 hf
              refine lv_iconst (v := (1 : Int32)) hx hb dL_holds_216 (by decide) ?_
              refine lv_goto (tgt := 221) hx hb dL_holds_217 (by decide) ?_
              exact hj116 r113 (1 : Int32) H locs h ls (lv_sub hl [1, 2, 3, 4, 5, 6, 7, 0] rfl) hf
          refine lv_icmp_ne (tgt := 190) hx hb dL_holds_169 (by decide) (fun c148 => ?_) (fun c148 => ?_)
          · have hf := it_f c148 hf
            refine lv_iload hx hb dL_holds_190 (lv_at hl 7 rfl) ?_
            refine lv_iload hx hb dL_holds_192 (lv_at hl 5 rfl) ?_
            refine lv_icmp_ge (tgt := 201) hx hb dL_holds_194 (by decide) (fun c149 => ?_) (fun c149 => ?_)
            · have hf := it_t c149 hf
              refine lv_iconst (v := (0 : Int32)) hx hb dL_holds_201 (by decide) ?_
              exact hj111 (0 : Int32) H locs h ls (lv_sub hl [4, 3, 2, 1, 0, 5, 7] rfl) hf
            · have hf := it_f c149 hf
              refine lv_iconst (v := (1 : Int32)) hx hb dL_holds_197 (by decide) ?_
              refine lv_goto (tgt := 202) hx hb dL_holds_198 (by decide) ?_
              exact hj111 (1 : Int32) H locs h ls (lv_sub hl [4, 3, 2, 1, 0, 5, 7] rfl) hf
          · have hf := it_t c148 hf
            refine lv_iload hx hb dL_holds_172 (lv_at hl 7 rfl) ?_
            refine lv_bipush (v := (8 : Int32)) hx hb dL_holds_174 (by decide) ?_
            refine lv_iload hx hb dL_holds_176 (lv_at hl 5 rfl) ?_
            refine lv_isub hx hb dL_holds_178 ?_
            refine lv_icmp_lt (tgt := 186) hx hb dL_holds_179 (by decide) (fun c150 => ?_) (fun c150 => ?_)
            · have hf := it_t c150 hf
              refine lv_iconst (v := (0 : Int32)) hx hb dL_holds_186 (by decide) ?_
              refine lv_goto (tgt := 202) hx hb dL_holds_187 (by decide) ?_
              exact hj111 (0 : Int32) H locs h ls (lv_sub hl [4, 3, 2, 1, 0, 5, 7] rfl) hf
            · have hf := it_f c150 hf
              refine lv_iconst (v := (1 : Int32)) hx hb dL_holds_182 (by decide) ?_
              refine lv_goto (tgt := 202) hx hb dL_holds_183 (by decide) ?_
              exact hj111 (1 : Int32) H locs h ls (lv_sub hl [4, 3, 2, 1, 0, 5, 7] rfl) hf
    obtain ⟨j151, ej151, hf⟩ := lt_e hf
    have hj151 : ∀ (uu : Unit) (H : Heap) (locs : List Loc), hg G (eBC G) 430 q v A s H locs → ∀ (ls : Array Slot), lv_has ls 9 [(0, .ref (q 0)), (1, .int (0 : Int32)), (2, .int (0 : Int32)), (3, .int (0 : Int32)), (4, .int (0 : Int32)), (5, .int t3)] → j151 uu = some z → W p l e { frames := 4, cells := 0, slots := 0, locals := 90 } s m [.ref (q 0)].toArray below meth c H locs 0 0 (MQ below ((qZ z.1) (cB G (eBC G) 430 q z.2 A) A) [.ref (q 0)].toArray s 0 0 A) (F0 m 102 ls []) := by
      intro uu H locs h ls hl hf
      rw [ej151] at hf
      refine lv_iconst (v := (0 : Int32)) hx hb dL_holds_102 (by decide) ?_
      exact hj11 (0 : Int32) H locs h ls (lv_sub hl [0, 1, 2, 3, 4, 5] rfl) hf
    refine lv_if_ne (tgt := 102) hx hb dL_holds_47 (by decide) (fun c152 => ?_) (fun c152 => ?_)
    · have hf := it_f c152 hf
      exact hj151 () H locs h ls (lv_sub hl [1, 2, 3, 4, 5, 0] rfl) hf
    · have hf := it_t c152 hf
      refine lv_aload_n hx hb dL_holds_50 rfl (lv_at hl 1 rfl) ?_
      obtain ⟨r154, hy153, hf⟩ := ob_e hf
      refine xfG h (va_runV (As := []) (rest := []) hC (c_X8_meanWear l G q v hy153 H.size) (xcwV hC lk_L_100 in_X8 co_X8_meanWear im_X8_meanWear se_X8_meanWear rfl rfl dd_X8_meanWear ⟨Nat.le_of_ble_eq_true rfl, Nat.le_of_ble_eq_true rfl⟩) (preVO0 h.o (Nat.le_of_ble_eq_true rfl) eBC_0 rfl []) rfl rfl hl.1 rfl (lv_room (Nat.le_of_ble_eq_true rfl)) dL_holds_51 ⟨Nat.le_of_ble_eq_true rfl, Nat.le_of_ble_eq_true rfl⟩) (fun H locs h => ?_)
      refine lv_aload_n hx hb dL_holds_54 rfl (lv_at hl 1 rfl) ?_
      refine lv_bipush (v := (6 : Int32)) hx hb dL_holds_55 (by decide) ?_
      obtain ⟨r156, hy155, hf⟩ := ob_e hf
      refine xiG h (va_runV (As := [.int (6 : Int32)]) (rest := [.float r154]) hC (c_X8_count_n l G q v (6 : Int32) hy155 H.size) (xcwV hC lk_L_76 in_X8 co_X8_count im_X8_count se_X8_count rfl rfl dd_X8_count ⟨Nat.le_of_ble_eq_true rfl, Nat.le_of_ble_eq_true rfl⟩) (preVO0 h.o (Nat.le_of_ble_eq_true rfl) eBC_0 rfl [.int (6 : Int32)]) rfl rfl hl.1 rfl (lv_room (Nat.le_of_ble_eq_true rfl)) dL_holds_57 ⟨Nat.le_of_ble_eq_true rfl, Nat.le_of_ble_eq_true rfl⟩) (fun H locs h => ?_)
      refine lv_i2f hx hb dL_holds_60 ?_
      refine xldcf1 hC (wM_in cn_L_104) dL_holds_61 ?_
      obtain ⟨hn157, hf⟩ := ck_e hf
      refine lv_fdiv hx hb dL_holds_63 hn157 ?_
      refine lv_fcmp hx hb dL_holds_64 ?_
      refine lv_if_ne (tgt := 102) hx hb dL_holds_65 (by decide) (fun c158 => ?_) (fun c158 => ?_)
      · have hf := it_f c158 hf
        exact hj151 () H locs h ls (lv_sub hl [1, 2, 3, 4, 5, 0] rfl) hf
      · have hf := it_t c158 hf
        refine lv_aload_n hx hb dL_holds_68 rfl (lv_at hl 1 rfl) ?_
        obtain ⟨r160, hy159, hf⟩ := ob_e hf
        refine xiG h (va_runV (As := []) (rest := []) hC (c_X8_leastWorn l G q v hy159 H.size) (xcwV hC lk_L_105 in_X8 co_X8_leastWorn im_X8_leastWorn se_X8_leastWorn rfl rfl dd_X8_leastWorn ⟨Nat.le_of_ble_eq_true rfl, Nat.le_of_ble_eq_true rfl⟩) (preVO0 h.o (Nat.le_of_ble_eq_true rfl) eBC_0 rfl []) rfl rfl hl.1 rfl (lv_room (Nat.le_of_ble_eq_true rfl)) dL_holds_69 ⟨Nat.le_of_ble_eq_true rfl, Nat.le_of_ble_eq_true rfl⟩) (fun H locs h => ?_)
        refine lv_iconst (v := (-1 : Int32)) hx hb dL_holds_72 (by decide) ?_
        obtain ⟨j162, ej162, hf⟩ := lt_e hf
        have hj162 : ∀ (t161 : Int32) (H : Heap) (locs : List Loc), hg G (eBC G) 430 q v A s H locs → ∀ (ls : Array Slot), lv_has ls 9 [(0, .ref (q 0)), (1, .int (0 : Int32)), (2, .int (0 : Int32)), (3, .int (0 : Int32)), (4, .int (0 : Int32)), (5, .int t3)] → j162 t161 = some z → W p l e { frames := 4, cells := 0, slots := 0, locals := 90 } s m [.ref (q 0)].toArray below meth c H locs 0 0 (MQ below ((qZ z.1) (cB G (eBC G) 430 q z.2 A) A) [.ref (q 0)].toArray s 0 0 A) (F0 m 81 ls [.int t161]) := by
          intro t161 H locs h ls hl hf
          rw [ej162] at hf
          refine lv_aload_n hx hb dL_holds_81 rfl (lv_at hl 0 rfl) ?_
          refine lv_iconst (v := (3 : Int32)) hx hb dL_holds_82 (by decide) ?_
          obtain ⟨r164, hy163, hf⟩ := ob_e hf
          refine xiG h (va_runV (As := [.int (3 : Int32)]) (rest := [.int t161]) hC (c_X8_count_n l G q v (3 : Int32) hy163 H.size) (xcwV hC lk_L_76 in_X8 co_X8_count im_X8_count se_X8_count rfl rfl dd_X8_count ⟨Nat.le_of_ble_eq_true rfl, Nat.le_of_ble_eq_true rfl⟩) (preVO0 h.o (Nat.le_of_ble_eq_true rfl) eBC_0 rfl [.int (3 : Int32)]) rfl rfl hl.1 rfl (lv_room (Nat.le_of_ble_eq_true rfl)) dL_holds_83 ⟨Nat.le_of_ble_eq_true rfl, Nat.le_of_ble_eq_true rfl⟩) (fun H locs h => ?_)
          refine lv_iconst (v := (4 : Int32)) hx hb dL_holds_86 (by decide) ?_
          obtain ⟨j167, ej167, hf⟩ := lt_e hf
          have hj167 : ∀ (t165 : Int32) (t166 : Int32) (H : Heap) (locs : List Loc), hg G (eBC G) 430 q v A s H locs → ∀ (ls : Array Slot), lv_has ls 9 [(0, .ref (q 0)), (1, .int (0 : Int32)), (2, .int (0 : Int32)), (3, .int (0 : Int32)), (4, .int (0 : Int32)), (5, .int t3)] → j167 t165 t166 = some z → W p l e { frames := 4, cells := 0, slots := 0, locals := 90 } s m [.ref (q 0)].toArray below meth c H locs 0 0 (MQ below ((qZ z.1) (cB G (eBC G) 430 q z.2 A) A) [.ref (q 0)].toArray s 0 0 A) (F0 m 95 ls [.int t166, .int t165]) := by
            intro t165 t166 H locs h ls hl hf
            rw [ej167] at hf
            refine lv_icmp_ne (tgt := 102) hx hb dL_holds_95 (by decide) (fun c168 => ?_) (fun c168 => ?_)
            · have hf := it_f c168 hf
              exact hj151 () H locs h ls (lv_sub hl [0, 1, 2, 3, 4, 5] rfl) hf
            · have hf := it_t c168 hf
              refine lv_iconst (v := (1 : Int32)) hx hb dL_holds_98 (by decide) ?_
              refine lv_goto (tgt := 103) hx hb dL_holds_99 (by decide) ?_
              exact hj11 (1 : Int32) H locs h ls (lv_sub hl [0, 1, 2, 3, 4, 5] rfl) hf
          refine lv_icmp_ne (tgt := 94) hx hb dL_holds_87 (by decide) (fun c169 => ?_) (fun c169 => ?_)
          · have hf := it_f c169 hf
            refine lv_iconst (v := (0 : Int32)) hx hb dL_holds_94 (by decide) ?_
            exact hj167 t161 (0 : Int32) H locs h ls (lv_sub hl [0, 1, 2, 3, 4, 5] rfl) hf
          · have hf := it_t c169 hf
            refine lv_iconst (v := (1 : Int32)) hx hb dL_holds_90 (by decide) ?_
            refine lv_goto (tgt := 95) hx hb dL_holds_91 (by decide) ?_
            exact hj167 t161 (1 : Int32) H locs h ls (lv_sub hl [0, 1, 2, 3, 4, 5] rfl) hf
        refine lv_icmp_ne (tgt := 80) hx hb dL_holds_73 (by decide) (fun c170 => ?_) (fun c170 => ?_)
        · have hf := it_f c170 hf
          refine lv_iconst (v := (0 : Int32)) hx hb dL_holds_80 (by decide) ?_
          exact hj162 (0 : Int32) H locs h ls (lv_sub hl [1, 2, 3, 4, 5, 0] rfl) hf
        · have hf := it_t c170 hf
          refine lv_iconst (v := (1 : Int32)) hx hb dL_holds_76 (by decide) ?_
          refine lv_goto (tgt := 81) hx hb dL_holds_77 (by decide) ?_
          exact hj162 (1 : Int32) H locs h ls (lv_sub hl [1, 2, 3, 4, 5, 0] rfl) hf
  refine lv_if_ne (tgt := 21) hx hb dL_holds_14 (by decide) (fun c171 => ?_) (fun c171 => ?_)
  · have hf := it_f c171 hf
    refine lv_iconst (v := (1 : Int32)) hx hb dL_holds_21 (by decide) ?_
    refine lv_aload_n hx hb dL_holds_22 rfl (lv_at hl 4 rfl) ?_
    refine lv_iconst (v := (3 : Int32)) hx hb dL_holds_23 (by decide) ?_
    obtain ⟨r173, hy172, hf⟩ := ob_e hf
    refine xiG h (va_runV (As := [.int (3 : Int32)]) (rest := [.int (1 : Int32)]) hC (c_X8_count_n l G q v (3 : Int32) hy172 H.size) (xcwV hC lk_L_76 in_X8 co_X8_count im_X8_count se_X8_count rfl rfl dd_X8_count ⟨Nat.le_of_ble_eq_true rfl, Nat.le_of_ble_eq_true rfl⟩) (preVO0 h.o (Nat.le_of_ble_eq_true rfl) eBC_0 rfl [.int (3 : Int32)]) rfl rfl hl.1 rfl (lv_room (Nat.le_of_ble_eq_true rfl)) dL_holds_24 ⟨Nat.le_of_ble_eq_true rfl, Nat.le_of_ble_eq_true rfl⟩) (fun H locs h => ?_)
    refine lv_iconst (v := (1 : Int32)) hx hb dL_holds_27 (by decide) ?_
    refine lv_isub hx hb dL_holds_28 ?_
    refine lv_ishl hx hb dL_holds_29 ?_
    exact hj4 ((1 : Int32) <<< ((r173 - (1 : Int32)) &&& 31)) H locs h ls (lv_sub hl [4, 3, 2, 1, 0] rfl) hf
  · have hf := it_t c171 hf
    refine lv_iconst (v := (0 : Int32)) hx hb dL_holds_17 (by decide) ?_
    refine lv_goto (tgt := 30) hx hb dL_holds_18 (by decide) ?_
    exact hj4 (0 : Int32) H locs h ls (lv_sub hl [4, 3, 2, 1, 0] rfl) hf
def m_L_falls (v : xSt) (p1 : Int32) : Option (Int32 × xSt) := ob (m_L_low p1 (256 : Int32)) (fun r1 => ob (m_X8_cell_n v r1 (0 : Int32)) (fun r4 => ob (m_X8_cell_n v r1 (1 : Int32)) (fun r6 => ob (m_X8_misses_n v r1) (fun r8 => ob (m_X8_freeIn v) (fun r10 => lt (r10.2) (fun v11 => ob (m_X8_fits v11) (fun r13 => lt (fun (t14 : Int32) => ob (m_L_read v11 r1) (fun r16 => lt (r16.2) (fun v18 => lt (fun (v19 : xSt) => some ((0 : Int32), v19)) (fun j20 => (if t14 = 0 then j20 v18 else ob (m_L_read v18 (256 : Int32)) (fun r22 => lt (r22.2) (fun v24 => (if r22.1 = (-101 : Int32) then ob (m_X8_work_n v24 (0 : Int32) (0 : Int32)) (fun r27 => lt (fun (_ : Unit) => some ((1 : Int32), v24)) (fun j28 => (if r27 ≤ 0 then (if r16.1 = r4 then j28 () else (if r16.1 = (-103 : Int32) then ob (m_X8_work_n v24 (1 : Int32) (0 : Int32)) (fun r33 => (if r33 ≤ 0 then j20 v24 else j28 ())) else j20 v24)) else (if r16.1 = (-103 : Int32) then j28 () else j20 v24)))) else j20 v24)))))))) (fun j15 => lt (fun (_ : Unit) => j15 (0 : Int32)) (fun j36 => (if (r4 &&& r6) = 0 then (if r8 < 0 then j36 () else (if (8 : Int32) < r8 then j36 () else ob (m_X8_count_n v11 (11 : Int32)) (fun r41 => lt (fun (_ : Unit) => lt (fun (_ : Unit) => lt (fun (_ : Unit) => j15 (1 : Int32)) (fun j44 => (if r10.1 = (-1 : Int32) then j44 () else (if r10.1 < 0 then j36 () else (if (1000 : Int32) < r10.1 then j36 () else j44 ()))))) (fun j43 => (if r13 = (-1 : Int32) then j43 () else ob (m_X8_misses_n v11 r13) (fun r50 => (if r50 = 0 then j43 () else j36 ()))))) (fun j42 => (if 0 < r41 then j42 () else (if r8 = 0 then j42 () else j36 ())))))) else j36 ()))))))))))
set_option maxHeartbeats 4000000 in
set_option maxRecDepth 100000 in
theorem c_L_falls (l : Launch) (hst : l.stackTraces = false) (G : xGl) (sa q : Nat → Nat) (v : xSt) (p1 : Int32) {z : (Int32 × xSt)} (hf : m_L_falls v p1 = some z) : mRS l yL_falls (wM yL_falls cL_falls 10 (some .boolean)) { frames := 8, cells := 2, slots := 12, locals := 187 } G sa (eBC G) 430 q v [.ref (q 0), .int p1] (qZ z.1) z.2 2 12 := by
  refine xRSg (cc := cL_falls) (maxL := 10) (ret := (some .boolean)) (by decide) rfl (Nat.le_of_ble_eq_true rfl) ?_
  intro p e s m below meth c ls A hC hr hlk h hT hl
  have hx := hC.1
  have hb := hC.2.1
  have hl : lv_has ls 10 [(0, .ref (q 0)), (1, .int p1)] := hl
  unfold m_L_falls at hf
  obtain ⟨H, hH⟩ : ∃ H, H = s.heap := ⟨_, rfl⟩
  obtain ⟨locs, hlo⟩ : ∃ x : List Loc, x = [] := ⟨_, rfl⟩
  have h : hg G (eBC G) 430 q v A s H locs := by rw [hH, hlo]; exact h
  rw [← hlo, ← hH]
  clear hH hlo
  refine lv_iload_n hx hb dL_falls_0 rfl (lv_at hl 1 rfl) ?_
  refine lv_sipush (v := (256 : Int32)) hx hb dL_falls_1 (by decide) ?_
  obtain ⟨r1, hy2, hf⟩ := ob_e hf
  refine xiG h (va_runS (As := [.int p1, .int (256 : Int32)]) (rest := []) hC (c_L_low l G q v p1 (256 : Int32) hy2 H.size) (xcgS hC (fun _ h9 => wM_in h9) lk_L_113 in_L co_L_low st_L_low rfl rfl dd_L_low ⟨Nat.le_of_ble_eq_true rfl, Nat.le_of_ble_eq_true rfl⟩) (preSN h.o [.int p1, .int (256 : Int32)]) rfl rfl hl.1 rfl (lv_room (Nat.le_of_ble_eq_true rfl)) dL_falls_4 ⟨Nat.le_of_ble_eq_true rfl, Nat.le_of_ble_eq_true rfl⟩) (fun H locs h => ?_)
  refine lv_istore_n (lv' := [(2, .int r1), (0, .ref (q 0)), (1, .int p1)]) hx hb dL_falls_7 rfl hl (by decide) rfl (fun ls hl => ?_)
  refine lv_aload_n hx hb dL_falls_8 rfl (lv_at hl 1 rfl) ?_
  refine lv_iload_n hx hb dL_falls_9 rfl (lv_at hl 0 rfl) ?_
  refine lv_iconst (v := (0 : Int32)) hx hb dL_falls_10 (by decide) ?_
  obtain ⟨r4, hy3, hf⟩ := ob_e hf
  refine xiG h (va_runV (As := [.int r1, .int (0 : Int32)]) (rest := []) hC (c_X8_cell_n l G q v r1 (0 : Int32) hy3 H.size) (xcwV hC lk_L_79 in_X8 co_X8_cell im_X8_cell se_X8_cell rfl rfl dd_X8_cell ⟨Nat.le_of_ble_eq_true rfl, Nat.le_of_ble_eq_true rfl⟩) (preVO0 h.o (Nat.le_of_ble_eq_true rfl) eBC_0 rfl [.int r1, .int (0 : Int32)]) rfl rfl hl.1 rfl (lv_room (Nat.le_of_ble_eq_true rfl)) dL_falls_11 ⟨Nat.le_of_ble_eq_true rfl, Nat.le_of_ble_eq_true rfl⟩) (fun H locs h => ?_)
  refine lv_istore_n (lv' := [(3, .int r4), (2, .int r1), (0, .ref (q 0)), (1, .int p1)]) hx hb dL_falls_14 rfl hl (by decide) rfl (fun ls hl => ?_)
  refine lv_aload_n hx hb dL_falls_15 rfl (lv_at hl 2 rfl) ?_
  refine lv_iload_n hx hb dL_falls_16 rfl (lv_at hl 1 rfl) ?_
  refine lv_iconst (v := (1 : Int32)) hx hb dL_falls_17 (by decide) ?_
  obtain ⟨r6, hy5, hf⟩ := ob_e hf
  refine xiG h (va_runV (As := [.int r1, .int (1 : Int32)]) (rest := []) hC (c_X8_cell_n l G q v r1 (1 : Int32) hy5 H.size) (xcwV hC lk_L_79 in_X8 co_X8_cell im_X8_cell se_X8_cell rfl rfl dd_X8_cell ⟨Nat.le_of_ble_eq_true rfl, Nat.le_of_ble_eq_true rfl⟩) (preVO0 h.o (Nat.le_of_ble_eq_true rfl) eBC_0 rfl [.int r1, .int (1 : Int32)]) rfl rfl hl.1 rfl (lv_room (Nat.le_of_ble_eq_true rfl)) dL_falls_18 ⟨Nat.le_of_ble_eq_true rfl, Nat.le_of_ble_eq_true rfl⟩) (fun H locs h => ?_)
  refine lv_istore (lv' := [(4, .int r6), (3, .int r4), (2, .int r1), (0, .ref (q 0)), (1, .int p1)]) hx hb dL_falls_21 hl (by decide) rfl (fun ls hl => ?_)
  refine lv_aload_n hx hb dL_falls_23 rfl (lv_at hl 3 rfl) ?_
  refine lv_iload_n hx hb dL_falls_24 rfl (lv_at hl 2 rfl) ?_
  obtain ⟨r8, hy7, hf⟩ := ob_e hf
  refine xiG h (va_runV (As := [.int r1]) (rest := []) hC (c_X8_misses_n l G q v r1 hy7 H.size) (xcwV hC lk_L_116 in_X8 co_X8_misses im_X8_misses se_X8_misses rfl rfl dd_X8_misses ⟨Nat.le_of_ble_eq_true rfl, Nat.le_of_ble_eq_true rfl⟩) (preVO0 h.o (Nat.le_of_ble_eq_true rfl) eBC_0 rfl [.int r1]) rfl rfl hl.1 rfl (lv_room (Nat.le_of_ble_eq_true rfl)) dL_falls_25 ⟨Nat.le_of_ble_eq_true rfl, Nat.le_of_ble_eq_true rfl⟩) (fun H locs h => ?_)
  refine lv_istore (lv' := [(5, .int r8), (4, .int r6), (3, .int r4), (2, .int r1), (0, .ref (q 0)), (1, .int p1)]) hx hb dL_falls_28 hl (by decide) rfl (fun ls hl => ?_)
  refine lv_aload_n hx hb dL_falls_30 rfl (lv_at hl 4 rfl) ?_
  obtain ⟨r10, hy9, hf⟩ := ob_e hf
  refine xi0 h (va_runV (As := []) (rest := []) hC (c_X8_freeIn l G q v hy9 H.size) (xcwV hC lk_L_119 in_X8 co_X8_freeIn im_X8_freeIn se_X8_freeIn rfl rfl dd_X8_freeIn ⟨Nat.le_of_ble_eq_true rfl, Nat.le_of_ble_eq_true rfl⟩) (preV0 h (Nat.le_of_ble_eq_true rfl) eBC_0 rfl []) rfl rfl hl.1 rfl (lv_room (Nat.le_of_ble_eq_true rfl)) dL_falls_31 ⟨Nat.le_of_ble_eq_true rfl, Nat.le_of_ble_eq_true rfl⟩) (fun H locs h => ?_)
  obtain ⟨v11, ev11, hf⟩ := lt_e hf
  rw [← ev11] at h
  refine lv_istore (lv' := [(6, .int r10.1), (5, .int r8), (4, .int r6), (3, .int r4), (2, .int r1), (0, .ref (q 0)), (1, .int p1)]) hx hb dL_falls_34 hl (by decide) rfl (fun ls hl => ?_)
  refine lv_aload_n hx hb dL_falls_36 rfl (lv_at hl 5 rfl) ?_
  obtain ⟨r13, hy12, hf⟩ := ob_e hf
  refine xiG h (va_runV (As := []) (rest := []) hC (c_X8_fits l G q v11 hy12 H.size) (xcwV hC lk_L_122 in_X8 co_X8_fits im_X8_fits se_X8_fits rfl rfl dd_X8_fits ⟨Nat.le_of_ble_eq_true rfl, Nat.le_of_ble_eq_true rfl⟩) (preVO0 h.o (Nat.le_of_ble_eq_true rfl) eBC_0 rfl []) rfl rfl hl.1 rfl (lv_room (Nat.le_of_ble_eq_true rfl)) dL_falls_37 ⟨Nat.le_of_ble_eq_true rfl, Nat.le_of_ble_eq_true rfl⟩) (fun H locs h => ?_)
  refine lv_istore (lv' := [(7, .int r13), (6, .int r10.1), (5, .int r8), (4, .int r6), (3, .int r4), (2, .int r1), (0, .ref (q 0)), (1, .int p1)]) hx hb dL_falls_40 hl (by decide) rfl (fun ls hl => ?_)
  refine lv_iload_n hx hb dL_falls_42 rfl (lv_at hl 4 rfl) ?_
  refine lv_iload hx hb dL_falls_43 (lv_at hl 3 rfl) ?_
  refine lv_iand hx hb dL_falls_45 ?_
  obtain ⟨j15, ej15, hf⟩ := lt_e hf
  have hj15 : ∀ (t14 : Int32) (H : Heap) (locs : List Loc), hg G (eBC G) 430 q v11 A s H locs → ∀ (ls : Array Slot), lv_has ls 10 [(0, .ref (q 0)), (2, .int r1), (3, .int r4)] → j15 t14 = some z → W p l e { frames := 8, cells := 2, slots := 12, locals := 187 } s m [.ref (q 0), .int p1].toArray below meth c H locs 0 0 (MQ below ((qZ z.1) (cB G (eBC G) 430 q z.2 A) A) [.ref (q 0), .int p1].toArray s 2 12 A) (F0 m 114 ls [.int t14]) := by
    intro t14 H locs h ls hl hf
    rw [ej15] at hf
    refine lv_istore (lv' := [(8, .int t14), (0, .ref (q 0)), (2, .int r1), (3, .int r4)]) hx hb dL_falls_114 hl (by decide) rfl (fun ls hl => ?_)
    refine lv_aload_n hx hb dL_falls_116 rfl (lv_at hl 1 rfl) ?_
    refine lv_iload_n hx hb dL_falls_117 rfl (lv_at hl 2 rfl) ?_
    obtain ⟨r16, hy17, hf⟩ := ob_e hf
    refine xi0c h (vx_runSW (As := [.ref (q 0), .int r1]) (rest := []) hC (c_L_read l hst G sa q v11 r1 hy17 H.size) (xcgSW hC (fun _ h9 => wM_in h9) lk_L_125 in_L co_L_read st_L_read rfl rfl dd_L_read ⟨Nat.le_of_ble_eq_true rfl, Nat.le_of_ble_eq_true rfl⟩) (preS0T h hT [.ref (q 0), .int r1]) rfl rfl hl.1 rfl (lv_room (Nat.le_of_ble_eq_true rfl)) dL_falls_118 ⟨Nat.le_of_ble_eq_true rfl, Nat.le_of_ble_eq_true rfl⟩) (fun H locs h => ?_)
    refine W.widen (k := 1) (n := 6) (by omega) (by omega) ?_
    obtain ⟨v18, ev18, hf⟩ := lt_e hf
    rw [← ev18] at h
    refine lv_istore (lv' := [(9, .int r16.1), (8, .int t14), (0, .ref (q 0)), (2, .int r1), (3, .int r4)]) hx hb dL_falls_121 hl (by decide) rfl (fun ls hl => ?_)
    refine lv_iload hx hb dL_falls_123 (lv_at hl 1 rfl) ?_
    obtain ⟨j20, ej20, hf⟩ := lt_e hf
    have hj20 : ∀ (v19 : xSt) (H : Heap) (locs : List Loc), hg G (eBC G) 430 q v19 A s H locs → ∀ (ls : Array Slot), lv_has ls 10 [] → j20 v19 = some z → W p l e { frames := 8, cells := 2, slots := 12, locals := 187 } s m [.ref (q 0), .int p1].toArray below meth c H locs 2 12 (MQ below ((qZ z.1) (cB G (eBC G) 430 q z.2 A) A) [.ref (q 0), .int p1].toArray s 2 12 A) (F0 m 185 ls []) := by
      intro v19 H locs h ls hl hf
      rw [ej20] at hf
      refine lv_iconst (v := (0 : Int32)) hx hb dL_falls_185 (by decide) ?_
      have hf := sm_e hf
      exact xzretc hC hr hlk h (by rw [← hf]) (by decide) (by rw [← hf]) dL_falls_186
    refine lv_if_eq (tgt := 185) hx hb dL_falls_125 (by decide) (fun c21 => ?_) (fun c21 => ?_)
    · have hf := it_t c21 hf
      refine W.widen (k := 2) (n := 12) (by omega) (by omega) ?_
      exact hj20 v18 H locs h ls (lv_sub hl [] rfl) hf
    · have hf := it_f c21 hf
      refine lv_aload_n hx hb dL_falls_128 rfl (lv_at hl 2 rfl) ?_
      refine lv_sipush (v := (256 : Int32)) hx hb dL_falls_129 (by decide) ?_
      obtain ⟨r22, hy23, hf⟩ := ob_e hf
      refine xi0c h (vx_runSW (As := [.ref (q 0), .int (256 : Int32)]) (rest := []) hC (c_L_read l hst G sa q v18 (256 : Int32) hy23 H.size) (xcgSW hC (fun _ h9 => wM_in h9) lk_L_125 in_L co_L_read st_L_read rfl rfl dd_L_read ⟨Nat.le_of_ble_eq_true rfl, Nat.le_of_ble_eq_true rfl⟩) (preS0T h hT [.ref (q 0), .int (256 : Int32)]) rfl rfl hl.1 rfl (lv_room (Nat.le_of_ble_eq_true rfl)) dL_falls_132 ⟨Nat.le_of_ble_eq_true rfl, Nat.le_of_ble_eq_true rfl⟩) (fun H locs h => ?_)
      refine W.widen (k := 2) (n := 12) (by omega) (by omega) ?_
      obtain ⟨v24, ev24, hf⟩ := lt_e hf
      rw [← ev24] at h
      refine lv_bipush (v := (-101 : Int32)) hx hb dL_falls_135 (by decide) ?_
      refine lv_icmp_ne (tgt := 185) hx hb dL_falls_137 (by decide) (fun c25 => ?_) (fun c25 => ?_)
      · have hf := it_f c25 hf
        exact hj20 v24 H locs h ls (lv_sub hl [] rfl) hf
      · have hf := it_t c25 hf
        refine lv_aload_n hx hb dL_falls_140 rfl (lv_at hl 2 rfl) ?_
        refine lv_iconst (v := (0 : Int32)) hx hb dL_falls_141 (by decide) ?_
        refine lv_iconst (v := (0 : Int32)) hx hb dL_falls_142 (by decide) ?_
        obtain ⟨r27, hy26, hf⟩ := ob_e hf
        refine xiG h (va_runV (As := [.int (0 : Int32), .int (0 : Int32)]) (rest := []) hC (c_X8_work_n l G q v24 (0 : Int32) (0 : Int32) hy26 H.size) (xcwV hC lk_L_85 in_X8 co_X8_work im_X8_work se_X8_work rfl rfl dd_X8_work ⟨Nat.le_of_ble_eq_true rfl, Nat.le_of_ble_eq_true rfl⟩) (preVO0 h.o (Nat.le_of_ble_eq_true rfl) eBC_0 rfl [.int (0 : Int32), .int (0 : Int32)]) rfl rfl hl.1 rfl (lv_room (Nat.le_of_ble_eq_true rfl)) dL_falls_143 ⟨Nat.le_of_ble_eq_true rfl, Nat.le_of_ble_eq_true rfl⟩) (fun H locs h => ?_)
        obtain ⟨j28, ej28, hf⟩ := lt_e hf
        have hj28 : ∀ (uu : Unit) (H : Heap) (locs : List Loc), hg G (eBC G) 430 q v24 A s H locs → ∀ (ls : Array Slot), lv_has ls 10 [] → j28 uu = some z → W p l e { frames := 8, cells := 2, slots := 12, locals := 187 } s m [.ref (q 0), .int p1].toArray below meth c H locs 2 12 (MQ below ((qZ z.1) (cB G (eBC G) 430 q z.2 A) A) [.ref (q 0), .int p1].toArray s 2 12 A) (F0 m 181 ls []) := by
          intro uu H locs h ls hl hf
          rw [ej28] at hf
          refine lv_iconst (v := (1 : Int32)) hx hb dL_falls_181 (by decide) ?_
          refine lv_goto (tgt := 186) hx hb dL_falls_182 (by decide) ?_
          have hf := sm_e hf
          exact xzretc hC hr hlk h (by rw [← hf]) (by decide) (by rw [← hf]) dL_falls_186
        refine lv_if_le (tgt := 159) hx hb dL_falls_146 (by decide) (fun c29 => ?_) (fun c29 => ?_)
        · have hf := it_t c29 hf
          refine lv_iload hx hb dL_falls_159 (lv_at hl 0 rfl) ?_
          refine lv_iload_n hx hb dL_falls_161 rfl (lv_at hl 4 rfl) ?_
          refine lv_icmp_eq (tgt := 181) hx hb dL_falls_162 (by decide) (fun c30 => ?_) (fun c30 => ?_)
          · have hf := it_t c30 hf
            exact hj28 () H locs h ls (lv_sub hl [] rfl) hf
          · have hf := it_f c30 hf
            refine lv_iload hx hb dL_falls_165 (lv_at hl 0 rfl) ?_
            refine lv_bipush (v := (-103 : Int32)) hx hb dL_falls_167 (by decide) ?_
            refine lv_icmp_ne (tgt := 185) hx hb dL_falls_169 (by decide) (fun c31 => ?_) (fun c31 => ?_)
            · have hf := it_f c31 hf
              exact hj20 v24 H locs h ls (lv_sub hl [] rfl) hf
            · have hf := it_t c31 hf
              refine lv_aload_n hx hb dL_falls_172 rfl (lv_at hl 2 rfl) ?_
              refine lv_iconst (v := (1 : Int32)) hx hb dL_falls_173 (by decide) ?_
              refine lv_iconst (v := (0 : Int32)) hx hb dL_falls_174 (by decide) ?_
              obtain ⟨r33, hy32, hf⟩ := ob_e hf
              refine xiG h (va_runV (As := [.int (1 : Int32), .int (0 : Int32)]) (rest := []) hC (c_X8_work_n l G q v24 (1 : Int32) (0 : Int32) hy32 H.size) (xcwV hC lk_L_85 in_X8 co_X8_work im_X8_work se_X8_work rfl rfl dd_X8_work ⟨Nat.le_of_ble_eq_true rfl, Nat.le_of_ble_eq_true rfl⟩) (preVO0 h.o (Nat.le_of_ble_eq_true rfl) eBC_0 rfl [.int (1 : Int32), .int (0 : Int32)]) rfl rfl hl.1 rfl (lv_room (Nat.le_of_ble_eq_true rfl)) dL_falls_175 ⟨Nat.le_of_ble_eq_true rfl, Nat.le_of_ble_eq_true rfl⟩) (fun H locs h => ?_)
              refine lv_if_le (tgt := 185) hx hb dL_falls_178 (by decide) (fun c34 => ?_) (fun c34 => ?_)
              · have hf := it_t c34 hf
                exact hj20 v24 H locs h ls (lv_sub hl [] rfl) hf
              · have hf := it_f c34 hf
                exact hj28 () H locs h ls (lv_sub hl [] rfl) hf
        · have hf := it_f c29 hf
          refine lv_iload hx hb dL_falls_149 (lv_at hl 0 rfl) ?_
          refine lv_bipush (v := (-103 : Int32)) hx hb dL_falls_151 (by decide) ?_
          refine lv_icmp_ne (tgt := 185) hx hb dL_falls_153 (by decide) (fun c35 => ?_) (fun c35 => ?_)
          · have hf := it_f c35 hf
            exact hj20 v24 H locs h ls (lv_sub hl [] rfl) hf
          · have hf := it_t c35 hf
            refine lv_goto (tgt := 181) hx hb dL_falls_156 (by decide) ?_
            exact hj28 () H locs h ls (lv_sub hl [] rfl) hf
  obtain ⟨j36, ej36, hf⟩ := lt_e hf
  have hj36 : ∀ (uu : Unit) (H : Heap) (locs : List Loc), hg G (eBC G) 430 q v11 A s H locs → ∀ (ls : Array Slot), lv_has ls 10 [(0, .ref (q 0)), (2, .int r1), (3, .int r4)] → j36 uu = some z → W p l e { frames := 8, cells := 2, slots := 12, locals := 187 } s m [.ref (q 0), .int p1].toArray below meth c H locs 0 0 (MQ below ((qZ z.1) (cB G (eBC G) 430 q z.2 A) A) [.ref (q 0), .int p1].toArray s 2 12 A) (F0 m 113 ls []) := by
    intro uu H locs h ls hl hf
    rw [ej36] at hf
    refine lv_iconst (v := (0 : Int32)) hx hb dL_falls_113 (by decide) ?_
    exact hj15 (0 : Int32) H locs h ls (lv_sub hl [0, 1, 2] rfl) hf
  refine lv_if_ne (tgt := 113) hx hb dL_falls_46 (by decide) (fun c37 => ?_) (fun c37 => ?_)
  · have hf := it_f c37 hf
    exact hj36 () H locs h ls (lv_sub hl [6, 5, 4] rfl) hf
  · have hf := it_t c37 hf
    refine lv_iload hx hb dL_falls_49 (lv_at hl 2 rfl) ?_
    refine lv_if_lt (tgt := 113) hx hb dL_falls_51 (by decide) (fun c38 => ?_) (fun c38 => ?_)
    · have hf := it_t c38 hf
      exact hj36 () H locs h ls (lv_sub hl [6, 5, 4] rfl) hf
    · have hf := it_f c38 hf
      refine lv_iload hx hb dL_falls_54 (lv_at hl 2 rfl) ?_
      refine lv_bipush (v := (8 : Int32)) hx hb dL_falls_56 (by decide) ?_
      refine lv_icmp_gt (tgt := 113) hx hb dL_falls_58 (by decide) (fun c39 => ?_) (fun c39 => ?_)
      · have hf := it_t c39 hf
        exact hj36 () H locs h ls (lv_sub hl [6, 5, 4] rfl) hf
      · have hf := it_f c39 hf
        refine lv_aload_n hx hb dL_falls_61 rfl (lv_at hl 6 rfl) ?_
        refine lv_bipush (v := (11 : Int32)) hx hb dL_falls_62 (by decide) ?_
        obtain ⟨r41, hy40, hf⟩ := ob_e hf
        refine xiG h (va_runV (As := [.int (11 : Int32)]) (rest := []) hC (c_X8_count_n l G q v11 (11 : Int32) hy40 H.size) (xcwV hC lk_L_76 in_X8 co_X8_count im_X8_count se_X8_count rfl rfl dd_X8_count ⟨Nat.le_of_ble_eq_true rfl, Nat.le_of_ble_eq_true rfl⟩) (preVO0 h.o (Nat.le_of_ble_eq_true rfl) eBC_0 rfl [.int (11 : Int32)]) rfl rfl hl.1 rfl (lv_room (Nat.le_of_ble_eq_true rfl)) dL_falls_64 ⟨Nat.le_of_ble_eq_true rfl, Nat.le_of_ble_eq_true rfl⟩) (fun H locs h => ?_)
        obtain ⟨j42, ej42, hf⟩ := lt_e hf
        have hj42 : ∀ (uu : Unit) (H : Heap) (locs : List Loc), hg G (eBC G) 430 q v11 A s H locs → ∀ (ls : Array Slot), lv_has ls 10 [(0, .ref (q 0)), (2, .int r1), (3, .int r4), (6, .int r10.1), (7, .int r13)] → j42 uu = some z → W p l e { frames := 8, cells := 2, slots := 12, locals := 187 } s m [.ref (q 0), .int p1].toArray below meth c H locs 0 0 (MQ below ((qZ z.1) (cB G (eBC G) 430 q z.2 A) A) [.ref (q 0), .int p1].toArray s 2 12 A) (F0 m 75 ls []) := by
          intro uu H locs h ls hl hf
          rw [ej42] at hf
          refine lv_iload hx hb dL_falls_75 (lv_at hl 4 rfl) ?_
          refine lv_iconst (v := (-1 : Int32)) hx hb dL_falls_77 (by decide) ?_
          obtain ⟨j43, ej43, hf⟩ := lt_e hf
          have hj43 : ∀ (uu : Unit) (H : Heap) (locs : List Loc), hg G (eBC G) 430 q v11 A s H locs → ∀ (ls : Array Slot), lv_has ls 10 [(0, .ref (q 0)), (2, .int r1), (3, .int r4), (6, .int r10.1)] → j43 uu = some z → W p l e { frames := 8, cells := 2, slots := 12, locals := 187 } s m [.ref (q 0), .int p1].toArray below meth c H locs 0 0 (MQ below ((qZ z.1) (cB G (eBC G) 430 q z.2 A) A) [.ref (q 0), .int p1].toArray s 2 12 A) (F0 m 90 ls []) := by
            intro uu H locs h ls hl hf
            rw [ej43] at hf
            refine lv_iload hx hb dL_falls_90 (lv_at hl 3 rfl) ?_
            refine lv_iconst (v := (-1 : Int32)) hx hb dL_falls_92 (by decide) ?_
            obtain ⟨j44, ej44, hf⟩ := lt_e hf
            have hj44 : ∀ (uu : Unit) (H : Heap) (locs : List Loc), hg G (eBC G) 430 q v11 A s H locs → ∀ (ls : Array Slot), lv_has ls 10 [(0, .ref (q 0)), (2, .int r1), (3, .int r4)] → j44 uu = some z → W p l e { frames := 8, cells := 2, slots := 12, locals := 187 } s m [.ref (q 0), .int p1].toArray below meth c H locs 0 0 (MQ below ((qZ z.1) (cB G (eBC G) 430 q z.2 A) A) [.ref (q 0), .int p1].toArray s 2 12 A) (F0 m 109 ls []) := by
              intro uu H locs h ls hl hf
              rw [ej44] at hf
              refine lv_iconst (v := (1 : Int32)) hx hb dL_falls_109 (by decide) ?_
              refine lv_goto (tgt := 114) hx hb dL_falls_110 (by decide) ?_
              exact hj15 (1 : Int32) H locs h ls (lv_sub hl [0, 1, 2] rfl) hf
            refine lv_icmp_eq (tgt := 109) hx hb dL_falls_93 (by decide) (fun c45 => ?_) (fun c45 => ?_)
            · have hf := it_t c45 hf
              exact hj44 () H locs h ls (lv_sub hl [0, 1, 2] rfl) hf
            · have hf := it_f c45 hf
              refine lv_iload hx hb dL_falls_96 (lv_at hl 3 rfl) ?_
              refine lv_if_lt (tgt := 113) hx hb dL_falls_98 (by decide) (fun c46 => ?_) (fun c46 => ?_)
              · have hf := it_t c46 hf
                exact hj36 () H locs h ls (lv_sub hl [0, 1, 2] rfl) hf
              · have hf := it_f c46 hf
                refine lv_iload hx hb dL_falls_101 (lv_at hl 3 rfl) ?_
                refine lv_sipush (v := (1000 : Int32)) hx hb dL_falls_103 (by decide) ?_
                refine lv_icmp_gt (tgt := 113) hx hb dL_falls_106 (by decide) (fun c47 => ?_) (fun c47 => ?_)
                · have hf := it_t c47 hf
                  exact hj36 () H locs h ls (lv_sub hl [0, 1, 2] rfl) hf
                · have hf := it_f c47 hf
                  exact hj44 () H locs h ls (lv_sub hl [0, 1, 2] rfl) hf
          refine lv_icmp_eq (tgt := 90) hx hb dL_falls_78 (by decide) (fun c48 => ?_) (fun c48 => ?_)
          · have hf := it_t c48 hf
            exact hj43 () H locs h ls (lv_sub hl [0, 1, 2, 3] rfl) hf
          · have hf := it_f c48 hf
            refine lv_aload_n hx hb dL_falls_81 rfl (lv_at hl 0 rfl) ?_
            refine lv_iload hx hb dL_falls_82 (lv_at hl 4 rfl) ?_
            obtain ⟨r50, hy49, hf⟩ := ob_e hf
            refine xiG h (va_runV (As := [.int r13]) (rest := []) hC (c_X8_misses_n l G q v11 r13 hy49 H.size) (xcwV hC lk_L_116 in_X8 co_X8_misses im_X8_misses se_X8_misses rfl rfl dd_X8_misses ⟨Nat.le_of_ble_eq_true rfl, Nat.le_of_ble_eq_true rfl⟩) (preVO0 h.o (Nat.le_of_ble_eq_true rfl) eBC_0 rfl [.int r13]) rfl rfl hl.1 rfl (lv_room (Nat.le_of_ble_eq_true rfl)) dL_falls_84 ⟨Nat.le_of_ble_eq_true rfl, Nat.le_of_ble_eq_true rfl⟩) (fun H locs h => ?_)
            refine lv_if_ne (tgt := 113) hx hb dL_falls_87 (by decide) (fun c51 => ?_) (fun c51 => ?_)
            · have hf := it_f c51 hf
              exact hj36 () H locs h ls (lv_sub hl [0, 1, 2] rfl) hf
            · have hf := it_t c51 hf
              exact hj43 () H locs h ls (lv_sub hl [0, 1, 2, 3] rfl) hf
        refine lv_if_gt (tgt := 75) hx hb dL_falls_67 (by decide) (fun c52 => ?_) (fun c52 => ?_)
        · have hf := it_t c52 hf
          exact hj42 () H locs h ls (lv_sub hl [6, 5, 4, 1, 0] rfl) hf
        · have hf := it_f c52 hf
          refine lv_iload hx hb dL_falls_70 (lv_at hl 2 rfl) ?_
          refine lv_if_ne (tgt := 113) hx hb dL_falls_72 (by decide) (fun c53 => ?_) (fun c53 => ?_)
          · have hf := it_f c53 hf
            exact hj36 () H locs h ls (lv_sub hl [6, 5, 4] rfl) hf
          · have hf := it_t c53 hf
            exact hj42 () H locs h ls (lv_sub hl [6, 5, 4, 1, 0] rfl) hf
def m_L_types (v : xSt) (p1 : Int32) : Option (Int32 × xSt) := ob (m_L_low p1 (5 : Int32)) (fun r1 => ob (m_X8_clearBuffer v) (fun r4 => lt (r4.2) (fun v5 => lt (fun (t6 : Int32) => lp (fun (rec11 : Int32 × Int32 × xSt → Option (Int32 × xSt)) => un3 (fun (a8 : Int32) (a9 : Int32) (v10 : xSt) => (if r1 ≤ a9 then lt (fun (v13 : xSt) => some ((0 : Int32), v13)) (fun j14 => (if a8 = 0 then j14 v10 else ob (m_L_low (p1 >>> ((26 : Int32) &&& 31)) (6 : Int32)) (fun r16 => lt (fun (v18 : xSt) => some ((1 : Int32), v18)) (fun j19 => (if 0 < r16 then j19 v10 else ob (m_L_append_q v10 (59 : Int32)) (fun r21 => lt (r21.2) (fun v23 => (if r21.1 ≤ 0 then j14 v23 else j19 v23)))))))) else lt ((p1 >>> (((3 : Int32) + ((4 : Int32) * a9)) &&& 31))) (fun x25 => ob (m_L_low x25 (7 : Int32)) (fun r26 => lt (fun (t28 : Int32) => lt (fun (t30 : Int32) (v31 : xSt) => lt (fun (a33 : Int32) (v34 : xSt) => lt (fun (a36 : Int32) (v37 : xSt) => rec11 (a36, (a9 + 1), v37)) (fun j38 => (if (5 : Int32) ≤ r26 then j38 a33 v34 else ob (m_L_low (x25 >>> ((6 : Int32) &&& 31)) (2 : Int32)) (fun r40 => (if r40 = 0 then lt (fun (t43 : Int32) (v44 : xSt) => j38 t43 v44) (fun j45 => lt (fun (v46 : xSt) => j45 (0 : Int32) v46) (fun j47 => (if a33 = 0 then j47 v34 else ob (m_L_append_q v34 (33 : Int32)) (fun r49 => lt (r49.2) (fun v51 => (if r49.1 ≤ 0 then j47 v51 else ob (m_L_low (x25 >>> ((7 : Int32) &&& 31)) (10 : Int32)) (fun r53 => ob (m_L_append_q v51 ((48 : Int32) + r53)) (fun r55 => lt (r55.2) (fun v57 => (if r55.1 ≤ 0 then j47 v57 else j45 (1 : Int32) v57)))))))))) else j38 a33 v34))))) (fun j35 => (if (3 : Int32) ≤ r26 then j35 t30 v31 else ob (m_L_low (x25 >>> ((4 : Int32) &&& 31)) (2 : Int32)) (fun r60 => lt (fun (t62 : Int32) (v63 : xSt) => lp (fun (rec68 : Int32 × Int32 × xSt → Option (Int32 × xSt)) => un3 (fun (a65 : Int32) (a66 : Int32) (v67 : xSt) => (if ((2 : Int32) + ((2 : Int32) * r60)) ≤ a66 then j35 a65 v67 else ob (m_L_low (x25 >>> (a66 &&& 31)) (16 : Int32)) (fun r70 => lt (fun (t72 : Int32) (v73 : xSt) => rec68 (t72, (a66 + 1), v73)) (fun j74 => lt (fun (v75 : xSt) => j74 (0 : Int32) v75) (fun j76 => (if a65 = 0 then j76 v67 else lt (fun (t78 : Int32) => ob (m_L_append_q v67 t78) (fun r80 => lt (r80.2) (fun v82 => (if r80.1 ≤ 0 then j76 v82 else j74 (1 : Int32) v82)))) (fun j79 => (if (10 : Int32) ≤ r70 then j79 (((97 : Int32) + r70) - (10 : Int32)) else j79 ((48 : Int32) + r70)))))))))) xF (t62, (0 : Int32), v63)) (fun j64 => lt (fun (v85 : xSt) => j64 (0 : Int32) v85) (fun j86 => (if t30 = 0 then j86 v31 else ob (m_L_append_q v31 (58 : Int32)) (fun r88 => lt (r88.2) (fun v90 => (if r88.1 ≤ 0 then j86 v90 else j64 (1 : Int32) v90)))))))))) (fun j32 => lt (fun (v92 : xSt) => j32 (0 : Int32) v92) (fun j93 => (if a8 = 0 then j93 v10 else lt (fun (v95 : xSt) => lt (fun (t97 : Int32) => ob (m_L_append_q v95 t97) (fun r99 => lt (r99.2) (fun v101 => (if r99.1 ≤ 0 then j93 v101 else lt (fun (v103 : xSt) => lt (fun (v105 : xSt) => ob (m_L_append_q v105 ((48 : Int32) + (t28 - t28 / (10 : Int32) * (10 : Int32)))) (fun r107 => lt (r107.2) (fun v109 => (if r107.1 ≤ 0 then j93 v109 else j32 (1 : Int32) v109)))) (fun j106 => (if t28 < (10 : Int32) then j106 v103 else ob (m_L_append_q v103 ((48 : Int32) + ((t28 / (10 : Int32)) - (t28 / (10 : Int32)) / (10 : Int32) * (10 : Int32)))) (fun r112 => lt (r112.2) (fun v114 => (if r112.1 ≤ 0 then j93 v114 else j106 v114)))))) (fun j104 => (if t28 < (100 : Int32) then j104 v101 else ob (m_L_append_q v101 ((48 : Int32) + (t28 / (100 : Int32)))) (fun r117 => lt (r117.2) (fun v119 => (if r117.1 ≤ 0 then j93 v119 else j104 v119))))))))) (fun j98 => (if (3 : Int32) ≤ r26 then (if (5 : Int32) ≤ r26 then j98 (116 : Int32) else j98 (101 : Int32)) else j98 (119 : Int32)))) (fun j96 => (if a9 = 0 then j96 v10 else ob (m_L_append_q v10 (59 : Int32)) (fun r124 => lt (r124.2) (fun v126 => (if r124.1 ≤ 0 then j93 v126 else j96 v126))))))))) (fun j29 => (if (3 : Int32) ≤ r26 then (if (5 : Int32) ≤ r26 then ob (m_L_low (p1 >>> ((25 : Int32) &&& 31)) (9 : Int32)) (fun r130 => lt (fun (t132 : Int32) (t133 : Int32) (t134 : Int32) => ob (m_L_low t133 t134) (fun r136 => j29 (t132 + r136))) (fun j135 => (if r130 = 0 then j135 (1 : Int32) (x25 >>> ((2 : Int32) &&& 31)) (110 : Int32) else j135 (1 : Int32) (x25 >>> ((2 : Int32) &&& 31)) (30 : Int32)))) else ob (m_L_low (p1 >>> ((24 : Int32) &&& 31)) (9 : Int32)) (fun r139 => lt (fun (t141 : Int32) (t142 : Int32) => ob (m_L_low t141 t142) (fun r144 => j29 r144)) (fun j143 => (if r139 = 0 then j143 (x25 >>> ((1 : Int32) &&& 31)) (9 : Int32) else j143 (x25 >>> ((1 : Int32) &&& 31)) (8 : Int32))))) else ob (m_L_low (p1 >>> ((23 : Int32) &&& 31)) (9 : Int32)) (fun r147 => lt (fun (t149 : Int32) (t150 : Int32) => ob (m_L_low t149 t150) (fun r152 => j29 r152)) (fun j151 => (if r147 = 0 then j151 (x25 >>> ((1 : Int32) &&& 31)) (260 : Int32) else j151 (x25 >>> ((1 : Int32) &&& 31)) (256 : Int32))))))))))) xF (t6, (0 : Int32), v5)) (fun j7 => (if r4.1 < 0 then j7 (0 : Int32) else j7 (1 : Int32))))))
set_option maxHeartbeats 4000000 in
set_option maxRecDepth 100000 in
theorem c_L_types (l : Launch) (hst : l.stackTraces = false) (G : xGl) (sa q : Nat → Nat) (v : xSt) (p1 : Int32) {z : (Int32 × xSt)} (hf : m_L_types v p1 = some z) : mRS l yL_types (wM yL_types cL_types 11 (some .boolean)) { frames := 8, cells := 0, slots := 0, locals := 143 } G sa (eBC G) 430 q v [.ref (q 0), .int p1] (qZ z.1) z.2 0 0 := by
  refine xRSg (cc := cL_types) (maxL := 11) (ret := (some .boolean)) (by decide) rfl (Nat.le_of_ble_eq_true rfl) ?_
  intro p e s m below meth c ls A hC hr hlk h hT hl
  have hx := hC.1
  have hb := hC.2.1
  have hl : lv_has ls 11 [(0, .ref (q 0)), (1, .int p1)] := hl
  unfold m_L_types at hf
  obtain ⟨H, hH⟩ : ∃ H, H = s.heap := ⟨_, rfl⟩
  obtain ⟨locs, hlo⟩ : ∃ x : List Loc, x = [] := ⟨_, rfl⟩
  have h : hg G (eBC G) 430 q v A s H locs := by rw [hH, hlo]; exact h
  rw [← hlo, ← hH]
  clear hH hlo
  refine lv_iload_n hx hb dL_types_0 rfl (lv_at hl 1 rfl) ?_
  refine lv_iconst (v := (5 : Int32)) hx hb dL_types_1 (by decide) ?_
  obtain ⟨r1, hy2, hf⟩ := ob_e hf
  refine xiG h (va_runS (As := [.int p1, .int (5 : Int32)]) (rest := []) hC (c_L_low l G q v p1 (5 : Int32) hy2 H.size) (xcgS hC (fun _ h9 => wM_in h9) lk_L_113 in_L co_L_low st_L_low rfl rfl dd_L_low ⟨Nat.le_of_ble_eq_true rfl, Nat.le_of_ble_eq_true rfl⟩) (preSN h.o [.int p1, .int (5 : Int32)]) rfl rfl hl.1 rfl (lv_room (Nat.le_of_ble_eq_true rfl)) dL_types_2 ⟨Nat.le_of_ble_eq_true rfl, Nat.le_of_ble_eq_true rfl⟩) (fun H locs h => ?_)
  refine lv_istore_n (lv' := [(2, .int r1), (0, .ref (q 0)), (1, .int p1)]) hx hb dL_types_5 rfl hl (by decide) rfl (fun ls hl => ?_)
  refine lv_aload_n hx hb dL_types_6 rfl (lv_at hl 1 rfl) ?_
  obtain ⟨r4, hy3, hf⟩ := ob_e hf
  refine xi0 h (va_runV (As := []) (rest := []) hC (c_X8_clearBuffer l G q v hy3 H.size) (xcwV hC lk_L_128 in_X8 co_X8_clearBuffer im_X8_clearBuffer se_X8_clearBuffer rfl rfl dd_X8_clearBuffer ⟨Nat.le_of_ble_eq_true rfl, Nat.le_of_ble_eq_true rfl⟩) (preV0 h (Nat.le_of_ble_eq_true rfl) eBC_0 rfl []) rfl rfl hl.1 rfl (lv_room (Nat.le_of_ble_eq_true rfl)) dL_types_7 ⟨Nat.le_of_ble_eq_true rfl, Nat.le_of_ble_eq_true rfl⟩) (fun H locs h => ?_)
  obtain ⟨v5, ev5, hf⟩ := lt_e hf
  rw [← ev5] at h
  obtain ⟨j7, ej7, hf⟩ := lt_e hf
  have hj7 : ∀ (t6 : Int32) (H : Heap) (locs : List Loc), hg G (eBC G) 430 q v5 A s H locs → ∀ (ls : Array Slot), lv_has ls 11 [(0, .ref (q 0)), (1, .int p1), (2, .int r1)] → j7 t6 = some z → W p l e { frames := 8, cells := 0, slots := 0, locals := 143 } s m [.ref (q 0), .int p1].toArray below meth c H locs 0 0 (MQ below ((qZ z.1) (cB G (eBC G) 430 q z.2 A) A) [.ref (q 0), .int p1].toArray s 0 0 A) (F0 m 18 ls [.int t6]) := by
    intro t6 H locs h ls hl hf
    rw [ej7] at hf
    refine lv_istore_n (lv' := [(3, .int t6), (0, .ref (q 0)), (1, .int p1), (2, .int r1)]) hx hb dL_types_18 rfl hl (by decide) rfl (fun ls hl => ?_)
    refine lv_iconst (v := (0 : Int32)) hx hb dL_types_19 (by decide) ?_
    refine lv_istore (lv' := [(4, .int (0 : Int32)), (3, .int t6), (0, .ref (q 0)), (1, .int p1), (2, .int r1)]) hx hb dL_types_20 hl (by decide) rfl (fun ls hl => ?_)
    refine lp_i (z := z) (P := fun (pp : Int32 × Int32 × xSt) => ∀ (H : Heap) (locs : List Loc), hg G (eBC G) 430 q pp.2.2 A s H locs → ∀ (ls : Array Slot), lv_has ls 11 [(0, .ref (q 0)), (1, .int p1), (2, .int r1), (3, .int pp.1), (4, .int pp.2.1)] → W p l e { frames := 8, cells := 0, slots := 0, locals := 143 } s m [.ref (q 0), .int p1].toArray below meth c H locs 0 0 (MQ below ((qZ z.1) (cB G (eBC G) 430 q z.2 A) A) [.ref (q 0), .int p1].toArray s 0 0 A) (F0 m 22 ls [])) ?_ _ _ hf H locs h ls (lv_sub hl [2, 3, 4, 1, 0] rfl)
    intro rec11 hrec11 pp hf H locs h ls hl
    obtain ⟨a8, a9, v10⟩ := pp
    have h : hg G (eBC G) 430 q v10 A s H locs := h
    have hl : lv_has ls 11 [(0, .ref (q 0)), (1, .int p1), (2, .int r1), (3, .int a8), (4, .int a9)] := hl
    have hf := un3_e hf
    refine lv_iload hx hb dL_types_22 (lv_at hl 4 rfl) ?_
    refine lv_iload_n hx hb dL_types_24 rfl (lv_at hl 2 rfl) ?_
    refine lv_icmp_ge (tgt := 436) hx hb dL_types_25 (by decide) (fun c12 => ?_) (fun c12 => ?_)
    · have hf := it_t c12 hf
      refine lv_iload_n hx hb dL_types_436 rfl (lv_at hl 3 rfl) ?_
      obtain ⟨j14, ej14, hf⟩ := lt_e hf
      have hj14 : ∀ (v13 : xSt) (H : Heap) (locs : List Loc), hg G (eBC G) 430 q v13 A s H locs → ∀ (ls : Array Slot), lv_has ls 11 [] → j14 v13 = some z → W p l e { frames := 8, cells := 0, slots := 0, locals := 143 } s m [.ref (q 0), .int p1].toArray below meth c H locs 0 0 (MQ below ((qZ z.1) (cB G (eBC G) 430 q z.2 A) A) [.ref (q 0), .int p1].toArray s 0 0 A) (F0 m 465 ls []) := by
        intro v13 H locs h ls hl hf
        rw [ej14] at hf
        refine lv_iconst (v := (0 : Int32)) hx hb dL_types_465 (by decide) ?_
        have hf := sm_e hf
        exact xzretc hC hr hlk h (by rw [← hf]) (by decide) (by rw [← hf]) dL_types_466
      refine lv_if_eq (tgt := 465) hx hb dL_types_437 (by decide) (fun c15 => ?_) (fun c15 => ?_)
      · have hf := it_t c15 hf
        exact hj14 v10 H locs h ls (lv_sub hl [] rfl) hf
      · have hf := it_f c15 hf
        refine lv_iload_n hx hb dL_types_440 rfl (lv_at hl 1 rfl) ?_
        refine lv_bipush (v := (26 : Int32)) hx hb dL_types_441 (by decide) ?_
        refine lv_ishr hx hb dL_types_443 ?_
        refine lv_bipush (v := (6 : Int32)) hx hb dL_types_444 (by decide) ?_
        obtain ⟨r16, hy17, hf⟩ := ob_e hf
        refine xiG h (va_runS (As := [.int (p1 >>> ((26 : Int32) &&& 31)), .int (6 : Int32)]) (rest := []) hC (c_L_low l G q v10 (p1 >>> ((26 : Int32) &&& 31)) (6 : Int32) hy17 H.size) (xcgS hC (fun _ h9 => wM_in h9) lk_L_113 in_L co_L_low st_L_low rfl rfl dd_L_low ⟨Nat.le_of_ble_eq_true rfl, Nat.le_of_ble_eq_true rfl⟩) (preSN h.o [.int (p1 >>> ((26 : Int32) &&& 31)), .int (6 : Int32)]) rfl rfl hl.1 rfl (lv_room (Nat.le_of_ble_eq_true rfl)) dL_types_446 ⟨Nat.le_of_ble_eq_true rfl, Nat.le_of_ble_eq_true rfl⟩) (fun H locs h => ?_)
        obtain ⟨j19, ej19, hf⟩ := lt_e hf
        have hj19 : ∀ (v18 : xSt) (H : Heap) (locs : List Loc), hg G (eBC G) 430 q v18 A s H locs → ∀ (ls : Array Slot), lv_has ls 11 [] → j19 v18 = some z → W p l e { frames := 8, cells := 0, slots := 0, locals := 143 } s m [.ref (q 0), .int p1].toArray below meth c H locs 0 0 (MQ below ((qZ z.1) (cB G (eBC G) 430 q z.2 A) A) [.ref (q 0), .int p1].toArray s 0 0 A) (F0 m 461 ls []) := by
          intro v18 H locs h ls hl hf
          rw [ej19] at hf
          refine lv_iconst (v := (1 : Int32)) hx hb dL_types_461 (by decide) ?_
          refine lv_goto (tgt := 466) hx hb dL_types_462 (by decide) ?_
          have hf := sm_e hf
          exact xzretc hC hr hlk h (by rw [← hf]) (by decide) (by rw [← hf]) dL_types_466
        refine lv_if_gt (tgt := 461) hx hb dL_types_449 (by decide) (fun c20 => ?_) (fun c20 => ?_)
        · have hf := it_t c20 hf
          exact hj19 v10 H locs h ls (lv_sub hl [] rfl) hf
        · have hf := it_f c20 hf
          refine lv_aload_n hx hb dL_types_452 rfl (lv_at hl 0 rfl) ?_
          refine lv_bipush (v := (59 : Int32)) hx hb dL_types_453 (by decide) ?_
          obtain ⟨r21, hy22, hf⟩ := ob_e hf
          refine xi0c h (vx_runSW (As := [.ref (q 0), .int (59 : Int32)]) (rest := []) hC (c_L_append_q l G sa q v10 (59 : Int32) hy22 H.size) (xcgSW hC (fun _ h9 => wM_in h9) lk_L_131 in_L co_L_append st_L_append rfl rfl dd_L_append ⟨Nat.le_of_ble_eq_true rfl, Nat.le_of_ble_eq_true rfl⟩) (preS0T h hT [.ref (q 0), .int (59 : Int32)]) rfl rfl hl.1 rfl (lv_room (Nat.le_of_ble_eq_true rfl)) dL_types_455 ⟨Nat.le_of_ble_eq_true rfl, Nat.le_of_ble_eq_true rfl⟩) (fun H locs h => ?_)
          refine W.widen (k := 0) (n := 0) (by omega) (by omega) ?_
          obtain ⟨v23, ev23, hf⟩ := lt_e hf
          rw [← ev23] at h
          refine lv_if_le (tgt := 465) hx hb dL_types_458 (by decide) (fun c24 => ?_) (fun c24 => ?_)
          · have hf := it_t c24 hf
            exact hj14 v23 H locs h ls (lv_sub hl [] rfl) hf
          · have hf := it_f c24 hf
            exact hj19 v23 H locs h ls (lv_sub hl [] rfl) hf
    · have hf := it_f c12 hf
      refine lv_iload_n hx hb dL_types_28 rfl (lv_at hl 1 rfl) ?_
      refine lv_iconst (v := (3 : Int32)) hx hb dL_types_29 (by decide) ?_
      refine lv_iconst (v := (4 : Int32)) hx hb dL_types_30 (by decide) ?_
      refine lv_iload hx hb dL_types_31 (lv_at hl 4 rfl) ?_
      refine lv_imul hx hb dL_types_33 ?_
      refine lv_iadd hx hb dL_types_34 ?_
      refine lv_ishr hx hb dL_types_35 ?_
      obtain ⟨x25, ex25, hf⟩ := lt_e hf
      refine lv_nm ex25 ?_
      refine lv_istore (lv' := [(5, .int x25), (0, .ref (q 0)), (1, .int p1), (2, .int r1), (3, .int a8), (4, .int a9)]) hx hb dL_types_36 hl (by decide) rfl (fun ls hl => ?_)
      refine lv_iload hx hb dL_types_38 (lv_at hl 0 rfl) ?_
      refine lv_bipush (v := (7 : Int32)) hx hb dL_types_40 (by decide) ?_
      obtain ⟨r26, hy27, hf⟩ := ob_e hf
      refine xiG h (va_runS (As := [.int x25, .int (7 : Int32)]) (rest := []) hC (c_L_low l G q v10 x25 (7 : Int32) hy27 H.size) (xcgS hC (fun _ h9 => wM_in h9) lk_L_113 in_L co_L_low st_L_low rfl rfl dd_L_low ⟨Nat.le_of_ble_eq_true rfl, Nat.le_of_ble_eq_true rfl⟩) (preSN h.o [.int x25, .int (7 : Int32)]) rfl rfl hl.1 rfl (lv_room (Nat.le_of_ble_eq_true rfl)) dL_types_42 ⟨Nat.le_of_ble_eq_true rfl, Nat.le_of_ble_eq_true rfl⟩) (fun H locs h => ?_)
      refine lv_istore (lv' := [(6, .int r26), (5, .int x25), (0, .ref (q 0)), (1, .int p1), (2, .int r1), (3, .int a8), (4, .int a9)]) hx hb dL_types_45 hl (by decide) rfl (fun ls hl => ?_)
      refine lv_iload hx hb dL_types_47 (lv_at hl 0 rfl) ?_
      refine lv_iconst (v := (3 : Int32)) hx hb dL_types_49 (by decide) ?_
      obtain ⟨j29, ej29, hf⟩ := lt_e hf
      have hj29 : ∀ (t28 : Int32) (H : Heap) (locs : List Loc), hg G (eBC G) 430 q v10 A s H locs → ∀ (ls : Array Slot), lv_has ls 11 [(0, .ref (q 0)), (1, .int p1), (2, .int r1), (3, .int a8), (4, .int a9), (5, .int x25), (6, .int r26)] → j29 t28 = some z → W p l e { frames := 8, cells := 0, slots := 0, locals := 143 } s m [.ref (q 0), .int p1].toArray below meth c H locs 0 0 (MQ below ((qZ z.1) (cB G (eBC G) 430 q z.2 A) A) [.ref (q 0), .int p1].toArray s 0 0 A) (F0 m 147 ls [.int t28]) := by
        intro t28 H locs h ls hl hf
        rw [ej29] at hf
        refine lv_istore (lv' := [(7, .int t28), (0, .ref (q 0)), (1, .int p1), (2, .int r1), (3, .int a8), (4, .int a9), (5, .int x25), (6, .int r26)]) hx hb dL_types_147 hl (by decide) rfl (fun ls hl => ?_)
        refine lv_iload_n hx hb dL_types_149 rfl (lv_at hl 4 rfl) ?_
        obtain ⟨j32, ej32, hf⟩ := lt_e hf
        have hj32 : ∀ (t30 : Int32) (v31 : xSt) (H : Heap) (locs : List Loc), hg G (eBC G) 430 q v31 A s H locs → ∀ (ls : Array Slot), lv_has ls 11 [(0, .ref (q 0)), (1, .int p1), (2, .int r1), (4, .int a9), (5, .int x25), (6, .int r26)] → j32 t30 v31 = some z → W p l e { frames := 8, cells := 0, slots := 0, locals := 143 } s m [.ref (q 0), .int p1].toArray below meth c H locs 0 0 (MQ below ((qZ z.1) (cB G (eBC G) 430 q z.2 A) A) [.ref (q 0), .int p1].toArray s 0 0 A) (F0 m 265 ls [.int t30]) := by
          intro t30 v31 H locs h ls hl hf
          rw [ej32] at hf
          refine lv_istore_n (lv' := [(3, .int t30), (0, .ref (q 0)), (1, .int p1), (2, .int r1), (4, .int a9), (5, .int x25), (6, .int r26)]) hx hb dL_types_265 rfl hl (by decide) rfl (fun ls hl => ?_)
          refine lv_iload hx hb dL_types_266 (lv_at hl 6 rfl) ?_
          refine lv_iconst (v := (3 : Int32)) hx hb dL_types_268 (by decide) ?_
          obtain ⟨j35, ej35, hf⟩ := lt_e hf
          have hj35 : ∀ (a33 : Int32) (v34 : xSt) (H : Heap) (locs : List Loc), hg G (eBC G) 430 q v34 A s H locs → ∀ (ls : Array Slot), lv_has ls 11 [(0, .ref (q 0)), (1, .int p1), (2, .int r1), (3, .int a33), (4, .int a9), (5, .int x25), (6, .int r26)] → j35 a33 v34 = some z → W p l e { frames := 8, cells := 0, slots := 0, locals := 143 } s m [.ref (q 0), .int p1].toArray below meth c H locs 0 0 (MQ below ((qZ z.1) (cB G (eBC G) 430 q z.2 A) A) [.ref (q 0), .int p1].toArray s 0 0 A) (F0 m 373 ls []) := by
            intro a33 v34 H locs h ls hl hf
            rw [ej35] at hf
            refine lv_iload hx hb dL_types_373 (lv_at hl 6 rfl) ?_
            refine lv_iconst (v := (5 : Int32)) hx hb dL_types_375 (by decide) ?_
            obtain ⟨j38, ej38, hf⟩ := lt_e hf
            have hj38 : ∀ (a36 : Int32) (v37 : xSt) (H : Heap) (locs : List Loc), hg G (eBC G) 430 q v37 A s H locs → ∀ (ls : Array Slot), lv_has ls 11 [(0, .ref (q 0)), (1, .int p1), (2, .int r1), (3, .int a36), (4, .int a9)] → j38 a36 v37 = some z → W p l e { frames := 8, cells := 0, slots := 0, locals := 143 } s m [.ref (q 0), .int p1].toArray below meth c H locs 0 0 (MQ below ((qZ z.1) (cB G (eBC G) 430 q z.2 A) A) [.ref (q 0), .int p1].toArray s 0 0 A) (F0 m 430 ls []) := by
              intro a36 v37 H locs h ls hl hf
              rw [ej38] at hf
              refine lv_iinc (v := (a9 + 1)) (lv' := [(4, .int (a9 + 1)), (0, .ref (q 0)), (1, .int p1), (2, .int r1), (3, .int a36)]) hx hb dL_types_430 hl (k := 4) rfl rfl (by decide) rfl (fun ls hl => ?_)
              refine lv_goto (tgt := 22) hx hb dL_types_433 (by decide) ?_
              exact hrec11 (a36, (a9 + 1), v37) hf H locs h ls (lv_sub hl [1, 2, 3, 4, 0] rfl)
            refine lv_icmp_ge (tgt := 430) hx hb dL_types_376 (by decide) (fun c39 => ?_) (fun c39 => ?_)
            · have hf := it_t c39 hf
              exact hj38 a33 v34 H locs h ls (lv_sub hl [0, 1, 2, 3, 4] rfl) hf
            · have hf := it_f c39 hf
              refine lv_iload hx hb dL_types_379 (lv_at hl 5 rfl) ?_
              refine lv_bipush (v := (6 : Int32)) hx hb dL_types_381 (by decide) ?_
              refine lv_ishr hx hb dL_types_383 ?_
              refine lv_iconst (v := (2 : Int32)) hx hb dL_types_384 (by decide) ?_
              obtain ⟨r40, hy41, hf⟩ := ob_e hf
              refine xiG h (va_runS (As := [.int (x25 >>> ((6 : Int32) &&& 31)), .int (2 : Int32)]) (rest := []) hC (c_L_low l G q v34 (x25 >>> ((6 : Int32) &&& 31)) (2 : Int32) hy41 H.size) (xcgS hC (fun _ h9 => wM_in h9) lk_L_113 in_L co_L_low st_L_low rfl rfl dd_L_low ⟨Nat.le_of_ble_eq_true rfl, Nat.le_of_ble_eq_true rfl⟩) (preSN h.o [.int (x25 >>> ((6 : Int32) &&& 31)), .int (2 : Int32)]) rfl rfl hl.1 rfl (lv_room (Nat.le_of_ble_eq_true rfl)) dL_types_385 ⟨Nat.le_of_ble_eq_true rfl, Nat.le_of_ble_eq_true rfl⟩) (fun H locs h => ?_)
              refine lv_if_ne (tgt := 430) hx hb dL_types_388 (by decide) (fun c42 => ?_) (fun c42 => ?_)
              · have hf := it_f c42 hf
                exact hj38 a33 v34 H locs h ls (lv_sub hl [0, 1, 2, 3, 4] rfl) hf
              · have hf := it_t c42 hf
                refine lv_iload_n hx hb dL_types_391 rfl (lv_at hl 3 rfl) ?_
                obtain ⟨j45, ej45, hf⟩ := lt_e hf
                have hj45 : ∀ (t43 : Int32) (v44 : xSt) (H : Heap) (locs : List Loc), hg G (eBC G) 430 q v44 A s H locs → ∀ (ls : Array Slot), lv_has ls 11 [(0, .ref (q 0)), (1, .int p1), (2, .int r1), (4, .int a9)] → j45 t43 v44 = some z → W p l e { frames := 8, cells := 0, slots := 0, locals := 143 } s m [.ref (q 0), .int p1].toArray below meth c H locs 0 0 (MQ below ((qZ z.1) (cB G (eBC G) 430 q z.2 A) A) [.ref (q 0), .int p1].toArray s 0 0 A) (F0 m 429 ls [.int t43]) := by
                  intro t43 v44 H locs h ls hl hf
                  rw [ej45] at hf
                  refine lv_istore_n (lv' := [(3, .int t43), (0, .ref (q 0)), (1, .int p1), (2, .int r1), (4, .int a9)]) hx hb dL_types_429 rfl hl (by decide) rfl (fun ls hl => ?_)
                  exact hj38 t43 v44 H locs h ls (lv_sub hl [1, 2, 3, 0, 4] rfl) hf
                obtain ⟨j47, ej47, hf⟩ := lt_e hf
                have hj47 : ∀ (v46 : xSt) (H : Heap) (locs : List Loc), hg G (eBC G) 430 q v46 A s H locs → ∀ (ls : Array Slot), lv_has ls 11 [(0, .ref (q 0)), (1, .int p1), (2, .int r1), (4, .int a9)] → j47 v46 = some z → W p l e { frames := 8, cells := 0, slots := 0, locals := 143 } s m [.ref (q 0), .int p1].toArray below meth c H locs 0 0 (MQ below ((qZ z.1) (cB G (eBC G) 430 q z.2 A) A) [.ref (q 0), .int p1].toArray s 0 0 A) (F0 m 428 ls []) := by
                  intro v46 H locs h ls hl hf
                  rw [ej47] at hf
                  refine lv_iconst (v := (0 : Int32)) hx hb dL_types_428 (by decide) ?_
                  exact hj45 (0 : Int32) v46 H locs h ls (lv_sub hl [0, 1, 2, 3] rfl) hf
                refine lv_if_eq (tgt := 428) hx hb dL_types_392 (by decide) (fun c48 => ?_) (fun c48 => ?_)
                · have hf := it_t c48 hf
                  exact hj47 v34 H locs h ls (lv_sub hl [0, 1, 2, 4] rfl) hf
                · have hf := it_f c48 hf
                  refine lv_aload_n hx hb dL_types_395 rfl (lv_at hl 0 rfl) ?_
                  refine lv_bipush (v := (33 : Int32)) hx hb dL_types_396 (by decide) ?_
                  obtain ⟨r49, hy50, hf⟩ := ob_e hf
                  refine xi0c h (vx_runSW (As := [.ref (q 0), .int (33 : Int32)]) (rest := []) hC (c_L_append_q l G sa q v34 (33 : Int32) hy50 H.size) (xcgSW hC (fun _ h9 => wM_in h9) lk_L_131 in_L co_L_append st_L_append rfl rfl dd_L_append ⟨Nat.le_of_ble_eq_true rfl, Nat.le_of_ble_eq_true rfl⟩) (preS0T h hT [.ref (q 0), .int (33 : Int32)]) rfl rfl hl.1 rfl (lv_room (Nat.le_of_ble_eq_true rfl)) dL_types_398 ⟨Nat.le_of_ble_eq_true rfl, Nat.le_of_ble_eq_true rfl⟩) (fun H locs h => ?_)
                  refine W.widen (k := 0) (n := 0) (by omega) (by omega) ?_
                  obtain ⟨v51, ev51, hf⟩ := lt_e hf
                  rw [← ev51] at h
                  refine lv_if_le (tgt := 428) hx hb dL_types_401 (by decide) (fun c52 => ?_) (fun c52 => ?_)
                  · have hf := it_t c52 hf
                    exact hj47 v51 H locs h ls (lv_sub hl [0, 1, 2, 4] rfl) hf
                  · have hf := it_f c52 hf
                    refine lv_aload_n hx hb dL_types_404 rfl (lv_at hl 0 rfl) ?_
                    refine lv_bipush (v := (48 : Int32)) hx hb dL_types_405 (by decide) ?_
                    refine lv_iload hx hb dL_types_407 (lv_at hl 5 rfl) ?_
                    refine lv_bipush (v := (7 : Int32)) hx hb dL_types_409 (by decide) ?_
                    refine lv_ishr hx hb dL_types_411 ?_
                    refine lv_bipush (v := (10 : Int32)) hx hb dL_types_412 (by decide) ?_
                    obtain ⟨r53, hy54, hf⟩ := ob_e hf
                    refine xiG h (va_runS (As := [.int (x25 >>> ((7 : Int32) &&& 31)), .int (10 : Int32)]) (rest := [.int (48 : Int32), .ref (q 0)]) hC (c_L_low l G q v51 (x25 >>> ((7 : Int32) &&& 31)) (10 : Int32) hy54 H.size) (xcgS hC (fun _ h9 => wM_in h9) lk_L_113 in_L co_L_low st_L_low rfl rfl dd_L_low ⟨Nat.le_of_ble_eq_true rfl, Nat.le_of_ble_eq_true rfl⟩) (preSN h.o [.int (x25 >>> ((7 : Int32) &&& 31)), .int (10 : Int32)]) rfl rfl hl.1 rfl (lv_room (Nat.le_of_ble_eq_true rfl)) dL_types_414 ⟨Nat.le_of_ble_eq_true rfl, Nat.le_of_ble_eq_true rfl⟩) (fun H locs h => ?_)
                    refine lv_iadd hx hb dL_types_417 ?_
                    obtain ⟨r55, hy56, hf⟩ := ob_e hf
                    refine xi0c h (vx_runSW (As := [.ref (q 0), .int ((48 : Int32) + r53)]) (rest := []) hC (c_L_append_q l G sa q v51 ((48 : Int32) + r53) hy56 H.size) (xcgSW hC (fun _ h9 => wM_in h9) lk_L_131 in_L co_L_append st_L_append rfl rfl dd_L_append ⟨Nat.le_of_ble_eq_true rfl, Nat.le_of_ble_eq_true rfl⟩) (preS0T h hT [.ref (q 0), .int ((48 : Int32) + r53)]) rfl rfl hl.1 rfl (lv_room (Nat.le_of_ble_eq_true rfl)) dL_types_418 ⟨Nat.le_of_ble_eq_true rfl, Nat.le_of_ble_eq_true rfl⟩) (fun H locs h => ?_)
                    refine W.widen (k := 0) (n := 0) (by omega) (by omega) ?_
                    obtain ⟨v57, ev57, hf⟩ := lt_e hf
                    rw [← ev57] at h
                    refine lv_if_le (tgt := 428) hx hb dL_types_421 (by decide) (fun c58 => ?_) (fun c58 => ?_)
                    · have hf := it_t c58 hf
                      exact hj47 v57 H locs h ls (lv_sub hl [0, 1, 2, 4] rfl) hf
                    · have hf := it_f c58 hf
                      refine lv_iconst (v := (1 : Int32)) hx hb dL_types_424 (by decide) ?_
                      refine lv_goto (tgt := 429) hx hb dL_types_425 (by decide) ?_
                      exact hj45 (1 : Int32) v57 H locs h ls (lv_sub hl [0, 1, 2, 4] rfl) hf
          refine lv_icmp_ge (tgt := 373) hx hb dL_types_269 (by decide) (fun c59 => ?_) (fun c59 => ?_)
          · have hf := it_t c59 hf
            exact hj35 t30 v31 H locs h ls (lv_sub hl [1, 2, 3, 0, 4, 5, 6] rfl) hf
          · have hf := it_f c59 hf
            refine lv_iconst (v := (2 : Int32)) hx hb dL_types_272 (by decide) ?_
            refine lv_iconst (v := (2 : Int32)) hx hb dL_types_273 (by decide) ?_
            refine lv_iload hx hb dL_types_274 (lv_at hl 5 rfl) ?_
            refine lv_iconst (v := (4 : Int32)) hx hb dL_types_276 (by decide) ?_
            refine lv_ishr hx hb dL_types_277 ?_
            refine lv_iconst (v := (2 : Int32)) hx hb dL_types_278 (by decide) ?_
            obtain ⟨r60, hy61, hf⟩ := ob_e hf
            refine xiG h (va_runS (As := [.int (x25 >>> ((4 : Int32) &&& 31)), .int (2 : Int32)]) (rest := [.int (2 : Int32), .int (2 : Int32)]) hC (c_L_low l G q v31 (x25 >>> ((4 : Int32) &&& 31)) (2 : Int32) hy61 H.size) (xcgS hC (fun _ h9 => wM_in h9) lk_L_113 in_L co_L_low st_L_low rfl rfl dd_L_low ⟨Nat.le_of_ble_eq_true rfl, Nat.le_of_ble_eq_true rfl⟩) (preSN h.o [.int (x25 >>> ((4 : Int32) &&& 31)), .int (2 : Int32)]) rfl rfl hl.1 rfl (lv_room (Nat.le_of_ble_eq_true rfl)) dL_types_279 ⟨Nat.le_of_ble_eq_true rfl, Nat.le_of_ble_eq_true rfl⟩) (fun H locs h => ?_)
            refine lv_imul hx hb dL_types_282 ?_
            refine lv_iadd hx hb dL_types_283 ?_
            refine lv_istore (lv' := [(8, .int ((2 : Int32) + ((2 : Int32) * r60))), (3, .int t30), (0, .ref (q 0)), (1, .int p1), (2, .int r1), (4, .int a9), (5, .int x25), (6, .int r26)]) hx hb dL_types_284 hl (by decide) rfl (fun ls hl => ?_)
            refine lv_iload_n hx hb dL_types_286 rfl (lv_at hl 1 rfl) ?_
            obtain ⟨j64, ej64, hf⟩ := lt_e hf
            have hj64 : ∀ (t62 : Int32) (v63 : xSt) (H : Heap) (locs : List Loc), hg G (eBC G) 430 q v63 A s H locs → ∀ (ls : Array Slot), lv_has ls 11 [(0, .ref (q 0)), (1, .int p1), (2, .int r1), (4, .int a9), (5, .int x25), (6, .int r26), (8, .int ((2 : Int32) + ((2 : Int32) * r60)))] → j64 t62 v63 = some z → W p l e { frames := 8, cells := 0, slots := 0, locals := 143 } s m [.ref (q 0), .int p1].toArray below meth c H locs 0 0 (MQ below ((qZ z.1) (cB G (eBC G) 430 q z.2 A) A) [.ref (q 0), .int p1].toArray s 0 0 A) (F0 m 304 ls [.int t62]) := by
              intro t62 v63 H locs h ls hl hf
              rw [ej64] at hf
              refine lv_istore_n (lv' := [(3, .int t62), (0, .ref (q 0)), (1, .int p1), (2, .int r1), (4, .int a9), (5, .int x25), (6, .int r26), (8, .int ((2 : Int32) + ((2 : Int32) * r60)))]) hx hb dL_types_304 rfl hl (by decide) rfl (fun ls hl => ?_)
              refine lv_iconst (v := (0 : Int32)) hx hb dL_types_305 (by decide) ?_
              refine lv_istore (lv' := [(9, .int (0 : Int32)), (3, .int t62), (0, .ref (q 0)), (1, .int p1), (2, .int r1), (4, .int a9), (5, .int x25), (6, .int r26), (8, .int ((2 : Int32) + ((2 : Int32) * r60)))]) hx hb dL_types_306 hl (by decide) rfl (fun ls hl => ?_)
              refine lp_i (z := z) (P := fun (pp : Int32 × Int32 × xSt) => ∀ (H : Heap) (locs : List Loc), hg G (eBC G) 430 q pp.2.2 A s H locs → ∀ (ls : Array Slot), lv_has ls 11 [(0, .ref (q 0)), (1, .int p1), (2, .int r1), (3, .int pp.1), (4, .int a9), (5, .int x25), (6, .int r26), (8, .int ((2 : Int32) + ((2 : Int32) * r60))), (9, .int pp.2.1)] → W p l e { frames := 8, cells := 0, slots := 0, locals := 143 } s m [.ref (q 0), .int p1].toArray below meth c H locs 0 0 (MQ below ((qZ z.1) (cB G (eBC G) 430 q z.2 A) A) [.ref (q 0), .int p1].toArray s 0 0 A) (F0 m 308 ls [])) ?_ _ _ hf H locs h ls (lv_sub hl [2, 3, 4, 1, 5, 6, 7, 8, 0] rfl)
              intro rec68 hrec68 pp hf H locs h ls hl
              obtain ⟨a65, a66, v67⟩ := pp
              have h : hg G (eBC G) 430 q v67 A s H locs := h
              have hl : lv_has ls 11 [(0, .ref (q 0)), (1, .int p1), (2, .int r1), (3, .int a65), (4, .int a9), (5, .int x25), (6, .int r26), (8, .int ((2 : Int32) + ((2 : Int32) * r60))), (9, .int a66)] := hl
              have hf := un3_e hf
              refine lv_iload hx hb dL_types_308 (lv_at hl 8 rfl) ?_
              refine lv_iload hx hb dL_types_310 (lv_at hl 7 rfl) ?_
              refine lv_icmp_ge (tgt := 373) hx hb dL_types_312 (by decide) (fun c69 => ?_) (fun c69 => ?_)
              · have hf := it_t c69 hf
                exact hj35 a65 v67 H locs h ls (lv_sub hl [0, 1, 2, 3, 4, 5, 6] rfl) hf
              · have hf := it_f c69 hf
                refine lv_iload hx hb dL_types_315 (lv_at hl 5 rfl) ?_
                refine lv_iload hx hb dL_types_317 (lv_at hl 8 rfl) ?_
                refine lv_ishr hx hb dL_types_319 ?_
                refine lv_bipush (v := (16 : Int32)) hx hb dL_types_320 (by decide) ?_
                obtain ⟨r70, hy71, hf⟩ := ob_e hf
                refine xiG h (va_runS (As := [.int (x25 >>> (a66 &&& 31)), .int (16 : Int32)]) (rest := []) hC (c_L_low l G q v67 (x25 >>> (a66 &&& 31)) (16 : Int32) hy71 H.size) (xcgS hC (fun _ h9 => wM_in h9) lk_L_113 in_L co_L_low st_L_low rfl rfl dd_L_low ⟨Nat.le_of_ble_eq_true rfl, Nat.le_of_ble_eq_true rfl⟩) (preSN h.o [.int (x25 >>> (a66 &&& 31)), .int (16 : Int32)]) rfl rfl hl.1 rfl (lv_room (Nat.le_of_ble_eq_true rfl)) dL_types_322 ⟨Nat.le_of_ble_eq_true rfl, Nat.le_of_ble_eq_true rfl⟩) (fun H locs h => ?_)
                refine lv_istore (lv' := [(10, .int r70), (0, .ref (q 0)), (1, .int p1), (2, .int r1), (3, .int a65), (4, .int a9), (5, .int x25), (6, .int r26), (8, .int ((2 : Int32) + ((2 : Int32) * r60))), (9, .int a66)]) hx hb dL_types_325 hl (by decide) rfl (fun ls hl => ?_)
                refine lv_iload_n hx hb dL_types_327 rfl (lv_at hl 4 rfl) ?_
                obtain ⟨j74, ej74, hf⟩ := lt_e hf
                have hj74 : ∀ (t72 : Int32) (v73 : xSt) (H : Heap) (locs : List Loc), hg G (eBC G) 430 q v73 A s H locs → ∀ (ls : Array Slot), lv_has ls 11 [(0, .ref (q 0)), (1, .int p1), (2, .int r1), (4, .int a9), (5, .int x25), (6, .int r26), (8, .int ((2 : Int32) + ((2 : Int32) * r60))), (9, .int a66)] → j74 t72 v73 = some z → W p l e { frames := 8, cells := 0, slots := 0, locals := 143 } s m [.ref (q 0), .int p1].toArray below meth c H locs 0 0 (MQ below ((qZ z.1) (cB G (eBC G) 430 q z.2 A) A) [.ref (q 0), .int p1].toArray s 0 0 A) (F0 m 366 ls [.int t72]) := by
                  intro t72 v73 H locs h ls hl hf
                  rw [ej74] at hf
                  refine lv_istore_n (lv' := [(3, .int t72), (0, .ref (q 0)), (1, .int p1), (2, .int r1), (4, .int a9), (5, .int x25), (6, .int r26), (8, .int ((2 : Int32) + ((2 : Int32) * r60))), (9, .int a66)]) hx hb dL_types_366 rfl hl (by decide) rfl (fun ls hl => ?_)
                  refine lv_iinc (v := (a66 + 1)) (lv' := [(9, .int (a66 + 1)), (3, .int t72), (0, .ref (q 0)), (1, .int p1), (2, .int r1), (4, .int a9), (5, .int x25), (6, .int r26), (8, .int ((2 : Int32) + ((2 : Int32) * r60)))]) hx hb dL_types_367 hl (k := 8) rfl rfl (by decide) rfl (fun ls hl => ?_)
                  refine lv_goto (tgt := 308) hx hb dL_types_370 (by decide) ?_
                  exact hrec68 (t72, (a66 + 1), v73) hf H locs h ls (lv_sub hl [2, 3, 4, 1, 5, 6, 7, 8, 0] rfl)
                obtain ⟨j76, ej76, hf⟩ := lt_e hf
                have hj76 : ∀ (v75 : xSt) (H : Heap) (locs : List Loc), hg G (eBC G) 430 q v75 A s H locs → ∀ (ls : Array Slot), lv_has ls 11 [(0, .ref (q 0)), (1, .int p1), (2, .int r1), (4, .int a9), (5, .int x25), (6, .int r26), (8, .int ((2 : Int32) + ((2 : Int32) * r60))), (9, .int a66)] → j76 v75 = some z → W p l e { frames := 8, cells := 0, slots := 0, locals := 143 } s m [.ref (q 0), .int p1].toArray below meth c H locs 0 0 (MQ below ((qZ z.1) (cB G (eBC G) 430 q z.2 A) A) [.ref (q 0), .int p1].toArray s 0 0 A) (F0 m 365 ls []) := by
                  intro v75 H locs h ls hl hf
                  rw [ej76] at hf
                  refine lv_iconst (v := (0 : Int32)) hx hb dL_types_365 (by decide) ?_
                  exact hj74 (0 : Int32) v75 H locs h ls (lv_sub hl [0, 1, 2, 3, 4, 5, 6, 7] rfl) hf
                refine lv_if_eq (tgt := 365) hx hb dL_types_328 (by decide) (fun c77 => ?_) (fun c77 => ?_)
                · have hf := it_t c77 hf
                  exact hj76 v67 H locs h ls (lv_sub hl [1, 2, 3, 5, 6, 7, 8, 9] rfl) hf
                · have hf := it_f c77 hf
                  refine lv_aload_n hx hb dL_types_331 rfl (lv_at hl 1 rfl) ?_
                  refine lv_iload hx hb dL_types_332 (lv_at hl 0 rfl) ?_
                  refine lv_bipush (v := (10 : Int32)) hx hb dL_types_334 (by decide) ?_
                  obtain ⟨j79, ej79, hf⟩ := lt_e hf
                  have hj79 : ∀ (t78 : Int32) (H : Heap) (locs : List Loc), hg G (eBC G) 430 q v67 A s H locs → ∀ (ls : Array Slot), lv_has ls 11 [(0, .ref (q 0)), (1, .int p1), (2, .int r1), (4, .int a9), (5, .int x25), (6, .int r26), (8, .int ((2 : Int32) + ((2 : Int32) * r60))), (9, .int a66)] → j79 t78 = some z → W p l e { frames := 8, cells := 0, slots := 0, locals := 143 } s m [.ref (q 0), .int p1].toArray below meth c H locs 0 0 (MQ below ((qZ z.1) (cB G (eBC G) 430 q z.2 A) A) [.ref (q 0), .int p1].toArray s 0 0 A) (F0 m 355 ls [.int t78, .ref (q 0)]) := by
                    intro t78 H locs h ls hl hf
                    rw [ej79] at hf
                    obtain ⟨r80, hy81, hf⟩ := ob_e hf
                    refine xi0c h (vx_runSW (As := [.ref (q 0), .int t78]) (rest := []) hC (c_L_append_q l G sa q v67 t78 hy81 H.size) (xcgSW hC (fun _ h9 => wM_in h9) lk_L_131 in_L co_L_append st_L_append rfl rfl dd_L_append ⟨Nat.le_of_ble_eq_true rfl, Nat.le_of_ble_eq_true rfl⟩) (preS0T h hT [.ref (q 0), .int t78]) rfl rfl hl.1 rfl (lv_room (Nat.le_of_ble_eq_true rfl)) dL_types_355 ⟨Nat.le_of_ble_eq_true rfl, Nat.le_of_ble_eq_true rfl⟩) (fun H locs h => ?_)
                    refine W.widen (k := 0) (n := 0) (by omega) (by omega) ?_
                    obtain ⟨v82, ev82, hf⟩ := lt_e hf
                    rw [← ev82] at h
                    refine lv_if_le (tgt := 365) hx hb dL_types_358 (by decide) (fun c83 => ?_) (fun c83 => ?_)
                    · have hf := it_t c83 hf
                      exact hj76 v82 H locs h ls (lv_sub hl [0, 1, 2, 3, 4, 5, 6, 7] rfl) hf
                    · have hf := it_f c83 hf
                      refine lv_iconst (v := (1 : Int32)) hx hb dL_types_361 (by decide) ?_
                      refine lv_goto (tgt := 366) hx hb dL_types_362 (by decide) ?_
                      exact hj74 (1 : Int32) v82 H locs h ls (lv_sub hl [0, 1, 2, 3, 4, 5, 6, 7] rfl) hf
                  refine lv_icmp_ge (tgt := 347) hx hb dL_types_336 (by decide) (fun c84 => ?_) (fun c84 => ?_)
                  · have hf := it_t c84 hf
                    refine lv_bipush (v := (97 : Int32)) hx hb dL_types_347 (by decide) ?_
                    refine lv_iload hx hb dL_types_349 (lv_at hl 0 rfl) ?_
                    refine lv_iadd hx hb dL_types_351 ?_
                    refine lv_bipush (v := (10 : Int32)) hx hb dL_types_352 (by decide) ?_
                    refine lv_isub hx hb dL_types_354 ?_
                    exact hj79 (((97 : Int32) + r70) - (10 : Int32)) H locs h ls (lv_sub hl [1, 2, 3, 5, 6, 7, 8, 9] rfl) hf
                  · have hf := it_f c84 hf
                    refine lv_bipush (v := (48 : Int32)) hx hb dL_types_339 (by decide) ?_
                    refine lv_iload hx hb dL_types_341 (lv_at hl 0 rfl) ?_
                    refine lv_iadd hx hb dL_types_343 ?_
                    refine lv_goto (tgt := 355) hx hb dL_types_344 (by decide) ?_
                    exact hj79 ((48 : Int32) + r70) H locs h ls (lv_sub hl [1, 2, 3, 5, 6, 7, 8, 9] rfl) hf
            obtain ⟨j86, ej86, hf⟩ := lt_e hf
            have hj86 : ∀ (v85 : xSt) (H : Heap) (locs : List Loc), hg G (eBC G) 430 q v85 A s H locs → ∀ (ls : Array Slot), lv_has ls 11 [(0, .ref (q 0)), (1, .int p1), (2, .int r1), (4, .int a9), (5, .int x25), (6, .int r26), (8, .int ((2 : Int32) + ((2 : Int32) * r60)))] → j86 v85 = some z → W p l e { frames := 8, cells := 0, slots := 0, locals := 143 } s m [.ref (q 0), .int p1].toArray below meth c H locs 0 0 (MQ below ((qZ z.1) (cB G (eBC G) 430 q z.2 A) A) [.ref (q 0), .int p1].toArray s 0 0 A) (F0 m 303 ls []) := by
              intro v85 H locs h ls hl hf
              rw [ej86] at hf
              refine lv_iconst (v := (0 : Int32)) hx hb dL_types_303 (by decide) ?_
              exact hj64 (0 : Int32) v85 H locs h ls (lv_sub hl [0, 1, 2, 3, 4, 5, 6] rfl) hf
            refine lv_if_eq (tgt := 303) hx hb dL_types_287 (by decide) (fun c87 => ?_) (fun c87 => ?_)
            · have hf := it_t c87 hf
              exact hj86 v31 H locs h ls (lv_sub hl [2, 3, 4, 5, 6, 7, 0] rfl) hf
            · have hf := it_f c87 hf
              refine lv_aload_n hx hb dL_types_290 rfl (lv_at hl 2 rfl) ?_
              refine lv_bipush (v := (58 : Int32)) hx hb dL_types_291 (by decide) ?_
              obtain ⟨r88, hy89, hf⟩ := ob_e hf
              refine xi0c h (vx_runSW (As := [.ref (q 0), .int (58 : Int32)]) (rest := []) hC (c_L_append_q l G sa q v31 (58 : Int32) hy89 H.size) (xcgSW hC (fun _ h9 => wM_in h9) lk_L_131 in_L co_L_append st_L_append rfl rfl dd_L_append ⟨Nat.le_of_ble_eq_true rfl, Nat.le_of_ble_eq_true rfl⟩) (preS0T h hT [.ref (q 0), .int (58 : Int32)]) rfl rfl hl.1 rfl (lv_room (Nat.le_of_ble_eq_true rfl)) dL_types_293 ⟨Nat.le_of_ble_eq_true rfl, Nat.le_of_ble_eq_true rfl⟩) (fun H locs h => ?_)
              refine W.widen (k := 0) (n := 0) (by omega) (by omega) ?_
              obtain ⟨v90, ev90, hf⟩ := lt_e hf
              rw [← ev90] at h
              refine lv_if_le (tgt := 303) hx hb dL_types_296 (by decide) (fun c91 => ?_) (fun c91 => ?_)
              · have hf := it_t c91 hf
                exact hj86 v90 H locs h ls (lv_sub hl [2, 3, 4, 5, 6, 7, 0] rfl) hf
              · have hf := it_f c91 hf
                refine lv_iconst (v := (1 : Int32)) hx hb dL_types_299 (by decide) ?_
                refine lv_goto (tgt := 304) hx hb dL_types_300 (by decide) ?_
                exact hj64 (1 : Int32) v90 H locs h ls (lv_sub hl [2, 3, 4, 5, 6, 7, 0] rfl) hf
        obtain ⟨j93, ej93, hf⟩ := lt_e hf
        have hj93 : ∀ (v92 : xSt) (H : Heap) (locs : List Loc), hg G (eBC G) 430 q v92 A s H locs → ∀ (ls : Array Slot), lv_has ls 11 [(0, .ref (q 0)), (1, .int p1), (2, .int r1), (4, .int a9), (5, .int x25), (6, .int r26)] → j93 v92 = some z → W p l e { frames := 8, cells := 0, slots := 0, locals := 143 } s m [.ref (q 0), .int p1].toArray below meth c H locs 0 0 (MQ below ((qZ z.1) (cB G (eBC G) 430 q z.2 A) A) [.ref (q 0), .int p1].toArray s 0 0 A) (F0 m 264 ls []) := by
          intro v92 H locs h ls hl hf
          rw [ej93] at hf
          refine lv_iconst (v := (0 : Int32)) hx hb dL_types_264 (by decide) ?_
          exact hj32 (0 : Int32) v92 H locs h ls (lv_sub hl [0, 1, 2, 3, 4, 5] rfl) hf
        refine lv_if_eq (tgt := 264) hx hb dL_types_150 (by decide) (fun c94 => ?_) (fun c94 => ?_)
        · have hf := it_t c94 hf
          exact hj93 v10 H locs h ls (lv_sub hl [1, 2, 3, 5, 6, 7] rfl) hf
        · have hf := it_f c94 hf
          refine lv_iload hx hb dL_types_153 (lv_at hl 5 rfl) ?_
          obtain ⟨j96, ej96, hf⟩ := lt_e hf
          have hj96 : ∀ (v95 : xSt) (H : Heap) (locs : List Loc), hg G (eBC G) 430 q v95 A s H locs → ∀ (ls : Array Slot), lv_has ls 11 [(0, .ref (q 0)), (1, .int p1), (2, .int r1), (4, .int a9), (5, .int x25), (6, .int r26), (7, .int t28)] → j96 v95 = some z → W p l e { frames := 8, cells := 0, slots := 0, locals := 143 } s m [.ref (q 0), .int p1].toArray below meth c H locs 0 0 (MQ below ((qZ z.1) (cB G (eBC G) 430 q z.2 A) A) [.ref (q 0), .int p1].toArray s 0 0 A) (F0 m 167 ls []) := by
            intro v95 H locs h ls hl hf
            rw [ej96] at hf
            refine lv_aload_n hx hb dL_types_167 rfl (lv_at hl 0 rfl) ?_
            refine lv_iload hx hb dL_types_168 (lv_at hl 5 rfl) ?_
            refine lv_iconst (v := (3 : Int32)) hx hb dL_types_170 (by decide) ?_
            obtain ⟨j98, ej98, hf⟩ := lt_e hf
            have hj98 : ∀ (t97 : Int32) (H : Heap) (locs : List Loc), hg G (eBC G) 430 q v95 A s H locs → ∀ (ls : Array Slot), lv_has ls 11 [(0, .ref (q 0)), (1, .int p1), (2, .int r1), (4, .int a9), (5, .int x25), (6, .int r26), (7, .int t28)] → j98 t97 = some z → W p l e { frames := 8, cells := 0, slots := 0, locals := 143 } s m [.ref (q 0), .int p1].toArray below meth c H locs 0 0 (MQ below ((qZ z.1) (cB G (eBC G) 430 q z.2 A) A) [.ref (q 0), .int p1].toArray s 0 0 A) (F0 m 192 ls [.int t97, .ref (q 0)]) := by
              intro t97 H locs h ls hl hf
              rw [ej98] at hf
              obtain ⟨r99, hy100, hf⟩ := ob_e hf
              refine xi0c h (vx_runSW (As := [.ref (q 0), .int t97]) (rest := []) hC (c_L_append_q l G sa q v95 t97 hy100 H.size) (xcgSW hC (fun _ h9 => wM_in h9) lk_L_131 in_L co_L_append st_L_append rfl rfl dd_L_append ⟨Nat.le_of_ble_eq_true rfl, Nat.le_of_ble_eq_true rfl⟩) (preS0T h hT [.ref (q 0), .int t97]) rfl rfl hl.1 rfl (lv_room (Nat.le_of_ble_eq_true rfl)) dL_types_192 ⟨Nat.le_of_ble_eq_true rfl, Nat.le_of_ble_eq_true rfl⟩) (fun H locs h => ?_)
              refine W.widen (k := 0) (n := 0) (by omega) (by omega) ?_
              obtain ⟨v101, ev101, hf⟩ := lt_e hf
              rw [← ev101] at h
              refine lv_if_le (tgt := 264) hx hb dL_types_195 (by decide) (fun c102 => ?_) (fun c102 => ?_)
              · have hf := it_t c102 hf
                exact hj93 v101 H locs h ls (lv_sub hl [0, 1, 2, 3, 4, 5] rfl) hf
              · have hf := it_f c102 hf
                refine lv_iload hx hb dL_types_198 (lv_at hl 6 rfl) ?_
                refine lv_bipush (v := (100 : Int32)) hx hb dL_types_200 (by decide) ?_
                obtain ⟨j104, ej104, hf⟩ := lt_e hf
                have hj104 : ∀ (v103 : xSt) (H : Heap) (locs : List Loc), hg G (eBC G) 430 q v103 A s H locs → ∀ (ls : Array Slot), lv_has ls 11 [(0, .ref (q 0)), (1, .int p1), (2, .int r1), (4, .int a9), (5, .int x25), (6, .int r26), (7, .int t28)] → j104 v103 = some z → W p l e { frames := 8, cells := 0, slots := 0, locals := 143 } s m [.ref (q 0), .int p1].toArray below meth c H locs 0 0 (MQ below ((qZ z.1) (cB G (eBC G) 430 q z.2 A) A) [.ref (q 0), .int p1].toArray s 0 0 A) (F0 m 220 ls []) := by
                  intro v103 H locs h ls hl hf
                  rw [ej104] at hf
                  refine lv_iload hx hb dL_types_220 (lv_at hl 6 rfl) ?_
                  refine lv_bipush (v := (10 : Int32)) hx hb dL_types_222 (by decide) ?_
                  obtain ⟨j106, ej106, hf⟩ := lt_e hf
                  have hj106 : ∀ (v105 : xSt) (H : Heap) (locs : List Loc), hg G (eBC G) 430 q v105 A s H locs → ∀ (ls : Array Slot), lv_has ls 11 [(0, .ref (q 0)), (1, .int p1), (2, .int r1), (4, .int a9), (5, .int x25), (6, .int r26), (7, .int t28)] → j106 v105 = some z → W p l e { frames := 8, cells := 0, slots := 0, locals := 143 } s m [.ref (q 0), .int p1].toArray below meth c H locs 0 0 (MQ below ((qZ z.1) (cB G (eBC G) 430 q z.2 A) A) [.ref (q 0), .int p1].toArray s 0 0 A) (F0 m 245 ls []) := by
                    intro v105 H locs h ls hl hf
                    rw [ej106] at hf
                    refine lv_aload_n hx hb dL_types_245 rfl (lv_at hl 0 rfl) ?_
                    refine lv_bipush (v := (48 : Int32)) hx hb dL_types_246 (by decide) ?_
                    refine lv_iload hx hb dL_types_248 (lv_at hl 6 rfl) ?_
                    refine lv_bipush (v := (10 : Int32)) hx hb dL_types_250 (by decide) ?_
                    refine lv_irem hx hb dL_types_252 (by decide) ?_
                    refine lv_iadd hx hb dL_types_253 ?_
                    obtain ⟨r107, hy108, hf⟩ := ob_e hf
                    refine xi0c h (vx_runSW (As := [.ref (q 0), .int ((48 : Int32) + (t28 - t28 / (10 : Int32) * (10 : Int32)))]) (rest := []) hC (c_L_append_q l G sa q v105 ((48 : Int32) + (t28 - t28 / (10 : Int32) * (10 : Int32))) hy108 H.size) (xcgSW hC (fun _ h9 => wM_in h9) lk_L_131 in_L co_L_append st_L_append rfl rfl dd_L_append ⟨Nat.le_of_ble_eq_true rfl, Nat.le_of_ble_eq_true rfl⟩) (preS0T h hT [.ref (q 0), .int ((48 : Int32) + (t28 - t28 / (10 : Int32) * (10 : Int32)))]) rfl rfl hl.1 rfl (lv_room (Nat.le_of_ble_eq_true rfl)) dL_types_254 ⟨Nat.le_of_ble_eq_true rfl, Nat.le_of_ble_eq_true rfl⟩) (fun H locs h => ?_)
                    refine W.widen (k := 0) (n := 0) (by omega) (by omega) ?_
                    obtain ⟨v109, ev109, hf⟩ := lt_e hf
                    rw [← ev109] at h
                    refine lv_if_le (tgt := 264) hx hb dL_types_257 (by decide) (fun c110 => ?_) (fun c110 => ?_)
                    · have hf := it_t c110 hf
                      exact hj93 v109 H locs h ls (lv_sub hl [0, 1, 2, 3, 4, 5] rfl) hf
                    · have hf := it_f c110 hf
                      refine lv_iconst (v := (1 : Int32)) hx hb dL_types_260 (by decide) ?_
                      refine lv_goto (tgt := 265) hx hb dL_types_261 (by decide) ?_
                      exact hj32 (1 : Int32) v109 H locs h ls (lv_sub hl [0, 1, 2, 3, 4, 5] rfl) hf
                  refine lv_icmp_lt (tgt := 245) hx hb dL_types_224 (by decide) (fun c111 => ?_) (fun c111 => ?_)
                  · have hf := it_t c111 hf
                    exact hj106 v103 H locs h ls (lv_sub hl [0, 1, 2, 3, 4, 5, 6] rfl) hf
                  · have hf := it_f c111 hf
                    refine lv_aload_n hx hb dL_types_227 rfl (lv_at hl 0 rfl) ?_
                    refine lv_bipush (v := (48 : Int32)) hx hb dL_types_228 (by decide) ?_
                    refine lv_iload hx hb dL_types_230 (lv_at hl 6 rfl) ?_
                    refine lv_bipush (v := (10 : Int32)) hx hb dL_types_232 (by decide) ?_
                    refine lv_idiv hx hb dL_types_234 (by decide) ?_
                    refine lv_bipush (v := (10 : Int32)) hx hb dL_types_235 (by decide) ?_
                    refine lv_irem hx hb dL_types_237 (by decide) ?_
                    refine lv_iadd hx hb dL_types_238 ?_
                    obtain ⟨r112, hy113, hf⟩ := ob_e hf
                    refine xi0c h (vx_runSW (As := [.ref (q 0), .int ((48 : Int32) + ((t28 / (10 : Int32)) - (t28 / (10 : Int32)) / (10 : Int32) * (10 : Int32)))]) (rest := []) hC (c_L_append_q l G sa q v103 ((48 : Int32) + ((t28 / (10 : Int32)) - (t28 / (10 : Int32)) / (10 : Int32) * (10 : Int32))) hy113 H.size) (xcgSW hC (fun _ h9 => wM_in h9) lk_L_131 in_L co_L_append st_L_append rfl rfl dd_L_append ⟨Nat.le_of_ble_eq_true rfl, Nat.le_of_ble_eq_true rfl⟩) (preS0T h hT [.ref (q 0), .int ((48 : Int32) + ((t28 / (10 : Int32)) - (t28 / (10 : Int32)) / (10 : Int32) * (10 : Int32)))]) rfl rfl hl.1 rfl (lv_room (Nat.le_of_ble_eq_true rfl)) dL_types_239 ⟨Nat.le_of_ble_eq_true rfl, Nat.le_of_ble_eq_true rfl⟩) (fun H locs h => ?_)
                    refine W.widen (k := 0) (n := 0) (by omega) (by omega) ?_
                    obtain ⟨v114, ev114, hf⟩ := lt_e hf
                    rw [← ev114] at h
                    refine lv_if_le (tgt := 264) hx hb dL_types_242 (by decide) (fun c115 => ?_) (fun c115 => ?_)
                    · have hf := it_t c115 hf
                      exact hj93 v114 H locs h ls (lv_sub hl [0, 1, 2, 3, 4, 5] rfl) hf
                    · have hf := it_f c115 hf
                      exact hj106 v114 H locs h ls (lv_sub hl [0, 1, 2, 3, 4, 5, 6] rfl) hf
                refine lv_icmp_lt (tgt := 220) hx hb dL_types_202 (by decide) (fun c116 => ?_) (fun c116 => ?_)
                · have hf := it_t c116 hf
                  exact hj104 v101 H locs h ls (lv_sub hl [0, 1, 2, 3, 4, 5, 6] rfl) hf
                · have hf := it_f c116 hf
                  refine lv_aload_n hx hb dL_types_205 rfl (lv_at hl 0 rfl) ?_
                  refine lv_bipush (v := (48 : Int32)) hx hb dL_types_206 (by decide) ?_
                  refine lv_iload hx hb dL_types_208 (lv_at hl 6 rfl) ?_
                  refine lv_bipush (v := (100 : Int32)) hx hb dL_types_210 (by decide) ?_
                  refine lv_idiv hx hb dL_types_212 (by decide) ?_
                  refine lv_iadd hx hb dL_types_213 ?_
                  obtain ⟨r117, hy118, hf⟩ := ob_e hf
                  refine xi0c h (vx_runSW (As := [.ref (q 0), .int ((48 : Int32) + (t28 / (100 : Int32)))]) (rest := []) hC (c_L_append_q l G sa q v101 ((48 : Int32) + (t28 / (100 : Int32))) hy118 H.size) (xcgSW hC (fun _ h9 => wM_in h9) lk_L_131 in_L co_L_append st_L_append rfl rfl dd_L_append ⟨Nat.le_of_ble_eq_true rfl, Nat.le_of_ble_eq_true rfl⟩) (preS0T h hT [.ref (q 0), .int ((48 : Int32) + (t28 / (100 : Int32)))]) rfl rfl hl.1 rfl (lv_room (Nat.le_of_ble_eq_true rfl)) dL_types_214 ⟨Nat.le_of_ble_eq_true rfl, Nat.le_of_ble_eq_true rfl⟩) (fun H locs h => ?_)
                  refine W.widen (k := 0) (n := 0) (by omega) (by omega) ?_
                  obtain ⟨v119, ev119, hf⟩ := lt_e hf
                  rw [← ev119] at h
                  refine lv_if_le (tgt := 264) hx hb dL_types_217 (by decide) (fun c120 => ?_) (fun c120 => ?_)
                  · have hf := it_t c120 hf
                    exact hj93 v119 H locs h ls (lv_sub hl [0, 1, 2, 3, 4, 5] rfl) hf
                  · have hf := it_f c120 hf
                    exact hj104 v119 H locs h ls (lv_sub hl [0, 1, 2, 3, 4, 5, 6] rfl) hf
            refine lv_icmp_ge (tgt := 179) hx hb dL_types_171 (by decide) (fun c121 => ?_) (fun c121 => ?_)
            · have hf := it_t c121 hf
              refine lv_iload hx hb dL_types_179 (lv_at hl 5 rfl) ?_
              refine lv_iconst (v := (5 : Int32)) hx hb dL_types_181 (by decide) ?_
              refine lv_icmp_ge (tgt := 190) hx hb dL_types_182 (by decide) (fun c122 => ?_) (fun c122 => ?_)
              · have hf := it_t c122 hf
                refine lv_bipush (v := (116 : Int32)) hx hb dL_types_190 (by decide) ?_
                exact hj98 (116 : Int32) H locs h ls (lv_sub hl [0, 1, 2, 3, 4, 5, 6] rfl) hf
              · have hf := it_f c122 hf
                refine lv_bipush (v := (101 : Int32)) hx hb dL_types_185 (by decide) ?_
                refine lv_goto (tgt := 192) hx hb dL_types_187 (by decide) ?_
                exact hj98 (101 : Int32) H locs h ls (lv_sub hl [0, 1, 2, 3, 4, 5, 6] rfl) hf
            · have hf := it_f c121 hf
              refine lv_bipush (v := (119 : Int32)) hx hb dL_types_174 (by decide) ?_
              refine lv_goto (tgt := 192) hx hb dL_types_176 (by decide) ?_
              exact hj98 (119 : Int32) H locs h ls (lv_sub hl [0, 1, 2, 3, 4, 5, 6] rfl) hf
          refine lv_if_eq (tgt := 167) hx hb dL_types_155 (by decide) (fun c123 => ?_) (fun c123 => ?_)
          · have hf := it_t c123 hf
            exact hj96 v10 H locs h ls (lv_sub hl [1, 2, 3, 5, 6, 7, 0] rfl) hf
          · have hf := it_f c123 hf
            refine lv_aload_n hx hb dL_types_158 rfl (lv_at hl 1 rfl) ?_
            refine lv_bipush (v := (59 : Int32)) hx hb dL_types_159 (by decide) ?_
            obtain ⟨r124, hy125, hf⟩ := ob_e hf
            refine xi0c h (vx_runSW (As := [.ref (q 0), .int (59 : Int32)]) (rest := []) hC (c_L_append_q l G sa q v10 (59 : Int32) hy125 H.size) (xcgSW hC (fun _ h9 => wM_in h9) lk_L_131 in_L co_L_append st_L_append rfl rfl dd_L_append ⟨Nat.le_of_ble_eq_true rfl, Nat.le_of_ble_eq_true rfl⟩) (preS0T h hT [.ref (q 0), .int (59 : Int32)]) rfl rfl hl.1 rfl (lv_room (Nat.le_of_ble_eq_true rfl)) dL_types_161 ⟨Nat.le_of_ble_eq_true rfl, Nat.le_of_ble_eq_true rfl⟩) (fun H locs h => ?_)
            refine W.widen (k := 0) (n := 0) (by omega) (by omega) ?_
            obtain ⟨v126, ev126, hf⟩ := lt_e hf
            rw [← ev126] at h
            refine lv_if_le (tgt := 264) hx hb dL_types_164 (by decide) (fun c127 => ?_) (fun c127 => ?_)
            · have hf := it_t c127 hf
              exact hj93 v126 H locs h ls (lv_sub hl [1, 2, 3, 5, 6, 7] rfl) hf
            · have hf := it_f c127 hf
              exact hj96 v126 H locs h ls (lv_sub hl [1, 2, 3, 5, 6, 7, 0] rfl) hf
      refine lv_icmp_ge (tgt := 84) hx hb dL_types_50 (by decide) (fun c128 => ?_) (fun c128 => ?_)
      · have hf := it_t c128 hf
        refine lv_iload hx hb dL_types_84 (lv_at hl 0 rfl) ?_
        refine lv_iconst (v := (5 : Int32)) hx hb dL_types_86 (by decide) ?_
        refine lv_icmp_ge (tgt := 119) hx hb dL_types_87 (by decide) (fun c129 => ?_) (fun c129 => ?_)
        · have hf := it_t c129 hf
          refine lv_iconst (v := (1 : Int32)) hx hb dL_types_119 (by decide) ?_
          refine lv_iload hx hb dL_types_120 (lv_at hl 1 rfl) ?_
          refine lv_iconst (v := (2 : Int32)) hx hb dL_types_122 (by decide) ?_
          refine lv_ishr hx hb dL_types_123 ?_
          refine lv_iload_n hx hb dL_types_124 rfl (lv_at hl 3 rfl) ?_
          refine lv_bipush (v := (25 : Int32)) hx hb dL_types_125 (by decide) ?_
          refine lv_ishr hx hb dL_types_127 ?_
          refine lv_bipush (v := (9 : Int32)) hx hb dL_types_128 (by decide) ?_
          obtain ⟨r130, hy131, hf⟩ := ob_e hf
          refine xiG h (va_runS (As := [.int (p1 >>> ((25 : Int32) &&& 31)), .int (9 : Int32)]) (rest := [.int (x25 >>> ((2 : Int32) &&& 31)), .int (1 : Int32)]) hC (c_L_low l G q v10 (p1 >>> ((25 : Int32) &&& 31)) (9 : Int32) hy131 H.size) (xcgS hC (fun _ h9 => wM_in h9) lk_L_113 in_L co_L_low st_L_low rfl rfl dd_L_low ⟨Nat.le_of_ble_eq_true rfl, Nat.le_of_ble_eq_true rfl⟩) (preSN h.o [.int (p1 >>> ((25 : Int32) &&& 31)), .int (9 : Int32)]) rfl rfl hl.1 rfl (lv_room (Nat.le_of_ble_eq_true rfl)) dL_types_130 ⟨Nat.le_of_ble_eq_true rfl, Nat.le_of_ble_eq_true rfl⟩) (fun H locs h => ?_)
          obtain ⟨j135, ej135, hf⟩ := lt_e hf
          have hj135 : ∀ (t132 : Int32) (t133 : Int32) (t134 : Int32) (H : Heap) (locs : List Loc), hg G (eBC G) 430 q v10 A s H locs → ∀ (ls : Array Slot), lv_has ls 11 [(0, .ref (q 0)), (1, .int p1), (2, .int r1), (3, .int a8), (4, .int a9), (5, .int x25), (6, .int r26)] → j135 t132 t133 t134 = some z → W p l e { frames := 8, cells := 0, slots := 0, locals := 143 } s m [.ref (q 0), .int p1].toArray below meth c H locs 0 0 (MQ below ((qZ z.1) (cB G (eBC G) 430 q z.2 A) A) [.ref (q 0), .int p1].toArray s 0 0 A) (F0 m 143 ls [.int t134, .int t133, .int t132]) := by
            intro t132 t133 t134 H locs h ls hl hf
            rw [ej135] at hf
            obtain ⟨r136, hy137, hf⟩ := ob_e hf
            refine xiG h (va_runS (As := [.int t133, .int t134]) (rest := [.int t132]) hC (c_L_low l G q v10 t133 t134 hy137 H.size) (xcgS hC (fun _ h9 => wM_in h9) lk_L_113 in_L co_L_low st_L_low rfl rfl dd_L_low ⟨Nat.le_of_ble_eq_true rfl, Nat.le_of_ble_eq_true rfl⟩) (preSN h.o [.int t133, .int t134]) rfl rfl hl.1 rfl (lv_room (Nat.le_of_ble_eq_true rfl)) dL_types_143 ⟨Nat.le_of_ble_eq_true rfl, Nat.le_of_ble_eq_true rfl⟩) (fun H locs h => ?_)
            refine lv_iadd hx hb dL_types_146 ?_
            exact hj29 (t132 + r136) H locs h ls (lv_sub hl [0, 1, 2, 3, 4, 5, 6] rfl) hf
          refine lv_if_ne (tgt := 141) hx hb dL_types_133 (by decide) (fun c138 => ?_) (fun c138 => ?_)
          · have hf := it_f c138 hf
            refine lv_bipush (v := (30 : Int32)) hx hb dL_types_141 (by decide) ?_
            exact hj135 (1 : Int32) (x25 >>> ((2 : Int32) &&& 31)) (30 : Int32) H locs h ls (lv_sub hl [2, 3, 4, 5, 6, 1, 0] rfl) hf
          · have hf := it_t c138 hf
            refine lv_bipush (v := (110 : Int32)) hx hb dL_types_136 (by decide) ?_
            refine lv_goto (tgt := 143) hx hb dL_types_138 (by decide) ?_
            exact hj135 (1 : Int32) (x25 >>> ((2 : Int32) &&& 31)) (110 : Int32) H locs h ls (lv_sub hl [2, 3, 4, 5, 6, 1, 0] rfl) hf
        · have hf := it_f c129 hf
          refine lv_iload hx hb dL_types_90 (lv_at hl 1 rfl) ?_
          refine lv_iconst (v := (1 : Int32)) hx hb dL_types_92 (by decide) ?_
          refine lv_ishr hx hb dL_types_93 ?_
          refine lv_iload_n hx hb dL_types_94 rfl (lv_at hl 3 rfl) ?_
          refine lv_bipush (v := (24 : Int32)) hx hb dL_types_95 (by decide) ?_
          refine lv_ishr hx hb dL_types_97 ?_
          refine lv_bipush (v := (9 : Int32)) hx hb dL_types_98 (by decide) ?_
          obtain ⟨r139, hy140, hf⟩ := ob_e hf
          refine xiG h (va_runS (As := [.int (p1 >>> ((24 : Int32) &&& 31)), .int (9 : Int32)]) (rest := [.int (x25 >>> ((1 : Int32) &&& 31))]) hC (c_L_low l G q v10 (p1 >>> ((24 : Int32) &&& 31)) (9 : Int32) hy140 H.size) (xcgS hC (fun _ h9 => wM_in h9) lk_L_113 in_L co_L_low st_L_low rfl rfl dd_L_low ⟨Nat.le_of_ble_eq_true rfl, Nat.le_of_ble_eq_true rfl⟩) (preSN h.o [.int (p1 >>> ((24 : Int32) &&& 31)), .int (9 : Int32)]) rfl rfl hl.1 rfl (lv_room (Nat.le_of_ble_eq_true rfl)) dL_types_100 ⟨Nat.le_of_ble_eq_true rfl, Nat.le_of_ble_eq_true rfl⟩) (fun H locs h => ?_)
          obtain ⟨j143, ej143, hf⟩ := lt_e hf
          have hj143 : ∀ (t141 : Int32) (t142 : Int32) (H : Heap) (locs : List Loc), hg G (eBC G) 430 q v10 A s H locs → ∀ (ls : Array Slot), lv_has ls 11 [(0, .ref (q 0)), (1, .int p1), (2, .int r1), (3, .int a8), (4, .int a9), (5, .int x25), (6, .int r26)] → j143 t141 t142 = some z → W p l e { frames := 8, cells := 0, slots := 0, locals := 143 } s m [.ref (q 0), .int p1].toArray below meth c H locs 0 0 (MQ below ((qZ z.1) (cB G (eBC G) 430 q z.2 A) A) [.ref (q 0), .int p1].toArray s 0 0 A) (F0 m 113 ls [.int t142, .int t141]) := by
            intro t141 t142 H locs h ls hl hf
            rw [ej143] at hf
            obtain ⟨r144, hy145, hf⟩ := ob_e hf
            refine xiG h (va_runS (As := [.int t141, .int t142]) (rest := []) hC (c_L_low l G q v10 t141 t142 hy145 H.size) (xcgS hC (fun _ h9 => wM_in h9) lk_L_113 in_L co_L_low st_L_low rfl rfl dd_L_low ⟨Nat.le_of_ble_eq_true rfl, Nat.le_of_ble_eq_true rfl⟩) (preSN h.o [.int t141, .int t142]) rfl rfl hl.1 rfl (lv_room (Nat.le_of_ble_eq_true rfl)) dL_types_113 ⟨Nat.le_of_ble_eq_true rfl, Nat.le_of_ble_eq_true rfl⟩) (fun H locs h => ?_)
            refine lv_goto (tgt := 147) hx hb dL_types_116 (by decide) ?_
            exact hj29 r144 H locs h ls (lv_sub hl [0, 1, 2, 3, 4, 5, 6] rfl) hf
          refine lv_if_ne (tgt := 111) hx hb dL_types_103 (by decide) (fun c146 => ?_) (fun c146 => ?_)
          · have hf := it_f c146 hf
            refine lv_bipush (v := (8 : Int32)) hx hb dL_types_111 (by decide) ?_
            exact hj143 (x25 >>> ((1 : Int32) &&& 31)) (8 : Int32) H locs h ls (lv_sub hl [2, 3, 4, 5, 6, 1, 0] rfl) hf
          · have hf := it_t c146 hf
            refine lv_bipush (v := (9 : Int32)) hx hb dL_types_106 (by decide) ?_
            refine lv_goto (tgt := 113) hx hb dL_types_108 (by decide) ?_
            exact hj143 (x25 >>> ((1 : Int32) &&& 31)) (9 : Int32) H locs h ls (lv_sub hl [2, 3, 4, 5, 6, 1, 0] rfl) hf
      · have hf := it_f c128 hf
        refine lv_iload hx hb dL_types_53 (lv_at hl 1 rfl) ?_
        refine lv_iconst (v := (1 : Int32)) hx hb dL_types_55 (by decide) ?_
        refine lv_ishr hx hb dL_types_56 ?_
        refine lv_iload_n hx hb dL_types_57 rfl (lv_at hl 3 rfl) ?_
        refine lv_bipush (v := (23 : Int32)) hx hb dL_types_58 (by decide) ?_
        refine lv_ishr hx hb dL_types_60 ?_
        refine lv_bipush (v := (9 : Int32)) hx hb dL_types_61 (by decide) ?_
        obtain ⟨r147, hy148, hf⟩ := ob_e hf
        refine xiG h (va_runS (As := [.int (p1 >>> ((23 : Int32) &&& 31)), .int (9 : Int32)]) (rest := [.int (x25 >>> ((1 : Int32) &&& 31))]) hC (c_L_low l G q v10 (p1 >>> ((23 : Int32) &&& 31)) (9 : Int32) hy148 H.size) (xcgS hC (fun _ h9 => wM_in h9) lk_L_113 in_L co_L_low st_L_low rfl rfl dd_L_low ⟨Nat.le_of_ble_eq_true rfl, Nat.le_of_ble_eq_true rfl⟩) (preSN h.o [.int (p1 >>> ((23 : Int32) &&& 31)), .int (9 : Int32)]) rfl rfl hl.1 rfl (lv_room (Nat.le_of_ble_eq_true rfl)) dL_types_63 ⟨Nat.le_of_ble_eq_true rfl, Nat.le_of_ble_eq_true rfl⟩) (fun H locs h => ?_)
        obtain ⟨j151, ej151, hf⟩ := lt_e hf
        have hj151 : ∀ (t149 : Int32) (t150 : Int32) (H : Heap) (locs : List Loc), hg G (eBC G) 430 q v10 A s H locs → ∀ (ls : Array Slot), lv_has ls 11 [(0, .ref (q 0)), (1, .int p1), (2, .int r1), (3, .int a8), (4, .int a9), (5, .int x25), (6, .int r26)] → j151 t149 t150 = some z → W p l e { frames := 8, cells := 0, slots := 0, locals := 143 } s m [.ref (q 0), .int p1].toArray below meth c H locs 0 0 (MQ below ((qZ z.1) (cB G (eBC G) 430 q z.2 A) A) [.ref (q 0), .int p1].toArray s 0 0 A) (F0 m 78 ls [.int t150, .int t149]) := by
          intro t149 t150 H locs h ls hl hf
          rw [ej151] at hf
          obtain ⟨r152, hy153, hf⟩ := ob_e hf
          refine xiG h (va_runS (As := [.int t149, .int t150]) (rest := []) hC (c_L_low l G q v10 t149 t150 hy153 H.size) (xcgS hC (fun _ h9 => wM_in h9) lk_L_113 in_L co_L_low st_L_low rfl rfl dd_L_low ⟨Nat.le_of_ble_eq_true rfl, Nat.le_of_ble_eq_true rfl⟩) (preSN h.o [.int t149, .int t150]) rfl rfl hl.1 rfl (lv_room (Nat.le_of_ble_eq_true rfl)) dL_types_78 ⟨Nat.le_of_ble_eq_true rfl, Nat.le_of_ble_eq_true rfl⟩) (fun H locs h => ?_)
          refine lv_goto (tgt := 147) hx hb dL_types_81 (by decide) ?_
          exact hj29 r152 H locs h ls (lv_sub hl [0, 1, 2, 3, 4, 5, 6] rfl) hf
        refine lv_if_ne (tgt := 75) hx hb dL_types_66 (by decide) (fun c154 => ?_) (fun c154 => ?_)
        · have hf := it_f c154 hf
          refine lv_sipush (v := (256 : Int32)) hx hb dL_types_75 (by decide) ?_
          exact hj151 (x25 >>> ((1 : Int32) &&& 31)) (256 : Int32) H locs h ls (lv_sub hl [2, 3, 4, 5, 6, 1, 0] rfl) hf
        · have hf := it_t c154 hf
          refine lv_sipush (v := (260 : Int32)) hx hb dL_types_69 (by decide) ?_
          refine lv_goto (tgt := 78) hx hb dL_types_72 (by decide) ?_
          exact hj151 (x25 >>> ((1 : Int32) &&& 31)) (260 : Int32) H locs h ls (lv_sub hl [2, 3, 4, 5, 6, 1, 0] rfl) hf
  refine lv_if_lt (tgt := 17) hx hb dL_types_10 (by decide) (fun c155 => ?_) (fun c155 => ?_)
  · have hf := it_t c155 hf
    refine lv_iconst (v := (0 : Int32)) hx hb dL_types_17 (by decide) ?_
    exact hj7 (0 : Int32) H locs h ls (lv_sub hl [1, 2, 0] rfl) hf
  · have hf := it_f c155 hf
    refine lv_iconst (v := (1 : Int32)) hx hb dL_types_13 (by decide) ?_
    refine lv_goto (tgt := 18) hx hb dL_types_14 (by decide) ?_
    exact hj7 (1 : Int32) H locs h ls (lv_sub hl [1, 2, 0] rfl) hf
def m_L_reads (v : xSt) (p1 : Int32) : Option (Int32 × xSt) := ob (m_L_look v) (fun r1 => lt (r1.2) (fun v3 => ob (m_X8_count_n v3 (15 : Int32)) (fun r5 => ob (m_L_types v3 p1) (fun r6 => lt (r6.2) (fun v9 => ob (m_X8_firstError v9) (fun r11 => lt (r11.2) (fun v12 => ob (m_L_obey v12) (fun r13 => lt (r13.2) (fun v15 => ob (m_X8_clearBuffer v15) (fun r17 => lt (r17.2) (fun v18 => lt (fun (v19 : xSt) => some ((0 : Int32), v19)) (fun j20 => (if r6.1 = 0 then j20 v18 else lt (fun (v22 : xSt) => some ((1 : Int32), v22)) (fun j23 => (if r13.1 = (-102 : Int32) then (if r17.1 < r11.1 then j20 v18 else ob (m_L_look v18) (fun r38 => lt (r38.2) (fun v40 => (if (lg_cmp r38.1 r1.1) = 0 then ob (m_X8_count_n v40 (15 : Int32)) (fun r43 => (if r43 = r5 then j23 v40 else j20 v40)) else j20 v40)))) else (if r13.1 < 0 then j20 v18 else ob (m_L_low p1 (5 : Int32)) (fun r26 => (if r26 < r13.1 then j20 v18 else (if r17.1 = 0 then ob (m_X8_count_n v18 (15 : Int32)) (fun r31 => lt (fun (t32 : Int32) (t33 : Int32) => (if t32 = t33 then j23 v18 else j20 v18)) (fun j34 => (if (6 : Int32) ≤ r5 then j34 r31 (6 : Int32) else j34 r31 (r5 + (1 : Int32))))) else j20 v18)))))))))))))))))))
set_option maxHeartbeats 4000000 in
set_option maxRecDepth 100000 in
theorem c_L_reads (l : Launch) (hst : l.stackTraces = false) (G : xGl) (sa q : Nat → Nat) (v : xSt) (p1 : Int32) {z : (Int32 × xSt)} (hf : m_L_reads v p1 = some z) : mRS l yL_reads (wM yL_reads cL_reads 9 (some .boolean)) { frames := 9, cells := 1, slots := 6, locals := 232 } G sa (eBC G) 430 q v [.ref (q 0), .int p1] (qZ z.1) z.2 1 6 := by
  refine xRSg (cc := cL_reads) (maxL := 9) (ret := (some .boolean)) (by decide) rfl (Nat.le_of_ble_eq_true rfl) ?_
  intro p e s m below meth c ls A hC hr hlk h hT hl
  have hx := hC.1
  have hb := hC.2.1
  have hl : lv_has ls 9 [(0, .ref (q 0)), (1, .int p1)] := hl
  unfold m_L_reads at hf
  obtain ⟨H, hH⟩ : ∃ H, H = s.heap := ⟨_, rfl⟩
  obtain ⟨locs, hlo⟩ : ∃ x : List Loc, x = [] := ⟨_, rfl⟩
  have h : hg G (eBC G) 430 q v A s H locs := by rw [hH, hlo]; exact h
  rw [← hlo, ← hH]
  clear hH hlo
  refine lv_aload_n hx hb dL_reads_0 rfl (lv_at hl 0 rfl) ?_
  obtain ⟨r1, hy2, hf⟩ := ob_e hf
  refine xl0c h (va_runS (As := [.ref (q 0)]) (rest := []) hC (c_L_look l hst G sa q v hy2 H.size) (xcgS hC (fun _ h9 => wM_in h9) lk_L_133 in_L co_L_look st_L_look rfl rfl dd_L_look ⟨Nat.le_of_ble_eq_true rfl, Nat.le_of_ble_eq_true rfl⟩) (preS0T h hT [.ref (q 0)]) rfl rfl hl.1 rfl (lv_room (Nat.le_of_ble_eq_true rfl)) dL_reads_1 ⟨Nat.le_of_ble_eq_true rfl, Nat.le_of_ble_eq_true rfl⟩) (fun H locs h => ?_)
  refine W.widen (k := 0) (n := 0) (by omega) (by omega) ?_
  obtain ⟨v3, ev3, hf⟩ := lt_e hf
  rw [← ev3] at h
  refine lv_lstore_n (lv' := [(2, .long r1.1), (0, .ref (q 0)), (1, .int p1)]) hx hb dL_reads_4 rfl hl (by decide) rfl (fun ls hl => ?_)
  refine lv_aload_n hx hb dL_reads_5 rfl (lv_at hl 1 rfl) ?_
  refine lv_bipush (v := (15 : Int32)) hx hb dL_reads_6 (by decide) ?_
  obtain ⟨r5, hy4, hf⟩ := ob_e hf
  refine xiG h (va_runV (As := [.int (15 : Int32)]) (rest := []) hC (c_X8_count_n l G q v3 (15 : Int32) hy4 H.size) (xcwV hC lk_L_76 in_X8 co_X8_count im_X8_count se_X8_count rfl rfl dd_X8_count ⟨Nat.le_of_ble_eq_true rfl, Nat.le_of_ble_eq_true rfl⟩) (preVO0 h.o (Nat.le_of_ble_eq_true rfl) eBC_0 rfl [.int (15 : Int32)]) rfl rfl hl.1 rfl (lv_room (Nat.le_of_ble_eq_true rfl)) dL_reads_8 ⟨Nat.le_of_ble_eq_true rfl, Nat.le_of_ble_eq_true rfl⟩) (fun H locs h => ?_)
  refine lv_istore (lv' := [(4, .int r5), (2, .long r1.1), (0, .ref (q 0)), (1, .int p1)]) hx hb dL_reads_11 hl (by decide) rfl (fun ls hl => ?_)
  refine lv_aload_n hx hb dL_reads_13 rfl (lv_at hl 2 rfl) ?_
  refine lv_iload_n hx hb dL_reads_14 rfl (lv_at hl 3 rfl) ?_
  obtain ⟨r6, hy7, hf⟩ := ob_e hf
  refine xz0c h (va_runS (As := [.ref (q 0), .int p1]) (rest := []) hC (c_L_types l hst G sa q v3 p1 hy7 H.size) (xcgS hC (fun _ h9 => wM_in h9) lk_L_137 in_L co_L_types st_L_types rfl rfl dd_L_types ⟨Nat.le_of_ble_eq_true rfl, Nat.le_of_ble_eq_true rfl⟩) (preS0T h hT [.ref (q 0), .int p1]) rfl rfl hl.1 rfl (lv_room (Nat.le_of_ble_eq_true rfl)) dL_reads_15 ⟨Nat.le_of_ble_eq_true rfl, Nat.le_of_ble_eq_true rfl⟩) (fun H locs hz8 h => ?_)
  refine W.widen (k := 0) (n := 0) (by omega) (by omega) ?_
  obtain ⟨v9, ev9, hf⟩ := lt_e hf
  rw [← ev9] at h
  refine lv_istore (lv' := [(5, .int r6.1), (4, .int r5), (2, .long r1.1), (0, .ref (q 0)), (1, .int p1)]) hx hb dL_reads_18 hl (by decide) rfl (fun ls hl => ?_)
  refine lv_aload_n hx hb dL_reads_20 rfl (lv_at hl 3 rfl) ?_
  obtain ⟨r11, hy10, hf⟩ := ob_e hf
  refine xi0 h (va_runV (As := []) (rest := []) hC (c_X8_firstError l G q v9 hy10 H.size) (xcwV hC lk_L_141 in_X8 co_X8_firstError im_X8_firstError se_X8_firstError rfl rfl dd_X8_firstError ⟨Nat.le_of_ble_eq_true rfl, Nat.le_of_ble_eq_true rfl⟩) (preV0 h (Nat.le_of_ble_eq_true rfl) eBC_0 rfl []) rfl rfl hl.1 rfl (lv_room (Nat.le_of_ble_eq_true rfl)) dL_reads_21 ⟨Nat.le_of_ble_eq_true rfl, Nat.le_of_ble_eq_true rfl⟩) (fun H locs h => ?_)
  obtain ⟨v12, ev12, hf⟩ := lt_e hf
  rw [← ev12] at h
  refine lv_istore (lv' := [(6, .int r11.1), (5, .int r6.1), (4, .int r5), (2, .long r1.1), (0, .ref (q 0)), (1, .int p1)]) hx hb dL_reads_24 hl (by decide) rfl (fun ls hl => ?_)
  refine lv_aload_n hx hb dL_reads_26 rfl (lv_at hl 4 rfl) ?_
  obtain ⟨r13, hy14, hf⟩ := ob_e hf
  refine xi0c h (vx_runSW (As := [.ref (q 0)]) (rest := []) hC (c_L_obey l hst G sa q v12 hy14 H.size) (xcgSW hC (fun _ h9 => wM_in h9) lk_L_144 in_L co_L_obey st_L_obey rfl rfl dd_L_obey ⟨Nat.le_of_ble_eq_true rfl, Nat.le_of_ble_eq_true rfl⟩) (preS0T h hT [.ref (q 0)]) rfl rfl hl.1 rfl (lv_room (Nat.le_of_ble_eq_true rfl)) dL_reads_27 ⟨Nat.le_of_ble_eq_true rfl, Nat.le_of_ble_eq_true rfl⟩) (fun H locs h => ?_)
  refine W.widen (k := 1) (n := 6) (by omega) (by omega) ?_
  obtain ⟨v15, ev15, hf⟩ := lt_e hf
  rw [← ev15] at h
  refine lv_istore (lv' := [(7, .int r13.1), (6, .int r11.1), (5, .int r6.1), (4, .int r5), (2, .long r1.1), (0, .ref (q 0)), (1, .int p1)]) hx hb dL_reads_30 hl (by decide) rfl (fun ls hl => ?_)
  refine lv_aload_n hx hb dL_reads_32 rfl (lv_at hl 5 rfl) ?_
  obtain ⟨r17, hy16, hf⟩ := ob_e hf
  refine xi0 h (va_runV (As := []) (rest := []) hC (c_X8_clearBuffer l G q v15 hy16 H.size) (xcwV hC lk_L_128 in_X8 co_X8_clearBuffer im_X8_clearBuffer se_X8_clearBuffer rfl rfl dd_X8_clearBuffer ⟨Nat.le_of_ble_eq_true rfl, Nat.le_of_ble_eq_true rfl⟩) (preV0 h (Nat.le_of_ble_eq_true rfl) eBC_0 rfl []) rfl rfl hl.1 rfl (lv_room (Nat.le_of_ble_eq_true rfl)) dL_reads_33 ⟨Nat.le_of_ble_eq_true rfl, Nat.le_of_ble_eq_true rfl⟩) (fun H locs h => ?_)
  obtain ⟨v18, ev18, hf⟩ := lt_e hf
  rw [← ev18] at h
  refine lv_istore (lv' := [(8, .int r17.1), (7, .int r13.1), (6, .int r11.1), (5, .int r6.1), (4, .int r5), (2, .long r1.1), (0, .ref (q 0)), (1, .int p1)]) hx hb dL_reads_36 hl (by decide) rfl (fun ls hl => ?_)
  refine lv_iload hx hb dL_reads_38 (lv_at hl 3 rfl) ?_
  obtain ⟨j20, ej20, hf⟩ := lt_e hf
  have hj20 : ∀ (v19 : xSt) (H : Heap) (locs : List Loc), hg G (eBC G) 430 q v19 A s H locs → ∀ (ls : Array Slot), lv_has ls 9 [] → j20 v19 = some z → W p l e { frames := 9, cells := 1, slots := 6, locals := 232 } s m [.ref (q 0), .int p1].toArray below meth c H locs 1 6 (MQ below ((qZ z.1) (cB G (eBC G) 430 q z.2 A) A) [.ref (q 0), .int p1].toArray s 1 6 A) (F0 m 129 ls []) := by
    intro v19 H locs h ls hl hf
    rw [ej20] at hf
    refine lv_iconst (v := (0 : Int32)) hx hb dL_reads_129 (by decide) ?_
    have hf := sm_e hf
    exact xzretc hC hr hlk h (by rw [← hf]) (by decide) (by rw [← hf]) dL_reads_130
  refine lv_if_eq (tgt := 129) hx hb dL_reads_40 (by decide) (fun c21 => ?_) (fun c21 => ?_)
  · have hf := it_t c21 hf
    exact hj20 v18 H locs h ls (lv_sub hl [] rfl) hf
  · have hf := it_f c21 hf
    refine lv_iload hx hb dL_reads_43 (lv_at hl 1 rfl) ?_
    refine lv_bipush (v := (-102 : Int32)) hx hb dL_reads_45 (by decide) ?_
    obtain ⟨j23, ej23, hf⟩ := lt_e hf
    have hj23 : ∀ (v22 : xSt) (H : Heap) (locs : List Loc), hg G (eBC G) 430 q v22 A s H locs → ∀ (ls : Array Slot), lv_has ls 9 [] → j23 v22 = some z → W p l e { frames := 9, cells := 1, slots := 6, locals := 232 } s m [.ref (q 0), .int p1].toArray below meth c H locs 1 6 (MQ below ((qZ z.1) (cB G (eBC G) 430 q z.2 A) A) [.ref (q 0), .int p1].toArray s 1 6 A) (F0 m 125 ls []) := by
      intro v22 H locs h ls hl hf
      rw [ej23] at hf
      refine lv_iconst (v := (1 : Int32)) hx hb dL_reads_125 (by decide) ?_
      refine lv_goto (tgt := 130) hx hb dL_reads_126 (by decide) ?_
      have hf := sm_e hf
      exact xzretc hC hr hlk h (by rw [← hf]) (by decide) (by rw [← hf]) dL_reads_130
    refine lv_icmp_ne (tgt := 80) hx hb dL_reads_47 (by decide) (fun c24 => ?_) (fun c24 => ?_)
    · have hf := it_f c24 hf
      refine lv_iload hx hb dL_reads_80 (lv_at hl 1 rfl) ?_
      refine lv_if_lt (tgt := 129) hx hb dL_reads_82 (by decide) (fun c25 => ?_) (fun c25 => ?_)
      · have hf := it_t c25 hf
        exact hj20 v18 H locs h ls (lv_sub hl [] rfl) hf
      · have hf := it_f c25 hf
        refine lv_iload hx hb dL_reads_85 (lv_at hl 1 rfl) ?_
        refine lv_iload_n hx hb dL_reads_87 rfl (lv_at hl 7 rfl) ?_
        refine lv_iconst (v := (5 : Int32)) hx hb dL_reads_88 (by decide) ?_
        obtain ⟨r26, hy27, hf⟩ := ob_e hf
        refine xiG h (va_runS (As := [.int p1, .int (5 : Int32)]) (rest := [.int r13.1]) hC (c_L_low l G q v18 p1 (5 : Int32) hy27 H.size) (xcgS hC (fun _ h9 => wM_in h9) lk_L_113 in_L co_L_low st_L_low rfl rfl dd_L_low ⟨Nat.le_of_ble_eq_true rfl, Nat.le_of_ble_eq_true rfl⟩) (preSN h.o [.int p1, .int (5 : Int32)]) rfl rfl hl.1 rfl (lv_room (Nat.le_of_ble_eq_true rfl)) dL_reads_89 ⟨Nat.le_of_ble_eq_true rfl, Nat.le_of_ble_eq_true rfl⟩) (fun H locs h => ?_)
        refine lv_icmp_gt (tgt := 129) hx hb dL_reads_92 (by decide) (fun c28 => ?_) (fun c28 => ?_)
        · have hf := it_t c28 hf
          exact hj20 v18 H locs h ls (lv_sub hl [] rfl) hf
        · have hf := it_f c28 hf
          refine lv_iload hx hb dL_reads_95 (lv_at hl 0 rfl) ?_
          refine lv_if_ne (tgt := 129) hx hb dL_reads_97 (by decide) (fun c29 => ?_) (fun c29 => ?_)
          · have hf := it_f c29 hf
            exact hj20 v18 H locs h ls (lv_sub hl [] rfl) hf
          · have hf := it_t c29 hf
            refine lv_aload_n hx hb dL_reads_100 rfl (lv_at hl 6 rfl) ?_
            refine lv_bipush (v := (15 : Int32)) hx hb dL_reads_101 (by decide) ?_
            obtain ⟨r31, hy30, hf⟩ := ob_e hf
            refine xiG h (va_runV (As := [.int (15 : Int32)]) (rest := []) hC (c_X8_count_n l G q v18 (15 : Int32) hy30 H.size) (xcwV hC lk_L_76 in_X8 co_X8_count im_X8_count se_X8_count rfl rfl dd_X8_count ⟨Nat.le_of_ble_eq_true rfl, Nat.le_of_ble_eq_true rfl⟩) (preVO0 h.o (Nat.le_of_ble_eq_true rfl) eBC_0 rfl [.int (15 : Int32)]) rfl rfl hl.1 rfl (lv_room (Nat.le_of_ble_eq_true rfl)) dL_reads_103 ⟨Nat.le_of_ble_eq_true rfl, Nat.le_of_ble_eq_true rfl⟩) (fun H locs h => ?_)
            refine lv_iload hx hb dL_reads_106 (lv_at hl 4 rfl) ?_
            refine lv_bipush (v := (6 : Int32)) hx hb dL_reads_108 (by decide) ?_
            obtain ⟨j34, ej34, hf⟩ := lt_e hf
            have hj34 : ∀ (t32 : Int32) (t33 : Int32) (H : Heap) (locs : List Loc), hg G (eBC G) 430 q v18 A s H locs → ∀ (ls : Array Slot), lv_has ls 9 [] → j34 t32 t33 = some z → W p l e { frames := 9, cells := 1, slots := 6, locals := 232 } s m [.ref (q 0), .int p1].toArray below meth c H locs 1 6 (MQ below ((qZ z.1) (cB G (eBC G) 430 q z.2 A) A) [.ref (q 0), .int p1].toArray s 1 6 A) (F0 m 122 ls [.int t33, .int t32]) := by
              intro t32 t33 H locs h ls hl hf
              rw [ej34] at hf
              refine lv_icmp_ne (tgt := 129) hx hb dL_reads_122 (by decide) (fun c35 => ?_) (fun c35 => ?_)
              · have hf := it_f c35 hf
                exact hj20 v18 H locs h ls (lv_sub hl [] rfl) hf
              · have hf := it_t c35 hf
                exact hj23 v18 H locs h ls (lv_sub hl [] rfl) hf
            refine lv_icmp_ge (tgt := 120) hx hb dL_reads_110 (by decide) (fun c36 => ?_) (fun c36 => ?_)
            · have hf := it_t c36 hf
              refine lv_bipush (v := (6 : Int32)) hx hb dL_reads_120 (by decide) ?_
              exact hj34 r31 (6 : Int32) H locs h ls (lv_sub hl [] rfl) hf
            · have hf := it_f c36 hf
              refine lv_iload hx hb dL_reads_113 (lv_at hl 4 rfl) ?_
              refine lv_iconst (v := (1 : Int32)) hx hb dL_reads_115 (by decide) ?_
              refine lv_iadd hx hb dL_reads_116 ?_
              refine lv_goto (tgt := 122) hx hb dL_reads_117 (by decide) ?_
              exact hj34 r31 (r5 + (1 : Int32)) H locs h ls (lv_sub hl [] rfl) hf
    · have hf := it_t c24 hf
      refine lv_iload hx hb dL_reads_50 (lv_at hl 2 rfl) ?_
      refine lv_iload hx hb dL_reads_52 (lv_at hl 0 rfl) ?_
      refine lv_icmp_gt (tgt := 129) hx hb dL_reads_54 (by decide) (fun c37 => ?_) (fun c37 => ?_)
      · have hf := it_t c37 hf
        exact hj20 v18 H locs h ls (lv_sub hl [] rfl) hf
      · have hf := it_f c37 hf
        refine lv_aload_n hx hb dL_reads_57 rfl (lv_at hl 6 rfl) ?_
        obtain ⟨r38, hy39, hf⟩ := ob_e hf
        refine xl0c h (va_runS (As := [.ref (q 0)]) (rest := []) hC (c_L_look l hst G sa q v18 hy39 H.size) (xcgS hC (fun _ h9 => wM_in h9) lk_L_133 in_L co_L_look st_L_look rfl rfl dd_L_look ⟨Nat.le_of_ble_eq_true rfl, Nat.le_of_ble_eq_true rfl⟩) (preS0T h hT [.ref (q 0)]) rfl rfl hl.1 rfl (lv_room (Nat.le_of_ble_eq_true rfl)) dL_reads_58 ⟨Nat.le_of_ble_eq_true rfl, Nat.le_of_ble_eq_true rfl⟩) (fun H locs h => ?_)
        refine W.widen (k := 1) (n := 6) (by omega) (by omega) ?_
        obtain ⟨v40, ev40, hf⟩ := lt_e hf
        rw [← ev40] at h
        refine lv_lload_n hx hb dL_reads_61 rfl (lv_at hl 5 rfl) ?_
        refine W.lcmp hx hb dL_reads_62 ?_
        refine lv_if_ne (tgt := 129) hx hb dL_reads_63 (by decide) (fun c41 => ?_) (fun c41 => ?_)
        · have hf := it_f c41 hf
          exact hj20 v40 H locs h ls (lv_sub hl [] rfl) hf
        · have hf := it_t c41 hf
          refine lv_aload_n hx hb dL_reads_66 rfl (lv_at hl 6 rfl) ?_
          refine lv_bipush (v := (15 : Int32)) hx hb dL_reads_67 (by decide) ?_
          obtain ⟨r43, hy42, hf⟩ := ob_e hf
          refine xiG h (va_runV (As := [.int (15 : Int32)]) (rest := []) hC (c_X8_count_n l G q v40 (15 : Int32) hy42 H.size) (xcwV hC lk_L_76 in_X8 co_X8_count im_X8_count se_X8_count rfl rfl dd_X8_count ⟨Nat.le_of_ble_eq_true rfl, Nat.le_of_ble_eq_true rfl⟩) (preVO0 h.o (Nat.le_of_ble_eq_true rfl) eBC_0 rfl [.int (15 : Int32)]) rfl rfl hl.1 rfl (lv_room (Nat.le_of_ble_eq_true rfl)) dL_reads_69 ⟨Nat.le_of_ble_eq_true rfl, Nat.le_of_ble_eq_true rfl⟩) (fun H locs h => ?_)
          refine lv_iload hx hb dL_reads_72 (lv_at hl 4 rfl) ?_
          refine lv_icmp_ne (tgt := 129) hx hb dL_reads_74 (by decide) (fun c44 => ?_) (fun c44 => ?_)
          · have hf := it_f c44 hf
            exact hj20 v40 H locs h ls (lv_sub hl [] rfl) hf
          · have hf := it_t c44 hf
            refine lv_goto (tgt := 125) hx hb dL_reads_77 (by decide) ?_
            exact hj23 v40 H locs h ls (lv_sub hl [] rfl) hf
def m_L_begins (v : xSt) (p1 : Int32) (p2 : Int32) : Option (Int32 × xSt) := lt (fun (t1 : Int32) => ob (m_L_low (p2 >>> ((9 : Int32) &&& 31)) (3 : Int32)) (fun r3 => lt (fun (t5 : Int32) => lt (fun (t7 : Int32) => ob (m_X8_count_n v (11 : Int32)) (fun r10 => lt (fun (t11 : Int32) => lt (fun (t13 : Int32) (v14 : xSt) => lt (fun (t16 : Int32) (v17 : xSt) => (if t5 = 0 then (if t7 ≤ 0 then lt (fun (_ : Unit) => some ((0 : Int32), v17)) (fun j21 => (if t16 = t13 then ob (m_X8_work_n v17 (0 : Int32) (0 : Int32)) (fun r24 => (if r24 = (p1 + (1 : Int32)) then ob (m_X8_work_n v17 (0 : Int32) (1 : Int32)) (fun r27 => (if r27 = t1 then ob (m_X8_work_n v17 (0 : Int32) (2 : Int32)) (fun r30 => (if r30 = t13 then ob (m_X8_work_n v17 (0 : Int32) (3 : Int32)) (fun r33 => (if r33 = (-1 : Int32) then ob (m_X8_count_n v17 (1 : Int32)) (fun r36 => (if r36 = 0 then lt (fun (_ : Unit) => some ((1 : Int32), v17)) (fun j38 => (if 0 < p1 then j38 () else ob (m_X8_count_n v17 (11 : Int32)) (fun r41 => (if r41 = 0 then j38 () else j21 ())))) else j21 ())) else j21 ())) else j21 ())) else j21 ())) else j21 ())) else j21 ())) else (if t16 = (-103 : Int32) then some ((1 : Int32), v17) else some ((0 : Int32), v17))) else lt (fun (t44 : Int32) (t45 : Int32) => (if t44 = t45 then some ((1 : Int32), v17) else some ((0 : Int32), v17))) (fun j46 => (if p1 = (2 : Int32) then j46 t16 (-102 : Int32) else j46 t16 (-101 : Int32))))) (fun j18 => (if p1 = 0 then ob (m_L_write v14 t1) (fun r57 => lt (r57.2) (fun v59 => j18 r57.1 v59)) else (if p1 = (1 : Int32) then ob (m_L_erase v14 t1) (fun r54 => lt (r54.2) (fun v56 => j18 r54.1 v56)) else ob (m_L_lock v14 t1 r3) (fun r51 => lt (r51.2) (fun v53 => j18 r51.1 v53)))))) (fun j15 => (if t5 = 0 then (if p1 = 0 then ob (m_X8_setting_n v (0 : Int32)) (fun r69 => lt (r69.2) (fun v70 => j15 (t11 * r69.1) v70)) else (if p1 = (1 : Int32) then ob (m_X8_sector_n v t1 (5 : Int32)) (fun r67 => j15 r67 v) else ob (m_X8_setting_n v (3 : Int32)) (fun r64 => lt (r64.2) (fun v65 => j15 r64.1 v65)))) else j15 (0 : Int32) v))) (fun j12 => (if r10 ≤ (8 : Int32) then ob (m_X8_count_n v (11 : Int32)) (fun r73 => j12 r73) else j12 (8 : Int32))))) (fun j8 => (if t5 = 0 then ob (m_X8_why_n v (p1 + (1 : Int32)) t1) (fun r76 => j8 r76) else j8 (0 : Int32)))) (fun j6 => (if p1 = 0 then (if t1 = (256 : Int32) then j6 (1 : Int32) else j6 (0 : Int32)) else (if p1 = (1 : Int32) then (if t1 = (8 : Int32) then j6 (1 : Int32) else j6 (0 : Int32)) else lt (fun (_ : Unit) => j6 (1 : Int32)) (fun j79 => (if t1 = (5 : Int32) then j79 () else (if r3 = (2 : Int32) then j79 () else j6 (0 : Int32))))))))) (fun j2 => (if p1 = 0 then ob (m_L_low p2 (257 : Int32)) (fun r90 => j2 r90) else (if p1 = (1 : Int32) then ob (m_L_low p2 (9 : Int32)) (fun r88 => j2 r88) else ob (m_L_low p2 (6 : Int32)) (fun r86 => j2 r86))))
set_option maxHeartbeats 4000000 in
set_option maxRecDepth 100000 in
theorem c_L_begins (l : Launch) (hst : l.stackTraces = false) (G : xGl) (sa q : Nat → Nat) (v : xSt) (p1 : Int32) (p2 : Int32) {z : (Int32 × xSt)} (hf : m_L_begins v p1 p2 = some z) : mRS l yL_begins (wM yL_begins cL_begins 10 (some .boolean)) { frames := 8, cells := 1, slots := 6, locals := 213 } G sa (eBC G) 430 q v [.ref (q 0), .int p1, .int p2] (qZ z.1) z.2 1 6 := by
  refine xRSg (cc := cL_begins) (maxL := 10) (ret := (some .boolean)) (by decide) rfl (Nat.le_of_ble_eq_true rfl) ?_
  intro p e s m below meth c ls A hC hr hlk h hT hl
  have hx := hC.1
  have hb := hC.2.1
  have hl : lv_has ls 10 [(0, .ref (q 0)), (1, .int p1), (2, .int p2)] := hl
  unfold m_L_begins at hf
  obtain ⟨H, hH⟩ : ∃ H, H = s.heap := ⟨_, rfl⟩
  obtain ⟨locs, hlo⟩ : ∃ x : List Loc, x = [] := ⟨_, rfl⟩
  have h : hg G (eBC G) 430 q v A s H locs := by rw [hH, hlo]; exact h
  rw [← hlo, ← hH]
  clear hH hlo
  refine lv_iload_n hx hb dL_begins_0 rfl (lv_at hl 1 rfl) ?_
  obtain ⟨j2, ej2, hf⟩ := lt_e hf
  have hj2 : ∀ (t1 : Int32) (H : Heap) (locs : List Loc), hg G (eBC G) 430 q v A s H locs → ∀ (ls : Array Slot), lv_has ls 10 [(0, .ref (q 0)), (1, .int p1), (2, .int p2)] → j2 t1 = some z → W p l e { frames := 8, cells := 1, slots := 6, locals := 213 } s m [.ref (q 0), .int p1, .int p2].toArray below meth c H locs 0 0 (MQ below ((qZ z.1) (cB G (eBC G) 430 q z.2 A) A) [.ref (q 0), .int p1, .int p2].toArray s 1 6 A) (F0 m 34 ls [.int t1]) := by
    intro t1 H locs h ls hl hf
    rw [ej2] at hf
    refine lv_istore_n (lv' := [(3, .int t1), (0, .ref (q 0)), (1, .int p1), (2, .int p2)]) hx hb dL_begins_34 rfl hl (by decide) rfl (fun ls hl => ?_)
    refine lv_iload_n hx hb dL_begins_35 rfl (lv_at hl 3 rfl) ?_
    refine lv_bipush (v := (9 : Int32)) hx hb dL_begins_36 (by decide) ?_
    refine lv_ishr hx hb dL_begins_38 ?_
    refine lv_iconst (v := (3 : Int32)) hx hb dL_begins_39 (by decide) ?_
    obtain ⟨r3, hy4, hf⟩ := ob_e hf
    refine xiG h (va_runS (As := [.int (p2 >>> ((9 : Int32) &&& 31)), .int (3 : Int32)]) (rest := []) hC (c_L_low l G q v (p2 >>> ((9 : Int32) &&& 31)) (3 : Int32) hy4 H.size) (xcgS hC (fun _ h9 => wM_in h9) lk_L_113 in_L co_L_low st_L_low rfl rfl dd_L_low ⟨Nat.le_of_ble_eq_true rfl, Nat.le_of_ble_eq_true rfl⟩) (preSN h.o [.int (p2 >>> ((9 : Int32) &&& 31)), .int (3 : Int32)]) rfl rfl hl.1 rfl (lv_room (Nat.le_of_ble_eq_true rfl)) dL_begins_40 ⟨Nat.le_of_ble_eq_true rfl, Nat.le_of_ble_eq_true rfl⟩) (fun H locs h => ?_)
    refine lv_istore (lv' := [(4, .int r3), (3, .int t1), (0, .ref (q 0)), (1, .int p1), (2, .int p2)]) hx hb dL_begins_43 hl (by decide) rfl (fun ls hl => ?_)
    refine lv_iload_n hx hb dL_begins_45 rfl (lv_at hl 3 rfl) ?_
    obtain ⟨j6, ej6, hf⟩ := lt_e hf
    have hj6 : ∀ (t5 : Int32) (H : Heap) (locs : List Loc), hg G (eBC G) 430 q v A s H locs → ∀ (ls : Array Slot), lv_has ls 10 [(0, .ref (q 0)), (1, .int p1), (3, .int t1), (4, .int r3)] → j6 t5 = some z → W p l e { frames := 8, cells := 1, slots := 6, locals := 213 } s m [.ref (q 0), .int p1, .int p2].toArray below meth c H locs 0 0 (MQ below ((qZ z.1) (cB G (eBC G) 430 q z.2 A) A) [.ref (q 0), .int p1, .int p2].toArray s 1 6 A) (F0 m 99 ls [.int t5]) := by
      intro t5 H locs h ls hl hf
      rw [ej6] at hf
      refine lv_istore (lv' := [(5, .int t5), (0, .ref (q 0)), (1, .int p1), (3, .int t1), (4, .int r3)]) hx hb dL_begins_99 hl (by decide) rfl (fun ls hl => ?_)
      refine lv_iload hx hb dL_begins_101 (lv_at hl 0 rfl) ?_
      obtain ⟨j8, ej8, hf⟩ := lt_e hf
      have hj8 : ∀ (t7 : Int32) (H : Heap) (locs : List Loc), hg G (eBC G) 430 q v A s H locs → ∀ (ls : Array Slot), lv_has ls 10 [(0, .ref (q 0)), (1, .int p1), (3, .int t1), (4, .int r3), (5, .int t5)] → j8 t7 = some z → W p l e { frames := 8, cells := 1, slots := 6, locals := 213 } s m [.ref (q 0), .int p1, .int p2].toArray below meth c H locs 0 0 (MQ below ((qZ z.1) (cB G (eBC G) 430 q z.2 A) A) [.ref (q 0), .int p1, .int p2].toArray s 1 6 A) (F0 m 118 ls [.int t7]) := by
        intro t7 H locs h ls hl hf
        rw [ej8] at hf
        refine lv_istore (lv' := [(6, .int t7), (0, .ref (q 0)), (1, .int p1), (3, .int t1), (4, .int r3), (5, .int t5)]) hx hb dL_begins_118 hl (by decide) rfl (fun ls hl => ?_)
        refine lv_aload_n hx hb dL_begins_120 rfl (lv_at hl 1 rfl) ?_
        refine lv_bipush (v := (11 : Int32)) hx hb dL_begins_121 (by decide) ?_
        obtain ⟨r10, hy9, hf⟩ := ob_e hf
        refine xiG h (va_runV (As := [.int (11 : Int32)]) (rest := []) hC (c_X8_count_n l G q v (11 : Int32) hy9 H.size) (xcwV hC lk_L_76 in_X8 co_X8_count im_X8_count se_X8_count rfl rfl dd_X8_count ⟨Nat.le_of_ble_eq_true rfl, Nat.le_of_ble_eq_true rfl⟩) (preVO0 h.o (Nat.le_of_ble_eq_true rfl) eBC_0 rfl [.int (11 : Int32)]) rfl rfl hl.1 rfl (lv_room (Nat.le_of_ble_eq_true rfl)) dL_begins_123 ⟨Nat.le_of_ble_eq_true rfl, Nat.le_of_ble_eq_true rfl⟩) (fun H locs h => ?_)
        refine lv_bipush (v := (8 : Int32)) hx hb dL_begins_126 (by decide) ?_
        obtain ⟨j12, ej12, hf⟩ := lt_e hf
        have hj12 : ∀ (t11 : Int32) (H : Heap) (locs : List Loc), hg G (eBC G) 430 q v A s H locs → ∀ (ls : Array Slot), lv_has ls 10 [(0, .ref (q 0)), (1, .int p1), (3, .int t1), (4, .int r3), (5, .int t5), (6, .int t7)] → j12 t11 = some z → W p l e { frames := 8, cells := 1, slots := 6, locals := 213 } s m [.ref (q 0), .int p1, .int p2].toArray below meth c H locs 0 0 (MQ below ((qZ z.1) (cB G (eBC G) 430 q z.2 A) A) [.ref (q 0), .int p1, .int p2].toArray s 1 6 A) (F0 m 142 ls [.int t11]) := by
          intro t11 H locs h ls hl hf
          rw [ej12] at hf
          refine lv_istore (lv' := [(7, .int t11), (0, .ref (q 0)), (1, .int p1), (3, .int t1), (4, .int r3), (5, .int t5), (6, .int t7)]) hx hb dL_begins_142 hl (by decide) rfl (fun ls hl => ?_)
          refine lv_iload hx hb dL_begins_144 (lv_at hl 5 rfl) ?_
          obtain ⟨j15, ej15, hf⟩ := lt_e hf
          have hj15 : ∀ (t13 : Int32) (v14 : xSt) (H : Heap) (locs : List Loc), hg G (eBC G) 430 q v14 A s H locs → ∀ (ls : Array Slot), lv_has ls 10 [(0, .ref (q 0)), (1, .int p1), (3, .int t1), (4, .int r3), (5, .int t5), (6, .int t7)] → j15 t13 v14 = some z → W p l e { frames := 8, cells := 1, slots := 6, locals := 213 } s m [.ref (q 0), .int p1, .int p2].toArray below meth c H locs 0 0 (MQ below ((qZ z.1) (cB G (eBC G) 430 q z.2 A) A) [.ref (q 0), .int p1, .int p2].toArray s 1 6 A) (F0 m 187 ls [.int t13]) := by
            intro t13 v14 H locs h ls hl hf
            rw [ej15] at hf
            refine lv_istore (lv' := [(8, .int t13), (0, .ref (q 0)), (1, .int p1), (3, .int t1), (4, .int r3), (5, .int t5), (6, .int t7)]) hx hb dL_begins_187 hl (by decide) rfl (fun ls hl => ?_)
            refine lv_iload_n hx hb dL_begins_189 rfl (lv_at hl 2 rfl) ?_
            obtain ⟨j18, ej18, hf⟩ := lt_e hf
            have hj18 : ∀ (t16 : Int32) (v17 : xSt) (H : Heap) (locs : List Loc), hg G (eBC G) 430 q v17 A s H locs → ∀ (ls : Array Slot), lv_has ls 10 [(0, .ref (q 0)), (1, .int p1), (3, .int t1), (5, .int t5), (6, .int t7), (8, .int t13)] → j18 t16 v17 = some z → W p l e { frames := 8, cells := 1, slots := 6, locals := 213 } s m [.ref (q 0), .int p1, .int p2].toArray below meth c H locs 1 6 (MQ below ((qZ z.1) (cB G (eBC G) 430 q z.2 A) A) [.ref (q 0), .int p1, .int p2].toArray s 1 6 A) (F0 m 221 ls [.int t16]) := by
              intro t16 v17 H locs h ls hl hf
              rw [ej18] at hf
              refine lv_istore (lv' := [(9, .int t16), (0, .ref (q 0)), (1, .int p1), (3, .int t1), (5, .int t5), (6, .int t7), (8, .int t13)]) hx hb dL_begins_221 hl (by decide) rfl (fun ls hl => ?_)
              refine lv_iload hx hb dL_begins_223 (lv_at hl 4 rfl) ?_
              refine lv_if_eq (tgt := 253) hx hb dL_begins_225 (by decide) (fun c19 => ?_) (fun c19 => ?_)
              · have hf := it_t c19 hf
                refine lv_iload hx hb dL_begins_253 (lv_at hl 5 rfl) ?_
                refine lv_if_le (tgt := 273) hx hb dL_begins_255 (by decide) (fun c20 => ?_) (fun c20 => ?_)
                · have hf := it_t c20 hf
                  refine lv_iload hx hb dL_begins_273 (lv_at hl 0 rfl) ?_
                  refine lv_iload hx hb dL_begins_275 (lv_at hl 6 rfl) ?_
                  obtain ⟨j21, ej21, hf⟩ := lt_e hf
                  have hj21 : ∀ (uu : Unit) (H : Heap) (locs : List Loc), hg G (eBC G) 430 q v17 A s H locs → ∀ (ls : Array Slot), lv_has ls 10 [] → j21 uu = some z → W p l e { frames := 8, cells := 1, slots := 6, locals := 213 } s m [.ref (q 0), .int p1, .int p2].toArray below meth c H locs 1 6 (MQ below ((qZ z.1) (cB G (eBC G) 430 q z.2 A) A) [.ref (q 0), .int p1, .int p2].toArray s 1 6 A) (F0 m 348 ls []) := by
                    intro uu H locs h ls hl hf
                    rw [ej21] at hf
                    refine lv_iconst (v := (0 : Int32)) hx hb dL_begins_348 (by decide) ?_
                    have hf := sm_e hf
                    exact xzretc hC hr hlk h (by rw [← hf]) (by decide) (by rw [← hf]) dL_begins_349
                  refine lv_icmp_ne (tgt := 348) hx hb dL_begins_277 (by decide) (fun c22 => ?_) (fun c22 => ?_)
                  · have hf := it_f c22 hf
                    exact hj21 () H locs h ls (lv_sub hl [] rfl) hf
                  · have hf := it_t c22 hf
                    refine lv_aload_n hx hb dL_begins_280 rfl (lv_at hl 1 rfl) ?_
                    refine lv_iconst (v := (0 : Int32)) hx hb dL_begins_281 (by decide) ?_
                    refine lv_iconst (v := (0 : Int32)) hx hb dL_begins_282 (by decide) ?_
                    obtain ⟨r24, hy23, hf⟩ := ob_e hf
                    refine xiG h (va_runV (As := [.int (0 : Int32), .int (0 : Int32)]) (rest := []) hC (c_X8_work_n l G q v17 (0 : Int32) (0 : Int32) hy23 H.size) (xcwV hC lk_L_85 in_X8 co_X8_work im_X8_work se_X8_work rfl rfl dd_X8_work ⟨Nat.le_of_ble_eq_true rfl, Nat.le_of_ble_eq_true rfl⟩) (preVO0 h.o (Nat.le_of_ble_eq_true rfl) eBC_0 rfl [.int (0 : Int32), .int (0 : Int32)]) rfl rfl hl.1 rfl (lv_room (Nat.le_of_ble_eq_true rfl)) dL_begins_283 ⟨Nat.le_of_ble_eq_true rfl, Nat.le_of_ble_eq_true rfl⟩) (fun H locs h => ?_)
                    refine lv_iload_n hx hb dL_begins_286 rfl (lv_at hl 2 rfl) ?_
                    refine lv_iconst (v := (1 : Int32)) hx hb dL_begins_287 (by decide) ?_
                    refine lv_iadd hx hb dL_begins_288 ?_
                    refine lv_icmp_ne (tgt := 348) hx hb dL_begins_289 (by decide) (fun c25 => ?_) (fun c25 => ?_)
                    · have hf := it_f c25 hf
                      exact hj21 () H locs h ls (lv_sub hl [] rfl) hf
                    · have hf := it_t c25 hf
                      refine lv_aload_n hx hb dL_begins_292 rfl (lv_at hl 1 rfl) ?_
                      refine lv_iconst (v := (0 : Int32)) hx hb dL_begins_293 (by decide) ?_
                      refine lv_iconst (v := (1 : Int32)) hx hb dL_begins_294 (by decide) ?_
                      obtain ⟨r27, hy26, hf⟩ := ob_e hf
                      refine xiG h (va_runV (As := [.int (0 : Int32), .int (1 : Int32)]) (rest := []) hC (c_X8_work_n l G q v17 (0 : Int32) (1 : Int32) hy26 H.size) (xcwV hC lk_L_85 in_X8 co_X8_work im_X8_work se_X8_work rfl rfl dd_X8_work ⟨Nat.le_of_ble_eq_true rfl, Nat.le_of_ble_eq_true rfl⟩) (preVO0 h.o (Nat.le_of_ble_eq_true rfl) eBC_0 rfl [.int (0 : Int32), .int (1 : Int32)]) rfl rfl hl.1 rfl (lv_room (Nat.le_of_ble_eq_true rfl)) dL_begins_295 ⟨Nat.le_of_ble_eq_true rfl, Nat.le_of_ble_eq_true rfl⟩) (fun H locs h => ?_)
                      refine lv_iload_n hx hb dL_begins_298 rfl (lv_at hl 3 rfl) ?_
                      refine lv_icmp_ne (tgt := 348) hx hb dL_begins_299 (by decide) (fun c28 => ?_) (fun c28 => ?_)
                      · have hf := it_f c28 hf
                        exact hj21 () H locs h ls (lv_sub hl [] rfl) hf
                      · have hf := it_t c28 hf
                        refine lv_aload_n hx hb dL_begins_302 rfl (lv_at hl 1 rfl) ?_
                        refine lv_iconst (v := (0 : Int32)) hx hb dL_begins_303 (by decide) ?_
                        refine lv_iconst (v := (2 : Int32)) hx hb dL_begins_304 (by decide) ?_
                        obtain ⟨r30, hy29, hf⟩ := ob_e hf
                        refine xiG h (va_runV (As := [.int (0 : Int32), .int (2 : Int32)]) (rest := []) hC (c_X8_work_n l G q v17 (0 : Int32) (2 : Int32) hy29 H.size) (xcwV hC lk_L_85 in_X8 co_X8_work im_X8_work se_X8_work rfl rfl dd_X8_work ⟨Nat.le_of_ble_eq_true rfl, Nat.le_of_ble_eq_true rfl⟩) (preVO0 h.o (Nat.le_of_ble_eq_true rfl) eBC_0 rfl [.int (0 : Int32), .int (2 : Int32)]) rfl rfl hl.1 rfl (lv_room (Nat.le_of_ble_eq_true rfl)) dL_begins_305 ⟨Nat.le_of_ble_eq_true rfl, Nat.le_of_ble_eq_true rfl⟩) (fun H locs h => ?_)
                        refine lv_iload hx hb dL_begins_308 (lv_at hl 6 rfl) ?_
                        refine lv_icmp_ne (tgt := 348) hx hb dL_begins_310 (by decide) (fun c31 => ?_) (fun c31 => ?_)
                        · have hf := it_f c31 hf
                          exact hj21 () H locs h ls (lv_sub hl [] rfl) hf
                        · have hf := it_t c31 hf
                          refine lv_aload_n hx hb dL_begins_313 rfl (lv_at hl 1 rfl) ?_
                          refine lv_iconst (v := (0 : Int32)) hx hb dL_begins_314 (by decide) ?_
                          refine lv_iconst (v := (3 : Int32)) hx hb dL_begins_315 (by decide) ?_
                          obtain ⟨r33, hy32, hf⟩ := ob_e hf
                          refine xiG h (va_runV (As := [.int (0 : Int32), .int (3 : Int32)]) (rest := []) hC (c_X8_work_n l G q v17 (0 : Int32) (3 : Int32) hy32 H.size) (xcwV hC lk_L_85 in_X8 co_X8_work im_X8_work se_X8_work rfl rfl dd_X8_work ⟨Nat.le_of_ble_eq_true rfl, Nat.le_of_ble_eq_true rfl⟩) (preVO0 h.o (Nat.le_of_ble_eq_true rfl) eBC_0 rfl [.int (0 : Int32), .int (3 : Int32)]) rfl rfl hl.1 rfl (lv_room (Nat.le_of_ble_eq_true rfl)) dL_begins_316 ⟨Nat.le_of_ble_eq_true rfl, Nat.le_of_ble_eq_true rfl⟩) (fun H locs h => ?_)
                          refine lv_iconst (v := (-1 : Int32)) hx hb dL_begins_319 (by decide) ?_
                          refine lv_icmp_ne (tgt := 348) hx hb dL_begins_320 (by decide) (fun c34 => ?_) (fun c34 => ?_)
                          · have hf := it_f c34 hf
                            exact hj21 () H locs h ls (lv_sub hl [] rfl) hf
                          · have hf := it_t c34 hf
                            refine lv_aload_n hx hb dL_begins_323 rfl (lv_at hl 1 rfl) ?_
                            refine lv_iconst (v := (1 : Int32)) hx hb dL_begins_324 (by decide) ?_
                            obtain ⟨r36, hy35, hf⟩ := ob_e hf
                            refine xiG h (va_runV (As := [.int (1 : Int32)]) (rest := []) hC (c_X8_count_n l G q v17 (1 : Int32) hy35 H.size) (xcwV hC lk_L_76 in_X8 co_X8_count im_X8_count se_X8_count rfl rfl dd_X8_count ⟨Nat.le_of_ble_eq_true rfl, Nat.le_of_ble_eq_true rfl⟩) (preVO0 h.o (Nat.le_of_ble_eq_true rfl) eBC_0 rfl [.int (1 : Int32)]) rfl rfl hl.1 rfl (lv_room (Nat.le_of_ble_eq_true rfl)) dL_begins_325 ⟨Nat.le_of_ble_eq_true rfl, Nat.le_of_ble_eq_true rfl⟩) (fun H locs h => ?_)
                            refine lv_if_ne (tgt := 348) hx hb dL_begins_328 (by decide) (fun c37 => ?_) (fun c37 => ?_)
                            · have hf := it_f c37 hf
                              exact hj21 () H locs h ls (lv_sub hl [] rfl) hf
                            · have hf := it_t c37 hf
                              refine lv_iload_n hx hb dL_begins_331 rfl (lv_at hl 2 rfl) ?_
                              obtain ⟨j38, ej38, hf⟩ := lt_e hf
                              have hj38 : ∀ (uu : Unit) (H : Heap) (locs : List Loc), hg G (eBC G) 430 q v17 A s H locs → ∀ (ls : Array Slot), lv_has ls 10 [] → j38 uu = some z → W p l e { frames := 8, cells := 1, slots := 6, locals := 213 } s m [.ref (q 0), .int p1, .int p2].toArray below meth c H locs 1 6 (MQ below ((qZ z.1) (cB G (eBC G) 430 q z.2 A) A) [.ref (q 0), .int p1, .int p2].toArray s 1 6 A) (F0 m 344 ls []) := by
                                intro uu H locs h ls hl hf
                                rw [ej38] at hf
                                refine lv_iconst (v := (1 : Int32)) hx hb dL_begins_344 (by decide) ?_
                                refine lv_goto (tgt := 349) hx hb dL_begins_345 (by decide) ?_
                                have hf := sm_e hf
                                exact xzretc hC hr hlk h (by rw [← hf]) (by decide) (by rw [← hf]) dL_begins_349
                              refine lv_if_gt (tgt := 344) hx hb dL_begins_332 (by decide) (fun c39 => ?_) (fun c39 => ?_)
                              · have hf := it_t c39 hf
                                exact hj38 () H locs h ls (lv_sub hl [] rfl) hf
                              · have hf := it_f c39 hf
                                refine lv_aload_n hx hb dL_begins_335 rfl (lv_at hl 1 rfl) ?_
                                refine lv_bipush (v := (11 : Int32)) hx hb dL_begins_336 (by decide) ?_
                                obtain ⟨r41, hy40, hf⟩ := ob_e hf
                                refine xiG h (va_runV (As := [.int (11 : Int32)]) (rest := []) hC (c_X8_count_n l G q v17 (11 : Int32) hy40 H.size) (xcwV hC lk_L_76 in_X8 co_X8_count im_X8_count se_X8_count rfl rfl dd_X8_count ⟨Nat.le_of_ble_eq_true rfl, Nat.le_of_ble_eq_true rfl⟩) (preVO0 h.o (Nat.le_of_ble_eq_true rfl) eBC_0 rfl [.int (11 : Int32)]) rfl rfl hl.1 rfl (lv_room (Nat.le_of_ble_eq_true rfl)) dL_begins_338 ⟨Nat.le_of_ble_eq_true rfl, Nat.le_of_ble_eq_true rfl⟩) (fun H locs h => ?_)
                                refine lv_if_ne (tgt := 348) hx hb dL_begins_341 (by decide) (fun c42 => ?_) (fun c42 => ?_)
                                · have hf := it_f c42 hf
                                  exact hj21 () H locs h ls (lv_sub hl [] rfl) hf
                                · have hf := it_t c42 hf
                                  exact hj38 () H locs h ls (lv_sub hl [] rfl) hf
                · have hf := it_f c20 hf
                  refine lv_iload hx hb dL_begins_258 (lv_at hl 0 rfl) ?_
                  refine lv_bipush (v := (-103 : Int32)) hx hb dL_begins_260 (by decide) ?_
                  refine lv_icmp_ne (tgt := 269) hx hb dL_begins_262 (by decide) (fun c43 => ?_) (fun c43 => ?_)
                  · have hf := it_f c43 hf
                    refine lv_iconst (v := (0 : Int32)) hx hb dL_begins_269 (by decide) ?_
                    refine lv_goto (tgt := 349) hx hb dL_begins_270 (by decide) ?_
                    have hf := sm_e hf
                    exact xzretc hC hr hlk h (by rw [← hf]) (by decide) (by rw [← hf]) dL_begins_349
                  · have hf := it_t c43 hf
                    refine lv_iconst (v := (1 : Int32)) hx hb dL_begins_265 (by decide) ?_
                    refine lv_goto (tgt := 349) hx hb dL_begins_266 (by decide) ?_
                    have hf := sm_e hf
                    exact xzretc hC hr hlk h (by rw [← hf]) (by decide) (by rw [← hf]) dL_begins_349
              · have hf := it_f c19 hf
                refine lv_iload hx hb dL_begins_228 (lv_at hl 0 rfl) ?_
                refine lv_iload_n hx hb dL_begins_230 rfl (lv_at hl 2 rfl) ?_
                refine lv_iconst (v := (2 : Int32)) hx hb dL_begins_231 (by decide) ?_
                obtain ⟨j46, ej46, hf⟩ := lt_e hf
                have hj46 : ∀ (t44 : Int32) (t45 : Int32) (H : Heap) (locs : List Loc), hg G (eBC G) 430 q v17 A s H locs → ∀ (ls : Array Slot), lv_has ls 10 [] → j46 t44 t45 = some z → W p l e { frames := 8, cells := 1, slots := 6, locals := 213 } s m [.ref (q 0), .int p1, .int p2].toArray below meth c H locs 1 6 (MQ below ((qZ z.1) (cB G (eBC G) 430 q z.2 A) A) [.ref (q 0), .int p1, .int p2].toArray s 1 6 A) (F0 m 242 ls [.int t45, .int t44]) := by
                  intro t44 t45 H locs h ls hl hf
                  rw [ej46] at hf
                  refine lv_icmp_ne (tgt := 249) hx hb dL_begins_242 (by decide) (fun c47 => ?_) (fun c47 => ?_)
                  · have hf := it_f c47 hf
                    refine lv_iconst (v := (0 : Int32)) hx hb dL_begins_249 (by decide) ?_
                    refine lv_goto (tgt := 349) hx hb dL_begins_250 (by decide) ?_
                    have hf := sm_e hf
                    exact xzretc hC hr hlk h (by rw [← hf]) (by decide) (by rw [← hf]) dL_begins_349
                  · have hf := it_t c47 hf
                    refine lv_iconst (v := (1 : Int32)) hx hb dL_begins_245 (by decide) ?_
                    refine lv_goto (tgt := 349) hx hb dL_begins_246 (by decide) ?_
                    have hf := sm_e hf
                    exact xzretc hC hr hlk h (by rw [← hf]) (by decide) (by rw [← hf]) dL_begins_349
                refine lv_icmp_ne (tgt := 240) hx hb dL_begins_232 (by decide) (fun c48 => ?_) (fun c48 => ?_)
                · have hf := it_f c48 hf
                  refine lv_bipush (v := (-101 : Int32)) hx hb dL_begins_240 (by decide) ?_
                  exact hj46 t16 (-101 : Int32) H locs h ls (lv_sub hl [] rfl) hf
                · have hf := it_t c48 hf
                  refine lv_bipush (v := (-102 : Int32)) hx hb dL_begins_235 (by decide) ?_
                  refine lv_goto (tgt := 242) hx hb dL_begins_237 (by decide) ?_
                  exact hj46 t16 (-102 : Int32) H locs h ls (lv_sub hl [] rfl) hf
            refine lv_if_ne (tgt := 201) hx hb dL_begins_190 (by decide) (fun c49 => ?_) (fun c49 => ?_)
            · have hf := it_f c49 hf
              refine lv_iload_n hx hb dL_begins_201 rfl (lv_at hl 2 rfl) ?_
              refine lv_iconst (v := (1 : Int32)) hx hb dL_begins_202 (by decide) ?_
              refine lv_icmp_ne (tgt := 214) hx hb dL_begins_203 (by decide) (fun c50 => ?_) (fun c50 => ?_)
              · have hf := it_f c50 hf
                refine lv_aload_n hx hb dL_begins_214 rfl (lv_at hl 1 rfl) ?_
                refine lv_iload_n hx hb dL_begins_215 rfl (lv_at hl 3 rfl) ?_
                refine lv_iload hx hb dL_begins_216 (lv_at hl 4 rfl) ?_
                obtain ⟨r51, hy52, hf⟩ := ob_e hf
                refine xi0c h (vx_runSW (As := [.ref (q 0), .int t1, .int r3]) (rest := []) hC (c_L_lock l hst G sa q v14 t1 r3 hy52 H.size) (xcgSW hC (fun _ h9 => wM_in h9) lk_L_151 in_L co_L_lock st_L_lock rfl rfl dd_L_lock ⟨Nat.le_of_ble_eq_true rfl, Nat.le_of_ble_eq_true rfl⟩) (preS0T h hT [.ref (q 0), .int t1, .int r3]) rfl rfl hl.1 rfl (lv_room (Nat.le_of_ble_eq_true rfl)) dL_begins_218 ⟨Nat.le_of_ble_eq_true rfl, Nat.le_of_ble_eq_true rfl⟩) (fun H locs h => ?_)
                refine W.widen (k := 1) (n := 6) (by omega) (by omega) ?_
                obtain ⟨v53, ev53, hf⟩ := lt_e hf
                rw [← ev53] at h
                exact hj18 r51.1 v53 H locs h ls (lv_sub hl [1, 2, 3, 5, 6, 0] rfl) hf
              · have hf := it_t c50 hf
                refine lv_aload_n hx hb dL_begins_206 rfl (lv_at hl 1 rfl) ?_
                refine lv_iload_n hx hb dL_begins_207 rfl (lv_at hl 3 rfl) ?_
                obtain ⟨r54, hy55, hf⟩ := ob_e hf
                refine xi0c h (vx_runSW (As := [.ref (q 0), .int t1]) (rest := []) hC (c_L_erase l hst G sa q v14 t1 hy55 H.size) (xcgSW hC (fun _ h9 => wM_in h9) lk_L_149 in_L co_L_erase st_L_erase rfl rfl dd_L_erase ⟨Nat.le_of_ble_eq_true rfl, Nat.le_of_ble_eq_true rfl⟩) (preS0T h hT [.ref (q 0), .int t1]) rfl rfl hl.1 rfl (lv_room (Nat.le_of_ble_eq_true rfl)) dL_begins_208 ⟨Nat.le_of_ble_eq_true rfl, Nat.le_of_ble_eq_true rfl⟩) (fun H locs h => ?_)
                refine W.widen (k := 1) (n := 6) (by omega) (by omega) ?_
                obtain ⟨v56, ev56, hf⟩ := lt_e hf
                rw [← ev56] at h
                refine lv_goto (tgt := 221) hx hb dL_begins_211 (by decide) ?_
                exact hj18 r54.1 v56 H locs h ls (lv_sub hl [1, 2, 3, 5, 6, 0] rfl) hf
            · have hf := it_t c49 hf
              refine lv_aload_n hx hb dL_begins_193 rfl (lv_at hl 1 rfl) ?_
              refine lv_iload_n hx hb dL_begins_194 rfl (lv_at hl 3 rfl) ?_
              obtain ⟨r57, hy58, hf⟩ := ob_e hf
              refine xi0c h (vx_runSW (As := [.ref (q 0), .int t1]) (rest := []) hC (c_L_write l hst G sa q v14 t1 hy58 H.size) (xcgSW hC (fun _ h9 => wM_in h9) lk_L_147 in_L co_L_write st_L_write rfl rfl dd_L_write ⟨Nat.le_of_ble_eq_true rfl, Nat.le_of_ble_eq_true rfl⟩) (preS0T h hT [.ref (q 0), .int t1]) rfl rfl hl.1 rfl (lv_room (Nat.le_of_ble_eq_true rfl)) dL_begins_195 ⟨Nat.le_of_ble_eq_true rfl, Nat.le_of_ble_eq_true rfl⟩) (fun H locs h => ?_)
              refine W.widen (k := 1) (n := 6) (by omega) (by omega) ?_
              obtain ⟨v59, ev59, hf⟩ := lt_e hf
              rw [← ev59] at h
              refine lv_goto (tgt := 221) hx hb dL_begins_198 (by decide) ?_
              exact hj18 r57.1 v59 H locs h ls (lv_sub hl [1, 2, 3, 5, 6, 0] rfl) hf
          refine lv_if_eq (tgt := 153) hx hb dL_begins_146 (by decide) (fun c60 => ?_) (fun c60 => ?_)
          · have hf := it_t c60 hf
            refine lv_iload_n hx hb dL_begins_153 rfl (lv_at hl 2 rfl) ?_
            refine lv_if_ne (tgt := 168) hx hb dL_begins_154 (by decide) (fun c61 => ?_) (fun c61 => ?_)
            · have hf := it_f c61 hf
              refine lv_iload_n hx hb dL_begins_168 rfl (lv_at hl 2 rfl) ?_
              refine lv_iconst (v := (1 : Int32)) hx hb dL_begins_169 (by decide) ?_
              refine lv_icmp_ne (tgt := 182) hx hb dL_begins_170 (by decide) (fun c62 => ?_) (fun c62 => ?_)
              · have hf := it_f c62 hf
                refine lv_aload_n hx hb dL_begins_182 rfl (lv_at hl 1 rfl) ?_
                refine lv_iconst (v := (3 : Int32)) hx hb dL_begins_183 (by decide) ?_
                obtain ⟨r64, hy63, hf⟩ := ob_e hf
                refine xi0 h (va_runV (As := [.int (3 : Int32)]) (rest := []) hC (c_X8_setting_n l G sa q v (3 : Int32) hy63 H.size) (xcwV hC lk_L_88 in_X8 co_X8_setting im_X8_setting se_X8_setting rfl rfl dd_X8_setting ⟨Nat.le_of_ble_eq_true rfl, Nat.le_of_ble_eq_true rfl⟩) (preV0T h hT (Nat.le_of_ble_eq_true rfl) eBC_0 rfl [.int (3 : Int32)]) rfl rfl hl.1 rfl (lv_room (Nat.le_of_ble_eq_true rfl)) dL_begins_184 ⟨Nat.le_of_ble_eq_true rfl, Nat.le_of_ble_eq_true rfl⟩) (fun H locs h => ?_)
                obtain ⟨v65, ev65, hf⟩ := lt_e hf
                rw [← ev65] at h
                exact hj15 r64.1 v65 H locs h ls (lv_sub hl [1, 2, 3, 4, 5, 6] rfl) hf
              · have hf := it_t c62 hf
                refine lv_aload_n hx hb dL_begins_173 rfl (lv_at hl 1 rfl) ?_
                refine lv_iload_n hx hb dL_begins_174 rfl (lv_at hl 3 rfl) ?_
                refine lv_iconst (v := (5 : Int32)) hx hb dL_begins_175 (by decide) ?_
                obtain ⟨r67, hy66, hf⟩ := ob_e hf
                refine xiG h (va_runV (As := [.int t1, .int (5 : Int32)]) (rest := []) hC (c_X8_sector_n l G q v t1 (5 : Int32) hy66 H.size) (xcwV hC lk_L_82 in_X8 co_X8_sector im_X8_sector se_X8_sector rfl rfl dd_X8_sector ⟨Nat.le_of_ble_eq_true rfl, Nat.le_of_ble_eq_true rfl⟩) (preVO0 h.o (Nat.le_of_ble_eq_true rfl) eBC_0 rfl [.int t1, .int (5 : Int32)]) rfl rfl hl.1 rfl (lv_room (Nat.le_of_ble_eq_true rfl)) dL_begins_176 ⟨Nat.le_of_ble_eq_true rfl, Nat.le_of_ble_eq_true rfl⟩) (fun H locs h => ?_)
                refine lv_goto (tgt := 187) hx hb dL_begins_179 (by decide) ?_
                exact hj15 r67 v H locs h ls (lv_sub hl [1, 2, 3, 4, 5, 6] rfl) hf
            · have hf := it_t c61 hf
              refine lv_iload hx hb dL_begins_157 (lv_at hl 0 rfl) ?_
              refine lv_aload_n hx hb dL_begins_159 rfl (lv_at hl 1 rfl) ?_
              refine lv_iconst (v := (0 : Int32)) hx hb dL_begins_160 (by decide) ?_
              obtain ⟨r69, hy68, hf⟩ := ob_e hf
              refine xi0 h (va_runV (As := [.int (0 : Int32)]) (rest := [.int t11]) hC (c_X8_setting_n l G sa q v (0 : Int32) hy68 H.size) (xcwV hC lk_L_88 in_X8 co_X8_setting im_X8_setting se_X8_setting rfl rfl dd_X8_setting ⟨Nat.le_of_ble_eq_true rfl, Nat.le_of_ble_eq_true rfl⟩) (preV0T h hT (Nat.le_of_ble_eq_true rfl) eBC_0 rfl [.int (0 : Int32)]) rfl rfl hl.1 rfl (lv_room (Nat.le_of_ble_eq_true rfl)) dL_begins_161 ⟨Nat.le_of_ble_eq_true rfl, Nat.le_of_ble_eq_true rfl⟩) (fun H locs h => ?_)
              obtain ⟨v70, ev70, hf⟩ := lt_e hf
              rw [← ev70] at h
              refine lv_imul hx hb dL_begins_164 ?_
              refine lv_goto (tgt := 187) hx hb dL_begins_165 (by decide) ?_
              exact hj15 (t11 * r69.1) v70 H locs h ls (lv_sub hl [1, 2, 3, 4, 5, 6] rfl) hf
          · have hf := it_f c60 hf
            refine lv_iconst (v := (0 : Int32)) hx hb dL_begins_149 (by decide) ?_
            refine lv_goto (tgt := 187) hx hb dL_begins_150 (by decide) ?_
            exact hj15 (0 : Int32) v H locs h ls (lv_sub hl [1, 2, 3, 4, 5, 6] rfl) hf
        refine lv_icmp_le (tgt := 136) hx hb dL_begins_128 (by decide) (fun c71 => ?_) (fun c71 => ?_)
        · have hf := it_t c71 hf
          refine lv_aload_n hx hb dL_begins_136 rfl (lv_at hl 1 rfl) ?_
          refine lv_bipush (v := (11 : Int32)) hx hb dL_begins_137 (by decide) ?_
          obtain ⟨r73, hy72, hf⟩ := ob_e hf
          refine xiG h (va_runV (As := [.int (11 : Int32)]) (rest := []) hC (c_X8_count_n l G q v (11 : Int32) hy72 H.size) (xcwV hC lk_L_76 in_X8 co_X8_count im_X8_count se_X8_count rfl rfl dd_X8_count ⟨Nat.le_of_ble_eq_true rfl, Nat.le_of_ble_eq_true rfl⟩) (preVO0 h.o (Nat.le_of_ble_eq_true rfl) eBC_0 rfl [.int (11 : Int32)]) rfl rfl hl.1 rfl (lv_room (Nat.le_of_ble_eq_true rfl)) dL_begins_139 ⟨Nat.le_of_ble_eq_true rfl, Nat.le_of_ble_eq_true rfl⟩) (fun H locs h => ?_)
          exact hj12 r73 H locs h ls (lv_sub hl [1, 2, 3, 4, 5, 0] rfl) hf
        · have hf := it_f c71 hf
          refine lv_bipush (v := (8 : Int32)) hx hb dL_begins_131 (by decide) ?_
          refine lv_goto (tgt := 142) hx hb dL_begins_133 (by decide) ?_
          exact hj12 (8 : Int32) H locs h ls (lv_sub hl [1, 2, 3, 4, 5, 0] rfl) hf
      refine lv_if_eq (tgt := 110) hx hb dL_begins_103 (by decide) (fun c74 => ?_) (fun c74 => ?_)
      · have hf := it_t c74 hf
        refine lv_aload_n hx hb dL_begins_110 rfl (lv_at hl 1 rfl) ?_
        refine lv_iload_n hx hb dL_begins_111 rfl (lv_at hl 2 rfl) ?_
        refine lv_iconst (v := (1 : Int32)) hx hb dL_begins_112 (by decide) ?_
        refine lv_iadd hx hb dL_begins_113 ?_
        refine lv_iload_n hx hb dL_begins_114 rfl (lv_at hl 3 rfl) ?_
        obtain ⟨r76, hy75, hf⟩ := ob_e hf
        refine xiG h (va_runV (As := [.int (p1 + (1 : Int32)), .int t1]) (rest := []) hC (c_X8_why_n l G q v (p1 + (1 : Int32)) t1 hy75 H.size) (xcwV hC lk_L_110 in_X8 co_X8_why im_X8_why se_X8_why rfl rfl dd_X8_why ⟨Nat.le_of_ble_eq_true rfl, Nat.le_of_ble_eq_true rfl⟩) (preVO0 h.o (Nat.le_of_ble_eq_true rfl) eBC_0 rfl [.int (p1 + (1 : Int32)), .int t1]) rfl rfl hl.1 rfl (lv_room (Nat.le_of_ble_eq_true rfl)) dL_begins_115 ⟨Nat.le_of_ble_eq_true rfl, Nat.le_of_ble_eq_true rfl⟩) (fun H locs h => ?_)
        exact hj8 r76 H locs h ls (lv_sub hl [1, 2, 3, 4, 0] rfl) hf
      · have hf := it_f c74 hf
        refine lv_iconst (v := (0 : Int32)) hx hb dL_begins_106 (by decide) ?_
        refine lv_goto (tgt := 118) hx hb dL_begins_107 (by decide) ?_
        exact hj8 (0 : Int32) H locs h ls (lv_sub hl [1, 2, 3, 4, 0] rfl) hf
    refine lv_if_ne (tgt := 64) hx hb dL_begins_46 (by decide) (fun c77 => ?_) (fun c77 => ?_)
    · have hf := it_f c77 hf
      refine lv_iload_n hx hb dL_begins_64 rfl (lv_at hl 3 rfl) ?_
      refine lv_iconst (v := (1 : Int32)) hx hb dL_begins_65 (by decide) ?_
      refine lv_icmp_ne (tgt := 83) hx hb dL_begins_66 (by decide) (fun c78 => ?_) (fun c78 => ?_)
      · have hf := it_f c78 hf
        refine lv_iload_n hx hb dL_begins_83 rfl (lv_at hl 1 rfl) ?_
        refine lv_iconst (v := (5 : Int32)) hx hb dL_begins_84 (by decide) ?_
        obtain ⟨j79, ej79, hf⟩ := lt_e hf
        have hj79 : ∀ (uu : Unit) (H : Heap) (locs : List Loc), hg G (eBC G) 430 q v A s H locs → ∀ (ls : Array Slot), lv_has ls 10 [(0, .ref (q 0)), (1, .int p1), (3, .int t1), (4, .int r3)] → j79 uu = some z → W p l e { frames := 8, cells := 1, slots := 6, locals := 213 } s m [.ref (q 0), .int p1, .int p2].toArray below meth c H locs 0 0 (MQ below ((qZ z.1) (cB G (eBC G) 430 q z.2 A) A) [.ref (q 0), .int p1, .int p2].toArray s 1 6 A) (F0 m 94 ls []) := by
          intro uu H locs h ls hl hf
          rw [ej79] at hf
          refine lv_iconst (v := (1 : Int32)) hx hb dL_begins_94 (by decide) ?_
          refine lv_goto (tgt := 99) hx hb dL_begins_95 (by decide) ?_
          exact hj6 (1 : Int32) H locs h ls (lv_sub hl [0, 1, 2, 3] rfl) hf
        refine lv_icmp_eq (tgt := 94) hx hb dL_begins_85 (by decide) (fun c80 => ?_) (fun c80 => ?_)
        · have hf := it_t c80 hf
          exact hj79 () H locs h ls (lv_sub hl [2, 3, 1, 0] rfl) hf
        · have hf := it_f c80 hf
          refine lv_iload hx hb dL_begins_88 (lv_at hl 0 rfl) ?_
          refine lv_iconst (v := (2 : Int32)) hx hb dL_begins_90 (by decide) ?_
          refine lv_icmp_ne (tgt := 98) hx hb dL_begins_91 (by decide) (fun c81 => ?_) (fun c81 => ?_)
          · have hf := it_f c81 hf
            refine lv_iconst (v := (0 : Int32)) hx hb dL_begins_98 (by decide) ?_
            exact hj6 (0 : Int32) H locs h ls (lv_sub hl [2, 3, 1, 0] rfl) hf
          · have hf := it_t c81 hf
            exact hj79 () H locs h ls (lv_sub hl [2, 3, 1, 0] rfl) hf
      · have hf := it_t c78 hf
        refine lv_iload_n hx hb dL_begins_69 rfl (lv_at hl 1 rfl) ?_
        refine lv_bipush (v := (8 : Int32)) hx hb dL_begins_70 (by decide) ?_
        refine lv_icmp_ne (tgt := 79) hx hb dL_begins_72 (by decide) (fun c82 => ?_) (fun c82 => ?_)
        · have hf := it_f c82 hf
          refine lv_iconst (v := (0 : Int32)) hx hb dL_begins_79 (by decide) ?_
          refine lv_goto (tgt := 99) hx hb dL_begins_80 (by decide) ?_
          exact hj6 (0 : Int32) H locs h ls (lv_sub hl [2, 3, 1, 0] rfl) hf
        · have hf := it_t c82 hf
          refine lv_iconst (v := (1 : Int32)) hx hb dL_begins_75 (by decide) ?_
          refine lv_goto (tgt := 99) hx hb dL_begins_76 (by decide) ?_
          exact hj6 (1 : Int32) H locs h ls (lv_sub hl [2, 3, 1, 0] rfl) hf
    · have hf := it_t c77 hf
      refine lv_iload_n hx hb dL_begins_49 rfl (lv_at hl 1 rfl) ?_
      refine lv_sipush (v := (256 : Int32)) hx hb dL_begins_50 (by decide) ?_
      refine lv_icmp_ne (tgt := 60) hx hb dL_begins_53 (by decide) (fun c83 => ?_) (fun c83 => ?_)
      · have hf := it_f c83 hf
        refine lv_iconst (v := (0 : Int32)) hx hb dL_begins_60 (by decide) ?_
        refine lv_goto (tgt := 99) hx hb dL_begins_61 (by decide) ?_
        exact hj6 (0 : Int32) H locs h ls (lv_sub hl [2, 3, 1, 0] rfl) hf
      · have hf := it_t c83 hf
        refine lv_iconst (v := (1 : Int32)) hx hb dL_begins_56 (by decide) ?_
        refine lv_goto (tgt := 99) hx hb dL_begins_57 (by decide) ?_
        exact hj6 (1 : Int32) H locs h ls (lv_sub hl [2, 3, 1, 0] rfl) hf
  refine lv_if_ne (tgt := 14) hx hb dL_begins_1 (by decide) (fun c84 => ?_) (fun c84 => ?_)
  · have hf := it_f c84 hf
    refine lv_iload_n hx hb dL_begins_14 rfl (lv_at hl 1 rfl) ?_
    refine lv_iconst (v := (1 : Int32)) hx hb dL_begins_15 (by decide) ?_
    refine lv_icmp_ne (tgt := 28) hx hb dL_begins_16 (by decide) (fun c85 => ?_) (fun c85 => ?_)
    · have hf := it_f c85 hf
      refine lv_iload_n hx hb dL_begins_28 rfl (lv_at hl 2 rfl) ?_
      refine lv_bipush (v := (6 : Int32)) hx hb dL_begins_29 (by decide) ?_
      obtain ⟨r86, hy87, hf⟩ := ob_e hf
      refine xiG h (va_runS (As := [.int p2, .int (6 : Int32)]) (rest := []) hC (c_L_low l G q v p2 (6 : Int32) hy87 H.size) (xcgS hC (fun _ h9 => wM_in h9) lk_L_113 in_L co_L_low st_L_low rfl rfl dd_L_low ⟨Nat.le_of_ble_eq_true rfl, Nat.le_of_ble_eq_true rfl⟩) (preSN h.o [.int p2, .int (6 : Int32)]) rfl rfl hl.1 rfl (lv_room (Nat.le_of_ble_eq_true rfl)) dL_begins_31 ⟨Nat.le_of_ble_eq_true rfl, Nat.le_of_ble_eq_true rfl⟩) (fun H locs h => ?_)
      exact hj2 r86 H locs h ls (lv_sub hl [0, 1, 2] rfl) hf
    · have hf := it_t c85 hf
      refine lv_iload_n hx hb dL_begins_19 rfl (lv_at hl 2 rfl) ?_
      refine lv_bipush (v := (9 : Int32)) hx hb dL_begins_20 (by decide) ?_
      obtain ⟨r88, hy89, hf⟩ := ob_e hf
      refine xiG h (va_runS (As := [.int p2, .int (9 : Int32)]) (rest := []) hC (c_L_low l G q v p2 (9 : Int32) hy89 H.size) (xcgS hC (fun _ h9 => wM_in h9) lk_L_113 in_L co_L_low st_L_low rfl rfl dd_L_low ⟨Nat.le_of_ble_eq_true rfl, Nat.le_of_ble_eq_true rfl⟩) (preSN h.o [.int p2, .int (9 : Int32)]) rfl rfl hl.1 rfl (lv_room (Nat.le_of_ble_eq_true rfl)) dL_begins_22 ⟨Nat.le_of_ble_eq_true rfl, Nat.le_of_ble_eq_true rfl⟩) (fun H locs h => ?_)
      refine lv_goto (tgt := 34) hx hb dL_begins_25 (by decide) ?_
      exact hj2 r88 H locs h ls (lv_sub hl [0, 1, 2] rfl) hf
  · have hf := it_t c84 hf
    refine lv_iload_n hx hb dL_begins_4 rfl (lv_at hl 2 rfl) ?_
    refine lv_sipush (v := (257 : Int32)) hx hb dL_begins_5 (by decide) ?_
    obtain ⟨r90, hy91, hf⟩ := ob_e hf
    refine xiG h (va_runS (As := [.int p2, .int (257 : Int32)]) (rest := []) hC (c_L_low l G q v p2 (257 : Int32) hy91 H.size) (xcgS hC (fun _ h9 => wM_in h9) lk_L_113 in_L co_L_low st_L_low rfl rfl dd_L_low ⟨Nat.le_of_ble_eq_true rfl, Nat.le_of_ble_eq_true rfl⟩) (preSN h.o [.int p2, .int (257 : Int32)]) rfl rfl hl.1 rfl (lv_room (Nat.le_of_ble_eq_true rfl)) dL_begins_8 ⟨Nat.le_of_ble_eq_true rfl, Nat.le_of_ble_eq_true rfl⟩) (fun H locs h => ?_)
    refine lv_goto (tgt := 34) hx hb dL_begins_11 (by decide) ?_
    exact hj2 r90 H locs h ls (lv_sub hl [0, 1, 2] rfl) hf
def m_L_orders (v : xSt) (p1 : Int32) : Option (Int32 × xSt) := ob (m_X8_count_n v (10 : Int32)) (fun r2 => ob (m_L_low p1 (5 : Int32)) (fun r3 => (if r3 = 0 then ob (m_L_low (p1 >>> ((3 : Int32) &&& 31)) (r2 + (1 : Int32))) (fun r100 => lt (fun (t102 : Int32) => ob (m_L_withdraw v t102) (fun r104 => lt (r104.2) (fun v106 => lt (fun (t107 : Int32) (t108 : Int32) => (if t107 = t108 then some ((1 : Int32), v106) else some ((0 : Int32), v106))) (fun j109 => (if r100 = r2 then j109 r104.1 (-101 : Int32) else j109 r104.1 (r2 - (1 : Int32))))))) (fun j103 => (if r100 = r2 then j103 (-1 : Int32) else ob (m_X8_order_n v r100 (0 : Int32)) (fun r114 => j103 r114)))) else ob (m_L_low (p1 >>> ((3 : Int32) &&& 31)) (9 : Int32)) (fun r6 => lt (fun (t8 : Int32) => lt (fun (t10 : Int32) (t11 : Int32) => ob (m_L_low t10 t11) (fun r13 => ob (m_L_low (p1 >>> ((14 : Int32) &&& 31)) (11 : Int32)) (fun r15 => ob (m_X8_count_n v (11 : Int32)) (fun r18 => lt (fun (t19 : Int32) => lt (fun (t21 : Int32) (t22 : Int32) => lt (fun (t24 : Int32) => lt (fun (t26 : Int32) => ob (m_L_post v t8 r13 r15) (fun r28 => lt (r28.2) (fun v30 => lt (fun (_ : Unit) => lt (fun (t32 : Int32) (t33 : Int32) => (if t32 = t33 then some ((1 : Int32), v30) else some ((0 : Int32), v30))) (fun j34 => (if t19 = 0 then (if t24 = 0 then j34 r28.1 (-103 : Int32) else j34 r28.1 (-101 : Int32)) else j34 r28.1 (-102 : Int32)))) (fun j31 => (if t19 = 0 then (if t24 = 0 then (if t26 = 0 then lp (fun (rec42 : Int32 → Option (Int32 × xSt)) => un1 (fun (a41 : Int32) => lt (fun (_ : Unit) => lt (fun (_ : Unit) => some ((0 : Int32), v30)) (fun j44 => (if a41 < 0 then j44 () else (if r28.1 < r2 then j44 () else ob (m_X8_count_n v30 (10 : Int32)) (fun r48 => (if r48 = (r2 + (1 : Int32)) then ob (m_X8_order_n v30 a41 (1 : Int32)) (fun r51 => (if r51 = t8 then ob (m_X8_order_n v30 a41 (2 : Int32)) (fun r54 => (if r54 = r13 then ob (m_X8_order_n v30 a41 (3 : Int32)) (fun r57 => (if r57 = r15 then ob (m_X8_order_n v30 a41 (4 : Int32)) (fun r60 => (if r60 = 0 then ob (m_X8_order_n v30 a41 (5 : Int32)) (fun r63 => lt (fun (t64 : Int32) (t65 : Int32) => (if t64 = t65 then lt (fun (_ : Unit) => ob (m_X8_count_n v30 (11 : Int32)) (fun r70 => lt (fun (t71 : Int32) (t72 : Int32) => (if t71 = t72 then some ((1 : Int32), v30) else j44 ())) (fun j73 => (if t8 = 0 then j73 r70 (0 : Int32) else j73 r70 r18)))) (fun j68 => (if a41 = r2 then j68 () else ob (m_X8_order_n v30 (a41 + (1 : Int32)) (3 : Int32)) (fun r78 => (if r15 ≤ r78 then j44 () else j68 ())))) else j44 ())) (fun j66 => (if t8 = 0 then j66 r63 r18 else j66 r63 (0 : Int32)))) else j44 ())) else j44 ())) else j44 ())) else j44 ())) else j44 ())))))) (fun j43 => (if a41 < 0 then j43 () else ob (m_X8_order_n v30 a41 (0 : Int32)) (fun r83 => (if r83 = r28.1 then j43 () else rec42 (a41 + (-1)))))))) xF r2 else j31 ()) else j31 ()) else j31 ()))))) (fun j27 => lt (fun (_ : Unit) => j27 (1 : Int32)) (fun j85 => (if r2 = (10 : Int32) then j85 () else lt (fun (_ : Unit) => j27 (0 : Int32)) (fun j87 => (if t8 = 0 then (if r18 = 0 then j85 () else j87 ()) else j87 ())))))) (fun j25 => (if t21 = t22 then j25 (1 : Int32) else j25 (0 : Int32)))) (fun j23 => (if t8 = 0 then j23 r13 (256 : Int32) else j23 r13 (8 : Int32)))) (fun j20 => lt (fun (_ : Unit) => j20 (1 : Int32)) (fun j92 => (if t8 = (2 : Int32) then j92 () else (if r15 = (10 : Int32) then j92 () else j20 (0 : Int32))))))))) (fun j12 => (if t8 = 0 then j12 (p1 >>> ((6 : Int32) &&& 31)) (257 : Int32) else j12 (p1 >>> ((6 : Int32) &&& 31)) (9 : Int32)))) (fun j9 => (if r6 = 0 then j9 (2 : Int32) else ob (m_L_low (p1 >>> ((3 : Int32) &&& 31)) (9 : Int32)) (fun r97 => (if (3 : Int32) ≤ r97 then j9 (0 : Int32) else j9 (1 : Int32)))))))))
set_option maxHeartbeats 4000000 in
set_option maxRecDepth 100000 in
theorem c_L_orders (l : Launch) (hst : l.stackTraces = false) (G : xGl) (sa q : Nat → Nat) (v : xSt) (p1 : Int32) {z : (Int32 × xSt)} (hf : m_L_orders v p1 = some z) : mRS l yL_orders (wM yL_orders cL_orders 12 (some .boolean)) { frames := 8, cells := 1, slots := 6, locals := 216 } G sa (eBC G) 430 q v [.ref (q 0), .int p1] (qZ z.1) z.2 1 6 := by
  refine xRSg (cc := cL_orders) (maxL := 12) (ret := (some .boolean)) (by decide) rfl (Nat.le_of_ble_eq_true rfl) ?_
  intro p e s m below meth c ls A hC hr hlk h hT hl
  have hx := hC.1
  have hb := hC.2.1
  have hl : lv_has ls 12 [(0, .ref (q 0)), (1, .int p1)] := hl
  unfold m_L_orders at hf
  obtain ⟨H, hH⟩ : ∃ H, H = s.heap := ⟨_, rfl⟩
  obtain ⟨locs, hlo⟩ : ∃ x : List Loc, x = [] := ⟨_, rfl⟩
  have h : hg G (eBC G) 430 q v A s H locs := by rw [hH, hlo]; exact h
  rw [← hlo, ← hH]
  clear hH hlo
  refine lv_aload_n hx hb dL_orders_0 rfl (lv_at hl 0 rfl) ?_
  refine lv_bipush (v := (10 : Int32)) hx hb dL_orders_1 (by decide) ?_
  obtain ⟨r2, hy1, hf⟩ := ob_e hf
  refine xiG h (va_runV (As := [.int (10 : Int32)]) (rest := []) hC (c_X8_count_n l G q v (10 : Int32) hy1 H.size) (xcwV hC lk_L_76 in_X8 co_X8_count im_X8_count se_X8_count rfl rfl dd_X8_count ⟨Nat.le_of_ble_eq_true rfl, Nat.le_of_ble_eq_true rfl⟩) (preVO0 h.o (Nat.le_of_ble_eq_true rfl) eBC_0 rfl [.int (10 : Int32)]) rfl rfl hl.1 rfl (lv_room (Nat.le_of_ble_eq_true rfl)) dL_orders_3 ⟨Nat.le_of_ble_eq_true rfl, Nat.le_of_ble_eq_true rfl⟩) (fun H locs h => ?_)
  refine lv_istore_n (lv' := [(2, .int r2), (0, .ref (q 0)), (1, .int p1)]) hx hb dL_orders_6 rfl hl (by decide) rfl (fun ls hl => ?_)
  refine lv_iload_n hx hb dL_orders_7 rfl (lv_at hl 2 rfl) ?_
  refine lv_iconst (v := (5 : Int32)) hx hb dL_orders_8 (by decide) ?_
  obtain ⟨r3, hy4, hf⟩ := ob_e hf
  refine xiG h (va_runS (As := [.int p1, .int (5 : Int32)]) (rest := []) hC (c_L_low l G q v p1 (5 : Int32) hy4 H.size) (xcgS hC (fun _ h9 => wM_in h9) lk_L_113 in_L co_L_low st_L_low rfl rfl dd_L_low ⟨Nat.le_of_ble_eq_true rfl, Nat.le_of_ble_eq_true rfl⟩) (preSN h.o [.int p1, .int (5 : Int32)]) rfl rfl hl.1 rfl (lv_room (Nat.le_of_ble_eq_true rfl)) dL_orders_9 ⟨Nat.le_of_ble_eq_true rfl, Nat.le_of_ble_eq_true rfl⟩) (fun H locs h => ?_)
  refine lv_if_ne (tgt := 70) hx hb dL_orders_12 (by decide) (fun c5 => ?_) (fun c5 => ?_)
  · have hf := it_f c5 hf
    refine lv_iload_n hx hb dL_orders_70 rfl (lv_at hl 2 rfl) ?_
    refine lv_iconst (v := (3 : Int32)) hx hb dL_orders_71 (by decide) ?_
    refine lv_ishr hx hb dL_orders_72 ?_
    refine lv_bipush (v := (9 : Int32)) hx hb dL_orders_73 (by decide) ?_
    obtain ⟨r6, hy7, hf⟩ := ob_e hf
    refine xiG h (va_runS (As := [.int (p1 >>> ((3 : Int32) &&& 31)), .int (9 : Int32)]) (rest := []) hC (c_L_low l G q v (p1 >>> ((3 : Int32) &&& 31)) (9 : Int32) hy7 H.size) (xcgS hC (fun _ h9 => wM_in h9) lk_L_113 in_L co_L_low st_L_low rfl rfl dd_L_low ⟨Nat.le_of_ble_eq_true rfl, Nat.le_of_ble_eq_true rfl⟩) (preSN h.o [.int (p1 >>> ((3 : Int32) &&& 31)), .int (9 : Int32)]) rfl rfl hl.1 rfl (lv_room (Nat.le_of_ble_eq_true rfl)) dL_orders_75 ⟨Nat.le_of_ble_eq_true rfl, Nat.le_of_ble_eq_true rfl⟩) (fun H locs h => ?_)
    obtain ⟨j9, ej9, hf⟩ := lt_e hf
    have hj9 : ∀ (t8 : Int32) (H : Heap) (locs : List Loc), hg G (eBC G) 430 q v A s H locs → ∀ (ls : Array Slot), lv_has ls 12 [(0, .ref (q 0)), (1, .int p1), (2, .int r2)] → j9 t8 = some z → W p l e { frames := 8, cells := 1, slots := 6, locals := 216 } s m [.ref (q 0), .int p1].toArray below meth c H locs 0 0 (MQ below ((qZ z.1) (cB G (eBC G) 430 q z.2 A) A) [.ref (q 0), .int p1].toArray s 1 6 A) (F0 m 102 ls [.int t8]) := by
      intro t8 H locs h ls hl hf
      rw [ej9] at hf
      refine lv_istore_n (lv' := [(3, .int t8), (0, .ref (q 0)), (1, .int p1), (2, .int r2)]) hx hb dL_orders_102 rfl hl (by decide) rfl (fun ls hl => ?_)
      refine lv_iload_n hx hb dL_orders_103 rfl (lv_at hl 2 rfl) ?_
      refine lv_bipush (v := (6 : Int32)) hx hb dL_orders_104 (by decide) ?_
      refine lv_ishr hx hb dL_orders_106 ?_
      refine lv_iload_n hx hb dL_orders_107 rfl (lv_at hl 0 rfl) ?_
      obtain ⟨j12, ej12, hf⟩ := lt_e hf
      have hj12 : ∀ (t10 : Int32) (t11 : Int32) (H : Heap) (locs : List Loc), hg G (eBC G) 430 q v A s H locs → ∀ (ls : Array Slot), lv_has ls 12 [(0, .ref (q 0)), (1, .int p1), (2, .int r2), (3, .int t8)] → j12 t10 t11 = some z → W p l e { frames := 8, cells := 1, slots := 6, locals := 216 } s m [.ref (q 0), .int p1].toArray below meth c H locs 0 0 (MQ below ((qZ z.1) (cB G (eBC G) 430 q z.2 A) A) [.ref (q 0), .int p1].toArray s 1 6 A) (F0 m 119 ls [.int t11, .int t10]) := by
        intro t10 t11 H locs h ls hl hf
        rw [ej12] at hf
        obtain ⟨r13, hy14, hf⟩ := ob_e hf
        refine xiG h (va_runS (As := [.int t10, .int t11]) (rest := []) hC (c_L_low l G q v t10 t11 hy14 H.size) (xcgS hC (fun _ h9 => wM_in h9) lk_L_113 in_L co_L_low st_L_low rfl rfl dd_L_low ⟨Nat.le_of_ble_eq_true rfl, Nat.le_of_ble_eq_true rfl⟩) (preSN h.o [.int t10, .int t11]) rfl rfl hl.1 rfl (lv_room (Nat.le_of_ble_eq_true rfl)) dL_orders_119 ⟨Nat.le_of_ble_eq_true rfl, Nat.le_of_ble_eq_true rfl⟩) (fun H locs h => ?_)
        refine lv_istore (lv' := [(4, .int r13), (0, .ref (q 0)), (1, .int p1), (2, .int r2), (3, .int t8)]) hx hb dL_orders_122 hl (by decide) rfl (fun ls hl => ?_)
        refine lv_iload_n hx hb dL_orders_124 rfl (lv_at hl 2 rfl) ?_
        refine lv_bipush (v := (14 : Int32)) hx hb dL_orders_125 (by decide) ?_
        refine lv_ishr hx hb dL_orders_127 ?_
        refine lv_bipush (v := (11 : Int32)) hx hb dL_orders_128 (by decide) ?_
        obtain ⟨r15, hy16, hf⟩ := ob_e hf
        refine xiG h (va_runS (As := [.int (p1 >>> ((14 : Int32) &&& 31)), .int (11 : Int32)]) (rest := []) hC (c_L_low l G q v (p1 >>> ((14 : Int32) &&& 31)) (11 : Int32) hy16 H.size) (xcgS hC (fun _ h9 => wM_in h9) lk_L_113 in_L co_L_low st_L_low rfl rfl dd_L_low ⟨Nat.le_of_ble_eq_true rfl, Nat.le_of_ble_eq_true rfl⟩) (preSN h.o [.int (p1 >>> ((14 : Int32) &&& 31)), .int (11 : Int32)]) rfl rfl hl.1 rfl (lv_room (Nat.le_of_ble_eq_true rfl)) dL_orders_130 ⟨Nat.le_of_ble_eq_true rfl, Nat.le_of_ble_eq_true rfl⟩) (fun H locs h => ?_)
        refine lv_istore (lv' := [(5, .int r15), (4, .int r13), (0, .ref (q 0)), (1, .int p1), (2, .int r2), (3, .int t8)]) hx hb dL_orders_133 hl (by decide) rfl (fun ls hl => ?_)
        refine lv_aload_n hx hb dL_orders_135 rfl (lv_at hl 2 rfl) ?_
        refine lv_bipush (v := (11 : Int32)) hx hb dL_orders_136 (by decide) ?_
        obtain ⟨r18, hy17, hf⟩ := ob_e hf
        refine xiG h (va_runV (As := [.int (11 : Int32)]) (rest := []) hC (c_X8_count_n l G q v (11 : Int32) hy17 H.size) (xcwV hC lk_L_76 in_X8 co_X8_count im_X8_count se_X8_count rfl rfl dd_X8_count ⟨Nat.le_of_ble_eq_true rfl, Nat.le_of_ble_eq_true rfl⟩) (preVO0 h.o (Nat.le_of_ble_eq_true rfl) eBC_0 rfl [.int (11 : Int32)]) rfl rfl hl.1 rfl (lv_room (Nat.le_of_ble_eq_true rfl)) dL_orders_138 ⟨Nat.le_of_ble_eq_true rfl, Nat.le_of_ble_eq_true rfl⟩) (fun H locs h => ?_)
        refine lv_istore (lv' := [(6, .int r18), (5, .int r15), (4, .int r13), (0, .ref (q 0)), (1, .int p1), (2, .int r2), (3, .int t8)]) hx hb dL_orders_141 hl (by decide) rfl (fun ls hl => ?_)
        refine lv_iload_n hx hb dL_orders_143 rfl (lv_at hl 6 rfl) ?_
        refine lv_iconst (v := (2 : Int32)) hx hb dL_orders_144 (by decide) ?_
        obtain ⟨j20, ej20, hf⟩ := lt_e hf
        have hj20 : ∀ (t19 : Int32) (H : Heap) (locs : List Loc), hg G (eBC G) 430 q v A s H locs → ∀ (ls : Array Slot), lv_has ls 12 [(0, .ref (q 0)), (2, .int r2), (3, .int t8), (4, .int r13), (5, .int r15), (6, .int r18)] → j20 t19 = some z → W p l e { frames := 8, cells := 1, slots := 6, locals := 216 } s m [.ref (q 0), .int p1].toArray below meth c H locs 0 0 (MQ below ((qZ z.1) (cB G (eBC G) 430 q z.2 A) A) [.ref (q 0), .int p1].toArray s 1 6 A) (F0 m 160 ls [.int t19]) := by
          intro t19 H locs h ls hl hf
          rw [ej20] at hf
          refine lv_istore (lv' := [(7, .int t19), (0, .ref (q 0)), (2, .int r2), (3, .int t8), (4, .int r13), (5, .int r15), (6, .int r18)]) hx hb dL_orders_160 hl (by decide) rfl (fun ls hl => ?_)
          refine lv_iload hx hb dL_orders_162 (lv_at hl 4 rfl) ?_
          refine lv_iload_n hx hb dL_orders_164 rfl (lv_at hl 3 rfl) ?_
          obtain ⟨j23, ej23, hf⟩ := lt_e hf
          have hj23 : ∀ (t21 : Int32) (t22 : Int32) (H : Heap) (locs : List Loc), hg G (eBC G) 430 q v A s H locs → ∀ (ls : Array Slot), lv_has ls 12 [(0, .ref (q 0)), (2, .int r2), (3, .int t8), (4, .int r13), (5, .int r15), (6, .int r18), (7, .int t19)] → j23 t21 t22 = some z → W p l e { frames := 8, cells := 1, slots := 6, locals := 216 } s m [.ref (q 0), .int p1].toArray below meth c H locs 0 0 (MQ below ((qZ z.1) (cB G (eBC G) 430 q z.2 A) A) [.ref (q 0), .int p1].toArray s 1 6 A) (F0 m 176 ls [.int t22, .int t21]) := by
            intro t21 t22 H locs h ls hl hf
            rw [ej23] at hf
            obtain ⟨j25, ej25, hf⟩ := lt_e hf
            have hj25 : ∀ (t24 : Int32) (H : Heap) (locs : List Loc), hg G (eBC G) 430 q v A s H locs → ∀ (ls : Array Slot), lv_has ls 12 [(0, .ref (q 0)), (2, .int r2), (3, .int t8), (4, .int r13), (5, .int r15), (6, .int r18), (7, .int t19)] → j25 t24 = some z → W p l e { frames := 8, cells := 1, slots := 6, locals := 216 } s m [.ref (q 0), .int p1].toArray below meth c H locs 0 0 (MQ below ((qZ z.1) (cB G (eBC G) 430 q z.2 A) A) [.ref (q 0), .int p1].toArray s 1 6 A) (F0 m 184 ls [.int t24]) := by
              intro t24 H locs h ls hl hf
              rw [ej25] at hf
              refine lv_istore (lv' := [(8, .int t24), (0, .ref (q 0)), (2, .int r2), (3, .int t8), (4, .int r13), (5, .int r15), (6, .int r18), (7, .int t19)]) hx hb dL_orders_184 hl (by decide) rfl (fun ls hl => ?_)
              refine lv_iload_n hx hb dL_orders_186 rfl (lv_at hl 2 rfl) ?_
              refine lv_bipush (v := (10 : Int32)) hx hb dL_orders_187 (by decide) ?_
              obtain ⟨j27, ej27, hf⟩ := lt_e hf
              have hj27 : ∀ (t26 : Int32) (H : Heap) (locs : List Loc), hg G (eBC G) 430 q v A s H locs → ∀ (ls : Array Slot), lv_has ls 12 [(0, .ref (q 0)), (2, .int r2), (3, .int t8), (4, .int r13), (5, .int r15), (6, .int r18), (7, .int t19), (8, .int t24)] → j27 t26 = some z → W p l e { frames := 8, cells := 1, slots := 6, locals := 216 } s m [.ref (q 0), .int p1].toArray below meth c H locs 0 0 (MQ below ((qZ z.1) (cB G (eBC G) 430 q z.2 A) A) [.ref (q 0), .int p1].toArray s 1 6 A) (F0 m 206 ls [.int t26]) := by
                intro t26 H locs h ls hl hf
                rw [ej27] at hf
                refine lv_istore (lv' := [(9, .int t26), (0, .ref (q 0)), (2, .int r2), (3, .int t8), (4, .int r13), (5, .int r15), (6, .int r18), (7, .int t19), (8, .int t24)]) hx hb dL_orders_206 hl (by decide) rfl (fun ls hl => ?_)
                refine lv_aload_n hx hb dL_orders_208 rfl (lv_at hl 1 rfl) ?_
                refine lv_iload_n hx hb dL_orders_209 rfl (lv_at hl 3 rfl) ?_
                refine lv_iload hx hb dL_orders_210 (lv_at hl 4 rfl) ?_
                refine lv_iload hx hb dL_orders_212 (lv_at hl 5 rfl) ?_
                obtain ⟨r28, hy29, hf⟩ := ob_e hf
                refine xi0c h (vx_runSW (As := [.ref (q 0), .int t8, .int r13, .int r15]) (rest := []) hC (c_L_post l hst G sa q v t8 r13 r15 hy29 H.size) (xcgSW hC (fun _ h9 => wM_in h9) lk_L_156 in_L co_L_post st_L_post rfl rfl dd_L_post ⟨Nat.le_of_ble_eq_true rfl, Nat.le_of_ble_eq_true rfl⟩) (preS0T h hT [.ref (q 0), .int t8, .int r13, .int r15]) rfl rfl hl.1 rfl (lv_room (Nat.le_of_ble_eq_true rfl)) dL_orders_214 ⟨Nat.le_of_ble_eq_true rfl, Nat.le_of_ble_eq_true rfl⟩) (fun H locs h => ?_)
                refine W.widen (k := 1) (n := 6) (by omega) (by omega) ?_
                obtain ⟨v30, ev30, hf⟩ := lt_e hf
                rw [← ev30] at h
                refine lv_istore (lv' := [(10, .int r28.1), (9, .int t26), (0, .ref (q 0)), (2, .int r2), (3, .int t8), (4, .int r13), (5, .int r15), (6, .int r18), (7, .int t19), (8, .int t24)]) hx hb dL_orders_217 hl (by decide) rfl (fun ls hl => ?_)
                refine lv_iload hx hb dL_orders_219 (lv_at hl 8 rfl) ?_
                obtain ⟨j31, ej31, hf⟩ := lt_e hf
                have hj31 : ∀ (uu : Unit) (H : Heap) (locs : List Loc), hg G (eBC G) 430 q v30 A s H locs → ∀ (ls : Array Slot), lv_has ls 12 [(7, .int t19), (8, .int t24), (10, .int r28.1)] → j31 uu = some z → W p l e { frames := 8, cells := 1, slots := 6, locals := 216 } s m [.ref (q 0), .int p1].toArray below meth c H locs 1 6 (MQ below ((qZ z.1) (cB G (eBC G) 430 q z.2 A) A) [.ref (q 0), .int p1].toArray s 1 6 A) (F0 m 234 ls []) := by
                  intro uu H locs h ls hl hf
                  rw [ej31] at hf
                  refine lv_iload hx hb dL_orders_234 (lv_at hl 2 rfl) ?_
                  refine lv_iload hx hb dL_orders_236 (lv_at hl 0 rfl) ?_
                  obtain ⟨j34, ej34, hf⟩ := lt_e hf
                  have hj34 : ∀ (t32 : Int32) (t33 : Int32) (H : Heap) (locs : List Loc), hg G (eBC G) 430 q v30 A s H locs → ∀ (ls : Array Slot), lv_has ls 12 [] → j34 t32 t33 = some z → W p l e { frames := 8, cells := 1, slots := 6, locals := 216 } s m [.ref (q 0), .int p1].toArray below meth c H locs 1 6 (MQ below ((qZ z.1) (cB G (eBC G) 430 q z.2 A) A) [.ref (q 0), .int p1].toArray s 1 6 A) (F0 m 258 ls [.int t33, .int t32]) := by
                    intro t32 t33 H locs h ls hl hf
                    rw [ej34] at hf
                    refine lv_icmp_ne (tgt := 265) hx hb dL_orders_258 (by decide) (fun c35 => ?_) (fun c35 => ?_)
                    · have hf := it_f c35 hf
                      refine lv_iconst (v := (0 : Int32)) hx hb dL_orders_265 (by decide) ?_
                      have hf := sm_e hf
                      exact xzretc hC hr hlk h (by rw [← hf]) (by decide) (by rw [← hf]) dL_orders_266
                    · have hf := it_t c35 hf
                      refine lv_iconst (v := (1 : Int32)) hx hb dL_orders_261 (by decide) ?_
                      refine lv_goto (tgt := 266) hx hb dL_orders_262 (by decide) ?_
                      have hf := sm_e hf
                      exact xzretc hC hr hlk h (by rw [← hf]) (by decide) (by rw [← hf]) dL_orders_266
                  refine lv_if_eq (tgt := 246) hx hb dL_orders_238 (by decide) (fun c36 => ?_) (fun c36 => ?_)
                  · have hf := it_t c36 hf
                    refine lv_iload hx hb dL_orders_246 (lv_at hl 1 rfl) ?_
                    refine lv_if_eq (tgt := 256) hx hb dL_orders_248 (by decide) (fun c37 => ?_) (fun c37 => ?_)
                    · have hf := it_t c37 hf
                      refine lv_bipush (v := (-103 : Int32)) hx hb dL_orders_256 (by decide) ?_
                      exact hj34 r28.1 (-103 : Int32) H locs h ls (lv_sub hl [] rfl) hf
                    · have hf := it_f c37 hf
                      refine lv_bipush (v := (-101 : Int32)) hx hb dL_orders_251 (by decide) ?_
                      refine lv_goto (tgt := 258) hx hb dL_orders_253 (by decide) ?_
                      exact hj34 r28.1 (-101 : Int32) H locs h ls (lv_sub hl [] rfl) hf
                  · have hf := it_f c36 hf
                    refine lv_bipush (v := (-102 : Int32)) hx hb dL_orders_241 (by decide) ?_
                    refine lv_goto (tgt := 258) hx hb dL_orders_243 (by decide) ?_
                    exact hj34 r28.1 (-102 : Int32) H locs h ls (lv_sub hl [] rfl) hf
                refine lv_if_ne (tgt := 234) hx hb dL_orders_221 (by decide) (fun c38 => ?_) (fun c38 => ?_)
                · have hf := it_f c38 hf
                  exact hj31 () H locs h ls (lv_sub hl [8, 9, 0] rfl) hf
                · have hf := it_t c38 hf
                  refine lv_iload hx hb dL_orders_224 (lv_at hl 9 rfl) ?_
                  refine lv_if_ne (tgt := 234) hx hb dL_orders_226 (by decide) (fun c39 => ?_) (fun c39 => ?_)
                  · have hf := it_f c39 hf
                    exact hj31 () H locs h ls (lv_sub hl [8, 9, 0] rfl) hf
                  · have hf := it_t c39 hf
                    refine lv_iload hx hb dL_orders_229 (lv_at hl 1 rfl) ?_
                    refine lv_if_eq (tgt := 267) hx hb dL_orders_231 (by decide) (fun c40 => ?_) (fun c40 => ?_)
                    · have hf := it_t c40 hf
                      refine lv_iload_n hx hb dL_orders_267 rfl (lv_at hl 3 rfl) ?_
                      refine lv_istore (lv' := [(11, .int r2), (10, .int r28.1), (9, .int t26), (0, .ref (q 0)), (2, .int r2), (3, .int t8), (4, .int r13), (5, .int r15), (6, .int r18), (7, .int t19), (8, .int t24)]) hx hb dL_orders_268 hl (by decide) rfl (fun ls hl => ?_)
                      refine lp_i (z := z) (P := fun (pp : Int32) => ∀ (H : Heap) (locs : List Loc), hg G (eBC G) 430 q v30 A s H locs → ∀ (ls : Array Slot), lv_has ls 12 [(0, .ref (q 0)), (2, .int r2), (3, .int t8), (4, .int r13), (5, .int r15), (6, .int r18), (10, .int r28.1), (11, .int pp)] → W p l e { frames := 8, cells := 1, slots := 6, locals := 216 } s m [.ref (q 0), .int p1].toArray below meth c H locs 1 6 (MQ below ((qZ z.1) (cB G (eBC G) 430 q z.2 A) A) [.ref (q 0), .int p1].toArray s 1 6 A) (F0 m 270 ls [])) ?_ _ _ hf H locs h ls (lv_sub hl [3, 4, 5, 6, 7, 8, 1, 0] rfl)
                      intro rec42 hrec42 pp hf H locs h ls hl
                      obtain ⟨a41, hpp⟩ : ∃ y, y = pp := ⟨_, rfl⟩
                      subst hpp
                      have h : hg G (eBC G) 430 q v30 A s H locs := h
                      have hl : lv_has ls 12 [(0, .ref (q 0)), (2, .int r2), (3, .int t8), (4, .int r13), (5, .int r15), (6, .int r18), (10, .int r28.1), (11, .int a41)] := hl
                      have hf := un1_e hf
                      refine lv_iload hx hb dL_orders_270 (lv_at hl 7 rfl) ?_
                      obtain ⟨j43, ej43, hf⟩ := lt_e hf
                      have hj43 : ∀ (uu : Unit) (H : Heap) (locs : List Loc), hg G (eBC G) 430 q v30 A s H locs → ∀ (ls : Array Slot), lv_has ls 12 [(0, .ref (q 0)), (2, .int r2), (3, .int t8), (4, .int r13), (5, .int r15), (6, .int r18), (10, .int r28.1), (11, .int a41)] → j43 uu = some z → W p l e { frames := 8, cells := 1, slots := 6, locals := 216 } s m [.ref (q 0), .int p1].toArray below meth c H locs 1 6 (MQ below ((qZ z.1) (cB G (eBC G) 430 q z.2 A) A) [.ref (q 0), .int p1].toArray s 1 6 A) (F0 m 293 ls []) := by
                        intro uu H locs h ls hl hf
                        rw [ej43] at hf
                        refine lv_iload hx hb dL_orders_293 (lv_at hl 7 rfl) ?_
                        obtain ⟨j44, ej44, hf⟩ := lt_e hf
                        have hj44 : ∀ (uu : Unit) (H : Heap) (locs : List Loc), hg G (eBC G) 430 q v30 A s H locs → ∀ (ls : Array Slot), lv_has ls 12 [] → j44 uu = some z → W p l e { frames := 8, cells := 1, slots := 6, locals := 216 } s m [.ref (q 0), .int p1].toArray below meth c H locs 1 6 (MQ below ((qZ z.1) (cB G (eBC G) 430 q z.2 A) A) [.ref (q 0), .int p1].toArray s 1 6 A) (F0 m 424 ls []) := by
                          intro uu H locs h ls hl hf
                          rw [ej44] at hf
                          refine lv_iconst (v := (0 : Int32)) hx hb dL_orders_424 (by decide) ?_
                          have hf := sm_e hf
                          exact xzretc hC hr hlk h (by rw [← hf]) (by decide) (by rw [← hf]) dL_orders_425
                        refine lv_if_lt (tgt := 424) hx hb dL_orders_295 (by decide) (fun c45 => ?_) (fun c45 => ?_)
                        · have hf := it_t c45 hf
                          exact hj44 () H locs h ls (lv_sub hl [] rfl) hf
                        · have hf := it_f c45 hf
                          refine lv_iload hx hb dL_orders_298 (lv_at hl 6 rfl) ?_
                          refine lv_iload_n hx hb dL_orders_300 rfl (lv_at hl 1 rfl) ?_
                          refine lv_icmp_lt (tgt := 424) hx hb dL_orders_301 (by decide) (fun c46 => ?_) (fun c46 => ?_)
                          · have hf := it_t c46 hf
                            exact hj44 () H locs h ls (lv_sub hl [] rfl) hf
                          · have hf := it_f c46 hf
                            refine lv_aload_n hx hb dL_orders_304 rfl (lv_at hl 0 rfl) ?_
                            refine lv_bipush (v := (10 : Int32)) hx hb dL_orders_305 (by decide) ?_
                            obtain ⟨r48, hy47, hf⟩ := ob_e hf
                            refine xiG h (va_runV (As := [.int (10 : Int32)]) (rest := []) hC (c_X8_count_n l G q v30 (10 : Int32) hy47 H.size) (xcwV hC lk_L_76 in_X8 co_X8_count im_X8_count se_X8_count rfl rfl dd_X8_count ⟨Nat.le_of_ble_eq_true rfl, Nat.le_of_ble_eq_true rfl⟩) (preVO0 h.o (Nat.le_of_ble_eq_true rfl) eBC_0 rfl [.int (10 : Int32)]) rfl rfl hl.1 rfl (lv_room (Nat.le_of_ble_eq_true rfl)) dL_orders_307 ⟨Nat.le_of_ble_eq_true rfl, Nat.le_of_ble_eq_true rfl⟩) (fun H locs h => ?_)
                            refine lv_iload_n hx hb dL_orders_310 rfl (lv_at hl 1 rfl) ?_
                            refine lv_iconst (v := (1 : Int32)) hx hb dL_orders_311 (by decide) ?_
                            refine lv_iadd hx hb dL_orders_312 ?_
                            refine lv_icmp_ne (tgt := 424) hx hb dL_orders_313 (by decide) (fun c49 => ?_) (fun c49 => ?_)
                            · have hf := it_f c49 hf
                              exact hj44 () H locs h ls (lv_sub hl [] rfl) hf
                            · have hf := it_t c49 hf
                              refine lv_aload_n hx hb dL_orders_316 rfl (lv_at hl 0 rfl) ?_
                              refine lv_iload hx hb dL_orders_317 (lv_at hl 7 rfl) ?_
                              refine lv_iconst (v := (1 : Int32)) hx hb dL_orders_319 (by decide) ?_
                              obtain ⟨r51, hy50, hf⟩ := ob_e hf
                              refine xiG h (va_runV (As := [.int a41, .int (1 : Int32)]) (rest := []) hC (c_X8_order_n l G q v30 a41 (1 : Int32) hy50 H.size) (xcwV hC lk_L_91 in_X8 co_X8_order im_X8_order se_X8_order rfl rfl dd_X8_order ⟨Nat.le_of_ble_eq_true rfl, Nat.le_of_ble_eq_true rfl⟩) (preVO0 h.o (Nat.le_of_ble_eq_true rfl) eBC_0 rfl [.int a41, .int (1 : Int32)]) rfl rfl hl.1 rfl (lv_room (Nat.le_of_ble_eq_true rfl)) dL_orders_320 ⟨Nat.le_of_ble_eq_true rfl, Nat.le_of_ble_eq_true rfl⟩) (fun H locs h => ?_)
                              refine lv_iload_n hx hb dL_orders_323 rfl (lv_at hl 2 rfl) ?_
                              refine lv_icmp_ne (tgt := 424) hx hb dL_orders_324 (by decide) (fun c52 => ?_) (fun c52 => ?_)
                              · have hf := it_f c52 hf
                                exact hj44 () H locs h ls (lv_sub hl [] rfl) hf
                              · have hf := it_t c52 hf
                                refine lv_aload_n hx hb dL_orders_327 rfl (lv_at hl 0 rfl) ?_
                                refine lv_iload hx hb dL_orders_328 (lv_at hl 7 rfl) ?_
                                refine lv_iconst (v := (2 : Int32)) hx hb dL_orders_330 (by decide) ?_
                                obtain ⟨r54, hy53, hf⟩ := ob_e hf
                                refine xiG h (va_runV (As := [.int a41, .int (2 : Int32)]) (rest := []) hC (c_X8_order_n l G q v30 a41 (2 : Int32) hy53 H.size) (xcwV hC lk_L_91 in_X8 co_X8_order im_X8_order se_X8_order rfl rfl dd_X8_order ⟨Nat.le_of_ble_eq_true rfl, Nat.le_of_ble_eq_true rfl⟩) (preVO0 h.o (Nat.le_of_ble_eq_true rfl) eBC_0 rfl [.int a41, .int (2 : Int32)]) rfl rfl hl.1 rfl (lv_room (Nat.le_of_ble_eq_true rfl)) dL_orders_331 ⟨Nat.le_of_ble_eq_true rfl, Nat.le_of_ble_eq_true rfl⟩) (fun H locs h => ?_)
                                refine lv_iload hx hb dL_orders_334 (lv_at hl 3 rfl) ?_
                                refine lv_icmp_ne (tgt := 424) hx hb dL_orders_336 (by decide) (fun c55 => ?_) (fun c55 => ?_)
                                · have hf := it_f c55 hf
                                  exact hj44 () H locs h ls (lv_sub hl [] rfl) hf
                                · have hf := it_t c55 hf
                                  refine lv_aload_n hx hb dL_orders_339 rfl (lv_at hl 0 rfl) ?_
                                  refine lv_iload hx hb dL_orders_340 (lv_at hl 7 rfl) ?_
                                  refine lv_iconst (v := (3 : Int32)) hx hb dL_orders_342 (by decide) ?_
                                  obtain ⟨r57, hy56, hf⟩ := ob_e hf
                                  refine xiG h (va_runV (As := [.int a41, .int (3 : Int32)]) (rest := []) hC (c_X8_order_n l G q v30 a41 (3 : Int32) hy56 H.size) (xcwV hC lk_L_91 in_X8 co_X8_order im_X8_order se_X8_order rfl rfl dd_X8_order ⟨Nat.le_of_ble_eq_true rfl, Nat.le_of_ble_eq_true rfl⟩) (preVO0 h.o (Nat.le_of_ble_eq_true rfl) eBC_0 rfl [.int a41, .int (3 : Int32)]) rfl rfl hl.1 rfl (lv_room (Nat.le_of_ble_eq_true rfl)) dL_orders_343 ⟨Nat.le_of_ble_eq_true rfl, Nat.le_of_ble_eq_true rfl⟩) (fun H locs h => ?_)
                                  refine lv_iload hx hb dL_orders_346 (lv_at hl 4 rfl) ?_
                                  refine lv_icmp_ne (tgt := 424) hx hb dL_orders_348 (by decide) (fun c58 => ?_) (fun c58 => ?_)
                                  · have hf := it_f c58 hf
                                    exact hj44 () H locs h ls (lv_sub hl [] rfl) hf
                                  · have hf := it_t c58 hf
                                    refine lv_aload_n hx hb dL_orders_351 rfl (lv_at hl 0 rfl) ?_
                                    refine lv_iload hx hb dL_orders_352 (lv_at hl 7 rfl) ?_
                                    refine lv_iconst (v := (4 : Int32)) hx hb dL_orders_354 (by decide) ?_
                                    obtain ⟨r60, hy59, hf⟩ := ob_e hf
                                    refine xiG h (va_runV (As := [.int a41, .int (4 : Int32)]) (rest := []) hC (c_X8_order_n l G q v30 a41 (4 : Int32) hy59 H.size) (xcwV hC lk_L_91 in_X8 co_X8_order im_X8_order se_X8_order rfl rfl dd_X8_order ⟨Nat.le_of_ble_eq_true rfl, Nat.le_of_ble_eq_true rfl⟩) (preVO0 h.o (Nat.le_of_ble_eq_true rfl) eBC_0 rfl [.int a41, .int (4 : Int32)]) rfl rfl hl.1 rfl (lv_room (Nat.le_of_ble_eq_true rfl)) dL_orders_355 ⟨Nat.le_of_ble_eq_true rfl, Nat.le_of_ble_eq_true rfl⟩) (fun H locs h => ?_)
                                    refine lv_if_ne (tgt := 424) hx hb dL_orders_358 (by decide) (fun c61 => ?_) (fun c61 => ?_)
                                    · have hf := it_f c61 hf
                                      exact hj44 () H locs h ls (lv_sub hl [] rfl) hf
                                    · have hf := it_t c61 hf
                                      refine lv_aload_n hx hb dL_orders_361 rfl (lv_at hl 0 rfl) ?_
                                      refine lv_iload hx hb dL_orders_362 (lv_at hl 7 rfl) ?_
                                      refine lv_iconst (v := (5 : Int32)) hx hb dL_orders_364 (by decide) ?_
                                      obtain ⟨r63, hy62, hf⟩ := ob_e hf
                                      refine xiG h (va_runV (As := [.int a41, .int (5 : Int32)]) (rest := []) hC (c_X8_order_n l G q v30 a41 (5 : Int32) hy62 H.size) (xcwV hC lk_L_91 in_X8 co_X8_order im_X8_order se_X8_order rfl rfl dd_X8_order ⟨Nat.le_of_ble_eq_true rfl, Nat.le_of_ble_eq_true rfl⟩) (preVO0 h.o (Nat.le_of_ble_eq_true rfl) eBC_0 rfl [.int a41, .int (5 : Int32)]) rfl rfl hl.1 rfl (lv_room (Nat.le_of_ble_eq_true rfl)) dL_orders_365 ⟨Nat.le_of_ble_eq_true rfl, Nat.le_of_ble_eq_true rfl⟩) (fun H locs h => ?_)
                                      refine lv_iload_n hx hb dL_orders_368 rfl (lv_at hl 2 rfl) ?_
                                      obtain ⟨j66, ej66, hf⟩ := lt_e hf
                                      have hj66 : ∀ (t64 : Int32) (t65 : Int32) (H : Heap) (locs : List Loc), hg G (eBC G) 430 q v30 A s H locs → ∀ (ls : Array Slot), lv_has ls 12 [(0, .ref (q 0)), (2, .int r2), (3, .int t8), (5, .int r15), (6, .int r18), (11, .int a41)] → j66 t64 t65 = some z → W p l e { frames := 8, cells := 1, slots := 6, locals := 216 } s m [.ref (q 0), .int p1].toArray below meth c H locs 1 6 (MQ below ((qZ z.1) (cB G (eBC G) 430 q z.2 A) A) [.ref (q 0), .int p1].toArray s 1 6 A) (F0 m 378 ls [.int t65, .int t64]) := by
                                        intro t64 t65 H locs h ls hl hf
                                        rw [ej66] at hf
                                        refine lv_icmp_ne (tgt := 424) hx hb dL_orders_378 (by decide) (fun c67 => ?_) (fun c67 => ?_)
                                        · have hf := it_f c67 hf
                                          exact hj44 () H locs h ls (lv_sub hl [] rfl) hf
                                        · have hf := it_t c67 hf
                                          refine lv_iload hx hb dL_orders_381 (lv_at hl 5 rfl) ?_
                                          refine lv_iload_n hx hb dL_orders_383 rfl (lv_at hl 1 rfl) ?_
                                          obtain ⟨j68, ej68, hf⟩ := lt_e hf
                                          have hj68 : ∀ (uu : Unit) (H : Heap) (locs : List Loc), hg G (eBC G) 430 q v30 A s H locs → ∀ (ls : Array Slot), lv_has ls 12 [(0, .ref (q 0)), (3, .int t8), (6, .int r18)] → j68 uu = some z → W p l e { frames := 8, cells := 1, slots := 6, locals := 216 } s m [.ref (q 0), .int p1].toArray below meth c H locs 1 6 (MQ below ((qZ z.1) (cB G (eBC G) 430 q z.2 A) A) [.ref (q 0), .int p1].toArray s 1 6 A) (F0 m 401 ls []) := by
                                            intro uu H locs h ls hl hf
                                            rw [ej68] at hf
                                            refine lv_aload_n hx hb dL_orders_401 rfl (lv_at hl 0 rfl) ?_
                                            refine lv_bipush (v := (11 : Int32)) hx hb dL_orders_402 (by decide) ?_
                                            obtain ⟨r70, hy69, hf⟩ := ob_e hf
                                            refine xiG h (va_runV (As := [.int (11 : Int32)]) (rest := []) hC (c_X8_count_n l G q v30 (11 : Int32) hy69 H.size) (xcwV hC lk_L_76 in_X8 co_X8_count im_X8_count se_X8_count rfl rfl dd_X8_count ⟨Nat.le_of_ble_eq_true rfl, Nat.le_of_ble_eq_true rfl⟩) (preVO0 h.o (Nat.le_of_ble_eq_true rfl) eBC_0 rfl [.int (11 : Int32)]) rfl rfl hl.1 rfl (lv_room (Nat.le_of_ble_eq_true rfl)) dL_orders_404 ⟨Nat.le_of_ble_eq_true rfl, Nat.le_of_ble_eq_true rfl⟩) (fun H locs h => ?_)
                                            refine lv_iload_n hx hb dL_orders_407 rfl (lv_at hl 1 rfl) ?_
                                            obtain ⟨j73, ej73, hf⟩ := lt_e hf
                                            have hj73 : ∀ (t71 : Int32) (t72 : Int32) (H : Heap) (locs : List Loc), hg G (eBC G) 430 q v30 A s H locs → ∀ (ls : Array Slot), lv_has ls 12 [] → j73 t71 t72 = some z → W p l e { frames := 8, cells := 1, slots := 6, locals := 216 } s m [.ref (q 0), .int p1].toArray below meth c H locs 1 6 (MQ below ((qZ z.1) (cB G (eBC G) 430 q z.2 A) A) [.ref (q 0), .int p1].toArray s 1 6 A) (F0 m 417 ls [.int t72, .int t71]) := by
                                              intro t71 t72 H locs h ls hl hf
                                              rw [ej73] at hf
                                              refine lv_icmp_ne (tgt := 424) hx hb dL_orders_417 (by decide) (fun c74 => ?_) (fun c74 => ?_)
                                              · have hf := it_f c74 hf
                                                exact hj44 () H locs h ls (lv_sub hl [] rfl) hf
                                              · have hf := it_t c74 hf
                                                refine lv_iconst (v := (1 : Int32)) hx hb dL_orders_420 (by decide) ?_
                                                refine lv_goto (tgt := 425) hx hb dL_orders_421 (by decide) ?_
                                                have hf := sm_e hf
                                                exact xzretc hC hr hlk h (by rw [← hf]) (by decide) (by rw [← hf]) dL_orders_425
                                            refine lv_if_ne (tgt := 415) hx hb dL_orders_408 (by decide) (fun c75 => ?_) (fun c75 => ?_)
                                            · have hf := it_f c75 hf
                                              refine lv_iload hx hb dL_orders_415 (lv_at hl 2 rfl) ?_
                                              exact hj73 r70 r18 H locs h ls (lv_sub hl [] rfl) hf
                                            · have hf := it_t c75 hf
                                              refine lv_iconst (v := (0 : Int32)) hx hb dL_orders_411 (by decide) ?_
                                              refine lv_goto (tgt := 417) hx hb dL_orders_412 (by decide) ?_
                                              exact hj73 r70 (0 : Int32) H locs h ls (lv_sub hl [] rfl) hf
                                          refine lv_icmp_eq (tgt := 401) hx hb dL_orders_384 (by decide) (fun c76 => ?_) (fun c76 => ?_)
                                          · have hf := it_t c76 hf
                                            exact hj68 () H locs h ls (lv_sub hl [0, 2, 4] rfl) hf
                                          · have hf := it_f c76 hf
                                            refine lv_aload_n hx hb dL_orders_387 rfl (lv_at hl 0 rfl) ?_
                                            refine lv_iload hx hb dL_orders_388 (lv_at hl 5 rfl) ?_
                                            refine lv_iconst (v := (1 : Int32)) hx hb dL_orders_390 (by decide) ?_
                                            refine lv_iadd hx hb dL_orders_391 ?_
                                            refine lv_iconst (v := (3 : Int32)) hx hb dL_orders_392 (by decide) ?_
                                            obtain ⟨r78, hy77, hf⟩ := ob_e hf
                                            refine xiG h (va_runV (As := [.int (a41 + (1 : Int32)), .int (3 : Int32)]) (rest := []) hC (c_X8_order_n l G q v30 (a41 + (1 : Int32)) (3 : Int32) hy77 H.size) (xcwV hC lk_L_91 in_X8 co_X8_order im_X8_order se_X8_order rfl rfl dd_X8_order ⟨Nat.le_of_ble_eq_true rfl, Nat.le_of_ble_eq_true rfl⟩) (preVO0 h.o (Nat.le_of_ble_eq_true rfl) eBC_0 rfl [.int (a41 + (1 : Int32)), .int (3 : Int32)]) rfl rfl hl.1 rfl (lv_room (Nat.le_of_ble_eq_true rfl)) dL_orders_393 ⟨Nat.le_of_ble_eq_true rfl, Nat.le_of_ble_eq_true rfl⟩) (fun H locs h => ?_)
                                            refine lv_iload hx hb dL_orders_396 (lv_at hl 3 rfl) ?_
                                            refine lv_icmp_ge (tgt := 424) hx hb dL_orders_398 (by decide) (fun c79 => ?_) (fun c79 => ?_)
                                            · have hf := it_t c79 hf
                                              exact hj44 () H locs h ls (lv_sub hl [] rfl) hf
                                            · have hf := it_f c79 hf
                                              exact hj68 () H locs h ls (lv_sub hl [0, 2, 4] rfl) hf
                                      refine lv_if_ne (tgt := 377) hx hb dL_orders_369 (by decide) (fun c80 => ?_) (fun c80 => ?_)
                                      · have hf := it_f c80 hf
                                        refine lv_iconst (v := (0 : Int32)) hx hb dL_orders_377 (by decide) ?_
                                        exact hj66 r63 (0 : Int32) H locs h ls (lv_sub hl [0, 1, 2, 4, 5, 7] rfl) hf
                                      · have hf := it_t c80 hf
                                        refine lv_iload hx hb dL_orders_372 (lv_at hl 5 rfl) ?_
                                        refine lv_goto (tgt := 378) hx hb dL_orders_374 (by decide) ?_
                                        exact hj66 r63 r18 H locs h ls (lv_sub hl [0, 1, 2, 4, 5, 7] rfl) hf
                      refine lv_if_lt (tgt := 293) hx hb dL_orders_272 (by decide) (fun c81 => ?_) (fun c81 => ?_)
                      · have hf := it_t c81 hf
                        exact hj43 () H locs h ls (lv_sub hl [0, 1, 2, 3, 4, 5, 6, 7] rfl) hf
                      · have hf := it_f c81 hf
                        refine lv_aload_n hx hb dL_orders_275 rfl (lv_at hl 0 rfl) ?_
                        refine lv_iload hx hb dL_orders_276 (lv_at hl 7 rfl) ?_
                        refine lv_iconst (v := (0 : Int32)) hx hb dL_orders_278 (by decide) ?_
                        obtain ⟨r83, hy82, hf⟩ := ob_e hf
                        refine xiG h (va_runV (As := [.int a41, .int (0 : Int32)]) (rest := []) hC (c_X8_order_n l G q v30 a41 (0 : Int32) hy82 H.size) (xcwV hC lk_L_91 in_X8 co_X8_order im_X8_order se_X8_order rfl rfl dd_X8_order ⟨Nat.le_of_ble_eq_true rfl, Nat.le_of_ble_eq_true rfl⟩) (preVO0 h.o (Nat.le_of_ble_eq_true rfl) eBC_0 rfl [.int a41, .int (0 : Int32)]) rfl rfl hl.1 rfl (lv_room (Nat.le_of_ble_eq_true rfl)) dL_orders_279 ⟨Nat.le_of_ble_eq_true rfl, Nat.le_of_ble_eq_true rfl⟩) (fun H locs h => ?_)
                        refine lv_iload hx hb dL_orders_282 (lv_at hl 6 rfl) ?_
                        refine lv_icmp_eq (tgt := 293) hx hb dL_orders_284 (by decide) (fun c84 => ?_) (fun c84 => ?_)
                        · have hf := it_t c84 hf
                          exact hj43 () H locs h ls (lv_sub hl [0, 1, 2, 3, 4, 5, 6, 7] rfl) hf
                        · have hf := it_f c84 hf
                          refine lv_iinc (v := (a41 + (-1))) (lv' := [(11, .int (a41 + (-1))), (0, .ref (q 0)), (2, .int r2), (3, .int t8), (4, .int r13), (5, .int r15), (6, .int r18), (10, .int r28.1)]) hx hb dL_orders_287 hl (k := 7) rfl rfl (by decide) rfl (fun ls hl => ?_)
                          refine lv_goto (tgt := 270) hx hb dL_orders_290 (by decide) ?_
                          exact hrec42 (a41 + (-1)) hf H locs h ls (lv_sub hl [1, 2, 3, 4, 5, 6, 7, 0] rfl)
                    · have hf := it_f c40 hf
                      exact hj31 () H locs h ls (lv_sub hl [8, 9, 0] rfl) hf
              obtain ⟨j85, ej85, hf⟩ := lt_e hf
              have hj85 : ∀ (uu : Unit) (H : Heap) (locs : List Loc), hg G (eBC G) 430 q v A s H locs → ∀ (ls : Array Slot), lv_has ls 12 [(0, .ref (q 0)), (2, .int r2), (3, .int t8), (4, .int r13), (5, .int r15), (6, .int r18), (7, .int t19), (8, .int t24)] → j85 uu = some z → W p l e { frames := 8, cells := 1, slots := 6, locals := 216 } s m [.ref (q 0), .int p1].toArray below meth c H locs 0 0 (MQ below ((qZ z.1) (cB G (eBC G) 430 q z.2 A) A) [.ref (q 0), .int p1].toArray s 1 6 A) (F0 m 201 ls []) := by
                intro uu H locs h ls hl hf
                rw [ej85] at hf
                refine lv_iconst (v := (1 : Int32)) hx hb dL_orders_201 (by decide) ?_
                refine lv_goto (tgt := 206) hx hb dL_orders_202 (by decide) ?_
                exact hj27 (1 : Int32) H locs h ls (lv_sub hl [0, 1, 2, 3, 4, 5, 6, 7] rfl) hf
              refine lv_icmp_eq (tgt := 201) hx hb dL_orders_189 (by decide) (fun c86 => ?_) (fun c86 => ?_)
              · have hf := it_t c86 hf
                exact hj85 () H locs h ls (lv_sub hl [1, 2, 3, 4, 5, 6, 7, 0] rfl) hf
              · have hf := it_f c86 hf
                refine lv_iload_n hx hb dL_orders_192 rfl (lv_at hl 3 rfl) ?_
                obtain ⟨j87, ej87, hf⟩ := lt_e hf
                have hj87 : ∀ (uu : Unit) (H : Heap) (locs : List Loc), hg G (eBC G) 430 q v A s H locs → ∀ (ls : Array Slot), lv_has ls 12 [(0, .ref (q 0)), (2, .int r2), (3, .int t8), (4, .int r13), (5, .int r15), (6, .int r18), (7, .int t19), (8, .int t24)] → j87 uu = some z → W p l e { frames := 8, cells := 1, slots := 6, locals := 216 } s m [.ref (q 0), .int p1].toArray below meth c H locs 0 0 (MQ below ((qZ z.1) (cB G (eBC G) 430 q z.2 A) A) [.ref (q 0), .int p1].toArray s 1 6 A) (F0 m 205 ls []) := by
                  intro uu H locs h ls hl hf
                  rw [ej87] at hf
                  refine lv_iconst (v := (0 : Int32)) hx hb dL_orders_205 (by decide) ?_
                  exact hj27 (0 : Int32) H locs h ls (lv_sub hl [0, 1, 2, 3, 4, 5, 6, 7] rfl) hf
                refine lv_if_ne (tgt := 205) hx hb dL_orders_193 (by decide) (fun c88 => ?_) (fun c88 => ?_)
                · have hf := it_f c88 hf
                  exact hj87 () H locs h ls (lv_sub hl [1, 2, 3, 4, 5, 6, 7, 0] rfl) hf
                · have hf := it_t c88 hf
                  refine lv_iload hx hb dL_orders_196 (lv_at hl 6 rfl) ?_
                  refine lv_if_ne (tgt := 205) hx hb dL_orders_198 (by decide) (fun c89 => ?_) (fun c89 => ?_)
                  · have hf := it_f c89 hf
                    exact hj87 () H locs h ls (lv_sub hl [1, 2, 3, 4, 5, 6, 7, 0] rfl) hf
                  · have hf := it_t c89 hf
                    exact hj85 () H locs h ls (lv_sub hl [1, 2, 3, 4, 5, 6, 7, 0] rfl) hf
            refine lv_icmp_ne (tgt := 183) hx hb dL_orders_176 (by decide) (fun c90 => ?_) (fun c90 => ?_)
            · have hf := it_f c90 hf
              refine lv_iconst (v := (0 : Int32)) hx hb dL_orders_183 (by decide) ?_
              exact hj25 (0 : Int32) H locs h ls (lv_sub hl [0, 1, 2, 3, 4, 5, 6] rfl) hf
            · have hf := it_t c90 hf
              refine lv_iconst (v := (1 : Int32)) hx hb dL_orders_179 (by decide) ?_
              refine lv_goto (tgt := 184) hx hb dL_orders_180 (by decide) ?_
              exact hj25 (1 : Int32) H locs h ls (lv_sub hl [0, 1, 2, 3, 4, 5, 6] rfl) hf
          refine lv_if_ne (tgt := 174) hx hb dL_orders_165 (by decide) (fun c91 => ?_) (fun c91 => ?_)
          · have hf := it_f c91 hf
            refine lv_bipush (v := (8 : Int32)) hx hb dL_orders_174 (by decide) ?_
            exact hj23 r13 (8 : Int32) H locs h ls (lv_sub hl [1, 2, 3, 4, 5, 6, 0] rfl) hf
          · have hf := it_t c91 hf
            refine lv_sipush (v := (256 : Int32)) hx hb dL_orders_168 (by decide) ?_
            refine lv_goto (tgt := 176) hx hb dL_orders_171 (by decide) ?_
            exact hj23 r13 (256 : Int32) H locs h ls (lv_sub hl [1, 2, 3, 4, 5, 6, 0] rfl) hf
        obtain ⟨j92, ej92, hf⟩ := lt_e hf
        have hj92 : ∀ (uu : Unit) (H : Heap) (locs : List Loc), hg G (eBC G) 430 q v A s H locs → ∀ (ls : Array Slot), lv_has ls 12 [(0, .ref (q 0)), (2, .int r2), (3, .int t8), (4, .int r13), (5, .int r15), (6, .int r18)] → j92 uu = some z → W p l e { frames := 8, cells := 1, slots := 6, locals := 216 } s m [.ref (q 0), .int p1].toArray below meth c H locs 0 0 (MQ below ((qZ z.1) (cB G (eBC G) 430 q z.2 A) A) [.ref (q 0), .int p1].toArray s 1 6 A) (F0 m 155 ls []) := by
          intro uu H locs h ls hl hf
          rw [ej92] at hf
          refine lv_iconst (v := (1 : Int32)) hx hb dL_orders_155 (by decide) ?_
          refine lv_goto (tgt := 160) hx hb dL_orders_156 (by decide) ?_
          exact hj20 (1 : Int32) H locs h ls (lv_sub hl [0, 1, 2, 3, 4, 5] rfl) hf
        refine lv_icmp_eq (tgt := 155) hx hb dL_orders_145 (by decide) (fun c93 => ?_) (fun c93 => ?_)
        · have hf := it_t c93 hf
          exact hj92 () H locs h ls (lv_sub hl [3, 5, 6, 2, 1, 0] rfl) hf
        · have hf := it_f c93 hf
          refine lv_iload hx hb dL_orders_148 (lv_at hl 1 rfl) ?_
          refine lv_bipush (v := (10 : Int32)) hx hb dL_orders_150 (by decide) ?_
          refine lv_icmp_ne (tgt := 159) hx hb dL_orders_152 (by decide) (fun c94 => ?_) (fun c94 => ?_)
          · have hf := it_f c94 hf
            refine lv_iconst (v := (0 : Int32)) hx hb dL_orders_159 (by decide) ?_
            exact hj20 (0 : Int32) H locs h ls (lv_sub hl [3, 5, 6, 2, 1, 0] rfl) hf
          · have hf := it_t c94 hf
            exact hj92 () H locs h ls (lv_sub hl [3, 5, 6, 2, 1, 0] rfl) hf
      refine lv_if_ne (tgt := 117) hx hb dL_orders_108 (by decide) (fun c95 => ?_) (fun c95 => ?_)
      · have hf := it_f c95 hf
        refine lv_bipush (v := (9 : Int32)) hx hb dL_orders_117 (by decide) ?_
        exact hj12 (p1 >>> ((6 : Int32) &&& 31)) (9 : Int32) H locs h ls (lv_sub hl [1, 2, 3, 0] rfl) hf
      · have hf := it_t c95 hf
        refine lv_sipush (v := (257 : Int32)) hx hb dL_orders_111 (by decide) ?_
        refine lv_goto (tgt := 119) hx hb dL_orders_114 (by decide) ?_
        exact hj12 (p1 >>> ((6 : Int32) &&& 31)) (257 : Int32) H locs h ls (lv_sub hl [1, 2, 3, 0] rfl) hf
    refine lv_if_ne (tgt := 85) hx hb dL_orders_78 (by decide) (fun c96 => ?_) (fun c96 => ?_)
    · have hf := it_f c96 hf
      refine lv_iload_n hx hb dL_orders_85 rfl (lv_at hl 2 rfl) ?_
      refine lv_iconst (v := (3 : Int32)) hx hb dL_orders_86 (by decide) ?_
      refine lv_ishr hx hb dL_orders_87 ?_
      refine lv_bipush (v := (9 : Int32)) hx hb dL_orders_88 (by decide) ?_
      obtain ⟨r97, hy98, hf⟩ := ob_e hf
      refine xiG h (va_runS (As := [.int (p1 >>> ((3 : Int32) &&& 31)), .int (9 : Int32)]) (rest := []) hC (c_L_low l G q v (p1 >>> ((3 : Int32) &&& 31)) (9 : Int32) hy98 H.size) (xcgS hC (fun _ h9 => wM_in h9) lk_L_113 in_L co_L_low st_L_low rfl rfl dd_L_low ⟨Nat.le_of_ble_eq_true rfl, Nat.le_of_ble_eq_true rfl⟩) (preSN h.o [.int (p1 >>> ((3 : Int32) &&& 31)), .int (9 : Int32)]) rfl rfl hl.1 rfl (lv_room (Nat.le_of_ble_eq_true rfl)) dL_orders_90 ⟨Nat.le_of_ble_eq_true rfl, Nat.le_of_ble_eq_true rfl⟩) (fun H locs h => ?_)
      refine lv_iconst (v := (3 : Int32)) hx hb dL_orders_93 (by decide) ?_
      refine lv_icmp_ge (tgt := 101) hx hb dL_orders_94 (by decide) (fun c99 => ?_) (fun c99 => ?_)
      · have hf := it_t c99 hf
        refine lv_iconst (v := (0 : Int32)) hx hb dL_orders_101 (by decide) ?_
        exact hj9 (0 : Int32) H locs h ls (lv_sub hl [1, 2, 0] rfl) hf
      · have hf := it_f c99 hf
        refine lv_iconst (v := (1 : Int32)) hx hb dL_orders_97 (by decide) ?_
        refine lv_goto (tgt := 102) hx hb dL_orders_98 (by decide) ?_
        exact hj9 (1 : Int32) H locs h ls (lv_sub hl [1, 2, 0] rfl) hf
    · have hf := it_t c96 hf
      refine lv_iconst (v := (2 : Int32)) hx hb dL_orders_81 (by decide) ?_
      refine lv_goto (tgt := 102) hx hb dL_orders_82 (by decide) ?_
      exact hj9 (2 : Int32) H locs h ls (lv_sub hl [1, 2, 0] rfl) hf
  · have hf := it_t c5 hf
    refine lv_iload_n hx hb dL_orders_15 rfl (lv_at hl 2 rfl) ?_
    refine lv_iconst (v := (3 : Int32)) hx hb dL_orders_16 (by decide) ?_
    refine lv_ishr hx hb dL_orders_17 ?_
    refine lv_iload_n hx hb dL_orders_18 rfl (lv_at hl 0 rfl) ?_
    refine lv_iconst (v := (1 : Int32)) hx hb dL_orders_19 (by decide) ?_
    refine lv_iadd hx hb dL_orders_20 ?_
    obtain ⟨r100, hy101, hf⟩ := ob_e hf
    refine xiG h (va_runS (As := [.int (p1 >>> ((3 : Int32) &&& 31)), .int (r2 + (1 : Int32))]) (rest := []) hC (c_L_low l G q v (p1 >>> ((3 : Int32) &&& 31)) (r2 + (1 : Int32)) hy101 H.size) (xcgS hC (fun _ h9 => wM_in h9) lk_L_113 in_L co_L_low st_L_low rfl rfl dd_L_low ⟨Nat.le_of_ble_eq_true rfl, Nat.le_of_ble_eq_true rfl⟩) (preSN h.o [.int (p1 >>> ((3 : Int32) &&& 31)), .int (r2 + (1 : Int32))]) rfl rfl hl.1 rfl (lv_room (Nat.le_of_ble_eq_true rfl)) dL_orders_21 ⟨Nat.le_of_ble_eq_true rfl, Nat.le_of_ble_eq_true rfl⟩) (fun H locs h => ?_)
    refine lv_istore_n (lv' := [(3, .int r100), (2, .int r2), (0, .ref (q 0)), (1, .int p1)]) hx hb dL_orders_24 rfl hl (by decide) rfl (fun ls hl => ?_)
    refine lv_iload_n hx hb dL_orders_25 rfl (lv_at hl 0 rfl) ?_
    refine lv_iload_n hx hb dL_orders_26 rfl (lv_at hl 1 rfl) ?_
    obtain ⟨j103, ej103, hf⟩ := lt_e hf
    have hj103 : ∀ (t102 : Int32) (H : Heap) (locs : List Loc), hg G (eBC G) 430 q v A s H locs → ∀ (ls : Array Slot), lv_has ls 12 [(0, .ref (q 0)), (2, .int r2), (3, .int r100)] → j103 t102 = some z → W p l e { frames := 8, cells := 1, slots := 6, locals := 216 } s m [.ref (q 0), .int p1].toArray below meth c H locs 0 0 (MQ below ((qZ z.1) (cB G (eBC G) 430 q z.2 A) A) [.ref (q 0), .int p1].toArray s 1 6 A) (F0 m 40 ls [.int t102]) := by
      intro t102 H locs h ls hl hf
      rw [ej103] at hf
      refine lv_istore (lv' := [(4, .int t102), (0, .ref (q 0)), (2, .int r2), (3, .int r100)]) hx hb dL_orders_40 hl (by decide) rfl (fun ls hl => ?_)
      refine lv_aload_n hx hb dL_orders_42 rfl (lv_at hl 1 rfl) ?_
      refine lv_iload hx hb dL_orders_43 (lv_at hl 0 rfl) ?_
      obtain ⟨r104, hy105, hf⟩ := ob_e hf
      refine xi0c h (vx_runSW (As := [.ref (q 0), .int t102]) (rest := []) hC (c_L_withdraw l hst G sa q v t102 hy105 H.size) (xcgSW hC (fun _ h9 => wM_in h9) lk_L_154 in_L co_L_withdraw st_L_withdraw rfl rfl dd_L_withdraw ⟨Nat.le_of_ble_eq_true rfl, Nat.le_of_ble_eq_true rfl⟩) (preS0T h hT [.ref (q 0), .int t102]) rfl rfl hl.1 rfl (lv_room (Nat.le_of_ble_eq_true rfl)) dL_orders_45 ⟨Nat.le_of_ble_eq_true rfl, Nat.le_of_ble_eq_true rfl⟩) (fun H locs h => ?_)
      refine W.widen (k := 1) (n := 6) (by omega) (by omega) ?_
      obtain ⟨v106, ev106, hf⟩ := lt_e hf
      rw [← ev106] at h
      refine lv_iload_n hx hb dL_orders_48 rfl (lv_at hl 3 rfl) ?_
      refine lv_iload_n hx hb dL_orders_49 rfl (lv_at hl 2 rfl) ?_
      obtain ⟨j109, ej109, hf⟩ := lt_e hf
      have hj109 : ∀ (t107 : Int32) (t108 : Int32) (H : Heap) (locs : List Loc), hg G (eBC G) 430 q v106 A s H locs → ∀ (ls : Array Slot), lv_has ls 12 [] → j109 t107 t108 = some z → W p l e { frames := 8, cells := 1, slots := 6, locals := 216 } s m [.ref (q 0), .int p1].toArray below meth c H locs 1 6 (MQ below ((qZ z.1) (cB G (eBC G) 430 q z.2 A) A) [.ref (q 0), .int p1].toArray s 1 6 A) (F0 m 61 ls [.int t108, .int t107]) := by
        intro t107 t108 H locs h ls hl hf
        rw [ej109] at hf
        refine lv_icmp_ne (tgt := 68) hx hb dL_orders_61 (by decide) (fun c110 => ?_) (fun c110 => ?_)
        · have hf := it_f c110 hf
          refine lv_iconst (v := (0 : Int32)) hx hb dL_orders_68 (by decide) ?_
          have hf := sm_e hf
          exact xzretc hC hr hlk h (by rw [← hf]) (by decide) (by rw [← hf]) dL_orders_69
        · have hf := it_t c110 hf
          refine lv_iconst (v := (1 : Int32)) hx hb dL_orders_64 (by decide) ?_
          refine lv_goto (tgt := 69) hx hb dL_orders_65 (by decide) ?_
          have hf := sm_e hf
          exact xzretc hC hr hlk h (by rw [← hf]) (by decide) (by rw [← hf]) dL_orders_69
      refine lv_icmp_ne (tgt := 58) hx hb dL_orders_50 (by decide) (fun c111 => ?_) (fun c111 => ?_)
      · have hf := it_f c111 hf
        refine lv_iload_n hx hb dL_orders_58 rfl (lv_at hl 2 rfl) ?_
        refine lv_iconst (v := (1 : Int32)) hx hb dL_orders_59 (by decide) ?_
        refine lv_isub hx hb dL_orders_60 ?_
        exact hj109 r104.1 (r2 - (1 : Int32)) H locs h ls (lv_sub hl [] rfl) hf
      · have hf := it_t c111 hf
        refine lv_bipush (v := (-101 : Int32)) hx hb dL_orders_53 (by decide) ?_
        refine lv_goto (tgt := 61) hx hb dL_orders_55 (by decide) ?_
        exact hj109 r104.1 (-101 : Int32) H locs h ls (lv_sub hl [] rfl) hf
    refine lv_icmp_ne (tgt := 34) hx hb dL_orders_27 (by decide) (fun c112 => ?_) (fun c112 => ?_)
    · have hf := it_f c112 hf
      refine lv_aload_n hx hb dL_orders_34 rfl (lv_at hl 2 rfl) ?_
      refine lv_iload_n hx hb dL_orders_35 rfl (lv_at hl 0 rfl) ?_
      refine lv_iconst (v := (0 : Int32)) hx hb dL_orders_36 (by decide) ?_
      obtain ⟨r114, hy113, hf⟩ := ob_e hf
      refine xiG h (va_runV (As := [.int r100, .int (0 : Int32)]) (rest := []) hC (c_X8_order_n l G q v r100 (0 : Int32) hy113 H.size) (xcwV hC lk_L_91 in_X8 co_X8_order im_X8_order se_X8_order rfl rfl dd_X8_order ⟨Nat.le_of_ble_eq_true rfl, Nat.le_of_ble_eq_true rfl⟩) (preVO0 h.o (Nat.le_of_ble_eq_true rfl) eBC_0 rfl [.int r100, .int (0 : Int32)]) rfl rfl hl.1 rfl (lv_room (Nat.le_of_ble_eq_true rfl)) dL_orders_37 ⟨Nat.le_of_ble_eq_true rfl, Nat.le_of_ble_eq_true rfl⟩) (fun H locs h => ?_)
      exact hj103 r114 H locs h ls (lv_sub hl [2, 1, 0] rfl) hf
    · have hf := it_t c112 hf
      refine lv_iconst (v := (-1 : Int32)) hx hb dL_orders_30 (by decide) ?_
      refine lv_goto (tgt := 40) hx hb dL_orders_31 (by decide) ?_
      exact hj103 (-1 : Int32) H locs h ls (lv_sub hl [2, 1, 0] rfl) hf
def m_L_chip (v : xSt) (p1 : Int32) (p2 : Int32) : Option (Int32 × xSt) := ob (m_X8_work_n v (0 : Int32) (0 : Int32)) (fun r2 => lt (fun (t3 : Int32) => ob (m_X8_work_n v (0 : Int32) (0 : Int32)) (fun r6 => ob (m_X8_work_n v (1 : Int32) (0 : Int32)) (fun r8 => ob (m_X8_work_n v (0 : Int32) (2 : Int32)) (fun r10 => ob (m_X8_work_n v (1 : Int32) (2 : Int32)) (fun r12 => (if p1 = 0 then ob (m_X8_count_n v (1 : Int32)) (fun r160 => ob (m_L_arm v) (fun r161 => lt (r161.2) (fun v163 => lt (fun (t164 : Int32) (t165 : Int32) => lt (fun (_ : Unit) => some ((0 : Int32), v163)) (fun j167 => (if t164 = t165 then lt (fun (_ : Unit) => some ((1 : Int32), v163)) (fun j169 => (if t3 = 0 then ob (m_X8_count_n v163 (1 : Int32)) (fun r172 => (if r172 = (1 : Int32) then j169 () else j167 ())) else j169 ())) else j167 ()))) (fun j166 => (if t3 = 0 then j166 r161.1 r160 else j166 r161.1 (-103 : Int32)))))) else (if p1 = (1 : Int32) then ob (m_X8_count_n v (2 : Int32)) (fun r144 => ob (m_L_freeze v) (fun r145 => lt (r145.2) (fun v147 => lt (fun (t148 : Int32) (t149 : Int32) => lt (fun (_ : Unit) => some ((0 : Int32), v147)) (fun j151 => (if t148 = t149 then lt (fun (_ : Unit) => some ((1 : Int32), v147)) (fun j153 => (if t3 = 0 then ob (m_X8_count_n v147 (2 : Int32)) (fun r156 => (if r156 = (1 : Int32) then j153 () else j151 ())) else j153 ())) else j151 ()))) (fun j150 => (if t3 = 0 then j150 r145.1 r144 else j150 r145.1 (-103 : Int32)))))) else (if p1 = (2 : Int32) then lt (fun (t106 : Int32) => ob (m_X8_count_n v (14 : Int32)) (fun r109 => ob (m_L_suspend v) (fun r110 => lt (r110.2) (fun v112 => lt (fun (t113 : Int32) (t114 : Int32) => lt (fun (_ : Unit) => some ((0 : Int32), v112)) (fun j116 => (if t113 = t114 then ob (m_X8_count_n v112 (14 : Int32)) (fun r119 => lt (fun (t120 : Int32) (t121 : Int32) (t122 : Int32) => (if t120 = (t121 + t122) then lt (fun (_ : Unit) => some ((1 : Int32), v112)) (fun j125 => (if t106 = 0 then j125 () else ob (m_X8_work_n v112 (1 : Int32) (0 : Int32)) (fun r128 => (if r128 = r6 then ob (m_X8_work_n v112 (1 : Int32) (4 : Int32)) (fun r131 => (if r131 = 0 then ob (m_X8_work_n v112 (0 : Int32) (0 : Int32)) (fun r134 => (if r134 = 0 then j125 () else j116 ())) else j116 ())) else j116 ())))) else j116 ())) (fun j123 => (if t106 = 0 then j123 r119 r109 (0 : Int32) else j123 r119 r109 (1 : Int32)))) else j116 ()))) (fun j115 => (if t106 = 0 then j115 r110.1 (-103 : Int32) else j115 r110.1 r10)))))) (fun j107 => lt (fun (_ : Unit) => j107 (0 : Int32)) (fun j138 => lt (fun (_ : Unit) => (if r8 = 0 then j107 (1 : Int32) else j138 ())) (fun j139 => (if r6 = (1 : Int32) then j139 () else (if r6 = (2 : Int32) then j139 () else j138 ()))))) else (if p1 = (3 : Int32) then lt (fun (t84 : Int32) => ob (m_L_resume v) (fun r86 => lt (r86.2) (fun v88 => lt (fun (t89 : Int32) (t90 : Int32) => lt (fun (_ : Unit) => some ((0 : Int32), v88)) (fun j92 => (if t89 = t90 then lt (fun (_ : Unit) => some ((1 : Int32), v88)) (fun j94 => (if t84 = 0 then j94 () else ob (m_X8_work_n v88 (0 : Int32) (0 : Int32)) (fun r97 => (if r97 = r8 then ob (m_X8_work_n v88 (1 : Int32) (0 : Int32)) (fun r100 => (if r100 = 0 then j94 () else j92 ())) else j92 ())))) else j92 ()))) (fun j91 => (if t84 = 0 then j91 r86.1 (-103 : Int32) else j91 r86.1 r12))))) (fun j85 => lt (fun (_ : Unit) => j85 (0 : Int32)) (fun j103 => (if r8 ≤ 0 then j103 () else (if t3 = 0 then j85 (1 : Int32) else j103 ())))) else (if p1 = (4 : Int32) then lt (fun (t56 : Int32) => lt (fun (t58 : Int32) (t59 : Int32) => ob (m_X8_count_n v (9 : Int32)) (fun r62 => ob (m_X8_cut v) (fun r64 => lt (r64.2) (fun v65 => lt (fun (_ : Unit) => some ((0 : Int32), v65)) (fun j66 => (if r64.1 = (t58 + t59) then ob (m_X8_count_n v65 (9 : Int32)) (fun r69 => (if r69 = (r62 + (t58 + t59)) then ob (m_X8_count_n v65 (1 : Int32)) (fun r72 => ob (m_X8_count_n v65 (2 : Int32)) (fun r74 => ob (m_X8_count_n v65 (11 : Int32)) (fun r76 => ob (m_X8_work_n v65 (0 : Int32) (0 : Int32)) (fun r78 => ob (m_X8_work_n v65 (1 : Int32) (0 : Int32)) (fun r80 => (if ((((r72 + r74) + r76) + r78) + r80) = 0 then some ((1 : Int32), v65) else j66 ())))))) else j66 ())) else j66 ())))))) (fun j60 => (if r8 ≤ 0 then j60 t56 (0 : Int32) else j60 t56 (1 : Int32)))) (fun j57 => (if t3 = 0 then j57 (0 : Int32) else j57 (1 : Int32))) else ob (m_L_low p2 (6 : Int32)) (fun r18 => ob (m_L_low (p2 >>> ((3 : Int32) &&& 31)) (11 : Int32)) (fun r20 => lt (fun (t22 : Int32) => lt (fun (t24 : Int32) (v25 : xSt) => ob (m_L_set v25 r18 r20) (fun r27 => lt (r27.2) (fun v29 => lt (fun (t30 : Int32) (t31 : Int32) => lt (fun (v33 : xSt) => some ((0 : Int32), v33)) (fun j34 => (if t30 = t31 then lt (fun (v36 : xSt) => some ((1 : Int32), v36)) (fun j37 => (if r18 = (5 : Int32) then j37 v29 else (if t22 = 0 then ob (m_X8_setting_n v29 r18) (fun r41 => lt (r41.2) (fun v42 => (if r41.1 = r20 then j37 v42 else j34 v42))) else j37 v29))) else j34 v29))) (fun j32 => (if r18 = (5 : Int32) then j32 r27.1 (-101 : Int32) else (if t22 = 0 then j32 r27.1 t24 else j32 r27.1 (-102 : Int32))))))) (fun j26 => (if r18 = (5 : Int32) then j26 (0 : Int32) v else ob (m_X8_setting_n v r18) (fun r48 => lt (r48.2) (fun v49 => j26 r48.1 v49))))) (fun j23 => lt (fun (_ : Unit) => j23 (1 : Int32)) (fun j50 => (if r20 = 0 then j50 () else lt (fun (_ : Unit) => j23 (0 : Int32)) (fun j52 => (if r20 = (10 : Int32) then (if r18 = 0 then j50 () else (if r18 = (4 : Int32) then j50 () else j52 ())) else j52 ()))))))))))))))))) (fun j4 => (if r2 ≤ 0 then j4 (0 : Int32) else j4 (1 : Int32))))
set_option maxHeartbeats 4000000 in
set_option maxRecDepth 100000 in
theorem c_L_chip (l : Launch) (hst : l.stackTraces = false) (G : xGl) (sa q : Nat → Nat) (v : xSt) (p1 : Int32) (p2 : Int32) {z : (Int32 × xSt)} (hf : m_L_chip v p1 p2 = some z) : mRS l yL_chip (wM yL_chip cL_chip 12 (some .boolean)) { frames := 8, cells := 1, slots := 6, locals := 214 } G sa (eBC G) 430 q v [.ref (q 0), .int p1, .int p2] (qZ z.1) z.2 1 6 := by
  refine xRSg (cc := cL_chip) (maxL := 12) (ret := (some .boolean)) (by decide) rfl (Nat.le_of_ble_eq_true rfl) ?_
  intro p e s m below meth c ls A hC hr hlk h hT hl
  have hx := hC.1
  have hb := hC.2.1
  have hl : lv_has ls 12 [(0, .ref (q 0)), (1, .int p1), (2, .int p2)] := hl
  unfold m_L_chip at hf
  obtain ⟨H, hH⟩ : ∃ H, H = s.heap := ⟨_, rfl⟩
  obtain ⟨locs, hlo⟩ : ∃ x : List Loc, x = [] := ⟨_, rfl⟩
  have h : hg G (eBC G) 430 q v A s H locs := by rw [hH, hlo]; exact h
  rw [← hlo, ← hH]
  clear hH hlo
  refine lv_aload_n hx hb dL_chip_0 rfl (lv_at hl 0 rfl) ?_
  refine lv_iconst (v := (0 : Int32)) hx hb dL_chip_1 (by decide) ?_
  refine lv_iconst (v := (0 : Int32)) hx hb dL_chip_2 (by decide) ?_
  obtain ⟨r2, hy1, hf⟩ := ob_e hf
  refine xiG h (va_runV (As := [.int (0 : Int32), .int (0 : Int32)]) (rest := []) hC (c_X8_work_n l G q v (0 : Int32) (0 : Int32) hy1 H.size) (xcwV hC lk_L_85 in_X8 co_X8_work im_X8_work se_X8_work rfl rfl dd_X8_work ⟨Nat.le_of_ble_eq_true rfl, Nat.le_of_ble_eq_true rfl⟩) (preVO0 h.o (Nat.le_of_ble_eq_true rfl) eBC_0 rfl [.int (0 : Int32), .int (0 : Int32)]) rfl rfl hl.1 rfl (lv_room (Nat.le_of_ble_eq_true rfl)) dL_chip_3 ⟨Nat.le_of_ble_eq_true rfl, Nat.le_of_ble_eq_true rfl⟩) (fun H locs h => ?_)
  obtain ⟨j4, ej4, hf⟩ := lt_e hf
  have hj4 : ∀ (t3 : Int32) (H : Heap) (locs : List Loc), hg G (eBC G) 430 q v A s H locs → ∀ (ls : Array Slot), lv_has ls 12 [(0, .ref (q 0)), (1, .int p1), (2, .int p2)] → j4 t3 = some z → W p l e { frames := 8, cells := 1, slots := 6, locals := 214 } s m [.ref (q 0), .int p1, .int p2].toArray below meth c H locs 0 0 (MQ below ((qZ z.1) (cB G (eBC G) 430 q z.2 A) A) [.ref (q 0), .int p1, .int p2].toArray s 1 6 A) (F0 m 14 ls [.int t3]) := by
    intro t3 H locs h ls hl hf
    rw [ej4] at hf
    refine lv_istore_n (lv' := [(3, .int t3), (0, .ref (q 0)), (1, .int p1), (2, .int p2)]) hx hb dL_chip_14 rfl hl (by decide) rfl (fun ls hl => ?_)
    refine lv_aload_n hx hb dL_chip_15 rfl (lv_at hl 1 rfl) ?_
    refine lv_iconst (v := (0 : Int32)) hx hb dL_chip_16 (by decide) ?_
    refine lv_iconst (v := (0 : Int32)) hx hb dL_chip_17 (by decide) ?_
    obtain ⟨r6, hy5, hf⟩ := ob_e hf
    refine xiG h (va_runV (As := [.int (0 : Int32), .int (0 : Int32)]) (rest := []) hC (c_X8_work_n l G q v (0 : Int32) (0 : Int32) hy5 H.size) (xcwV hC lk_L_85 in_X8 co_X8_work im_X8_work se_X8_work rfl rfl dd_X8_work ⟨Nat.le_of_ble_eq_true rfl, Nat.le_of_ble_eq_true rfl⟩) (preVO0 h.o (Nat.le_of_ble_eq_true rfl) eBC_0 rfl [.int (0 : Int32), .int (0 : Int32)]) rfl rfl hl.1 rfl (lv_room (Nat.le_of_ble_eq_true rfl)) dL_chip_18 ⟨Nat.le_of_ble_eq_true rfl, Nat.le_of_ble_eq_true rfl⟩) (fun H locs h => ?_)
    refine lv_istore (lv' := [(4, .int r6), (3, .int t3), (0, .ref (q 0)), (1, .int p1), (2, .int p2)]) hx hb dL_chip_21 hl (by decide) rfl (fun ls hl => ?_)
    refine lv_aload_n hx hb dL_chip_23 rfl (lv_at hl 2 rfl) ?_
    refine lv_iconst (v := (1 : Int32)) hx hb dL_chip_24 (by decide) ?_
    refine lv_iconst (v := (0 : Int32)) hx hb dL_chip_25 (by decide) ?_
    obtain ⟨r8, hy7, hf⟩ := ob_e hf
    refine xiG h (va_runV (As := [.int (1 : Int32), .int (0 : Int32)]) (rest := []) hC (c_X8_work_n l G q v (1 : Int32) (0 : Int32) hy7 H.size) (xcwV hC lk_L_85 in_X8 co_X8_work im_X8_work se_X8_work rfl rfl dd_X8_work ⟨Nat.le_of_ble_eq_true rfl, Nat.le_of_ble_eq_true rfl⟩) (preVO0 h.o (Nat.le_of_ble_eq_true rfl) eBC_0 rfl [.int (1 : Int32), .int (0 : Int32)]) rfl rfl hl.1 rfl (lv_room (Nat.le_of_ble_eq_true rfl)) dL_chip_26 ⟨Nat.le_of_ble_eq_true rfl, Nat.le_of_ble_eq_true rfl⟩) (fun H locs h => ?_)
    refine lv_istore (lv' := [(5, .int r8), (4, .int r6), (3, .int t3), (0, .ref (q 0)), (1, .int p1), (2, .int p2)]) hx hb dL_chip_29 hl (by decide) rfl (fun ls hl => ?_)
    refine lv_aload_n hx hb dL_chip_31 rfl (lv_at hl 3 rfl) ?_
    refine lv_iconst (v := (0 : Int32)) hx hb dL_chip_32 (by decide) ?_
    refine lv_iconst (v := (2 : Int32)) hx hb dL_chip_33 (by decide) ?_
    obtain ⟨r10, hy9, hf⟩ := ob_e hf
    refine xiG h (va_runV (As := [.int (0 : Int32), .int (2 : Int32)]) (rest := []) hC (c_X8_work_n l G q v (0 : Int32) (2 : Int32) hy9 H.size) (xcwV hC lk_L_85 in_X8 co_X8_work im_X8_work se_X8_work rfl rfl dd_X8_work ⟨Nat.le_of_ble_eq_true rfl, Nat.le_of_ble_eq_true rfl⟩) (preVO0 h.o (Nat.le_of_ble_eq_true rfl) eBC_0 rfl [.int (0 : Int32), .int (2 : Int32)]) rfl rfl hl.1 rfl (lv_room (Nat.le_of_ble_eq_true rfl)) dL_chip_34 ⟨Nat.le_of_ble_eq_true rfl, Nat.le_of_ble_eq_true rfl⟩) (fun H locs h => ?_)
    refine lv_istore (lv' := [(6, .int r10), (5, .int r8), (4, .int r6), (3, .int t3), (0, .ref (q 0)), (1, .int p1), (2, .int p2)]) hx hb dL_chip_37 hl (by decide) rfl (fun ls hl => ?_)
    refine lv_aload_n hx hb dL_chip_39 rfl (lv_at hl 4 rfl) ?_
    refine lv_iconst (v := (1 : Int32)) hx hb dL_chip_40 (by decide) ?_
    refine lv_iconst (v := (2 : Int32)) hx hb dL_chip_41 (by decide) ?_
    obtain ⟨r12, hy11, hf⟩ := ob_e hf
    refine xiG h (va_runV (As := [.int (1 : Int32), .int (2 : Int32)]) (rest := []) hC (c_X8_work_n l G q v (1 : Int32) (2 : Int32) hy11 H.size) (xcwV hC lk_L_85 in_X8 co_X8_work im_X8_work se_X8_work rfl rfl dd_X8_work ⟨Nat.le_of_ble_eq_true rfl, Nat.le_of_ble_eq_true rfl⟩) (preVO0 h.o (Nat.le_of_ble_eq_true rfl) eBC_0 rfl [.int (1 : Int32), .int (2 : Int32)]) rfl rfl hl.1 rfl (lv_room (Nat.le_of_ble_eq_true rfl)) dL_chip_42 ⟨Nat.le_of_ble_eq_true rfl, Nat.le_of_ble_eq_true rfl⟩) (fun H locs h => ?_)
    refine lv_istore (lv' := [(7, .int r12), (6, .int r10), (5, .int r8), (4, .int r6), (3, .int t3), (0, .ref (q 0)), (1, .int p1), (2, .int p2)]) hx hb dL_chip_45 hl (by decide) rfl (fun ls hl => ?_)
    refine lv_iload_n hx hb dL_chip_47 rfl (lv_at hl 6 rfl) ?_
    refine lv_if_ne (tgt := 95) hx hb dL_chip_48 (by decide) (fun c13 => ?_) (fun c13 => ?_)
    · have hf := it_f c13 hf
      refine lv_iload_n hx hb dL_chip_95 rfl (lv_at hl 6 rfl) ?_
      refine lv_iconst (v := (1 : Int32)) hx hb dL_chip_96 (by decide) ?_
      refine lv_icmp_ne (tgt := 144) hx hb dL_chip_97 (by decide) (fun c14 => ?_) (fun c14 => ?_)
      · have hf := it_f c14 hf
        refine lv_iload_n hx hb dL_chip_144 rfl (lv_at hl 6 rfl) ?_
        refine lv_iconst (v := (2 : Int32)) hx hb dL_chip_145 (by decide) ?_
        refine lv_icmp_ne (tgt := 262) hx hb dL_chip_146 (by decide) (fun c15 => ?_) (fun c15 => ?_)
        · have hf := it_f c15 hf
          refine lv_iload_n hx hb dL_chip_262 rfl (lv_at hl 6 rfl) ?_
          refine lv_iconst (v := (3 : Int32)) hx hb dL_chip_263 (by decide) ?_
          refine lv_icmp_ne (tgt := 333) hx hb dL_chip_264 (by decide) (fun c16 => ?_) (fun c16 => ?_)
          · have hf := it_f c16 hf
            refine lv_iload_n hx hb dL_chip_333 rfl (lv_at hl 6 rfl) ?_
            refine lv_iconst (v := (4 : Int32)) hx hb dL_chip_334 (by decide) ?_
            refine lv_icmp_ne (tgt := 432) hx hb dL_chip_335 (by decide) (fun c17 => ?_) (fun c17 => ?_)
            · have hf := it_f c17 hf
              refine lv_iload_n hx hb dL_chip_432 rfl (lv_at hl 7 rfl) ?_
              refine lv_bipush (v := (6 : Int32)) hx hb dL_chip_433 (by decide) ?_
              obtain ⟨r18, hy19, hf⟩ := ob_e hf
              refine xiG h (va_runS (As := [.int p2, .int (6 : Int32)]) (rest := []) hC (c_L_low l G q v p2 (6 : Int32) hy19 H.size) (xcgS hC (fun _ h9 => wM_in h9) lk_L_113 in_L co_L_low st_L_low rfl rfl dd_L_low ⟨Nat.le_of_ble_eq_true rfl, Nat.le_of_ble_eq_true rfl⟩) (preSN h.o [.int p2, .int (6 : Int32)]) rfl rfl hl.1 rfl (lv_room (Nat.le_of_ble_eq_true rfl)) dL_chip_435 ⟨Nat.le_of_ble_eq_true rfl, Nat.le_of_ble_eq_true rfl⟩) (fun H locs h => ?_)
              refine lv_istore (lv' := [(8, .int r18), (7, .int r12), (6, .int r10), (5, .int r8), (4, .int r6), (3, .int t3), (0, .ref (q 0)), (1, .int p1), (2, .int p2)]) hx hb dL_chip_438 hl (by decide) rfl (fun ls hl => ?_)
              refine lv_iload_n hx hb dL_chip_440 rfl (lv_at hl 8 rfl) ?_
              refine lv_iconst (v := (3 : Int32)) hx hb dL_chip_441 (by decide) ?_
              refine lv_ishr hx hb dL_chip_442 ?_
              refine lv_bipush (v := (11 : Int32)) hx hb dL_chip_443 (by decide) ?_
              obtain ⟨r20, hy21, hf⟩ := ob_e hf
              refine xiG h (va_runS (As := [.int (p2 >>> ((3 : Int32) &&& 31)), .int (11 : Int32)]) (rest := []) hC (c_L_low l G q v (p2 >>> ((3 : Int32) &&& 31)) (11 : Int32) hy21 H.size) (xcgS hC (fun _ h9 => wM_in h9) lk_L_113 in_L co_L_low st_L_low rfl rfl dd_L_low ⟨Nat.le_of_ble_eq_true rfl, Nat.le_of_ble_eq_true rfl⟩) (preSN h.o [.int (p2 >>> ((3 : Int32) &&& 31)), .int (11 : Int32)]) rfl rfl hl.1 rfl (lv_room (Nat.le_of_ble_eq_true rfl)) dL_chip_445 ⟨Nat.le_of_ble_eq_true rfl, Nat.le_of_ble_eq_true rfl⟩) (fun H locs h => ?_)
              refine lv_istore (lv' := [(9, .int r20), (8, .int r18), (7, .int r12), (6, .int r10), (5, .int r8), (4, .int r6), (3, .int t3), (0, .ref (q 0)), (1, .int p1), (2, .int p2)]) hx hb dL_chip_448 hl (by decide) rfl (fun ls hl => ?_)
              refine lv_iload hx hb dL_chip_450 (lv_at hl 0 rfl) ?_
              obtain ⟨j23, ej23, hf⟩ := lt_e hf
              have hj23 : ∀ (t22 : Int32) (H : Heap) (locs : List Loc), hg G (eBC G) 430 q v A s H locs → ∀ (ls : Array Slot), lv_has ls 12 [(0, .ref (q 0)), (8, .int r18), (9, .int r20)] → j23 t22 = some z → W p l e { frames := 8, cells := 1, slots := 6, locals := 214 } s m [.ref (q 0), .int p1, .int p2].toArray below meth c H locs 0 0 (MQ below ((qZ z.1) (cB G (eBC G) 430 q z.2 A) A) [.ref (q 0), .int p1, .int p2].toArray s 1 6 A) (F0 m 478 ls [.int t22]) := by
                intro t22 H locs h ls hl hf
                rw [ej23] at hf
                refine lv_istore (lv' := [(10, .int t22), (0, .ref (q 0)), (8, .int r18), (9, .int r20)]) hx hb dL_chip_478 hl (by decide) rfl (fun ls hl => ?_)
                refine lv_iload hx hb dL_chip_480 (lv_at hl 2 rfl) ?_
                refine lv_iconst (v := (5 : Int32)) hx hb dL_chip_482 (by decide) ?_
                obtain ⟨j26, ej26, hf⟩ := lt_e hf
                have hj26 : ∀ (t24 : Int32) (v25 : xSt) (H : Heap) (locs : List Loc), hg G (eBC G) 430 q v25 A s H locs → ∀ (ls : Array Slot), lv_has ls 12 [(0, .ref (q 0)), (8, .int r18), (9, .int r20), (10, .int t22)] → j26 t24 v25 = some z → W p l e { frames := 8, cells := 1, slots := 6, locals := 214 } s m [.ref (q 0), .int p1, .int p2].toArray below meth c H locs 0 0 (MQ below ((qZ z.1) (cB G (eBC G) 430 q z.2 A) A) [.ref (q 0), .int p1, .int p2].toArray s 1 6 A) (F0 m 496 ls [.int t24]) := by
                  intro t24 v25 H locs h ls hl hf
                  rw [ej26] at hf
                  refine lv_istore (lv' := [(11, .int t24), (0, .ref (q 0)), (8, .int r18), (9, .int r20), (10, .int t22)]) hx hb dL_chip_496 hl (by decide) rfl (fun ls hl => ?_)
                  refine lv_aload_n hx hb dL_chip_498 rfl (lv_at hl 1 rfl) ?_
                  refine lv_iload hx hb dL_chip_499 (lv_at hl 2 rfl) ?_
                  refine lv_iload hx hb dL_chip_501 (lv_at hl 3 rfl) ?_
                  obtain ⟨r27, hy28, hf⟩ := ob_e hf
                  refine xi0c h (vx_runSW (As := [.ref (q 0), .int r18, .int r20]) (rest := []) hC (c_L_set l hst G sa q v25 r18 r20 hy28 H.size) (xcgSW hC (fun _ h9 => wM_in h9) lk_L_170 in_L co_L_set st_L_set rfl rfl dd_L_set ⟨Nat.le_of_ble_eq_true rfl, Nat.le_of_ble_eq_true rfl⟩) (preS0T h hT [.ref (q 0), .int r18, .int r20]) rfl rfl hl.1 rfl (lv_room (Nat.le_of_ble_eq_true rfl)) dL_chip_503 ⟨Nat.le_of_ble_eq_true rfl, Nat.le_of_ble_eq_true rfl⟩) (fun H locs h => ?_)
                  refine W.widen (k := 1) (n := 6) (by omega) (by omega) ?_
                  obtain ⟨v29, ev29, hf⟩ := lt_e hf
                  rw [← ev29] at h
                  refine lv_iload hx hb dL_chip_506 (lv_at hl 2 rfl) ?_
                  refine lv_iconst (v := (5 : Int32)) hx hb dL_chip_508 (by decide) ?_
                  obtain ⟨j32, ej32, hf⟩ := lt_e hf
                  have hj32 : ∀ (t30 : Int32) (t31 : Int32) (H : Heap) (locs : List Loc), hg G (eBC G) 430 q v29 A s H locs → ∀ (ls : Array Slot), lv_has ls 12 [(0, .ref (q 0)), (8, .int r18), (9, .int r20), (10, .int t22)] → j32 t30 t31 = some z → W p l e { frames := 8, cells := 1, slots := 6, locals := 214 } s m [.ref (q 0), .int p1, .int p2].toArray below meth c H locs 1 6 (MQ below ((qZ z.1) (cB G (eBC G) 430 q z.2 A) A) [.ref (q 0), .int p1, .int p2].toArray s 1 6 A) (F0 m 529 ls [.int t31, .int t30]) := by
                    intro t30 t31 H locs h ls hl hf
                    rw [ej32] at hf
                    obtain ⟨j34, ej34, hf⟩ := lt_e hf
                    have hj34 : ∀ (v33 : xSt) (H : Heap) (locs : List Loc), hg G (eBC G) 430 q v33 A s H locs → ∀ (ls : Array Slot), lv_has ls 12 [] → j34 v33 = some z → W p l e { frames := 8, cells := 1, slots := 6, locals := 214 } s m [.ref (q 0), .int p1, .int p2].toArray below meth c H locs 1 6 (MQ below ((qZ z.1) (cB G (eBC G) 430 q z.2 A) A) [.ref (q 0), .int p1, .int p2].toArray s 1 6 A) (F0 m 558 ls []) := by
                      intro v33 H locs h ls hl hf
                      rw [ej34] at hf
                      refine lv_iconst (v := (0 : Int32)) hx hb dL_chip_558 (by decide) ?_
                      have hf := sm_e hf
                      exact xzretc hC hr hlk h (by rw [← hf]) (by decide) (by rw [← hf]) dL_chip_559
                    refine lv_icmp_ne (tgt := 558) hx hb dL_chip_529 (by decide) (fun c35 => ?_) (fun c35 => ?_)
                    · have hf := it_f c35 hf
                      exact hj34 v29 H locs h ls (lv_sub hl [] rfl) hf
                    · have hf := it_t c35 hf
                      refine lv_iload hx hb dL_chip_532 (lv_at hl 1 rfl) ?_
                      refine lv_iconst (v := (5 : Int32)) hx hb dL_chip_534 (by decide) ?_
                      obtain ⟨j37, ej37, hf⟩ := lt_e hf
                      have hj37 : ∀ (v36 : xSt) (H : Heap) (locs : List Loc), hg G (eBC G) 430 q v36 A s H locs → ∀ (ls : Array Slot), lv_has ls 12 [] → j37 v36 = some z → W p l e { frames := 8, cells := 1, slots := 6, locals := 214 } s m [.ref (q 0), .int p1, .int p2].toArray below meth c H locs 1 6 (MQ below ((qZ z.1) (cB G (eBC G) 430 q z.2 A) A) [.ref (q 0), .int p1, .int p2].toArray s 1 6 A) (F0 m 554 ls []) := by
                        intro v36 H locs h ls hl hf
                        rw [ej37] at hf
                        refine lv_iconst (v := (1 : Int32)) hx hb dL_chip_554 (by decide) ?_
                        refine lv_goto (tgt := 559) hx hb dL_chip_555 (by decide) ?_
                        have hf := sm_e hf
                        exact xzretc hC hr hlk h (by rw [← hf]) (by decide) (by rw [← hf]) dL_chip_559
                      refine lv_icmp_eq (tgt := 554) hx hb dL_chip_535 (by decide) (fun c38 => ?_) (fun c38 => ?_)
                      · have hf := it_t c38 hf
                        exact hj37 v29 H locs h ls (lv_sub hl [] rfl) hf
                      · have hf := it_f c38 hf
                        refine lv_iload hx hb dL_chip_538 (lv_at hl 3 rfl) ?_
                        refine lv_if_ne (tgt := 554) hx hb dL_chip_540 (by decide) (fun c39 => ?_) (fun c39 => ?_)
                        · have hf := it_f c39 hf
                          exact hj37 v29 H locs h ls (lv_sub hl [] rfl) hf
                        · have hf := it_t c39 hf
                          refine lv_aload_n hx hb dL_chip_543 rfl (lv_at hl 0 rfl) ?_
                          refine lv_iload hx hb dL_chip_544 (lv_at hl 1 rfl) ?_
                          obtain ⟨r41, hy40, hf⟩ := ob_e hf
                          refine xi0 h (va_runV (As := [.int r18]) (rest := []) hC (c_X8_setting_n l G sa q v29 r18 hy40 H.size) (xcwV hC lk_L_88 in_X8 co_X8_setting im_X8_setting se_X8_setting rfl rfl dd_X8_setting ⟨Nat.le_of_ble_eq_true rfl, Nat.le_of_ble_eq_true rfl⟩) (preV0T h hT (Nat.le_of_ble_eq_true rfl) eBC_0 rfl [.int r18]) rfl rfl hl.1 rfl (lv_room (Nat.le_of_ble_eq_true rfl)) dL_chip_546 ⟨Nat.le_of_ble_eq_true rfl, Nat.le_of_ble_eq_true rfl⟩) (fun H locs h => ?_)
                          obtain ⟨v42, ev42, hf⟩ := lt_e hf
                          rw [← ev42] at h
                          refine lv_iload hx hb dL_chip_549 (lv_at hl 2 rfl) ?_
                          refine lv_icmp_ne (tgt := 558) hx hb dL_chip_551 (by decide) (fun c43 => ?_) (fun c43 => ?_)
                          · have hf := it_f c43 hf
                            exact hj34 v42 H locs h ls (lv_sub hl [] rfl) hf
                          · have hf := it_t c43 hf
                            exact hj37 v42 H locs h ls (lv_sub hl [] rfl) hf
                  refine lv_icmp_ne (tgt := 517) hx hb dL_chip_509 (by decide) (fun c44 => ?_) (fun c44 => ?_)
                  · have hf := it_f c44 hf
                    refine lv_iload hx hb dL_chip_517 (lv_at hl 4 rfl) ?_
                    refine lv_if_eq (tgt := 527) hx hb dL_chip_519 (by decide) (fun c45 => ?_) (fun c45 => ?_)
                    · have hf := it_t c45 hf
                      refine lv_iload hx hb dL_chip_527 (lv_at hl 0 rfl) ?_
                      exact hj32 r27.1 t24 H locs h ls (lv_sub hl [1, 2, 3, 4] rfl) hf
                    · have hf := it_f c45 hf
                      refine lv_bipush (v := (-102 : Int32)) hx hb dL_chip_522 (by decide) ?_
                      refine lv_goto (tgt := 529) hx hb dL_chip_524 (by decide) ?_
                      exact hj32 r27.1 (-102 : Int32) H locs h ls (lv_sub hl [1, 2, 3, 4] rfl) hf
                  · have hf := it_t c44 hf
                    refine lv_bipush (v := (-101 : Int32)) hx hb dL_chip_512 (by decide) ?_
                    refine lv_goto (tgt := 529) hx hb dL_chip_514 (by decide) ?_
                    exact hj32 r27.1 (-101 : Int32) H locs h ls (lv_sub hl [1, 2, 3, 4] rfl) hf
                refine lv_icmp_ne (tgt := 490) hx hb dL_chip_483 (by decide) (fun c46 => ?_) (fun c46 => ?_)
                · have hf := it_f c46 hf
                  refine lv_aload_n hx hb dL_chip_490 rfl (lv_at hl 1 rfl) ?_
                  refine lv_iload hx hb dL_chip_491 (lv_at hl 2 rfl) ?_
                  obtain ⟨r48, hy47, hf⟩ := ob_e hf
                  refine xi0 h (va_runV (As := [.int r18]) (rest := []) hC (c_X8_setting_n l G sa q v r18 hy47 H.size) (xcwV hC lk_L_88 in_X8 co_X8_setting im_X8_setting se_X8_setting rfl rfl dd_X8_setting ⟨Nat.le_of_ble_eq_true rfl, Nat.le_of_ble_eq_true rfl⟩) (preV0T h hT (Nat.le_of_ble_eq_true rfl) eBC_0 rfl [.int r18]) rfl rfl hl.1 rfl (lv_room (Nat.le_of_ble_eq_true rfl)) dL_chip_493 ⟨Nat.le_of_ble_eq_true rfl, Nat.le_of_ble_eq_true rfl⟩) (fun H locs h => ?_)
                  obtain ⟨v49, ev49, hf⟩ := lt_e hf
                  rw [← ev49] at h
                  exact hj26 r48.1 v49 H locs h ls (lv_sub hl [1, 2, 3, 0] rfl) hf
                · have hf := it_t c46 hf
                  refine lv_iconst (v := (0 : Int32)) hx hb dL_chip_486 (by decide) ?_
                  refine lv_goto (tgt := 496) hx hb dL_chip_487 (by decide) ?_
                  exact hj26 (0 : Int32) v H locs h ls (lv_sub hl [1, 2, 3, 0] rfl) hf
              obtain ⟨j50, ej50, hf⟩ := lt_e hf
              have hj50 : ∀ (uu : Unit) (H : Heap) (locs : List Loc), hg G (eBC G) 430 q v A s H locs → ∀ (ls : Array Slot), lv_has ls 12 [(0, .ref (q 0)), (8, .int r18), (9, .int r20)] → j50 uu = some z → W p l e { frames := 8, cells := 1, slots := 6, locals := 214 } s m [.ref (q 0), .int p1, .int p2].toArray below meth c H locs 0 0 (MQ below ((qZ z.1) (cB G (eBC G) 430 q z.2 A) A) [.ref (q 0), .int p1, .int p2].toArray s 1 6 A) (F0 m 473 ls []) := by
                intro uu H locs h ls hl hf
                rw [ej50] at hf
                refine lv_iconst (v := (1 : Int32)) hx hb dL_chip_473 (by decide) ?_
                refine lv_goto (tgt := 478) hx hb dL_chip_474 (by decide) ?_
                exact hj23 (1 : Int32) H locs h ls (lv_sub hl [0, 1, 2] rfl) hf
              refine lv_if_eq (tgt := 473) hx hb dL_chip_452 (by decide) (fun c51 => ?_) (fun c51 => ?_)
              · have hf := it_t c51 hf
                exact hj50 () H locs h ls (lv_sub hl [7, 1, 0] rfl) hf
              · have hf := it_f c51 hf
                refine lv_iload hx hb dL_chip_455 (lv_at hl 0 rfl) ?_
                refine lv_bipush (v := (10 : Int32)) hx hb dL_chip_457 (by decide) ?_
                obtain ⟨j52, ej52, hf⟩ := lt_e hf
                have hj52 : ∀ (uu : Unit) (H : Heap) (locs : List Loc), hg G (eBC G) 430 q v A s H locs → ∀ (ls : Array Slot), lv_has ls 12 [(0, .ref (q 0)), (8, .int r18), (9, .int r20)] → j52 uu = some z → W p l e { frames := 8, cells := 1, slots := 6, locals := 214 } s m [.ref (q 0), .int p1, .int p2].toArray below meth c H locs 0 0 (MQ below ((qZ z.1) (cB G (eBC G) 430 q z.2 A) A) [.ref (q 0), .int p1, .int p2].toArray s 1 6 A) (F0 m 477 ls []) := by
                  intro uu H locs h ls hl hf
                  rw [ej52] at hf
                  refine lv_iconst (v := (0 : Int32)) hx hb dL_chip_477 (by decide) ?_
                  exact hj23 (0 : Int32) H locs h ls (lv_sub hl [0, 1, 2] rfl) hf
                refine lv_icmp_ne (tgt := 477) hx hb dL_chip_459 (by decide) (fun c53 => ?_) (fun c53 => ?_)
                · have hf := it_f c53 hf
                  exact hj52 () H locs h ls (lv_sub hl [7, 1, 0] rfl) hf
                · have hf := it_t c53 hf
                  refine lv_iload hx hb dL_chip_462 (lv_at hl 1 rfl) ?_
                  refine lv_if_eq (tgt := 473) hx hb dL_chip_464 (by decide) (fun c54 => ?_) (fun c54 => ?_)
                  · have hf := it_t c54 hf
                    exact hj50 () H locs h ls (lv_sub hl [7, 1, 0] rfl) hf
                  · have hf := it_f c54 hf
                    refine lv_iload hx hb dL_chip_467 (lv_at hl 1 rfl) ?_
                    refine lv_iconst (v := (4 : Int32)) hx hb dL_chip_469 (by decide) ?_
                    refine lv_icmp_ne (tgt := 477) hx hb dL_chip_470 (by decide) (fun c55 => ?_) (fun c55 => ?_)
                    · have hf := it_f c55 hf
                      exact hj52 () H locs h ls (lv_sub hl [7, 1, 0] rfl) hf
                    · have hf := it_t c55 hf
                      exact hj50 () H locs h ls (lv_sub hl [7, 1, 0] rfl) hf
            · have hf := it_t c17 hf
              refine lv_iload_n hx hb dL_chip_338 rfl (lv_at hl 4 rfl) ?_
              obtain ⟨j57, ej57, hf⟩ := lt_e hf
              have hj57 : ∀ (t56 : Int32) (H : Heap) (locs : List Loc), hg G (eBC G) 430 q v A s H locs → ∀ (ls : Array Slot), lv_has ls 12 [(0, .ref (q 0)), (5, .int r8)] → j57 t56 = some z → W p l e { frames := 8, cells := 1, slots := 6, locals := 214 } s m [.ref (q 0), .int p1, .int p2].toArray below meth c H locs 0 0 (MQ below ((qZ z.1) (cB G (eBC G) 430 q z.2 A) A) [.ref (q 0), .int p1, .int p2].toArray s 1 6 A) (F0 m 347 ls [.int t56]) := by
                intro t56 H locs h ls hl hf
                rw [ej57] at hf
                refine lv_iload hx hb dL_chip_347 (lv_at hl 1 rfl) ?_
                obtain ⟨j60, ej60, hf⟩ := lt_e hf
                have hj60 : ∀ (t58 : Int32) (t59 : Int32) (H : Heap) (locs : List Loc), hg G (eBC G) 430 q v A s H locs → ∀ (ls : Array Slot), lv_has ls 12 [(0, .ref (q 0))] → j60 t58 t59 = some z → W p l e { frames := 8, cells := 1, slots := 6, locals := 214 } s m [.ref (q 0), .int p1, .int p2].toArray below meth c H locs 0 0 (MQ below ((qZ z.1) (cB G (eBC G) 430 q z.2 A) A) [.ref (q 0), .int p1, .int p2].toArray s 1 6 A) (F0 m 357 ls [.int t59, .int t58]) := by
                  intro t58 t59 H locs h ls hl hf
                  rw [ej60] at hf
                  refine lv_iadd hx hb dL_chip_357 ?_
                  refine lv_istore (lv' := [(8, .int (t58 + t59)), (0, .ref (q 0))]) hx hb dL_chip_358 hl (by decide) rfl (fun ls hl => ?_)
                  refine lv_aload_n hx hb dL_chip_360 rfl (lv_at hl 1 rfl) ?_
                  refine lv_bipush (v := (9 : Int32)) hx hb dL_chip_361 (by decide) ?_
                  obtain ⟨r62, hy61, hf⟩ := ob_e hf
                  refine xiG h (va_runV (As := [.int (9 : Int32)]) (rest := []) hC (c_X8_count_n l G q v (9 : Int32) hy61 H.size) (xcwV hC lk_L_76 in_X8 co_X8_count im_X8_count se_X8_count rfl rfl dd_X8_count ⟨Nat.le_of_ble_eq_true rfl, Nat.le_of_ble_eq_true rfl⟩) (preVO0 h.o (Nat.le_of_ble_eq_true rfl) eBC_0 rfl [.int (9 : Int32)]) rfl rfl hl.1 rfl (lv_room (Nat.le_of_ble_eq_true rfl)) dL_chip_363 ⟨Nat.le_of_ble_eq_true rfl, Nat.le_of_ble_eq_true rfl⟩) (fun H locs h => ?_)
                  refine lv_istore (lv' := [(9, .int r62), (8, .int (t58 + t59)), (0, .ref (q 0))]) hx hb dL_chip_366 hl (by decide) rfl (fun ls hl => ?_)
                  refine lv_aload_n hx hb dL_chip_368 rfl (lv_at hl 2 rfl) ?_
                  obtain ⟨r64, hy63, hf⟩ := ob_e hf
                  refine xi0 h (va_runV (As := []) (rest := []) hC (c_X8_cut l G q v hy63 H.size) (xcwV hC lk_L_167 in_X8 co_X8_cut im_X8_cut se_X8_cut rfl rfl dd_X8_cut ⟨Nat.le_of_ble_eq_true rfl, Nat.le_of_ble_eq_true rfl⟩) (preV0 h (Nat.le_of_ble_eq_true rfl) eBC_0 rfl []) rfl rfl hl.1 rfl (lv_room (Nat.le_of_ble_eq_true rfl)) dL_chip_369 ⟨Nat.le_of_ble_eq_true rfl, Nat.le_of_ble_eq_true rfl⟩) (fun H locs h => ?_)
                  obtain ⟨v65, ev65, hf⟩ := lt_e hf
                  rw [← ev65] at h
                  refine lv_iload hx hb dL_chip_372 (lv_at hl 1 rfl) ?_
                  obtain ⟨j66, ej66, hf⟩ := lt_e hf
                  have hj66 : ∀ (uu : Unit) (H : Heap) (locs : List Loc), hg G (eBC G) 430 q v65 A s H locs → ∀ (ls : Array Slot), lv_has ls 12 [] → j66 uu = some z → W p l e { frames := 8, cells := 1, slots := 6, locals := 214 } s m [.ref (q 0), .int p1, .int p2].toArray below meth c H locs 0 0 (MQ below ((qZ z.1) (cB G (eBC G) 430 q z.2 A) A) [.ref (q 0), .int p1, .int p2].toArray s 1 6 A) (F0 m 430 ls []) := by
                    intro uu H locs h ls hl hf
                    rw [ej66] at hf
                    refine lv_iconst (v := (0 : Int32)) hx hb dL_chip_430 (by decide) ?_
                    have hf := sm_e hf
                    refine W.widen (k := 1) (n := 6) (by omega) (by omega) ?_
                    exact xzretc hC hr hlk h (by rw [← hf]) (by decide) (by rw [← hf]) dL_chip_431
                  refine lv_icmp_ne (tgt := 430) hx hb dL_chip_374 (by decide) (fun c67 => ?_) (fun c67 => ?_)
                  · have hf := it_f c67 hf
                    exact hj66 () H locs h ls (lv_sub hl [] rfl) hf
                  · have hf := it_t c67 hf
                    refine lv_aload_n hx hb dL_chip_377 rfl (lv_at hl 2 rfl) ?_
                    refine lv_bipush (v := (9 : Int32)) hx hb dL_chip_378 (by decide) ?_
                    obtain ⟨r69, hy68, hf⟩ := ob_e hf
                    refine xiG h (va_runV (As := [.int (9 : Int32)]) (rest := []) hC (c_X8_count_n l G q v65 (9 : Int32) hy68 H.size) (xcwV hC lk_L_76 in_X8 co_X8_count im_X8_count se_X8_count rfl rfl dd_X8_count ⟨Nat.le_of_ble_eq_true rfl, Nat.le_of_ble_eq_true rfl⟩) (preVO0 h.o (Nat.le_of_ble_eq_true rfl) eBC_0 rfl [.int (9 : Int32)]) rfl rfl hl.1 rfl (lv_room (Nat.le_of_ble_eq_true rfl)) dL_chip_380 ⟨Nat.le_of_ble_eq_true rfl, Nat.le_of_ble_eq_true rfl⟩) (fun H locs h => ?_)
                    refine lv_iload hx hb dL_chip_383 (lv_at hl 0 rfl) ?_
                    refine lv_iload hx hb dL_chip_385 (lv_at hl 1 rfl) ?_
                    refine lv_iadd hx hb dL_chip_387 ?_
                    refine lv_icmp_ne (tgt := 430) hx hb dL_chip_388 (by decide) (fun c70 => ?_) (fun c70 => ?_)
                    · have hf := it_f c70 hf
                      exact hj66 () H locs h ls (lv_sub hl [] rfl) hf
                    · have hf := it_t c70 hf
                      refine lv_aload_n hx hb dL_chip_391 rfl (lv_at hl 2 rfl) ?_
                      refine lv_iconst (v := (1 : Int32)) hx hb dL_chip_392 (by decide) ?_
                      obtain ⟨r72, hy71, hf⟩ := ob_e hf
                      refine xiG h (va_runV (As := [.int (1 : Int32)]) (rest := []) hC (c_X8_count_n l G q v65 (1 : Int32) hy71 H.size) (xcwV hC lk_L_76 in_X8 co_X8_count im_X8_count se_X8_count rfl rfl dd_X8_count ⟨Nat.le_of_ble_eq_true rfl, Nat.le_of_ble_eq_true rfl⟩) (preVO0 h.o (Nat.le_of_ble_eq_true rfl) eBC_0 rfl [.int (1 : Int32)]) rfl rfl hl.1 rfl (lv_room (Nat.le_of_ble_eq_true rfl)) dL_chip_393 ⟨Nat.le_of_ble_eq_true rfl, Nat.le_of_ble_eq_true rfl⟩) (fun H locs h => ?_)
                      refine lv_aload_n hx hb dL_chip_396 rfl (lv_at hl 2 rfl) ?_
                      refine lv_iconst (v := (2 : Int32)) hx hb dL_chip_397 (by decide) ?_
                      obtain ⟨r74, hy73, hf⟩ := ob_e hf
                      refine xiG h (va_runV (As := [.int (2 : Int32)]) (rest := [.int r72]) hC (c_X8_count_n l G q v65 (2 : Int32) hy73 H.size) (xcwV hC lk_L_76 in_X8 co_X8_count im_X8_count se_X8_count rfl rfl dd_X8_count ⟨Nat.le_of_ble_eq_true rfl, Nat.le_of_ble_eq_true rfl⟩) (preVO0 h.o (Nat.le_of_ble_eq_true rfl) eBC_0 rfl [.int (2 : Int32)]) rfl rfl hl.1 rfl (lv_room (Nat.le_of_ble_eq_true rfl)) dL_chip_398 ⟨Nat.le_of_ble_eq_true rfl, Nat.le_of_ble_eq_true rfl⟩) (fun H locs h => ?_)
                      refine lv_iadd hx hb dL_chip_401 ?_
                      refine lv_aload_n hx hb dL_chip_402 rfl (lv_at hl 2 rfl) ?_
                      refine lv_bipush (v := (11 : Int32)) hx hb dL_chip_403 (by decide) ?_
                      obtain ⟨r76, hy75, hf⟩ := ob_e hf
                      refine xiG h (va_runV (As := [.int (11 : Int32)]) (rest := [.int (r72 + r74)]) hC (c_X8_count_n l G q v65 (11 : Int32) hy75 H.size) (xcwV hC lk_L_76 in_X8 co_X8_count im_X8_count se_X8_count rfl rfl dd_X8_count ⟨Nat.le_of_ble_eq_true rfl, Nat.le_of_ble_eq_true rfl⟩) (preVO0 h.o (Nat.le_of_ble_eq_true rfl) eBC_0 rfl [.int (11 : Int32)]) rfl rfl hl.1 rfl (lv_room (Nat.le_of_ble_eq_true rfl)) dL_chip_405 ⟨Nat.le_of_ble_eq_true rfl, Nat.le_of_ble_eq_true rfl⟩) (fun H locs h => ?_)
                      refine lv_iadd hx hb dL_chip_408 ?_
                      refine lv_aload_n hx hb dL_chip_409 rfl (lv_at hl 2 rfl) ?_
                      refine lv_iconst (v := (0 : Int32)) hx hb dL_chip_410 (by decide) ?_
                      refine lv_iconst (v := (0 : Int32)) hx hb dL_chip_411 (by decide) ?_
                      obtain ⟨r78, hy77, hf⟩ := ob_e hf
                      refine xiG h (va_runV (As := [.int (0 : Int32), .int (0 : Int32)]) (rest := [.int ((r72 + r74) + r76)]) hC (c_X8_work_n l G q v65 (0 : Int32) (0 : Int32) hy77 H.size) (xcwV hC lk_L_85 in_X8 co_X8_work im_X8_work se_X8_work rfl rfl dd_X8_work ⟨Nat.le_of_ble_eq_true rfl, Nat.le_of_ble_eq_true rfl⟩) (preVO0 h.o (Nat.le_of_ble_eq_true rfl) eBC_0 rfl [.int (0 : Int32), .int (0 : Int32)]) rfl rfl hl.1 rfl (lv_room (Nat.le_of_ble_eq_true rfl)) dL_chip_412 ⟨Nat.le_of_ble_eq_true rfl, Nat.le_of_ble_eq_true rfl⟩) (fun H locs h => ?_)
                      refine lv_iadd hx hb dL_chip_415 ?_
                      refine lv_aload_n hx hb dL_chip_416 rfl (lv_at hl 2 rfl) ?_
                      refine lv_iconst (v := (1 : Int32)) hx hb dL_chip_417 (by decide) ?_
                      refine lv_iconst (v := (0 : Int32)) hx hb dL_chip_418 (by decide) ?_
                      obtain ⟨r80, hy79, hf⟩ := ob_e hf
                      refine xiG h (va_runV (As := [.int (1 : Int32), .int (0 : Int32)]) (rest := [.int (((r72 + r74) + r76) + r78)]) hC (c_X8_work_n l G q v65 (1 : Int32) (0 : Int32) hy79 H.size) (xcwV hC lk_L_85 in_X8 co_X8_work im_X8_work se_X8_work rfl rfl dd_X8_work ⟨Nat.le_of_ble_eq_true rfl, Nat.le_of_ble_eq_true rfl⟩) (preVO0 h.o (Nat.le_of_ble_eq_true rfl) eBC_0 rfl [.int (1 : Int32), .int (0 : Int32)]) rfl rfl hl.1 rfl (lv_room (Nat.le_of_ble_eq_true rfl)) dL_chip_419 ⟨Nat.le_of_ble_eq_true rfl, Nat.le_of_ble_eq_true rfl⟩) (fun H locs h => ?_)
                      refine lv_iadd hx hb dL_chip_422 ?_
                      refine lv_if_ne (tgt := 430) hx hb dL_chip_423 (by decide) (fun c81 => ?_) (fun c81 => ?_)
                      · have hf := it_f c81 hf
                        exact hj66 () H locs h ls (lv_sub hl [] rfl) hf
                      · have hf := it_t c81 hf
                        refine lv_iconst (v := (1 : Int32)) hx hb dL_chip_426 (by decide) ?_
                        refine lv_goto (tgt := 431) hx hb dL_chip_427 (by decide) ?_
                        have hf := sm_e hf
                        refine W.widen (k := 1) (n := 6) (by omega) (by omega) ?_
                        exact xzretc hC hr hlk h (by rw [← hf]) (by decide) (by rw [← hf]) dL_chip_431
                refine lv_if_le (tgt := 356) hx hb dL_chip_349 (by decide) (fun c82 => ?_) (fun c82 => ?_)
                · have hf := it_t c82 hf
                  refine lv_iconst (v := (0 : Int32)) hx hb dL_chip_356 (by decide) ?_
                  exact hj60 t56 (0 : Int32) H locs h ls (lv_sub hl [0] rfl) hf
                · have hf := it_f c82 hf
                  refine lv_iconst (v := (1 : Int32)) hx hb dL_chip_352 (by decide) ?_
                  refine lv_goto (tgt := 357) hx hb dL_chip_353 (by decide) ?_
                  exact hj60 t56 (1 : Int32) H locs h ls (lv_sub hl [0] rfl) hf
              refine lv_if_eq (tgt := 346) hx hb dL_chip_339 (by decide) (fun c83 => ?_) (fun c83 => ?_)
              · have hf := it_t c83 hf
                refine lv_iconst (v := (0 : Int32)) hx hb dL_chip_346 (by decide) ?_
                exact hj57 (0 : Int32) H locs h ls (lv_sub hl [5, 2] rfl) hf
              · have hf := it_f c83 hf
                refine lv_iconst (v := (1 : Int32)) hx hb dL_chip_342 (by decide) ?_
                refine lv_goto (tgt := 347) hx hb dL_chip_343 (by decide) ?_
                exact hj57 (1 : Int32) H locs h ls (lv_sub hl [5, 2] rfl) hf
          · have hf := it_t c16 hf
            refine lv_iload hx hb dL_chip_267 (lv_at hl 2 rfl) ?_
            obtain ⟨j85, ej85, hf⟩ := lt_e hf
            have hj85 : ∀ (t84 : Int32) (H : Heap) (locs : List Loc), hg G (eBC G) 430 q v A s H locs → ∀ (ls : Array Slot), lv_has ls 12 [(0, .ref (q 0)), (5, .int r8), (7, .int r12)] → j85 t84 = some z → W p l e { frames := 8, cells := 1, slots := 6, locals := 214 } s m [.ref (q 0), .int p1, .int p2].toArray below meth c H locs 0 0 (MQ below ((qZ z.1) (cB G (eBC G) 430 q z.2 A) A) [.ref (q 0), .int p1, .int p2].toArray s 1 6 A) (F0 m 281 ls [.int t84]) := by
              intro t84 H locs h ls hl hf
              rw [ej85] at hf
              refine lv_istore (lv' := [(8, .int t84), (0, .ref (q 0)), (5, .int r8), (7, .int r12)]) hx hb dL_chip_281 hl (by decide) rfl (fun ls hl => ?_)
              refine lv_aload_n hx hb dL_chip_283 rfl (lv_at hl 1 rfl) ?_
              obtain ⟨r86, hy87, hf⟩ := ob_e hf
              refine xi0c h (vx_runSW (As := [.ref (q 0)]) (rest := []) hC (c_L_resume l hst G sa q v hy87 H.size) (xcgSW hC (fun _ h9 => wM_in h9) lk_L_165 in_L co_L_resume st_L_resume rfl rfl dd_L_resume ⟨Nat.le_of_ble_eq_true rfl, Nat.le_of_ble_eq_true rfl⟩) (preS0T h hT [.ref (q 0)]) rfl rfl hl.1 rfl (lv_room (Nat.le_of_ble_eq_true rfl)) dL_chip_284 ⟨Nat.le_of_ble_eq_true rfl, Nat.le_of_ble_eq_true rfl⟩) (fun H locs h => ?_)
              refine W.widen (k := 1) (n := 6) (by omega) (by omega) ?_
              obtain ⟨v88, ev88, hf⟩ := lt_e hf
              rw [← ev88] at h
              refine lv_iload hx hb dL_chip_287 (lv_at hl 0 rfl) ?_
              obtain ⟨j91, ej91, hf⟩ := lt_e hf
              have hj91 : ∀ (t89 : Int32) (t90 : Int32) (H : Heap) (locs : List Loc), hg G (eBC G) 430 q v88 A s H locs → ∀ (ls : Array Slot), lv_has ls 12 [(0, .ref (q 0)), (5, .int r8), (8, .int t84)] → j91 t89 t90 = some z → W p l e { frames := 8, cells := 1, slots := 6, locals := 214 } s m [.ref (q 0), .int p1, .int p2].toArray below meth c H locs 1 6 (MQ below ((qZ z.1) (cB G (eBC G) 430 q z.2 A) A) [.ref (q 0), .int p1, .int p2].toArray s 1 6 A) (F0 m 299 ls [.int t90, .int t89]) := by
                intro t89 t90 H locs h ls hl hf
                rw [ej91] at hf
                obtain ⟨j92, ej92, hf⟩ := lt_e hf
                have hj92 : ∀ (uu : Unit) (H : Heap) (locs : List Loc), hg G (eBC G) 430 q v88 A s H locs → ∀ (ls : Array Slot), lv_has ls 12 [] → j92 uu = some z → W p l e { frames := 8, cells := 1, slots := 6, locals := 214 } s m [.ref (q 0), .int p1, .int p2].toArray below meth c H locs 1 6 (MQ below ((qZ z.1) (cB G (eBC G) 430 q z.2 A) A) [.ref (q 0), .int p1, .int p2].toArray s 1 6 A) (F0 m 331 ls []) := by
                  intro uu H locs h ls hl hf
                  rw [ej92] at hf
                  refine lv_iconst (v := (0 : Int32)) hx hb dL_chip_331 (by decide) ?_
                  have hf := sm_e hf
                  exact xzretc hC hr hlk h (by rw [← hf]) (by decide) (by rw [← hf]) dL_chip_332
                refine lv_icmp_ne (tgt := 331) hx hb dL_chip_299 (by decide) (fun c93 => ?_) (fun c93 => ?_)
                · have hf := it_f c93 hf
                  exact hj92 () H locs h ls (lv_sub hl [] rfl) hf
                · have hf := it_t c93 hf
                  refine lv_iload hx hb dL_chip_302 (lv_at hl 2 rfl) ?_
                  obtain ⟨j94, ej94, hf⟩ := lt_e hf
                  have hj94 : ∀ (uu : Unit) (H : Heap) (locs : List Loc), hg G (eBC G) 430 q v88 A s H locs → ∀ (ls : Array Slot), lv_has ls 12 [] → j94 uu = some z → W p l e { frames := 8, cells := 1, slots := 6, locals := 214 } s m [.ref (q 0), .int p1, .int p2].toArray below meth c H locs 1 6 (MQ below ((qZ z.1) (cB G (eBC G) 430 q z.2 A) A) [.ref (q 0), .int p1, .int p2].toArray s 1 6 A) (F0 m 327 ls []) := by
                    intro uu H locs h ls hl hf
                    rw [ej94] at hf
                    refine lv_iconst (v := (1 : Int32)) hx hb dL_chip_327 (by decide) ?_
                    refine lv_goto (tgt := 332) hx hb dL_chip_328 (by decide) ?_
                    have hf := sm_e hf
                    exact xzretc hC hr hlk h (by rw [← hf]) (by decide) (by rw [← hf]) dL_chip_332
                  refine lv_if_eq (tgt := 327) hx hb dL_chip_304 (by decide) (fun c95 => ?_) (fun c95 => ?_)
                  · have hf := it_t c95 hf
                    exact hj94 () H locs h ls (lv_sub hl [] rfl) hf
                  · have hf := it_f c95 hf
                    refine lv_aload_n hx hb dL_chip_307 rfl (lv_at hl 0 rfl) ?_
                    refine lv_iconst (v := (0 : Int32)) hx hb dL_chip_308 (by decide) ?_
                    refine lv_iconst (v := (0 : Int32)) hx hb dL_chip_309 (by decide) ?_
                    obtain ⟨r97, hy96, hf⟩ := ob_e hf
                    refine xiG h (va_runV (As := [.int (0 : Int32), .int (0 : Int32)]) (rest := []) hC (c_X8_work_n l G q v88 (0 : Int32) (0 : Int32) hy96 H.size) (xcwV hC lk_L_85 in_X8 co_X8_work im_X8_work se_X8_work rfl rfl dd_X8_work ⟨Nat.le_of_ble_eq_true rfl, Nat.le_of_ble_eq_true rfl⟩) (preVO0 h.o (Nat.le_of_ble_eq_true rfl) eBC_0 rfl [.int (0 : Int32), .int (0 : Int32)]) rfl rfl hl.1 rfl (lv_room (Nat.le_of_ble_eq_true rfl)) dL_chip_310 ⟨Nat.le_of_ble_eq_true rfl, Nat.le_of_ble_eq_true rfl⟩) (fun H locs h => ?_)
                    refine lv_iload hx hb dL_chip_313 (lv_at hl 1 rfl) ?_
                    refine lv_icmp_ne (tgt := 331) hx hb dL_chip_315 (by decide) (fun c98 => ?_) (fun c98 => ?_)
                    · have hf := it_f c98 hf
                      exact hj92 () H locs h ls (lv_sub hl [] rfl) hf
                    · have hf := it_t c98 hf
                      refine lv_aload_n hx hb dL_chip_318 rfl (lv_at hl 0 rfl) ?_
                      refine lv_iconst (v := (1 : Int32)) hx hb dL_chip_319 (by decide) ?_
                      refine lv_iconst (v := (0 : Int32)) hx hb dL_chip_320 (by decide) ?_
                      obtain ⟨r100, hy99, hf⟩ := ob_e hf
                      refine xiG h (va_runV (As := [.int (1 : Int32), .int (0 : Int32)]) (rest := []) hC (c_X8_work_n l G q v88 (1 : Int32) (0 : Int32) hy99 H.size) (xcwV hC lk_L_85 in_X8 co_X8_work im_X8_work se_X8_work rfl rfl dd_X8_work ⟨Nat.le_of_ble_eq_true rfl, Nat.le_of_ble_eq_true rfl⟩) (preVO0 h.o (Nat.le_of_ble_eq_true rfl) eBC_0 rfl [.int (1 : Int32), .int (0 : Int32)]) rfl rfl hl.1 rfl (lv_room (Nat.le_of_ble_eq_true rfl)) dL_chip_321 ⟨Nat.le_of_ble_eq_true rfl, Nat.le_of_ble_eq_true rfl⟩) (fun H locs h => ?_)
                      refine lv_if_ne (tgt := 331) hx hb dL_chip_324 (by decide) (fun c101 => ?_) (fun c101 => ?_)
                      · have hf := it_f c101 hf
                        exact hj92 () H locs h ls (lv_sub hl [] rfl) hf
                      · have hf := it_t c101 hf
                        exact hj94 () H locs h ls (lv_sub hl [] rfl) hf
              refine lv_if_eq (tgt := 297) hx hb dL_chip_289 (by decide) (fun c102 => ?_) (fun c102 => ?_)
              · have hf := it_t c102 hf
                refine lv_bipush (v := (-103 : Int32)) hx hb dL_chip_297 (by decide) ?_
                exact hj91 r86.1 (-103 : Int32) H locs h ls (lv_sub hl [1, 2, 0] rfl) hf
              · have hf := it_f c102 hf
                refine lv_iload hx hb dL_chip_292 (lv_at hl 3 rfl) ?_
                refine lv_goto (tgt := 299) hx hb dL_chip_294 (by decide) ?_
                exact hj91 r86.1 r12 H locs h ls (lv_sub hl [1, 2, 0] rfl) hf
            obtain ⟨j103, ej103, hf⟩ := lt_e hf
            have hj103 : ∀ (uu : Unit) (H : Heap) (locs : List Loc), hg G (eBC G) 430 q v A s H locs → ∀ (ls : Array Slot), lv_has ls 12 [(0, .ref (q 0)), (5, .int r8), (7, .int r12)] → j103 uu = some z → W p l e { frames := 8, cells := 1, slots := 6, locals := 214 } s m [.ref (q 0), .int p1, .int p2].toArray below meth c H locs 0 0 (MQ below ((qZ z.1) (cB G (eBC G) 430 q z.2 A) A) [.ref (q 0), .int p1, .int p2].toArray s 1 6 A) (F0 m 280 ls []) := by
              intro uu H locs h ls hl hf
              rw [ej103] at hf
              refine lv_iconst (v := (0 : Int32)) hx hb dL_chip_280 (by decide) ?_
              exact hj85 (0 : Int32) H locs h ls (lv_sub hl [0, 1, 2] rfl) hf
            refine lv_if_le (tgt := 280) hx hb dL_chip_269 (by decide) (fun c104 => ?_) (fun c104 => ?_)
            · have hf := it_t c104 hf
              exact hj103 () H locs h ls (lv_sub hl [5, 2, 0] rfl) hf
            · have hf := it_f c104 hf
              refine lv_iload_n hx hb dL_chip_272 rfl (lv_at hl 4 rfl) ?_
              refine lv_if_ne (tgt := 280) hx hb dL_chip_273 (by decide) (fun c105 => ?_) (fun c105 => ?_)
              · have hf := it_f c105 hf
                exact hj103 () H locs h ls (lv_sub hl [5, 2, 0] rfl) hf
              · have hf := it_t c105 hf
                refine lv_iconst (v := (1 : Int32)) hx hb dL_chip_276 (by decide) ?_
                refine lv_goto (tgt := 281) hx hb dL_chip_277 (by decide) ?_
                exact hj85 (1 : Int32) H locs h ls (lv_sub hl [5, 2, 0] rfl) hf
        · have hf := it_t c15 hf
          refine lv_iload hx hb dL_chip_149 (lv_at hl 3 rfl) ?_
          refine lv_iconst (v := (1 : Int32)) hx hb dL_chip_151 (by decide) ?_
          obtain ⟨j107, ej107, hf⟩ := lt_e hf
          have hj107 : ∀ (t106 : Int32) (H : Heap) (locs : List Loc), hg G (eBC G) 430 q v A s H locs → ∀ (ls : Array Slot), lv_has ls 12 [(0, .ref (q 0)), (4, .int r6), (6, .int r10)] → j107 t106 = some z → W p l e { frames := 8, cells := 1, slots := 6, locals := 214 } s m [.ref (q 0), .int p1, .int p2].toArray below meth c H locs 0 0 (MQ below ((qZ z.1) (cB G (eBC G) 430 q z.2 A) A) [.ref (q 0), .int p1, .int p2].toArray s 1 6 A) (F0 m 171 ls [.int t106]) := by
            intro t106 H locs h ls hl hf
            rw [ej107] at hf
            refine lv_istore (lv' := [(8, .int t106), (0, .ref (q 0)), (4, .int r6), (6, .int r10)]) hx hb dL_chip_171 hl (by decide) rfl (fun ls hl => ?_)
            refine lv_aload_n hx hb dL_chip_173 rfl (lv_at hl 1 rfl) ?_
            refine lv_bipush (v := (14 : Int32)) hx hb dL_chip_174 (by decide) ?_
            obtain ⟨r109, hy108, hf⟩ := ob_e hf
            refine xiG h (va_runV (As := [.int (14 : Int32)]) (rest := []) hC (c_X8_count_n l G q v (14 : Int32) hy108 H.size) (xcwV hC lk_L_76 in_X8 co_X8_count im_X8_count se_X8_count rfl rfl dd_X8_count ⟨Nat.le_of_ble_eq_true rfl, Nat.le_of_ble_eq_true rfl⟩) (preVO0 h.o (Nat.le_of_ble_eq_true rfl) eBC_0 rfl [.int (14 : Int32)]) rfl rfl hl.1 rfl (lv_room (Nat.le_of_ble_eq_true rfl)) dL_chip_176 ⟨Nat.le_of_ble_eq_true rfl, Nat.le_of_ble_eq_true rfl⟩) (fun H locs h => ?_)
            refine lv_istore (lv' := [(9, .int r109), (8, .int t106), (0, .ref (q 0)), (4, .int r6), (6, .int r10)]) hx hb dL_chip_179 hl (by decide) rfl (fun ls hl => ?_)
            refine lv_aload_n hx hb dL_chip_181 rfl (lv_at hl 2 rfl) ?_
            obtain ⟨r110, hy111, hf⟩ := ob_e hf
            refine xi0c h (vx_runSW (As := [.ref (q 0)]) (rest := []) hC (c_L_suspend l hst G sa q v hy111 H.size) (xcgSW hC (fun _ h9 => wM_in h9) lk_L_163 in_L co_L_suspend st_L_suspend rfl rfl dd_L_suspend ⟨Nat.le_of_ble_eq_true rfl, Nat.le_of_ble_eq_true rfl⟩) (preS0T h hT [.ref (q 0)]) rfl rfl hl.1 rfl (lv_room (Nat.le_of_ble_eq_true rfl)) dL_chip_182 ⟨Nat.le_of_ble_eq_true rfl, Nat.le_of_ble_eq_true rfl⟩) (fun H locs h => ?_)
            refine W.widen (k := 1) (n := 6) (by omega) (by omega) ?_
            obtain ⟨v112, ev112, hf⟩ := lt_e hf
            rw [← ev112] at h
            refine lv_iload hx hb dL_chip_185 (lv_at hl 1 rfl) ?_
            obtain ⟨j115, ej115, hf⟩ := lt_e hf
            have hj115 : ∀ (t113 : Int32) (t114 : Int32) (H : Heap) (locs : List Loc), hg G (eBC G) 430 q v112 A s H locs → ∀ (ls : Array Slot), lv_has ls 12 [(0, .ref (q 0)), (4, .int r6), (8, .int t106), (9, .int r109)] → j115 t113 t114 = some z → W p l e { frames := 8, cells := 1, slots := 6, locals := 214 } s m [.ref (q 0), .int p1, .int p2].toArray below meth c H locs 1 6 (MQ below ((qZ z.1) (cB G (eBC G) 430 q z.2 A) A) [.ref (q 0), .int p1, .int p2].toArray s 1 6 A) (F0 m 197 ls [.int t114, .int t113]) := by
              intro t113 t114 H locs h ls hl hf
              rw [ej115] at hf
              obtain ⟨j116, ej116, hf⟩ := lt_e hf
              have hj116 : ∀ (uu : Unit) (H : Heap) (locs : List Loc), hg G (eBC G) 430 q v112 A s H locs → ∀ (ls : Array Slot), lv_has ls 12 [] → j116 uu = some z → W p l e { frames := 8, cells := 1, slots := 6, locals := 214 } s m [.ref (q 0), .int p1, .int p2].toArray below meth c H locs 1 6 (MQ below ((qZ z.1) (cB G (eBC G) 430 q z.2 A) A) [.ref (q 0), .int p1, .int p2].toArray s 1 6 A) (F0 m 260 ls []) := by
                intro uu H locs h ls hl hf
                rw [ej116] at hf
                refine lv_iconst (v := (0 : Int32)) hx hb dL_chip_260 (by decide) ?_
                have hf := sm_e hf
                exact xzretc hC hr hlk h (by rw [← hf]) (by decide) (by rw [← hf]) dL_chip_261
              refine lv_icmp_ne (tgt := 260) hx hb dL_chip_197 (by decide) (fun c117 => ?_) (fun c117 => ?_)
              · have hf := it_f c117 hf
                exact hj116 () H locs h ls (lv_sub hl [] rfl) hf
              · have hf := it_t c117 hf
                refine lv_aload_n hx hb dL_chip_200 rfl (lv_at hl 0 rfl) ?_
                refine lv_bipush (v := (14 : Int32)) hx hb dL_chip_201 (by decide) ?_
                obtain ⟨r119, hy118, hf⟩ := ob_e hf
                refine xiG h (va_runV (As := [.int (14 : Int32)]) (rest := []) hC (c_X8_count_n l G q v112 (14 : Int32) hy118 H.size) (xcwV hC lk_L_76 in_X8 co_X8_count im_X8_count se_X8_count rfl rfl dd_X8_count ⟨Nat.le_of_ble_eq_true rfl, Nat.le_of_ble_eq_true rfl⟩) (preVO0 h.o (Nat.le_of_ble_eq_true rfl) eBC_0 rfl [.int (14 : Int32)]) rfl rfl hl.1 rfl (lv_room (Nat.le_of_ble_eq_true rfl)) dL_chip_203 ⟨Nat.le_of_ble_eq_true rfl, Nat.le_of_ble_eq_true rfl⟩) (fun H locs h => ?_)
                refine lv_iload hx hb dL_chip_206 (lv_at hl 3 rfl) ?_
                refine lv_iload hx hb dL_chip_208 (lv_at hl 2 rfl) ?_
                obtain ⟨j123, ej123, hf⟩ := lt_e hf
                have hj123 : ∀ (t120 : Int32) (t121 : Int32) (t122 : Int32) (H : Heap) (locs : List Loc), hg G (eBC G) 430 q v112 A s H locs → ∀ (ls : Array Slot), lv_has ls 12 [(0, .ref (q 0)), (4, .int r6), (8, .int t106)] → j123 t120 t121 t122 = some z → W p l e { frames := 8, cells := 1, slots := 6, locals := 214 } s m [.ref (q 0), .int p1, .int p2].toArray below meth c H locs 1 6 (MQ below ((qZ z.1) (cB G (eBC G) 430 q z.2 A) A) [.ref (q 0), .int p1, .int p2].toArray s 1 6 A) (F0 m 218 ls [.int t122, .int t121, .int t120]) := by
                  intro t120 t121 t122 H locs h ls hl hf
                  rw [ej123] at hf
                  refine lv_iadd hx hb dL_chip_218 ?_
                  refine lv_icmp_ne (tgt := 260) hx hb dL_chip_219 (by decide) (fun c124 => ?_) (fun c124 => ?_)
                  · have hf := it_f c124 hf
                    exact hj116 () H locs h ls (lv_sub hl [] rfl) hf
                  · have hf := it_t c124 hf
                    refine lv_iload hx hb dL_chip_222 (lv_at hl 2 rfl) ?_
                    obtain ⟨j125, ej125, hf⟩ := lt_e hf
                    have hj125 : ∀ (uu : Unit) (H : Heap) (locs : List Loc), hg G (eBC G) 430 q v112 A s H locs → ∀ (ls : Array Slot), lv_has ls 12 [] → j125 uu = some z → W p l e { frames := 8, cells := 1, slots := 6, locals := 214 } s m [.ref (q 0), .int p1, .int p2].toArray below meth c H locs 1 6 (MQ below ((qZ z.1) (cB G (eBC G) 430 q z.2 A) A) [.ref (q 0), .int p1, .int p2].toArray s 1 6 A) (F0 m 256 ls []) := by
                      intro uu H locs h ls hl hf
                      rw [ej125] at hf
                      refine lv_iconst (v := (1 : Int32)) hx hb dL_chip_256 (by decide) ?_
                      refine lv_goto (tgt := 261) hx hb dL_chip_257 (by decide) ?_
                      have hf := sm_e hf
                      exact xzretc hC hr hlk h (by rw [← hf]) (by decide) (by rw [← hf]) dL_chip_261
                    refine lv_if_eq (tgt := 256) hx hb dL_chip_224 (by decide) (fun c126 => ?_) (fun c126 => ?_)
                    · have hf := it_t c126 hf
                      exact hj125 () H locs h ls (lv_sub hl [] rfl) hf
                    · have hf := it_f c126 hf
                      refine lv_aload_n hx hb dL_chip_227 rfl (lv_at hl 0 rfl) ?_
                      refine lv_iconst (v := (1 : Int32)) hx hb dL_chip_228 (by decide) ?_
                      refine lv_iconst (v := (0 : Int32)) hx hb dL_chip_229 (by decide) ?_
                      obtain ⟨r128, hy127, hf⟩ := ob_e hf
                      refine xiG h (va_runV (As := [.int (1 : Int32), .int (0 : Int32)]) (rest := []) hC (c_X8_work_n l G q v112 (1 : Int32) (0 : Int32) hy127 H.size) (xcwV hC lk_L_85 in_X8 co_X8_work im_X8_work se_X8_work rfl rfl dd_X8_work ⟨Nat.le_of_ble_eq_true rfl, Nat.le_of_ble_eq_true rfl⟩) (preVO0 h.o (Nat.le_of_ble_eq_true rfl) eBC_0 rfl [.int (1 : Int32), .int (0 : Int32)]) rfl rfl hl.1 rfl (lv_room (Nat.le_of_ble_eq_true rfl)) dL_chip_230 ⟨Nat.le_of_ble_eq_true rfl, Nat.le_of_ble_eq_true rfl⟩) (fun H locs h => ?_)
                      refine lv_iload hx hb dL_chip_233 (lv_at hl 1 rfl) ?_
                      refine lv_icmp_ne (tgt := 260) hx hb dL_chip_235 (by decide) (fun c129 => ?_) (fun c129 => ?_)
                      · have hf := it_f c129 hf
                        exact hj116 () H locs h ls (lv_sub hl [] rfl) hf
                      · have hf := it_t c129 hf
                        refine lv_aload_n hx hb dL_chip_238 rfl (lv_at hl 0 rfl) ?_
                        refine lv_iconst (v := (1 : Int32)) hx hb dL_chip_239 (by decide) ?_
                        refine lv_iconst (v := (4 : Int32)) hx hb dL_chip_240 (by decide) ?_
                        obtain ⟨r131, hy130, hf⟩ := ob_e hf
                        refine xiG h (va_runV (As := [.int (1 : Int32), .int (4 : Int32)]) (rest := []) hC (c_X8_work_n l G q v112 (1 : Int32) (4 : Int32) hy130 H.size) (xcwV hC lk_L_85 in_X8 co_X8_work im_X8_work se_X8_work rfl rfl dd_X8_work ⟨Nat.le_of_ble_eq_true rfl, Nat.le_of_ble_eq_true rfl⟩) (preVO0 h.o (Nat.le_of_ble_eq_true rfl) eBC_0 rfl [.int (1 : Int32), .int (4 : Int32)]) rfl rfl hl.1 rfl (lv_room (Nat.le_of_ble_eq_true rfl)) dL_chip_241 ⟨Nat.le_of_ble_eq_true rfl, Nat.le_of_ble_eq_true rfl⟩) (fun H locs h => ?_)
                        refine lv_if_ne (tgt := 260) hx hb dL_chip_244 (by decide) (fun c132 => ?_) (fun c132 => ?_)
                        · have hf := it_f c132 hf
                          exact hj116 () H locs h ls (lv_sub hl [] rfl) hf
                        · have hf := it_t c132 hf
                          refine lv_aload_n hx hb dL_chip_247 rfl (lv_at hl 0 rfl) ?_
                          refine lv_iconst (v := (0 : Int32)) hx hb dL_chip_248 (by decide) ?_
                          refine lv_iconst (v := (0 : Int32)) hx hb dL_chip_249 (by decide) ?_
                          obtain ⟨r134, hy133, hf⟩ := ob_e hf
                          refine xiG h (va_runV (As := [.int (0 : Int32), .int (0 : Int32)]) (rest := []) hC (c_X8_work_n l G q v112 (0 : Int32) (0 : Int32) hy133 H.size) (xcwV hC lk_L_85 in_X8 co_X8_work im_X8_work se_X8_work rfl rfl dd_X8_work ⟨Nat.le_of_ble_eq_true rfl, Nat.le_of_ble_eq_true rfl⟩) (preVO0 h.o (Nat.le_of_ble_eq_true rfl) eBC_0 rfl [.int (0 : Int32), .int (0 : Int32)]) rfl rfl hl.1 rfl (lv_room (Nat.le_of_ble_eq_true rfl)) dL_chip_250 ⟨Nat.le_of_ble_eq_true rfl, Nat.le_of_ble_eq_true rfl⟩) (fun H locs h => ?_)
                          refine lv_if_ne (tgt := 260) hx hb dL_chip_253 (by decide) (fun c135 => ?_) (fun c135 => ?_)
                          · have hf := it_f c135 hf
                            exact hj116 () H locs h ls (lv_sub hl [] rfl) hf
                          · have hf := it_t c135 hf
                            exact hj125 () H locs h ls (lv_sub hl [] rfl) hf
                refine lv_if_eq (tgt := 217) hx hb dL_chip_210 (by decide) (fun c136 => ?_) (fun c136 => ?_)
                · have hf := it_t c136 hf
                  refine lv_iconst (v := (0 : Int32)) hx hb dL_chip_217 (by decide) ?_
                  exact hj123 r119 r109 (0 : Int32) H locs h ls (lv_sub hl [0, 1, 2] rfl) hf
                · have hf := it_f c136 hf
                  refine lv_iconst (v := (1 : Int32)) hx hb dL_chip_213 (by decide) ?_
                  refine lv_goto (tgt := 218) hx hb dL_chip_214 (by decide) ?_
                  exact hj123 r119 r109 (1 : Int32) H locs h ls (lv_sub hl [0, 1, 2] rfl) hf
            refine lv_if_eq (tgt := 195) hx hb dL_chip_187 (by decide) (fun c137 => ?_) (fun c137 => ?_)
            · have hf := it_t c137 hf
              refine lv_bipush (v := (-103 : Int32)) hx hb dL_chip_195 (by decide) ?_
              exact hj115 r110.1 (-103 : Int32) H locs h ls (lv_sub hl [2, 3, 1, 0] rfl) hf
            · have hf := it_f c137 hf
              refine lv_iload hx hb dL_chip_190 (lv_at hl 4 rfl) ?_
              refine lv_goto (tgt := 197) hx hb dL_chip_192 (by decide) ?_
              exact hj115 r110.1 r10 H locs h ls (lv_sub hl [2, 3, 1, 0] rfl) hf
          obtain ⟨j138, ej138, hf⟩ := lt_e hf
          have hj138 : ∀ (uu : Unit) (H : Heap) (locs : List Loc), hg G (eBC G) 430 q v A s H locs → ∀ (ls : Array Slot), lv_has ls 12 [(0, .ref (q 0)), (4, .int r6), (6, .int r10)] → j138 uu = some z → W p l e { frames := 8, cells := 1, slots := 6, locals := 214 } s m [.ref (q 0), .int p1, .int p2].toArray below meth c H locs 0 0 (MQ below ((qZ z.1) (cB G (eBC G) 430 q z.2 A) A) [.ref (q 0), .int p1, .int p2].toArray s 1 6 A) (F0 m 170 ls []) := by
            intro uu H locs h ls hl hf
            rw [ej138] at hf
            refine lv_iconst (v := (0 : Int32)) hx hb dL_chip_170 (by decide) ?_
            exact hj107 (0 : Int32) H locs h ls (lv_sub hl [0, 1, 2] rfl) hf
          obtain ⟨j139, ej139, hf⟩ := lt_e hf
          have hj139 : ∀ (uu : Unit) (H : Heap) (locs : List Loc), hg G (eBC G) 430 q v A s H locs → ∀ (ls : Array Slot), lv_has ls 12 [(0, .ref (q 0)), (4, .int r6), (5, .int r8), (6, .int r10)] → j139 uu = some z → W p l e { frames := 8, cells := 1, slots := 6, locals := 214 } s m [.ref (q 0), .int p1, .int p2].toArray below meth c H locs 0 0 (MQ below ((qZ z.1) (cB G (eBC G) 430 q z.2 A) A) [.ref (q 0), .int p1, .int p2].toArray s 1 6 A) (F0 m 161 ls []) := by
            intro uu H locs h ls hl hf
            rw [ej139] at hf
            refine lv_iload hx hb dL_chip_161 (lv_at hl 2 rfl) ?_
            refine lv_if_ne (tgt := 170) hx hb dL_chip_163 (by decide) (fun c140 => ?_) (fun c140 => ?_)
            · have hf := it_f c140 hf
              exact hj138 () H locs h ls (lv_sub hl [0, 1, 3] rfl) hf
            · have hf := it_t c140 hf
              refine lv_iconst (v := (1 : Int32)) hx hb dL_chip_166 (by decide) ?_
              refine lv_goto (tgt := 171) hx hb dL_chip_167 (by decide) ?_
              exact hj107 (1 : Int32) H locs h ls (lv_sub hl [0, 1, 3] rfl) hf
          refine lv_icmp_eq (tgt := 161) hx hb dL_chip_152 (by decide) (fun c141 => ?_) (fun c141 => ?_)
          · have hf := it_t c141 hf
            exact hj139 () H locs h ls (lv_sub hl [5, 3, 2, 1] rfl) hf
          · have hf := it_f c141 hf
            refine lv_iload hx hb dL_chip_155 (lv_at hl 3 rfl) ?_
            refine lv_iconst (v := (2 : Int32)) hx hb dL_chip_157 (by decide) ?_
            refine lv_icmp_ne (tgt := 170) hx hb dL_chip_158 (by decide) (fun c142 => ?_) (fun c142 => ?_)
            · have hf := it_f c142 hf
              exact hj138 () H locs h ls (lv_sub hl [5, 3, 1] rfl) hf
            · have hf := it_t c142 hf
              exact hj139 () H locs h ls (lv_sub hl [5, 3, 2, 1] rfl) hf
      · have hf := it_t c14 hf
        refine lv_aload_n hx hb dL_chip_100 rfl (lv_at hl 5 rfl) ?_
        refine lv_iconst (v := (2 : Int32)) hx hb dL_chip_101 (by decide) ?_
        obtain ⟨r144, hy143, hf⟩ := ob_e hf
        refine xiG h (va_runV (As := [.int (2 : Int32)]) (rest := []) hC (c_X8_count_n l G q v (2 : Int32) hy143 H.size) (xcwV hC lk_L_76 in_X8 co_X8_count im_X8_count se_X8_count rfl rfl dd_X8_count ⟨Nat.le_of_ble_eq_true rfl, Nat.le_of_ble_eq_true rfl⟩) (preVO0 h.o (Nat.le_of_ble_eq_true rfl) eBC_0 rfl [.int (2 : Int32)]) rfl rfl hl.1 rfl (lv_room (Nat.le_of_ble_eq_true rfl)) dL_chip_102 ⟨Nat.le_of_ble_eq_true rfl, Nat.le_of_ble_eq_true rfl⟩) (fun H locs h => ?_)
        refine lv_istore (lv' := [(8, .int r144), (7, .int r12), (6, .int r10), (5, .int r8), (4, .int r6), (3, .int t3), (0, .ref (q 0)), (1, .int p1), (2, .int p2)]) hx hb dL_chip_105 hl (by decide) rfl (fun ls hl => ?_)
        refine lv_aload_n hx hb dL_chip_107 rfl (lv_at hl 6 rfl) ?_
        obtain ⟨r145, hy146, hf⟩ := ob_e hf
        refine xi0c h (vx_runSW (As := [.ref (q 0)]) (rest := []) hC (c_L_freeze l hst G sa q v hy146 H.size) (xcgSW hC (fun _ h9 => wM_in h9) lk_L_161 in_L co_L_freeze st_L_freeze rfl rfl dd_L_freeze ⟨Nat.le_of_ble_eq_true rfl, Nat.le_of_ble_eq_true rfl⟩) (preS0T h hT [.ref (q 0)]) rfl rfl hl.1 rfl (lv_room (Nat.le_of_ble_eq_true rfl)) dL_chip_108 ⟨Nat.le_of_ble_eq_true rfl, Nat.le_of_ble_eq_true rfl⟩) (fun H locs h => ?_)
        refine W.widen (k := 1) (n := 6) (by omega) (by omega) ?_
        obtain ⟨v147, ev147, hf⟩ := lt_e hf
        rw [← ev147] at h
        refine lv_iload_n hx hb dL_chip_111 rfl (lv_at hl 5 rfl) ?_
        obtain ⟨j150, ej150, hf⟩ := lt_e hf
        have hj150 : ∀ (t148 : Int32) (t149 : Int32) (H : Heap) (locs : List Loc), hg G (eBC G) 430 q v147 A s H locs → ∀ (ls : Array Slot), lv_has ls 12 [(0, .ref (q 0)), (3, .int t3)] → j150 t148 t149 = some z → W p l e { frames := 8, cells := 1, slots := 6, locals := 214 } s m [.ref (q 0), .int p1, .int p2].toArray below meth c H locs 1 6 (MQ below ((qZ z.1) (cB G (eBC G) 430 q z.2 A) A) [.ref (q 0), .int p1, .int p2].toArray s 1 6 A) (F0 m 122 ls [.int t149, .int t148]) := by
          intro t148 t149 H locs h ls hl hf
          rw [ej150] at hf
          obtain ⟨j151, ej151, hf⟩ := lt_e hf
          have hj151 : ∀ (uu : Unit) (H : Heap) (locs : List Loc), hg G (eBC G) 430 q v147 A s H locs → ∀ (ls : Array Slot), lv_has ls 12 [] → j151 uu = some z → W p l e { frames := 8, cells := 1, slots := 6, locals := 214 } s m [.ref (q 0), .int p1, .int p2].toArray below meth c H locs 1 6 (MQ below ((qZ z.1) (cB G (eBC G) 430 q z.2 A) A) [.ref (q 0), .int p1, .int p2].toArray s 1 6 A) (F0 m 142 ls []) := by
            intro uu H locs h ls hl hf
            rw [ej151] at hf
            refine lv_iconst (v := (0 : Int32)) hx hb dL_chip_142 (by decide) ?_
            have hf := sm_e hf
            exact xzretc hC hr hlk h (by rw [← hf]) (by decide) (by rw [← hf]) dL_chip_143
          refine lv_icmp_ne (tgt := 142) hx hb dL_chip_122 (by decide) (fun c152 => ?_) (fun c152 => ?_)
          · have hf := it_f c152 hf
            exact hj151 () H locs h ls (lv_sub hl [] rfl) hf
          · have hf := it_t c152 hf
            refine lv_iload_n hx hb dL_chip_125 rfl (lv_at hl 1 rfl) ?_
            obtain ⟨j153, ej153, hf⟩ := lt_e hf
            have hj153 : ∀ (uu : Unit) (H : Heap) (locs : List Loc), hg G (eBC G) 430 q v147 A s H locs → ∀ (ls : Array Slot), lv_has ls 12 [] → j153 uu = some z → W p l e { frames := 8, cells := 1, slots := 6, locals := 214 } s m [.ref (q 0), .int p1, .int p2].toArray below meth c H locs 1 6 (MQ below ((qZ z.1) (cB G (eBC G) 430 q z.2 A) A) [.ref (q 0), .int p1, .int p2].toArray s 1 6 A) (F0 m 138 ls []) := by
              intro uu H locs h ls hl hf
              rw [ej153] at hf
              refine lv_iconst (v := (1 : Int32)) hx hb dL_chip_138 (by decide) ?_
              refine lv_goto (tgt := 143) hx hb dL_chip_139 (by decide) ?_
              have hf := sm_e hf
              exact xzretc hC hr hlk h (by rw [← hf]) (by decide) (by rw [← hf]) dL_chip_143
            refine lv_if_ne (tgt := 138) hx hb dL_chip_126 (by decide) (fun c154 => ?_) (fun c154 => ?_)
            · have hf := it_f c154 hf
              exact hj153 () H locs h ls (lv_sub hl [] rfl) hf
            · have hf := it_t c154 hf
              refine lv_aload_n hx hb dL_chip_129 rfl (lv_at hl 0 rfl) ?_
              refine lv_iconst (v := (2 : Int32)) hx hb dL_chip_130 (by decide) ?_
              obtain ⟨r156, hy155, hf⟩ := ob_e hf
              refine xiG h (va_runV (As := [.int (2 : Int32)]) (rest := []) hC (c_X8_count_n l G q v147 (2 : Int32) hy155 H.size) (xcwV hC lk_L_76 in_X8 co_X8_count im_X8_count se_X8_count rfl rfl dd_X8_count ⟨Nat.le_of_ble_eq_true rfl, Nat.le_of_ble_eq_true rfl⟩) (preVO0 h.o (Nat.le_of_ble_eq_true rfl) eBC_0 rfl [.int (2 : Int32)]) rfl rfl hl.1 rfl (lv_room (Nat.le_of_ble_eq_true rfl)) dL_chip_131 ⟨Nat.le_of_ble_eq_true rfl, Nat.le_of_ble_eq_true rfl⟩) (fun H locs h => ?_)
              refine lv_iconst (v := (1 : Int32)) hx hb dL_chip_134 (by decide) ?_
              refine lv_icmp_ne (tgt := 142) hx hb dL_chip_135 (by decide) (fun c157 => ?_) (fun c157 => ?_)
              · have hf := it_f c157 hf
                exact hj151 () H locs h ls (lv_sub hl [] rfl) hf
              · have hf := it_t c157 hf
                exact hj153 () H locs h ls (lv_sub hl [] rfl) hf
        refine lv_if_eq (tgt := 120) hx hb dL_chip_112 (by decide) (fun c158 => ?_) (fun c158 => ?_)
        · have hf := it_t c158 hf
          refine lv_iload hx hb dL_chip_120 (lv_at hl 0 rfl) ?_
          exact hj150 r145.1 r144 H locs h ls (lv_sub hl [6, 5] rfl) hf
        · have hf := it_f c158 hf
          refine lv_bipush (v := (-103 : Int32)) hx hb dL_chip_115 (by decide) ?_
          refine lv_goto (tgt := 122) hx hb dL_chip_117 (by decide) ?_
          exact hj150 r145.1 (-103 : Int32) H locs h ls (lv_sub hl [6, 5] rfl) hf
    · have hf := it_t c13 hf
      refine lv_aload_n hx hb dL_chip_51 rfl (lv_at hl 5 rfl) ?_
      refine lv_iconst (v := (1 : Int32)) hx hb dL_chip_52 (by decide) ?_
      obtain ⟨r160, hy159, hf⟩ := ob_e hf
      refine xiG h (va_runV (As := [.int (1 : Int32)]) (rest := []) hC (c_X8_count_n l G q v (1 : Int32) hy159 H.size) (xcwV hC lk_L_76 in_X8 co_X8_count im_X8_count se_X8_count rfl rfl dd_X8_count ⟨Nat.le_of_ble_eq_true rfl, Nat.le_of_ble_eq_true rfl⟩) (preVO0 h.o (Nat.le_of_ble_eq_true rfl) eBC_0 rfl [.int (1 : Int32)]) rfl rfl hl.1 rfl (lv_room (Nat.le_of_ble_eq_true rfl)) dL_chip_53 ⟨Nat.le_of_ble_eq_true rfl, Nat.le_of_ble_eq_true rfl⟩) (fun H locs h => ?_)
      refine lv_istore (lv' := [(8, .int r160), (7, .int r12), (6, .int r10), (5, .int r8), (4, .int r6), (3, .int t3), (0, .ref (q 0)), (1, .int p1), (2, .int p2)]) hx hb dL_chip_56 hl (by decide) rfl (fun ls hl => ?_)
      refine lv_aload_n hx hb dL_chip_58 rfl (lv_at hl 6 rfl) ?_
      obtain ⟨r161, hy162, hf⟩ := ob_e hf
      refine xi0c h (vx_runSW (As := [.ref (q 0)]) (rest := []) hC (c_L_arm l hst G sa q v hy162 H.size) (xcgSW hC (fun _ h9 => wM_in h9) lk_L_159 in_L co_L_arm st_L_arm rfl rfl dd_L_arm ⟨Nat.le_of_ble_eq_true rfl, Nat.le_of_ble_eq_true rfl⟩) (preS0T h hT [.ref (q 0)]) rfl rfl hl.1 rfl (lv_room (Nat.le_of_ble_eq_true rfl)) dL_chip_59 ⟨Nat.le_of_ble_eq_true rfl, Nat.le_of_ble_eq_true rfl⟩) (fun H locs h => ?_)
      refine W.widen (k := 1) (n := 6) (by omega) (by omega) ?_
      obtain ⟨v163, ev163, hf⟩ := lt_e hf
      rw [← ev163] at h
      refine lv_iload_n hx hb dL_chip_62 rfl (lv_at hl 5 rfl) ?_
      obtain ⟨j166, ej166, hf⟩ := lt_e hf
      have hj166 : ∀ (t164 : Int32) (t165 : Int32) (H : Heap) (locs : List Loc), hg G (eBC G) 430 q v163 A s H locs → ∀ (ls : Array Slot), lv_has ls 12 [(0, .ref (q 0)), (3, .int t3)] → j166 t164 t165 = some z → W p l e { frames := 8, cells := 1, slots := 6, locals := 214 } s m [.ref (q 0), .int p1, .int p2].toArray below meth c H locs 1 6 (MQ below ((qZ z.1) (cB G (eBC G) 430 q z.2 A) A) [.ref (q 0), .int p1, .int p2].toArray s 1 6 A) (F0 m 73 ls [.int t165, .int t164]) := by
        intro t164 t165 H locs h ls hl hf
        rw [ej166] at hf
        obtain ⟨j167, ej167, hf⟩ := lt_e hf
        have hj167 : ∀ (uu : Unit) (H : Heap) (locs : List Loc), hg G (eBC G) 430 q v163 A s H locs → ∀ (ls : Array Slot), lv_has ls 12 [] → j167 uu = some z → W p l e { frames := 8, cells := 1, slots := 6, locals := 214 } s m [.ref (q 0), .int p1, .int p2].toArray below meth c H locs 1 6 (MQ below ((qZ z.1) (cB G (eBC G) 430 q z.2 A) A) [.ref (q 0), .int p1, .int p2].toArray s 1 6 A) (F0 m 93 ls []) := by
          intro uu H locs h ls hl hf
          rw [ej167] at hf
          refine lv_iconst (v := (0 : Int32)) hx hb dL_chip_93 (by decide) ?_
          have hf := sm_e hf
          exact xzretc hC hr hlk h (by rw [← hf]) (by decide) (by rw [← hf]) dL_chip_94
        refine lv_icmp_ne (tgt := 93) hx hb dL_chip_73 (by decide) (fun c168 => ?_) (fun c168 => ?_)
        · have hf := it_f c168 hf
          exact hj167 () H locs h ls (lv_sub hl [] rfl) hf
        · have hf := it_t c168 hf
          refine lv_iload_n hx hb dL_chip_76 rfl (lv_at hl 1 rfl) ?_
          obtain ⟨j169, ej169, hf⟩ := lt_e hf
          have hj169 : ∀ (uu : Unit) (H : Heap) (locs : List Loc), hg G (eBC G) 430 q v163 A s H locs → ∀ (ls : Array Slot), lv_has ls 12 [] → j169 uu = some z → W p l e { frames := 8, cells := 1, slots := 6, locals := 214 } s m [.ref (q 0), .int p1, .int p2].toArray below meth c H locs 1 6 (MQ below ((qZ z.1) (cB G (eBC G) 430 q z.2 A) A) [.ref (q 0), .int p1, .int p2].toArray s 1 6 A) (F0 m 89 ls []) := by
            intro uu H locs h ls hl hf
            rw [ej169] at hf
            refine lv_iconst (v := (1 : Int32)) hx hb dL_chip_89 (by decide) ?_
            refine lv_goto (tgt := 94) hx hb dL_chip_90 (by decide) ?_
            have hf := sm_e hf
            exact xzretc hC hr hlk h (by rw [← hf]) (by decide) (by rw [← hf]) dL_chip_94
          refine lv_if_ne (tgt := 89) hx hb dL_chip_77 (by decide) (fun c170 => ?_) (fun c170 => ?_)
          · have hf := it_f c170 hf
            exact hj169 () H locs h ls (lv_sub hl [] rfl) hf
          · have hf := it_t c170 hf
            refine lv_aload_n hx hb dL_chip_80 rfl (lv_at hl 0 rfl) ?_
            refine lv_iconst (v := (1 : Int32)) hx hb dL_chip_81 (by decide) ?_
            obtain ⟨r172, hy171, hf⟩ := ob_e hf
            refine xiG h (va_runV (As := [.int (1 : Int32)]) (rest := []) hC (c_X8_count_n l G q v163 (1 : Int32) hy171 H.size) (xcwV hC lk_L_76 in_X8 co_X8_count im_X8_count se_X8_count rfl rfl dd_X8_count ⟨Nat.le_of_ble_eq_true rfl, Nat.le_of_ble_eq_true rfl⟩) (preVO0 h.o (Nat.le_of_ble_eq_true rfl) eBC_0 rfl [.int (1 : Int32)]) rfl rfl hl.1 rfl (lv_room (Nat.le_of_ble_eq_true rfl)) dL_chip_82 ⟨Nat.le_of_ble_eq_true rfl, Nat.le_of_ble_eq_true rfl⟩) (fun H locs h => ?_)
            refine lv_iconst (v := (1 : Int32)) hx hb dL_chip_85 (by decide) ?_
            refine lv_icmp_ne (tgt := 93) hx hb dL_chip_86 (by decide) (fun c173 => ?_) (fun c173 => ?_)
            · have hf := it_f c173 hf
              exact hj167 () H locs h ls (lv_sub hl [] rfl) hf
            · have hf := it_t c173 hf
              exact hj169 () H locs h ls (lv_sub hl [] rfl) hf
      refine lv_if_eq (tgt := 71) hx hb dL_chip_63 (by decide) (fun c174 => ?_) (fun c174 => ?_)
      · have hf := it_t c174 hf
        refine lv_iload hx hb dL_chip_71 (lv_at hl 0 rfl) ?_
        exact hj166 r161.1 r160 H locs h ls (lv_sub hl [6, 5] rfl) hf
      · have hf := it_f c174 hf
        refine lv_bipush (v := (-103 : Int32)) hx hb dL_chip_66 (by decide) ?_
        refine lv_goto (tgt := 73) hx hb dL_chip_68 (by decide) ?_
        exact hj166 r161.1 (-103 : Int32) H locs h ls (lv_sub hl [6, 5] rfl) hf
  refine lv_if_le (tgt := 13) hx hb dL_chip_6 (by decide) (fun c175 => ?_) (fun c175 => ?_)
  · have hf := it_t c175 hf
    refine lv_iconst (v := (0 : Int32)) hx hb dL_chip_13 (by decide) ?_
    exact hj4 (0 : Int32) H locs h ls (lv_sub hl [0, 1, 2] rfl) hf
  · have hf := it_f c175 hf
    refine lv_iconst (v := (1 : Int32)) hx hb dL_chip_9 (by decide) ?_
    refine lv_goto (tgt := 14) hx hb dL_chip_10 (by decide) ?_
    exact hj4 (1 : Int32) H locs h ls (lv_sub hl [0, 1, 2] rfl) hf
def m_L_acts (v : xSt) (p1 : Int32) (p2 : Int32) : Option (Int32 × xSt) := ob (m_L_low p1 (24 : Int32)) (fun r1 => (if (5 : Int32) ≤ r1 then (if (8 : Int32) ≤ r1 then (if (12 : Int32) ≤ r1 then (if (17 : Int32) ≤ r1 then (if (23 : Int32) ≤ r1 then ob (m_L_reads v p2) (fun r8 => lt (r8.2) (fun v11 => some (r8.1, v11))) else ob (m_L_chip v (r1 - (17 : Int32)) p2) (fun r12 => lt (r12.2) (fun v15 => some (r12.1, v15)))) else ob (m_L_low (p2 >>> ((9 : Int32) &&& 31)) (3 : Int32)) (fun r16 => lt (fun (t18 : Int32) (t19 : Int32) => ob (m_L_low t18 t19) (fun r21 => ob (m_X8_count_n v (0 : Int32)) (fun r24 => ob (m_X8_count_n v (8 : Int32)) (fun r26 => ob (m_L_pass v r21) (fun r27 => lt (r27.2) (fun v29 => (if r21 = 0 then (if r27.1 = (-102 : Int32) then some ((1 : Int32), v29) else some ((0 : Int32), v29)) else lt (fun (_ : Unit) => some ((0 : Int32), v29)) (fun j31 => (if r27.1 < 0 then j31 () else (if r21 < r27.1 then j31 () else ob (m_X8_count_n v29 (0 : Int32)) (fun r35 => (if r35 = (r24 + r21) then ob (m_X8_count_n v29 (8 : Int32)) (fun r38 => (if r38 < r26 then j31 () else some ((1 : Int32), v29))) else j31 ())))))))))))) (fun j20 => (if r16 = 0 then j20 p2 (60 : Int32) else j20 p2 (9 : Int32))))) else ob (m_L_orders v p2) (fun r42 => lt (r42.2) (fun v45 => some (r42.1, v45)))) else ob (m_L_begins v (r1 - (5 : Int32)) p2) (fun r46 => lt (r46.2) (fun v49 => some (r46.1, v49)))) else ob (m_L_low p2 (258 : Int32)) (fun r50 => lt (fun (t52 : Int32) => ob (m_X8_count_n v (11 : Int32)) (fun r55 => ob (m_L_load v (r50 - (1 : Int32))) (fun r56 => lt (r56.2) (fun v58 => lt (fun (t59 : Int32) (t60 : Int32) => (if t59 = t60 then some ((1 : Int32), v58) else some ((0 : Int32), v58))) (fun j61 => (if t52 = 0 then (if r55 = (12 : Int32) then j61 r56.1 (-103 : Int32) else j61 r56.1 (r55 + (1 : Int32))) else j61 r56.1 (-102 : Int32))))))) (fun j53 => lt (fun (_ : Unit) => j53 (1 : Int32)) (fun j65 => (if (r50 - (1 : Int32)) < 0 then j65 () else (if (r50 - (1 : Int32)) = (256 : Int32) then j65 () else j53 (0 : Int32))))))))
set_option maxHeartbeats 4000000 in
set_option maxRecDepth 100000 in
theorem c_L_acts (l : Launch) (hst : l.stackTraces = false) (G : xGl) (sa q : Nat → Nat) (v : xSt) (p1 : Int32) (p2 : Int32) {z : (Int32 × xSt)} (hf : m_L_acts v p1 p2 = some z) : mRS l yL_acts (wM yL_acts cL_acts 8 (some .boolean)) { frames := 10, cells := 1, slots := 6, locals := 260 } G sa (eBC G) 430 q v [.ref (q 0), .int p1, .int p2] (qZ z.1) z.2 1 6 := by
  refine xRSg (cc := cL_acts) (maxL := 8) (ret := (some .boolean)) (by decide) rfl (Nat.le_of_ble_eq_true rfl) ?_
  intro p e s m below meth c ls A hC hr hlk h hT hl
  have hx := hC.1
  have hb := hC.2.1
  have hl : lv_has ls 8 [(0, .ref (q 0)), (1, .int p1), (2, .int p2)] := hl
  unfold m_L_acts at hf
  obtain ⟨H, hH⟩ : ∃ H, H = s.heap := ⟨_, rfl⟩
  obtain ⟨locs, hlo⟩ : ∃ x : List Loc, x = [] := ⟨_, rfl⟩
  have h : hg G (eBC G) 430 q v A s H locs := by rw [hH, hlo]; exact h
  rw [← hlo, ← hH]
  clear hH hlo
  refine lv_iload_n hx hb dL_acts_0 rfl (lv_at hl 1 rfl) ?_
  refine lv_bipush (v := (24 : Int32)) hx hb dL_acts_1 (by decide) ?_
  obtain ⟨r1, hy2, hf⟩ := ob_e hf
  refine xiG h (va_runS (As := [.int p1, .int (24 : Int32)]) (rest := []) hC (c_L_low l G q v p1 (24 : Int32) hy2 H.size) (xcgS hC (fun _ h9 => wM_in h9) lk_L_113 in_L co_L_low st_L_low rfl rfl dd_L_low ⟨Nat.le_of_ble_eq_true rfl, Nat.le_of_ble_eq_true rfl⟩) (preSN h.o [.int p1, .int (24 : Int32)]) rfl rfl hl.1 rfl (lv_room (Nat.le_of_ble_eq_true rfl)) dL_acts_3 ⟨Nat.le_of_ble_eq_true rfl, Nat.le_of_ble_eq_true rfl⟩) (fun H locs h => ?_)
  refine lv_istore_n (lv' := [(3, .int r1), (0, .ref (q 0)), (1, .int p1), (2, .int p2)]) hx hb dL_acts_6 rfl hl (by decide) rfl (fun ls hl => ?_)
  refine lv_iload_n hx hb dL_acts_7 rfl (lv_at hl 0 rfl) ?_
  refine lv_iconst (v := (5 : Int32)) hx hb dL_acts_8 (by decide) ?_
  refine lv_icmp_ge (tgt := 92) hx hb dL_acts_9 (by decide) (fun c3 => ?_) (fun c3 => ?_)
  · have hf := it_t c3 hf
    refine lv_iload_n hx hb dL_acts_92 rfl (lv_at hl 0 rfl) ?_
    refine lv_bipush (v := (8 : Int32)) hx hb dL_acts_93 (by decide) ?_
    refine lv_icmp_ge (tgt := 107) hx hb dL_acts_95 (by decide) (fun c4 => ?_) (fun c4 => ?_)
    · have hf := it_t c4 hf
      refine lv_iload_n hx hb dL_acts_107 rfl (lv_at hl 0 rfl) ?_
      refine lv_bipush (v := (12 : Int32)) hx hb dL_acts_108 (by decide) ?_
      refine lv_icmp_ge (tgt := 119) hx hb dL_acts_110 (by decide) (fun c5 => ?_) (fun c5 => ?_)
      · have hf := it_t c5 hf
        refine lv_iload_n hx hb dL_acts_119 rfl (lv_at hl 0 rfl) ?_
        refine lv_bipush (v := (17 : Int32)) hx hb dL_acts_120 (by decide) ?_
        refine lv_icmp_ge (tgt := 234) hx hb dL_acts_122 (by decide) (fun c6 => ?_) (fun c6 => ?_)
        · have hf := it_t c6 hf
          refine lv_iload_n hx hb dL_acts_234 rfl (lv_at hl 0 rfl) ?_
          refine lv_bipush (v := (23 : Int32)) hx hb dL_acts_235 (by decide) ?_
          refine lv_icmp_ge (tgt := 250) hx hb dL_acts_237 (by decide) (fun c7 => ?_) (fun c7 => ?_)
          · have hf := it_t c7 hf
            refine lv_aload_n hx hb dL_acts_250 rfl (lv_at hl 1 rfl) ?_
            refine lv_iload_n hx hb dL_acts_251 rfl (lv_at hl 3 rfl) ?_
            obtain ⟨r8, hy9, hf⟩ := ob_e hf
            refine xz0c h (va_runS (As := [.ref (q 0), .int p2]) (rest := []) hC (c_L_reads l hst G sa q v p2 hy9 H.size) (xcgS hC (fun _ h9 => wM_in h9) lk_L_186 in_L co_L_reads st_L_reads rfl rfl dd_L_reads ⟨Nat.le_of_ble_eq_true rfl, Nat.le_of_ble_eq_true rfl⟩) (preS0T h hT [.ref (q 0), .int p2]) rfl rfl hl.1 rfl (lv_room (Nat.le_of_ble_eq_true rfl)) dL_acts_252 ⟨Nat.le_of_ble_eq_true rfl, Nat.le_of_ble_eq_true rfl⟩) (fun H locs hz10 h => ?_)
            refine W.widen (k := 1) (n := 6) (by omega) (by omega) ?_
            obtain ⟨v11, ev11, hf⟩ := lt_e hf
            rw [← ev11] at h
            have hf := sm_e hf
            exact xzretc hC hr hlk h (by rw [← hf]) hz10 (by rw [← hf]) dL_acts_255
          · have hf := it_f c7 hf
            refine lv_aload_n hx hb dL_acts_240 rfl (lv_at hl 1 rfl) ?_
            refine lv_iload_n hx hb dL_acts_241 rfl (lv_at hl 0 rfl) ?_
            refine lv_bipush (v := (17 : Int32)) hx hb dL_acts_242 (by decide) ?_
            refine lv_isub hx hb dL_acts_244 ?_
            refine lv_iload_n hx hb dL_acts_245 rfl (lv_at hl 3 rfl) ?_
            obtain ⟨r12, hy13, hf⟩ := ob_e hf
            refine xz0c h (va_runS (As := [.ref (q 0), .int (r1 - (17 : Int32)), .int p2]) (rest := []) hC (c_L_chip l hst G sa q v (r1 - (17 : Int32)) p2 hy13 H.size) (xcgS hC (fun _ h9 => wM_in h9) lk_L_183 in_L co_L_chip st_L_chip rfl rfl dd_L_chip ⟨Nat.le_of_ble_eq_true rfl, Nat.le_of_ble_eq_true rfl⟩) (preS0T h hT [.ref (q 0), .int (r1 - (17 : Int32)), .int p2]) rfl rfl hl.1 rfl (lv_room (Nat.le_of_ble_eq_true rfl)) dL_acts_246 ⟨Nat.le_of_ble_eq_true rfl, Nat.le_of_ble_eq_true rfl⟩) (fun H locs hz14 h => ?_)
            refine W.widen (k := 1) (n := 6) (by omega) (by omega) ?_
            obtain ⟨v15, ev15, hf⟩ := lt_e hf
            rw [← ev15] at h
            have hf := sm_e hf
            exact xzretc hC hr hlk h (by rw [← hf]) hz14 (by rw [← hf]) dL_acts_249
        · have hf := it_f c6 hf
          refine lv_iload_n hx hb dL_acts_125 rfl (lv_at hl 3 rfl) ?_
          refine lv_iload_n hx hb dL_acts_126 rfl (lv_at hl 3 rfl) ?_
          refine lv_bipush (v := (9 : Int32)) hx hb dL_acts_127 (by decide) ?_
          refine lv_ishr hx hb dL_acts_129 ?_
          refine lv_iconst (v := (3 : Int32)) hx hb dL_acts_130 (by decide) ?_
          obtain ⟨r16, hy17, hf⟩ := ob_e hf
          refine xiG h (va_runS (As := [.int (p2 >>> ((9 : Int32) &&& 31)), .int (3 : Int32)]) (rest := [.int p2]) hC (c_L_low l G q v (p2 >>> ((9 : Int32) &&& 31)) (3 : Int32) hy17 H.size) (xcgS hC (fun _ h9 => wM_in h9) lk_L_113 in_L co_L_low st_L_low rfl rfl dd_L_low ⟨Nat.le_of_ble_eq_true rfl, Nat.le_of_ble_eq_true rfl⟩) (preSN h.o [.int (p2 >>> ((9 : Int32) &&& 31)), .int (3 : Int32)]) rfl rfl hl.1 rfl (lv_room (Nat.le_of_ble_eq_true rfl)) dL_acts_131 ⟨Nat.le_of_ble_eq_true rfl, Nat.le_of_ble_eq_true rfl⟩) (fun H locs h => ?_)
          obtain ⟨j20, ej20, hf⟩ := lt_e hf
          have hj20 : ∀ (t18 : Int32) (t19 : Int32) (H : Heap) (locs : List Loc), hg G (eBC G) 430 q v A s H locs → ∀ (ls : Array Slot), lv_has ls 8 [(0, .ref (q 0))] → j20 t18 t19 = some z → W p l e { frames := 10, cells := 1, slots := 6, locals := 260 } s m [.ref (q 0), .int p1, .int p2].toArray below meth c H locs 0 0 (MQ below ((qZ z.1) (cB G (eBC G) 430 q z.2 A) A) [.ref (q 0), .int p1, .int p2].toArray s 1 6 A) (F0 m 144 ls [.int t19, .int t18]) := by
            intro t18 t19 H locs h ls hl hf
            rw [ej20] at hf
            obtain ⟨r21, hy22, hf⟩ := ob_e hf
            refine xiG h (va_runS (As := [.int t18, .int t19]) (rest := []) hC (c_L_low l G q v t18 t19 hy22 H.size) (xcgS hC (fun _ h9 => wM_in h9) lk_L_113 in_L co_L_low st_L_low rfl rfl dd_L_low ⟨Nat.le_of_ble_eq_true rfl, Nat.le_of_ble_eq_true rfl⟩) (preSN h.o [.int t18, .int t19]) rfl rfl hl.1 rfl (lv_room (Nat.le_of_ble_eq_true rfl)) dL_acts_144 ⟨Nat.le_of_ble_eq_true rfl, Nat.le_of_ble_eq_true rfl⟩) (fun H locs h => ?_)
            refine lv_istore (lv' := [(4, .int r21), (0, .ref (q 0))]) hx hb dL_acts_147 hl (by decide) rfl (fun ls hl => ?_)
            refine lv_aload_n hx hb dL_acts_149 rfl (lv_at hl 1 rfl) ?_
            refine lv_iconst (v := (0 : Int32)) hx hb dL_acts_150 (by decide) ?_
            obtain ⟨r24, hy23, hf⟩ := ob_e hf
            refine xiG h (va_runV (As := [.int (0 : Int32)]) (rest := []) hC (c_X8_count_n l G q v (0 : Int32) hy23 H.size) (xcwV hC lk_L_76 in_X8 co_X8_count im_X8_count se_X8_count rfl rfl dd_X8_count ⟨Nat.le_of_ble_eq_true rfl, Nat.le_of_ble_eq_true rfl⟩) (preVO0 h.o (Nat.le_of_ble_eq_true rfl) eBC_0 rfl [.int (0 : Int32)]) rfl rfl hl.1 rfl (lv_room (Nat.le_of_ble_eq_true rfl)) dL_acts_151 ⟨Nat.le_of_ble_eq_true rfl, Nat.le_of_ble_eq_true rfl⟩) (fun H locs h => ?_)
            refine lv_istore (lv' := [(5, .int r24), (4, .int r21), (0, .ref (q 0))]) hx hb dL_acts_154 hl (by decide) rfl (fun ls hl => ?_)
            refine lv_aload_n hx hb dL_acts_156 rfl (lv_at hl 2 rfl) ?_
            refine lv_bipush (v := (8 : Int32)) hx hb dL_acts_157 (by decide) ?_
            obtain ⟨r26, hy25, hf⟩ := ob_e hf
            refine xiG h (va_runV (As := [.int (8 : Int32)]) (rest := []) hC (c_X8_count_n l G q v (8 : Int32) hy25 H.size) (xcwV hC lk_L_76 in_X8 co_X8_count im_X8_count se_X8_count rfl rfl dd_X8_count ⟨Nat.le_of_ble_eq_true rfl, Nat.le_of_ble_eq_true rfl⟩) (preVO0 h.o (Nat.le_of_ble_eq_true rfl) eBC_0 rfl [.int (8 : Int32)]) rfl rfl hl.1 rfl (lv_room (Nat.le_of_ble_eq_true rfl)) dL_acts_159 ⟨Nat.le_of_ble_eq_true rfl, Nat.le_of_ble_eq_true rfl⟩) (fun H locs h => ?_)
            refine lv_istore (lv' := [(6, .int r26), (5, .int r24), (4, .int r21), (0, .ref (q 0))]) hx hb dL_acts_162 hl (by decide) rfl (fun ls hl => ?_)
            refine lv_aload_n hx hb dL_acts_164 rfl (lv_at hl 3 rfl) ?_
            refine lv_iload hx hb dL_acts_165 (lv_at hl 2 rfl) ?_
            obtain ⟨r27, hy28, hf⟩ := ob_e hf
            refine xi0c h (vx_runSW (As := [.ref (q 0), .int r21]) (rest := []) hC (c_L_pass l hst G sa q v r21 hy28 H.size) (xcgSW hC (fun _ h9 => wM_in h9) lk_L_181 in_L co_L_pass st_L_pass rfl rfl dd_L_pass ⟨Nat.le_of_ble_eq_true rfl, Nat.le_of_ble_eq_true rfl⟩) (preS0T h hT [.ref (q 0), .int r21]) rfl rfl hl.1 rfl (lv_room (Nat.le_of_ble_eq_true rfl)) dL_acts_167 ⟨Nat.le_of_ble_eq_true rfl, Nat.le_of_ble_eq_true rfl⟩) (fun H locs h => ?_)
            refine W.widen (k := 1) (n := 6) (by omega) (by omega) ?_
            obtain ⟨v29, ev29, hf⟩ := lt_e hf
            rw [← ev29] at h
            refine lv_istore (lv' := [(7, .int r27.1), (6, .int r26), (5, .int r24), (4, .int r21), (0, .ref (q 0))]) hx hb dL_acts_170 hl (by decide) rfl (fun ls hl => ?_)
            refine lv_iload hx hb dL_acts_172 (lv_at hl 3 rfl) ?_
            refine lv_if_ne (tgt := 192) hx hb dL_acts_174 (by decide) (fun c30 => ?_) (fun c30 => ?_)
            · have hf := it_f c30 hf
              refine lv_iload hx hb dL_acts_192 (lv_at hl 0 rfl) ?_
              obtain ⟨j31, ej31, hf⟩ := lt_e hf
              have hj31 : ∀ (uu : Unit) (H : Heap) (locs : List Loc), hg G (eBC G) 430 q v29 A s H locs → ∀ (ls : Array Slot), lv_has ls 8 [] → j31 uu = some z → W p l e { frames := 10, cells := 1, slots := 6, locals := 260 } s m [.ref (q 0), .int p1, .int p2].toArray below meth c H locs 1 6 (MQ below ((qZ z.1) (cB G (eBC G) 430 q z.2 A) A) [.ref (q 0), .int p1, .int p2].toArray s 1 6 A) (F0 m 232 ls []) := by
                intro uu H locs h ls hl hf
                rw [ej31] at hf
                refine lv_iconst (v := (0 : Int32)) hx hb dL_acts_232 (by decide) ?_
                have hf := sm_e hf
                exact xzretc hC hr hlk h (by rw [← hf]) (by decide) (by rw [← hf]) dL_acts_233
              refine lv_if_lt (tgt := 232) hx hb dL_acts_194 (by decide) (fun c32 => ?_) (fun c32 => ?_)
              · have hf := it_t c32 hf
                exact hj31 () H locs h ls (lv_sub hl [] rfl) hf
              · have hf := it_f c32 hf
                refine lv_iload hx hb dL_acts_197 (lv_at hl 0 rfl) ?_
                refine lv_iload hx hb dL_acts_199 (lv_at hl 3 rfl) ?_
                refine lv_icmp_gt (tgt := 232) hx hb dL_acts_201 (by decide) (fun c33 => ?_) (fun c33 => ?_)
                · have hf := it_t c33 hf
                  exact hj31 () H locs h ls (lv_sub hl [] rfl) hf
                · have hf := it_f c33 hf
                  refine lv_aload_n hx hb dL_acts_204 rfl (lv_at hl 4 rfl) ?_
                  refine lv_iconst (v := (0 : Int32)) hx hb dL_acts_205 (by decide) ?_
                  obtain ⟨r35, hy34, hf⟩ := ob_e hf
                  refine xiG h (va_runV (As := [.int (0 : Int32)]) (rest := []) hC (c_X8_count_n l G q v29 (0 : Int32) hy34 H.size) (xcwV hC lk_L_76 in_X8 co_X8_count im_X8_count se_X8_count rfl rfl dd_X8_count ⟨Nat.le_of_ble_eq_true rfl, Nat.le_of_ble_eq_true rfl⟩) (preVO0 h.o (Nat.le_of_ble_eq_true rfl) eBC_0 rfl [.int (0 : Int32)]) rfl rfl hl.1 rfl (lv_room (Nat.le_of_ble_eq_true rfl)) dL_acts_206 ⟨Nat.le_of_ble_eq_true rfl, Nat.le_of_ble_eq_true rfl⟩) (fun H locs h => ?_)
                  refine lv_iload hx hb dL_acts_209 (lv_at hl 2 rfl) ?_
                  refine lv_iload hx hb dL_acts_211 (lv_at hl 3 rfl) ?_
                  refine lv_iadd hx hb dL_acts_213 ?_
                  refine lv_icmp_ne (tgt := 232) hx hb dL_acts_214 (by decide) (fun c36 => ?_) (fun c36 => ?_)
                  · have hf := it_f c36 hf
                    exact hj31 () H locs h ls (lv_sub hl [] rfl) hf
                  · have hf := it_t c36 hf
                    refine lv_aload_n hx hb dL_acts_217 rfl (lv_at hl 4 rfl) ?_
                    refine lv_bipush (v := (8 : Int32)) hx hb dL_acts_218 (by decide) ?_
                    obtain ⟨r38, hy37, hf⟩ := ob_e hf
                    refine xiG h (va_runV (As := [.int (8 : Int32)]) (rest := []) hC (c_X8_count_n l G q v29 (8 : Int32) hy37 H.size) (xcwV hC lk_L_76 in_X8 co_X8_count im_X8_count se_X8_count rfl rfl dd_X8_count ⟨Nat.le_of_ble_eq_true rfl, Nat.le_of_ble_eq_true rfl⟩) (preVO0 h.o (Nat.le_of_ble_eq_true rfl) eBC_0 rfl [.int (8 : Int32)]) rfl rfl hl.1 rfl (lv_room (Nat.le_of_ble_eq_true rfl)) dL_acts_220 ⟨Nat.le_of_ble_eq_true rfl, Nat.le_of_ble_eq_true rfl⟩) (fun H locs h => ?_)
                    refine lv_iload hx hb dL_acts_223 (lv_at hl 1 rfl) ?_
                    refine lv_icmp_lt (tgt := 232) hx hb dL_acts_225 (by decide) (fun c39 => ?_) (fun c39 => ?_)
                    · have hf := it_t c39 hf
                      exact hj31 () H locs h ls (lv_sub hl [] rfl) hf
                    · have hf := it_f c39 hf
                      refine lv_iconst (v := (1 : Int32)) hx hb dL_acts_228 (by decide) ?_
                      refine lv_goto (tgt := 233) hx hb dL_acts_229 (by decide) ?_
                      have hf := sm_e hf
                      exact xzretc hC hr hlk h (by rw [← hf]) (by decide) (by rw [← hf]) dL_acts_233
            · have hf := it_t c30 hf
              refine lv_iload hx hb dL_acts_177 (lv_at hl 0 rfl) ?_
              refine lv_bipush (v := (-102 : Int32)) hx hb dL_acts_179 (by decide) ?_
              refine lv_icmp_ne (tgt := 188) hx hb dL_acts_181 (by decide) (fun c40 => ?_) (fun c40 => ?_)
              · have hf := it_f c40 hf
                refine lv_iconst (v := (0 : Int32)) hx hb dL_acts_188 (by decide) ?_
                refine lv_goto (tgt := 233) hx hb dL_acts_189 (by decide) ?_
                have hf := sm_e hf
                exact xzretc hC hr hlk h (by rw [← hf]) (by decide) (by rw [← hf]) dL_acts_233
              · have hf := it_t c40 hf
                refine lv_iconst (v := (1 : Int32)) hx hb dL_acts_184 (by decide) ?_
                refine lv_goto (tgt := 233) hx hb dL_acts_185 (by decide) ?_
                have hf := sm_e hf
                exact xzretc hC hr hlk h (by rw [← hf]) (by decide) (by rw [← hf]) dL_acts_233
          refine lv_if_ne (tgt := 142) hx hb dL_acts_134 (by decide) (fun c41 => ?_) (fun c41 => ?_)
          · have hf := it_f c41 hf
            refine lv_bipush (v := (9 : Int32)) hx hb dL_acts_142 (by decide) ?_
            exact hj20 p2 (9 : Int32) H locs h ls (lv_sub hl [1] rfl) hf
          · have hf := it_t c41 hf
            refine lv_bipush (v := (60 : Int32)) hx hb dL_acts_137 (by decide) ?_
            refine lv_goto (tgt := 144) hx hb dL_acts_139 (by decide) ?_
            exact hj20 p2 (60 : Int32) H locs h ls (lv_sub hl [1] rfl) hf
      · have hf := it_f c5 hf
        refine lv_aload_n hx hb dL_acts_113 rfl (lv_at hl 1 rfl) ?_
        refine lv_iload_n hx hb dL_acts_114 rfl (lv_at hl 3 rfl) ?_
        obtain ⟨r42, hy43, hf⟩ := ob_e hf
        refine xz0c h (va_runS (As := [.ref (q 0), .int p2]) (rest := []) hC (c_L_orders l hst G sa q v p2 hy43 H.size) (xcgS hC (fun _ h9 => wM_in h9) lk_L_178 in_L co_L_orders st_L_orders rfl rfl dd_L_orders ⟨Nat.le_of_ble_eq_true rfl, Nat.le_of_ble_eq_true rfl⟩) (preS0T h hT [.ref (q 0), .int p2]) rfl rfl hl.1 rfl (lv_room (Nat.le_of_ble_eq_true rfl)) dL_acts_115 ⟨Nat.le_of_ble_eq_true rfl, Nat.le_of_ble_eq_true rfl⟩) (fun H locs hz44 h => ?_)
        refine W.widen (k := 1) (n := 6) (by omega) (by omega) ?_
        obtain ⟨v45, ev45, hf⟩ := lt_e hf
        rw [← ev45] at h
        have hf := sm_e hf
        exact xzretc hC hr hlk h (by rw [← hf]) hz44 (by rw [← hf]) dL_acts_118
    · have hf := it_f c4 hf
      refine lv_aload_n hx hb dL_acts_98 rfl (lv_at hl 1 rfl) ?_
      refine lv_iload_n hx hb dL_acts_99 rfl (lv_at hl 0 rfl) ?_
      refine lv_iconst (v := (5 : Int32)) hx hb dL_acts_100 (by decide) ?_
      refine lv_isub hx hb dL_acts_101 ?_
      refine lv_iload_n hx hb dL_acts_102 rfl (lv_at hl 3 rfl) ?_
      obtain ⟨r46, hy47, hf⟩ := ob_e hf
      refine xz0c h (va_runS (As := [.ref (q 0), .int (r1 - (5 : Int32)), .int p2]) (rest := []) hC (c_L_begins l hst G sa q v (r1 - (5 : Int32)) p2 hy47 H.size) (xcgS hC (fun _ h9 => wM_in h9) lk_L_174 in_L co_L_begins st_L_begins rfl rfl dd_L_begins ⟨Nat.le_of_ble_eq_true rfl, Nat.le_of_ble_eq_true rfl⟩) (preS0T h hT [.ref (q 0), .int (r1 - (5 : Int32)), .int p2]) rfl rfl hl.1 rfl (lv_room (Nat.le_of_ble_eq_true rfl)) dL_acts_103 ⟨Nat.le_of_ble_eq_true rfl, Nat.le_of_ble_eq_true rfl⟩) (fun H locs hz48 h => ?_)
      refine W.widen (k := 1) (n := 6) (by omega) (by omega) ?_
      obtain ⟨v49, ev49, hf⟩ := lt_e hf
      rw [← ev49] at h
      have hf := sm_e hf
      exact xzretc hC hr hlk h (by rw [← hf]) hz48 (by rw [← hf]) dL_acts_106
  · have hf := it_f c3 hf
    refine lv_iload_n hx hb dL_acts_12 rfl (lv_at hl 3 rfl) ?_
    refine lv_sipush (v := (258 : Int32)) hx hb dL_acts_13 (by decide) ?_
    obtain ⟨r50, hy51, hf⟩ := ob_e hf
    refine xiG h (va_runS (As := [.int p2, .int (258 : Int32)]) (rest := []) hC (c_L_low l G q v p2 (258 : Int32) hy51 H.size) (xcgS hC (fun _ h9 => wM_in h9) lk_L_113 in_L co_L_low st_L_low rfl rfl dd_L_low ⟨Nat.le_of_ble_eq_true rfl, Nat.le_of_ble_eq_true rfl⟩) (preSN h.o [.int p2, .int (258 : Int32)]) rfl rfl hl.1 rfl (lv_room (Nat.le_of_ble_eq_true rfl)) dL_acts_16 ⟨Nat.le_of_ble_eq_true rfl, Nat.le_of_ble_eq_true rfl⟩) (fun H locs h => ?_)
    refine lv_iconst (v := (1 : Int32)) hx hb dL_acts_19 (by decide) ?_
    refine lv_isub hx hb dL_acts_20 ?_
    refine lv_istore (lv' := [(4, .int (r50 - (1 : Int32))), (3, .int r1), (0, .ref (q 0)), (1, .int p1), (2, .int p2)]) hx hb dL_acts_21 hl (by decide) rfl (fun ls hl => ?_)
    refine lv_iload hx hb dL_acts_23 (lv_at hl 0 rfl) ?_
    obtain ⟨j53, ej53, hf⟩ := lt_e hf
    have hj53 : ∀ (t52 : Int32) (H : Heap) (locs : List Loc), hg G (eBC G) 430 q v A s H locs → ∀ (ls : Array Slot), lv_has ls 8 [(0, .ref (q 0)), (4, .int (r50 - (1 : Int32)))] → j53 t52 = some z → W p l e { frames := 10, cells := 1, slots := 6, locals := 260 } s m [.ref (q 0), .int p1, .int p2].toArray below meth c H locs 0 0 (MQ below ((qZ z.1) (cB G (eBC G) 430 q z.2 A) A) [.ref (q 0), .int p1, .int p2].toArray s 1 6 A) (F0 m 41 ls [.int t52]) := by
      intro t52 H locs h ls hl hf
      rw [ej53] at hf
      refine lv_istore (lv' := [(5, .int t52), (0, .ref (q 0)), (4, .int (r50 - (1 : Int32)))]) hx hb dL_acts_41 hl (by decide) rfl (fun ls hl => ?_)
      refine lv_aload_n hx hb dL_acts_43 rfl (lv_at hl 1 rfl) ?_
      refine lv_bipush (v := (11 : Int32)) hx hb dL_acts_44 (by decide) ?_
      obtain ⟨r55, hy54, hf⟩ := ob_e hf
      refine xiG h (va_runV (As := [.int (11 : Int32)]) (rest := []) hC (c_X8_count_n l G q v (11 : Int32) hy54 H.size) (xcwV hC lk_L_76 in_X8 co_X8_count im_X8_count se_X8_count rfl rfl dd_X8_count ⟨Nat.le_of_ble_eq_true rfl, Nat.le_of_ble_eq_true rfl⟩) (preVO0 h.o (Nat.le_of_ble_eq_true rfl) eBC_0 rfl [.int (11 : Int32)]) rfl rfl hl.1 rfl (lv_room (Nat.le_of_ble_eq_true rfl)) dL_acts_46 ⟨Nat.le_of_ble_eq_true rfl, Nat.le_of_ble_eq_true rfl⟩) (fun H locs h => ?_)
      refine lv_istore (lv' := [(6, .int r55), (5, .int t52), (0, .ref (q 0)), (4, .int (r50 - (1 : Int32)))]) hx hb dL_acts_49 hl (by decide) rfl (fun ls hl => ?_)
      refine lv_aload_n hx hb dL_acts_51 rfl (lv_at hl 2 rfl) ?_
      refine lv_iload hx hb dL_acts_52 (lv_at hl 3 rfl) ?_
      obtain ⟨r56, hy57, hf⟩ := ob_e hf
      refine xi0c h (vx_runSW (As := [.ref (q 0), .int (r50 - (1 : Int32))]) (rest := []) hC (c_L_load l hst G sa q v (r50 - (1 : Int32)) hy57 H.size) (xcgSW hC (fun _ h9 => wM_in h9) lk_L_172 in_L co_L_load st_L_load rfl rfl dd_L_load ⟨Nat.le_of_ble_eq_true rfl, Nat.le_of_ble_eq_true rfl⟩) (preS0T h hT [.ref (q 0), .int (r50 - (1 : Int32))]) rfl rfl hl.1 rfl (lv_room (Nat.le_of_ble_eq_true rfl)) dL_acts_54 ⟨Nat.le_of_ble_eq_true rfl, Nat.le_of_ble_eq_true rfl⟩) (fun H locs h => ?_)
      refine W.widen (k := 1) (n := 6) (by omega) (by omega) ?_
      obtain ⟨v58, ev58, hf⟩ := lt_e hf
      rw [← ev58] at h
      refine lv_iload hx hb dL_acts_57 (lv_at hl 1 rfl) ?_
      obtain ⟨j61, ej61, hf⟩ := lt_e hf
      have hj61 : ∀ (t59 : Int32) (t60 : Int32) (H : Heap) (locs : List Loc), hg G (eBC G) 430 q v58 A s H locs → ∀ (ls : Array Slot), lv_has ls 8 [] → j61 t59 t60 = some z → W p l e { frames := 10, cells := 1, slots := 6, locals := 260 } s m [.ref (q 0), .int p1, .int p2].toArray below meth c H locs 1 6 (MQ below ((qZ z.1) (cB G (eBC G) 430 q z.2 A) A) [.ref (q 0), .int p1, .int p2].toArray s 1 6 A) (F0 m 83 ls [.int t60, .int t59]) := by
        intro t59 t60 H locs h ls hl hf
        rw [ej61] at hf
        refine lv_icmp_ne (tgt := 90) hx hb dL_acts_83 (by decide) (fun c62 => ?_) (fun c62 => ?_)
        · have hf := it_f c62 hf
          refine lv_iconst (v := (0 : Int32)) hx hb dL_acts_90 (by decide) ?_
          have hf := sm_e hf
          exact xzretc hC hr hlk h (by rw [← hf]) (by decide) (by rw [← hf]) dL_acts_91
        · have hf := it_t c62 hf
          refine lv_iconst (v := (1 : Int32)) hx hb dL_acts_86 (by decide) ?_
          refine lv_goto (tgt := 91) hx hb dL_acts_87 (by decide) ?_
          have hf := sm_e hf
          exact xzretc hC hr hlk h (by rw [← hf]) (by decide) (by rw [← hf]) dL_acts_91
      refine lv_if_eq (tgt := 67) hx hb dL_acts_59 (by decide) (fun c63 => ?_) (fun c63 => ?_)
      · have hf := it_t c63 hf
        refine lv_iload hx hb dL_acts_67 (lv_at hl 0 rfl) ?_
        refine lv_bipush (v := (12 : Int32)) hx hb dL_acts_69 (by decide) ?_
        refine lv_icmp_ne (tgt := 79) hx hb dL_acts_71 (by decide) (fun c64 => ?_) (fun c64 => ?_)
        · have hf := it_f c64 hf
          refine lv_iload hx hb dL_acts_79 (lv_at hl 0 rfl) ?_
          refine lv_iconst (v := (1 : Int32)) hx hb dL_acts_81 (by decide) ?_
          refine lv_iadd hx hb dL_acts_82 ?_
          exact hj61 r56.1 (r55 + (1 : Int32)) H locs h ls (lv_sub hl [] rfl) hf
        · have hf := it_t c64 hf
          refine lv_bipush (v := (-103 : Int32)) hx hb dL_acts_74 (by decide) ?_
          refine lv_goto (tgt := 83) hx hb dL_acts_76 (by decide) ?_
          exact hj61 r56.1 (-103 : Int32) H locs h ls (lv_sub hl [] rfl) hf
      · have hf := it_f c63 hf
        refine lv_bipush (v := (-102 : Int32)) hx hb dL_acts_62 (by decide) ?_
        refine lv_goto (tgt := 83) hx hb dL_acts_64 (by decide) ?_
        exact hj61 r56.1 (-102 : Int32) H locs h ls (lv_sub hl [] rfl) hf
    obtain ⟨j65, ej65, hf⟩ := lt_e hf
    have hj65 : ∀ (uu : Unit) (H : Heap) (locs : List Loc), hg G (eBC G) 430 q v A s H locs → ∀ (ls : Array Slot), lv_has ls 8 [(0, .ref (q 0)), (4, .int (r50 - (1 : Int32)))] → j65 uu = some z → W p l e { frames := 10, cells := 1, slots := 6, locals := 260 } s m [.ref (q 0), .int p1, .int p2].toArray below meth c H locs 0 0 (MQ below ((qZ z.1) (cB G (eBC G) 430 q z.2 A) A) [.ref (q 0), .int p1, .int p2].toArray s 1 6 A) (F0 m 36 ls []) := by
      intro uu H locs h ls hl hf
      rw [ej65] at hf
      refine lv_iconst (v := (1 : Int32)) hx hb dL_acts_36 (by decide) ?_
      refine lv_goto (tgt := 41) hx hb dL_acts_37 (by decide) ?_
      exact hj53 (1 : Int32) H locs h ls (lv_sub hl [0, 1] rfl) hf
    refine lv_if_lt (tgt := 36) hx hb dL_acts_25 (by decide) (fun c66 => ?_) (fun c66 => ?_)
    · have hf := it_t c66 hf
      exact hj65 () H locs h ls (lv_sub hl [2, 0] rfl) hf
    · have hf := it_f c66 hf
      refine lv_iload hx hb dL_acts_28 (lv_at hl 0 rfl) ?_
      refine lv_sipush (v := (256 : Int32)) hx hb dL_acts_30 (by decide) ?_
      refine lv_icmp_ne (tgt := 40) hx hb dL_acts_33 (by decide) (fun c67 => ?_) (fun c67 => ?_)
      · have hf := it_f c67 hf
        refine lv_iconst (v := (0 : Int32)) hx hb dL_acts_40 (by decide) ?_
        exact hj53 (0 : Int32) H locs h ls (lv_sub hl [2, 0] rfl) hf
      · have hf := it_t c67 hf
        exact hj65 () H locs h ls (lv_sub hl [2, 0] rfl) hf
