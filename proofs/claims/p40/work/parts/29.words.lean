theorem uw_X0 : ∀ w ∈ u_ws RX0 TX0 4, w ∈ wG := fun w hw => wG_of ((show ∀ w ∈ u_ws RX0 TX0 4, w ∈ lw_tbl by decide +kernel) w hw) ((show ∀ w ∈ u_ws RX0 TX0 4, goodWord w = true by decide +kernel) w hw)
theorem fl_X0_9 : Cond.fieldLink RX0 9 "BusyChip$Cells" "held" "[I" ∈ wG := wG_t 43 (by decide +kernel) rfl
theorem lkm_X0_31 : Cond.methodLink RX0 31 Lib.Math.min.name ∈ wG := wG_t 351 (by decide +kernel) rfl
theorem st_min : Cond.static Lib.Math.min.name ∈ wG := wG_t 352 (by decide +kernel) rfl
theorem in_math : Cond.initialized "java/lang/Math" ∈ wG := wG_t 17 (by decide +kernel) rfl
theorem co_min : Cond.code Lib.Math.min.name Lib.Math.min.code 2 (some .int) ∈ wG := wG_t 353 (by decide +kernel) rfl
theorem lkc_X0_37 : Cond.methodLink RX0 37 arraycopyName ∈ wG := wG_t 354 (by decide +kernel) rfl
theorem na_acp : Cond.native arraycopyName ∈ wG := wG_t 356 (by decide +kernel) rfl
theorem st_acp : Cond.static arraycopyName ∈ wG := wG_t 355 (by decide +kernel) rfl
theorem in_sys : Cond.initialized "java/lang/System" ∈ wG := wG_t 18 (by decide +kernel) rfl
theorem fl_X0_15 : Cond.fieldLink RX0 15 "BusyChip$Cells" "stuck" "[I" ∈ wG := wG_t 46 (by decide +kernel) rfl
theorem fl_X0_18 : Cond.fieldLink RX0 18 "BusyChip$Cells" "erasures" "[I" ∈ wG := wG_t 48 (by decide +kernel) rfl
theorem fl_X0_21 : Cond.fieldLink RX0 21 "BusyChip$Cells" "unsure" "I" ∈ wG := wG_t 51 (by decide +kernel) rfl
theorem co_X8_at : Cond.code yX8_at cX8_at 2 (some .int) ∈ wG := wG_t 468 (by decide +kernel) rfl
theorem dd_X8_at : yX8_at.cls ≠ "java/lang/invoke/MethodHandle" ∧ yX8_at.cls ≠ "java/lang/invoke/VarHandle" ∧ (parseMethodDescriptor yX8_at.desc).map (fun d => d.parameters.length) = some 2 := by decide +kernel
theorem st_X8_at : Cond.static yX8_at ∈ wG := wG_t 467 (by decide +kernel) rfl
theorem nw_X0_43 : Cond.methodLinkNest RX0 43 yX8_at "BusyChip" ∈ wN := by decide +kernel
theorem co_X8_put : Cond.code yX8_put cX8_put 3 none ∈ wG := wG_t 773 (by decide +kernel) rfl
theorem dd_X8_put : yX8_put.cls ≠ "java/lang/invoke/MethodHandle" ∧ yX8_put.cls ≠ "java/lang/invoke/VarHandle" ∧ (parseMethodDescriptor yX8_put.desc).map (fun d => d.parameters.length) = some 3 := by decide +kernel
theorem st_X8_put : Cond.static yX8_put ∈ wG := wG_t 772 (by decide +kernel) rfl
theorem nw_X0_47 : Cond.methodLinkNest RX0 47 yX8_put "BusyChip" ∈ wN := by decide +kernel
theorem in_J6 : Cond.initialized RJ6 ∈ wG := wG_t 15 (by decide +kernel) rfl
theorem co_J6_bitCount_0f7a4 : Cond.code yJ6_bitCount_0f7a4 cJ6_bitCount_0f7a4 1 (some .int) ∈ wG := wG_t 471 (by decide +kernel) rfl
theorem dd_J6_bitCount_0f7a4 : yJ6_bitCount_0f7a4.cls ≠ "java/lang/invoke/MethodHandle" ∧ yJ6_bitCount_0f7a4.cls ≠ "java/lang/invoke/VarHandle" ∧ (parseMethodDescriptor yJ6_bitCount_0f7a4.desc).map (fun d => d.parameters.length) = some 1 := by decide +kernel
theorem st_J6_bitCount_0f7a4 : Cond.static yJ6_bitCount_0f7a4 ∈ wG := wG_t 470 (by decide +kernel) rfl
theorem lk_X0_51 : Cond.methodLink RX0 51 yJ6_bitCount_0f7a4 ∈ wG := wG_t 469 (by decide +kernel) rfl
theorem in_X0 : Cond.initialized RX0 ∈ wG := wG_t 3 (by decide +kernel) rfl
theorem co_X0_fall : Cond.code yX0_fall cX0_fall 5 (some .int) ∈ wG := wG_t 770 (by decide +kernel) rfl
theorem dd_X0_fall : yX0_fall.cls ≠ "java/lang/invoke/MethodHandle" ∧ yX0_fall.cls ≠ "java/lang/invoke/VarHandle" ∧ (parseMethodDescriptor yX0_fall.desc).map (fun d => d.parameters.length) = some 2 := by decide +kernel
theorem lk_X0_57 : Cond.methodLink RX0 57 yX0_fall ∈ wG := wG_t 778 (by decide +kernel) rfl
theorem im_X0_fall : Cond.instanceMethod yX0_fall ∈ wG := wG_t 768 (by decide +kernel) rfl
theorem se_X0_fall : Cond.selects RX0 yX0_fall yX0_fall ∈ wG := wG_t 769 (by decide +kernel) rfl
theorem co_X0_pagesOf : Cond.code yX0_pagesOf cX0_pagesOf 1 (some .int) ∈ wG := wG_t 599 (by decide +kernel) rfl
theorem dd_X0_pagesOf : yX0_pagesOf.cls ≠ "java/lang/invoke/MethodHandle" ∧ yX0_pagesOf.cls ≠ "java/lang/invoke/VarHandle" ∧ (parseMethodDescriptor yX0_pagesOf.desc).map (fun d => d.parameters.length) = some 1 := by decide +kernel
theorem st_X0_pagesOf : Cond.static yX0_pagesOf ∈ wG := wG_t 598 (by decide +kernel) rfl
theorem lk_X0_60 : Cond.methodLink RX0 60 yX0_pagesOf ∈ wG := wG_t 597 (by decide +kernel) rfl
theorem co_X0_ones : Cond.code yX0_ones cX0_ones 5 (some .int) ∈ wG := wG_t 465 (by decide +kernel) rfl
theorem dd_X0_ones : yX0_ones.cls ≠ "java/lang/invoke/MethodHandle" ∧ yX0_ones.cls ≠ "java/lang/invoke/VarHandle" ∧ (parseMethodDescriptor yX0_ones.desc).map (fun d => d.parameters.length) = some 2 := by decide +kernel
theorem lk_X0_63 : Cond.methodLink RX0 63 yX0_ones ∈ wG := wG_t 592 (by decide +kernel) rfl
theorem im_X0_ones : Cond.instanceMethod yX0_ones ∈ wG := wG_t 463 (by decide +kernel) rfl
theorem se_X0_ones : Cond.selects RX0 yX0_ones yX0_ones ∈ wG := wG_t 464 (by decide +kernel) rfl
theorem uw_X1 : ∀ w ∈ u_ws RX1 TX1 3, w ∈ wG := fun w hw => wG_of ((show ∀ w ∈ u_ws RX1 TX1 3, w ∈ lw_tbl by decide +kernel) w hw) ((show ∀ w ∈ u_ws RX1 TX1 3, goodWord w = true by decide +kernel) w hw)
theorem fl_X1_17 : Cond.fieldLink RX1 17 "BusyChip$Line" "size" "I" ∈ wG := wG_t 202 (by decide +kernel) rfl
theorem fl_X1_11 : Cond.fieldLink RX1 11 "BusyChip$Line" "orders" "[LBusyChip$Order;" ∈ wG := wG_t 201 (by decide +kernel) rfl
theorem in_X1 : Cond.initialized RX1 ∈ wG := wG_t 8 (by decide +kernel) rfl
theorem co_X1_orderAt : Cond.code yX1_orderAt cX1_orderAt 2 (some (.object "BusyChip$Order")) ∈ wG := wG_t 379 (by decide +kernel) rfl
theorem dd_X1_orderAt : yX1_orderAt.cls ≠ "java/lang/invoke/MethodHandle" ∧ yX1_orderAt.cls ≠ "java/lang/invoke/VarHandle" ∧ (parseMethodDescriptor yX1_orderAt.desc).map (fun d => d.parameters.length) = some 1 := by decide +kernel
theorem lk_X1_25 : Cond.methodLink RX1 25 yX1_orderAt ∈ wG := wG_t 376 (by decide +kernel) rfl
theorem im_X1_orderAt : Cond.instanceMethod yX1_orderAt ∈ wG := wG_t 377 (by decide +kernel) rfl
theorem se_X1_orderAt : Cond.selects RX1 yX1_orderAt yX1_orderAt ∈ wG := wG_t 378 (by decide +kernel) rfl
theorem uw_X3 : ∀ w ∈ u_ws RX3 TX3 6, w ∈ wG := fun w hw => wG_of ((show ∀ w ∈ u_ws RX3 TX3 6, w ∈ lw_tbl by decide +kernel) w hw) ((show ∀ w ∈ u_ws RX3 TX3 6, goodWord w = true by decide +kernel) w hw)
theorem fl_X1_29 : Cond.fieldLink RX1 29 "BusyChip$Order" "number" "I" ∈ wG := wG_t 167 (by decide +kernel) rfl
theorem fl_X1_32 : Cond.fieldLink RX1 32 "BusyChip$Order" "kind" "I" ∈ wG := wG_t 170 (by decide +kernel) rfl
theorem fl_X1_35 : Cond.fieldLink RX1 35 "BusyChip$Order" "where" "I" ∈ wG := wG_t 174 (by decide +kernel) rfl
theorem co_X8_sectorOf : Cond.code yX8_sectorOf cX8_sectorOf 2 (some .int) ∈ wG := wG_t 615 (by decide +kernel) rfl
theorem dd_X8_sectorOf : yX8_sectorOf.cls ≠ "java/lang/invoke/MethodHandle" ∧ yX8_sectorOf.cls ≠ "java/lang/invoke/VarHandle" ∧ (parseMethodDescriptor yX8_sectorOf.desc).map (fun d => d.parameters.length) = some 2 := by decide +kernel
theorem st_X8_sectorOf : Cond.static yX8_sectorOf ∈ wG := wG_t 614 (by decide +kernel) rfl
theorem nw_X1_38 : Cond.methodLinkNest RX1 38 yX8_sectorOf "BusyChip" ∈ wN := by decide +kernel
theorem fl_X1_45 : Cond.fieldLink RX1 45 "BusyChip$Order" "urgency" "I" ∈ wG := wG_t 178 (by decide +kernel) rfl
theorem co_X1_openPlace : Cond.code yX1_openPlace cX1_openPlace 4 (some (.object "BusyChip$Order")) ∈ wG := wG_t 890 (by decide +kernel) rfl
theorem dd_X1_openPlace : yX1_openPlace.cls ≠ "java/lang/invoke/MethodHandle" ∧ yX1_openPlace.cls ≠ "java/lang/invoke/VarHandle" ∧ (parseMethodDescriptor yX1_openPlace.desc).map (fun d => d.parameters.length) = some 1 := by decide +kernel
theorem lk_X1_42 : Cond.methodLink RX1 42 yX1_openPlace ∈ wG := wG_t 887 (by decide +kernel) rfl
theorem im_X1_openPlace : Cond.instanceMethod yX1_openPlace ∈ wG := wG_t 889 (by decide +kernel) rfl
theorem se_X1_openPlace : Cond.selects RX1 yX1_openPlace yX1_openPlace ∈ wG := wG_p 12 (by decide +kernel) rfl
theorem fl_X1_21 : Cond.fieldLink RX1 21 "BusyChip$Line" "posted" "I" ∈ wG := wG_t 205 (by decide +kernel) rfl
theorem fl_X1_48 : Cond.fieldLink RX1 48 "BusyChip$Order" "postedAt" "I" ∈ wG := wG_t 182 (by decide +kernel) rfl
theorem fl_X1_51 : Cond.fieldLink RX1 51 "BusyChip$Order" "row" "LBusyChip$Row;" ∈ wG := wG_t 185 (by decide +kernel) rfl
theorem uw_X4 : ∀ w ∈ u_ws RX4 TX4 2, w ∈ wG := fun w hw => wG_of ((show ∀ w ∈ u_ws RX4 TX4 2, w ∈ lw_tbl by decide +kernel) w hw) ((show ∀ w ∈ u_ws RX4 TX4 2, goodWord w = true by decide +kernel) w hw)
theorem fl_X1_55 : Cond.fieldLink RX1 55 "BusyChip$Row" "size" "I" ∈ wG := wG_t 95 (by decide +kernel) rfl
theorem fl_X4_9 : Cond.fieldLink RX4 9 "BusyChip$Row" "values" "[I" ∈ wG := wG_t 91 (by decide +kernel) rfl
theorem lkm_X4_19 : Cond.methodLink RX4 19 Lib.Math.min.name ∈ wG := wG_t 365 (by decide +kernel) rfl
theorem lkc_X4_29 : Cond.methodLink RX4 29 arraycopyName ∈ wG := wG_t 366 (by decide +kernel) rfl
theorem fl_X4_15 : Cond.fieldLink RX4 15 "BusyChip$Row" "size" "I" ∈ wG := wG_t 92 (by decide +kernel) rfl
theorem co_X1_join : Cond.code yX1_join cX1_join 6 (some .int) ∈ wG := wG_t 886 (by decide +kernel) rfl
theorem dd_X1_join : yX1_join.cls ≠ "java/lang/invoke/MethodHandle" ∧ yX1_join.cls ≠ "java/lang/invoke/VarHandle" ∧ (parseMethodDescriptor yX1_join.desc).map (fun d => d.parameters.length) = some 4 := by decide +kernel
theorem lk_X1_58 : Cond.methodLink RX1 58 yX1_join ∈ wG := wG_t 895 (by decide +kernel) rfl
theorem im_X1_join : Cond.instanceMethod yX1_join ∈ wG := wG_t 884 (by decide +kernel) rfl
theorem se_X1_join : Cond.selects RX1 yX1_join yX1_join ∈ wG := wG_t 885 (by decide +kernel) rfl
theorem co_X1_rankOf : Cond.code yX1_rankOf cX1_rankOf 4 (some .int) ∈ wG := wG_t 866 (by decide +kernel) rfl
theorem dd_X1_rankOf : yX1_rankOf.cls ≠ "java/lang/invoke/MethodHandle" ∧ yX1_rankOf.cls ≠ "java/lang/invoke/VarHandle" ∧ (parseMethodDescriptor yX1_rankOf.desc).map (fun d => d.parameters.length) = some 1 := by decide +kernel
theorem lk_X1_62 : Cond.methodLink RX1 62 yX1_rankOf ∈ wG := wG_t 896 (by decide +kernel) rfl
theorem im_X1_rankOf : Cond.instanceMethod yX1_rankOf ∈ wG := wG_t 864 (by decide +kernel) rfl
theorem se_X1_rankOf : Cond.selects RX1 yX1_rankOf yX1_rankOf ∈ wG := wG_t 865 (by decide +kernel) rfl
theorem in_X4 : Cond.initialized RX4 ∈ wG := wG_t 6 (by decide +kernel) rfl
theorem co_X4_become : Cond.code yX4_become cX4_become 2 none ∈ wG := wG_t 364 (by decide +kernel) rfl
theorem dd_X4_become : yX4_become.cls ≠ "java/lang/invoke/MethodHandle" ∧ yX4_become.cls ≠ "java/lang/invoke/VarHandle" ∧ (parseMethodDescriptor yX4_become.desc).map (fun d => d.parameters.length) = some 1 := by decide +kernel
theorem lk_X1_66 : Cond.methodLink RX1 66 yX4_become ∈ wG := wG_t 897 (by decide +kernel) rfl
theorem im_X4_become : Cond.instanceMethod yX4_become ∈ wG := wG_t 362 (by decide +kernel) rfl
theorem se_X4_become : Cond.selects RX4 yX4_become yX4_become ∈ wG := wG_t 363 (by decide +kernel) rfl
theorem fl_X3_9 : Cond.fieldLink RX3 9 "BusyChip$Order" "number" "I" ∈ wG := wG_t 166 (by decide +kernel) rfl
theorem fl_X3_15 : Cond.fieldLink RX3 15 "BusyChip$Order" "kind" "I" ∈ wG := wG_t 169 (by decide +kernel) rfl
theorem fl_X3_18 : Cond.fieldLink RX3 18 "BusyChip$Order" "where" "I" ∈ wG := wG_t 173 (by decide +kernel) rfl
theorem fl_X3_21 : Cond.fieldLink RX3 21 "BusyChip$Order" "urgency" "I" ∈ wG := wG_t 177 (by decide +kernel) rfl
theorem fl_X3_24 : Cond.fieldLink RX3 24 "BusyChip$Order" "postedAt" "I" ∈ wG := wG_t 181 (by decide +kernel) rfl
theorem fl_X3_30 : Cond.fieldLink RX3 30 "BusyChip$Order" "row" "LBusyChip$Row;" ∈ wG := wG_t 184 (by decide +kernel) rfl
theorem lk_X3_34 : Cond.methodLink RX3 34 yX4_become ∈ wG := wG_t 384 (by decide +kernel) rfl
theorem in_X3 : Cond.initialized RX3 ∈ wG := wG_t 9 (by decide +kernel) rfl
theorem co_X3_become : Cond.code yX3_become cX3_become 2 none ∈ wG := wG_t 383 (by decide +kernel) rfl
theorem dd_X3_become : yX3_become.cls ≠ "java/lang/invoke/MethodHandle" ∧ yX3_become.cls ≠ "java/lang/invoke/VarHandle" ∧ (parseMethodDescriptor yX3_become.desc).map (fun d => d.parameters.length) = some 1 := by decide +kernel
theorem lk_X1_70 : Cond.methodLink RX1 70 yX3_become ∈ wG := wG_t 380 (by decide +kernel) rfl
theorem im_X3_become : Cond.instanceMethod yX3_become ∈ wG := wG_t 381 (by decide +kernel) rfl
theorem se_X3_become : Cond.selects RX3 yX3_become yX3_become ∈ wG := wG_t 382 (by decide +kernel) rfl
theorem uw_X2 : ∀ w ∈ u_ws RX2 TX2 3, w ∈ wG := fun w hw => wG_of ((show ∀ w ∈ u_ws RX2 TX2 3, w ∈ lw_tbl by decide +kernel) w hw) ((show ∀ w ∈ u_ws RX2 TX2 3, goodWord w = true by decide +kernel) w hw)
theorem fl_X2_9 : Cond.fieldLink RX2 9 "BusyChip$Locks" "level" "I" ∈ wG := wG_t 69 (by decide +kernel) rfl
theorem fl_X2_15 : Cond.fieldLink RX2 15 "BusyChip$Locks" "side" "I" ∈ wG := wG_t 72 (by decide +kernel) rfl
theorem fl_X2_18 : Cond.fieldLink RX2 18 "BusyChip$Locks" "frozen" "Z" ∈ wG := wG_t 75 (by decide +kernel) rfl
theorem nw_X4_25 : Cond.methodLinkNest RX4 25 yX8_at "BusyChip" ∈ wN := by decide +kernel
theorem uw_X5 : ∀ w ∈ u_ws RX5 TX5 6, w ∈ wG := fun w hw => wG_of ((show ∀ w ∈ u_ws RX5 TX5 6, w ∈ lw_tbl by decide +kernel) w hw) ((show ∀ w ∈ u_ws RX5 TX5 6, goodWord w = true by decide +kernel) w hw)
theorem fl_X5_11 : Cond.fieldLink RX5 11 "BusyChip$Scribe" "place" "I" ∈ wG := wG_t 284 (by decide +kernel) rfl
theorem fl_X5_15 : Cond.fieldLink RX5 15 "BusyChip$Scribe" "letter" "C" ∈ wG := wG_t 285 (by decide +kernel) rfl
theorem in_X5 : Cond.initialized RX5 ∈ wG := wG_t 10 (by decide +kernel) rfl
theorem co_X5_figure : Cond.code yX5_figure cX5_figure 2 (some .int) ∈ wG := wG_t 1016 (by decide +kernel) rfl
theorem dd_X5_figure : yX5_figure.cls ≠ "java/lang/invoke/MethodHandle" ∧ yX5_figure.cls ≠ "java/lang/invoke/VarHandle" ∧ (parseMethodDescriptor yX5_figure.desc).map (fun d => d.parameters.length) = some 2 := by decide +kernel
theorem st_X5_figure : Cond.static yX5_figure ∈ wG := wG_t 1015 (by decide +kernel) rfl
theorem lk_X5_64 : Cond.methodLink RX5 64 yX5_figure ∈ wG := wG_t 1014 (by decide +kernel) rfl
theorem fl_X5_28 : Cond.fieldLink RX5 28 "BusyChip$Scribe" "row" "LBusyChip$Row;" ∈ wG := wG_t 291 (by decide +kernel) rfl
theorem fl_X5_32 : Cond.fieldLink RX5 32 "BusyChip$Scribe" "upperFigure" "I" ∈ wG := wG_t 293 (by decide +kernel) rfl
theorem co_X4_add : Cond.code yX4_add cX4_add 2 none ∈ wG := wG_t 822 (by decide +kernel) rfl
theorem dd_X4_add : yX4_add.cls ≠ "java/lang/invoke/MethodHandle" ∧ yX4_add.cls ≠ "java/lang/invoke/VarHandle" ∧ (parseMethodDescriptor yX4_add.desc).map (fun d => d.parameters.length) = some 1 := by decide +kernel
theorem lk_X5_76 : Cond.methodLink RX5 76 yX4_add ∈ wG := wG_t 1041 (by decide +kernel) rfl
theorem im_X4_add : Cond.instanceMethod yX4_add ∈ wG := wG_t 820 (by decide +kernel) rfl
theorem se_X4_add : Cond.selects RX4 yX4_add yX4_add ∈ wG := wG_t 821 (by decide +kernel) rfl
theorem fl_X5_19 : Cond.fieldLink RX5 19 "BusyChip$Scribe" "number" "I" ∈ wG := wG_t 287 (by decide +kernel) rfl
theorem co_X5_mostNumber : Cond.code yX5_mostNumber cX5_mostNumber 1 (some .int) ∈ wG := wG_t 1020 (by decide +kernel) rfl
theorem dd_X5_mostNumber : yX5_mostNumber.cls ≠ "java/lang/invoke/MethodHandle" ∧ yX5_mostNumber.cls ≠ "java/lang/invoke/VarHandle" ∧ (parseMethodDescriptor yX5_mostNumber.desc).map (fun d => d.parameters.length) = some 0 := by decide +kernel
theorem lk_X5_68 : Cond.methodLink RX5 68 yX5_mostNumber ∈ wG := wG_t 1017 (by decide +kernel) rfl
theorem im_X5_mostNumber : Cond.instanceMethod yX5_mostNumber ∈ wG := wG_t 1019 (by decide +kernel) rfl
theorem se_X5_mostNumber : Cond.selects RX5 yX5_mostNumber yX5_mostNumber ∈ wG := wG_p 16 (by decide +kernel) rfl
theorem co_X5_endsPart : Cond.code yX5_endsPart cX5_endsPart 3 (some .boolean) ∈ wG := wG_t 1032 (by decide +kernel) rfl
theorem dd_X5_endsPart : yX5_endsPart.cls ≠ "java/lang/invoke/MethodHandle" ∧ yX5_endsPart.cls ≠ "java/lang/invoke/VarHandle" ∧ (parseMethodDescriptor yX5_endsPart.desc).map (fun d => d.parameters.length) = some 2 := by decide +kernel
theorem lk_X5_57 : Cond.methodLink RX5 57 yX5_endsPart ∈ wG := wG_t 1029 (by decide +kernel) rfl
theorem im_X5_endsPart : Cond.instanceMethod yX5_endsPart ∈ wG := wG_t 1031 (by decide +kernel) rfl
theorem se_X5_endsPart : Cond.selects RX5 yX5_endsPart yX5_endsPart ∈ wG := wG_p 19 (by decide +kernel) rfl
theorem co_X5_lengthensNumber : Cond.code yX5_lengthensNumber cX5_lengthensNumber 3 (some .boolean) ∈ wG := wG_t 1028 (by decide +kernel) rfl
theorem dd_X5_lengthensNumber : yX5_lengthensNumber.cls ≠ "java/lang/invoke/MethodHandle" ∧ yX5_lengthensNumber.cls ≠ "java/lang/invoke/VarHandle" ∧ (parseMethodDescriptor yX5_lengthensNumber.desc).map (fun d => d.parameters.length) = some 1 := by decide +kernel
theorem lk_X5_72 : Cond.methodLink RX5 72 yX5_lengthensNumber ∈ wG := wG_t 1025 (by decide +kernel) rfl
theorem im_X5_lengthensNumber : Cond.instanceMethod yX5_lengthensNumber ∈ wG := wG_t 1027 (by decide +kernel) rfl
theorem se_X5_lengthensNumber : Cond.selects RX5 yX5_lengthensNumber yX5_lengthensNumber ∈ wG := wG_p 18 (by decide +kernel) rfl
theorem fl_X5_61 : Cond.fieldLink RX5 61 "BusyChip$Row" "size" "I" ∈ wG := wG_t 94 (by decide +kernel) rfl
theorem co_X5_opensValue : Cond.code yX5_opensValue cX5_opensValue 2 (some .boolean) ∈ wG := wG_t 1036 (by decide +kernel) rfl
theorem dd_X5_opensValue : yX5_opensValue.cls ≠ "java/lang/invoke/MethodHandle" ∧ yX5_opensValue.cls ≠ "java/lang/invoke/VarHandle" ∧ (parseMethodDescriptor yX5_opensValue.desc).map (fun d => d.parameters.length) = some 1 := by decide +kernel
theorem lk_X5_45 : Cond.methodLink RX5 45 yX5_opensValue ∈ wG := wG_t 1033 (by decide +kernel) rfl
theorem im_X5_opensValue : Cond.instanceMethod yX5_opensValue ∈ wG := wG_t 1035 (by decide +kernel) rfl
theorem se_X5_opensValue : Cond.selects RX5 yX5_opensValue yX5_opensValue ∈ wG := wG_p 20 (by decide +kernel) rfl
theorem fl_X5_22 : Cond.fieldLink RX5 22 "BusyChip$Scribe" "urgency" "I" ∈ wG := wG_t 289 (by decide +kernel) rfl
theorem co_X5_opensPart : Cond.code yX5_opensPart cX5_opensPart 2 (some .boolean) ∈ wG := wG_t 1009 (by decide +kernel) rfl
theorem dd_X5_opensPart : yX5_opensPart.cls ≠ "java/lang/invoke/MethodHandle" ∧ yX5_opensPart.cls ≠ "java/lang/invoke/VarHandle" ∧ (parseMethodDescriptor yX5_opensPart.desc).map (fun d => d.parameters.length) = some 1 := by decide +kernel
theorem lk_X5_35 : Cond.methodLink RX5 35 yX5_opensPart ∈ wG := wG_t 1006 (by decide +kernel) rfl
theorem im_X5_opensPart : Cond.instanceMethod yX5_opensPart ∈ wG := wG_t 1008 (by decide +kernel) rfl
theorem se_X5_opensPart : Cond.selects RX5 yX5_opensPart yX5_opensPart ∈ wG := wG_p 14 (by decide +kernel) rfl
theorem co_X5_opensNumber : Cond.code yX5_opensNumber cX5_opensNumber 4 (some .boolean) ∈ wG := wG_t 1013 (by decide +kernel) rfl
theorem dd_X5_opensNumber : yX5_opensNumber.cls ≠ "java/lang/invoke/MethodHandle" ∧ yX5_opensNumber.cls ≠ "java/lang/invoke/VarHandle" ∧ (parseMethodDescriptor yX5_opensNumber.desc).map (fun d => d.parameters.length) = some 1 := by decide +kernel
theorem lk_X5_39 : Cond.methodLink RX5 39 yX5_opensNumber ∈ wG := wG_t 1010 (by decide +kernel) rfl
theorem im_X5_opensNumber : Cond.instanceMethod yX5_opensNumber ∈ wG := wG_t 1012 (by decide +kernel) rfl
theorem se_X5_opensNumber : Cond.selects RX5 yX5_opensNumber yX5_opensNumber ∈ wG := wG_p 15 (by decide +kernel) rfl
theorem co_X5_goesOnBehindDigit : Cond.code yX5_goesOnBehindDigit cX5_goesOnBehindDigit 3 (some .boolean) ∈ wG := wG_t 1024 (by decide +kernel) rfl
theorem dd_X5_goesOnBehindDigit : yX5_goesOnBehindDigit.cls ≠ "java/lang/invoke/MethodHandle" ∧ yX5_goesOnBehindDigit.cls ≠ "java/lang/invoke/VarHandle" ∧ (parseMethodDescriptor yX5_goesOnBehindDigit.desc).map (fun d => d.parameters.length) = some 1 := by decide +kernel
theorem lk_X5_42 : Cond.methodLink RX5 42 yX5_goesOnBehindDigit ∈ wG := wG_t 1021 (by decide +kernel) rfl
theorem im_X5_goesOnBehindDigit : Cond.instanceMethod yX5_goesOnBehindDigit ∈ wG := wG_t 1023 (by decide +kernel) rfl
theorem se_X5_goesOnBehindDigit : Cond.selects RX5 yX5_goesOnBehindDigit yX5_goesOnBehindDigit ∈ wG := wG_p 17 (by decide +kernel) rfl
theorem co_X5_endsValue : Cond.code yX5_endsValue cX5_endsValue 3 (some .boolean) ∈ wG := wG_t 1040 (by decide +kernel) rfl
theorem dd_X5_endsValue : yX5_endsValue.cls ≠ "java/lang/invoke/MethodHandle" ∧ yX5_endsValue.cls ≠ "java/lang/invoke/VarHandle" ∧ (parseMethodDescriptor yX5_endsValue.desc).map (fun d => d.parameters.length) = some 1 := by decide +kernel
theorem lk_X5_48 : Cond.methodLink RX5 48 yX5_endsValue ∈ wG := wG_t 1037 (by decide +kernel) rfl
theorem im_X5_endsValue : Cond.instanceMethod yX5_endsValue ∈ wG := wG_t 1039 (by decide +kernel) rfl
theorem se_X5_endsValue : Cond.selects RX5 yX5_endsValue yX5_endsValue ∈ wG := wG_p 21 (by decide +kernel) rfl
theorem co_X5_goesOnBehindValue : Cond.code yX5_goesOnBehindValue cX5_goesOnBehindValue 2 (some .boolean) ∈ wG := wG_t 1045 (by decide +kernel) rfl
theorem dd_X5_goesOnBehindValue : yX5_goesOnBehindValue.cls ≠ "java/lang/invoke/MethodHandle" ∧ yX5_goesOnBehindValue.cls ≠ "java/lang/invoke/VarHandle" ∧ (parseMethodDescriptor yX5_goesOnBehindValue.desc).map (fun d => d.parameters.length) = some 1 := by decide +kernel
theorem lk_X5_51 : Cond.methodLink RX5 51 yX5_goesOnBehindValue ∈ wG := wG_t 1042 (by decide +kernel) rfl
theorem im_X5_goesOnBehindValue : Cond.instanceMethod yX5_goesOnBehindValue ∈ wG := wG_t 1044 (by decide +kernel) rfl
theorem se_X5_goesOnBehindValue : Cond.selects RX5 yX5_goesOnBehindValue yX5_goesOnBehindValue ∈ wG := wG_p 22 (by decide +kernel) rfl
theorem co_X5_tellsUrgency : Cond.code yX5_tellsUrgency cX5_tellsUrgency 2 (some .boolean) ∈ wG := wG_t 1049 (by decide +kernel) rfl
theorem dd_X5_tellsUrgency : yX5_tellsUrgency.cls ≠ "java/lang/invoke/MethodHandle" ∧ yX5_tellsUrgency.cls ≠ "java/lang/invoke/VarHandle" ∧ (parseMethodDescriptor yX5_tellsUrgency.desc).map (fun d => d.parameters.length) = some 1 := by decide +kernel
theorem lk_X5_54 : Cond.methodLink RX5 54 yX5_tellsUrgency ∈ wG := wG_t 1046 (by decide +kernel) rfl
theorem im_X5_tellsUrgency : Cond.instanceMethod yX5_tellsUrgency ∈ wG := wG_t 1048 (by decide +kernel) rfl
theorem se_X5_tellsUrgency : Cond.selects RX5 yX5_tellsUrgency yX5_tellsUrgency ∈ wG := wG_p 23 (by decide +kernel) rfl
theorem uw_X7 : ∀ w ∈ u_ws RX7 TX7 9, w ∈ wG := fun w hw => wG_of ((show ∀ w ∈ u_ws RX7 TX7 9, w ∈ lw_tbl by decide +kernel) w hw) ((show ∀ w ∈ u_ws RX7 TX7 9, goodWord w = true by decide +kernel) w hw)
theorem fl_X7_9 : Cond.fieldLink RX7 9 "BusyChip$Work" "kind" "I" ∈ wG := wG_t 110 (by decide +kernel) rfl
theorem fl_X7_15 : Cond.fieldLink RX7 15 "BusyChip$Work" "where" "I" ∈ wG := wG_t 113 (by decide +kernel) rfl
theorem fl_X7_18 : Cond.fieldLink RX7 18 "BusyChip$Work" "side" "I" ∈ wG := wG_t 116 (by decide +kernel) rfl
theorem fl_X7_21 : Cond.fieldLink RX7 21 "BusyChip$Work" "cellTicks" "I" ∈ wG := wG_t 119 (by decide +kernel) rfl
theorem fl_X7_24 : Cond.fieldLink RX7 24 "BusyChip$Work" "allTicks" "I" ∈ wG := wG_t 121 (by decide +kernel) rfl
theorem fl_X7_27 : Cond.fieldLink RX7 27 "BusyChip$Work" "ticksDone" "I" ∈ wG := wG_t 122 (by decide +kernel) rfl
theorem fl_X7_30 : Cond.fieldLink RX7 30 "BusyChip$Work" "urgency" "I" ∈ wG := wG_t 124 (by decide +kernel) rfl
theorem fl_X7_33 : Cond.fieldLink RX7 33 "BusyChip$Work" "asideByClerk" "Z" ∈ wG := wG_t 127 (by decide +kernel) rfl
theorem fl_X7_40 : Cond.fieldLink RX7 40 "BusyChip$Work" "row" "LBusyChip$Row;" ∈ wG := wG_t 130 (by decide +kernel) rfl
theorem lk_X7_52 : Cond.methodLink RX7 52 yX4_become ∈ wG := wG_t 371 (by decide +kernel) rfl
theorem uw_X6 : ∀ w ∈ u_ws RX6 TX6 13, w ∈ wG := fun w hw => wG_of ((show ∀ w ∈ u_ws RX6 TX6 13, w ∈ lw_tbl by decide +kernel) w hw) ((show ∀ w ∈ u_ws RX6 TX6 13, goodWord w = true by decide +kernel) w hw)
theorem fl_X6_12 : Cond.fieldLink RX6 12 "BusyChip$State" "cells" "LBusyChip$Cells;" ∈ wG := wG_t 222 (by decide +kernel) rfl
theorem co_X0_become : Cond.code yX0_become cX0_become 2 none ∈ wG := wG_t 350 (by decide +kernel) rfl
theorem dd_X0_become : yX0_become.cls ≠ "java/lang/invoke/MethodHandle" ∧ yX0_become.cls ≠ "java/lang/invoke/VarHandle" ∧ (parseMethodDescriptor yX0_become.desc).map (fun d => d.parameters.length) = some 1 := by decide +kernel
theorem lk_X6_81 : Cond.methodLink RX6 81 yX0_become ∈ wG := wG_t 347 (by decide +kernel) rfl
theorem im_X0_become : Cond.instanceMethod yX0_become ∈ wG := wG_t 348 (by decide +kernel) rfl
theorem se_X0_become : Cond.selects RX0 yX0_become yX0_become ∈ wG := wG_t 349 (by decide +kernel) rfl
theorem fl_X6_21 : Cond.fieldLink RX6 21 "BusyChip$State" "locks" "LBusyChip$Locks;" ∈ wG := wG_t 224 (by decide +kernel) rfl
theorem in_X2 : Cond.initialized RX2 ∈ wG := wG_t 5 (by decide +kernel) rfl
theorem co_X2_become : Cond.code yX2_become cX2_become 2 none ∈ wG := wG_t 360 (by decide +kernel) rfl
theorem dd_X2_become : yX2_become.cls ≠ "java/lang/invoke/MethodHandle" ∧ yX2_become.cls ≠ "java/lang/invoke/VarHandle" ∧ (parseMethodDescriptor yX2_become.desc).map (fun d => d.parameters.length) = some 1 := by decide +kernel
theorem lk_X6_85 : Cond.methodLink RX6 85 yX2_become ∈ wG := wG_t 357 (by decide +kernel) rfl
theorem im_X2_become : Cond.instanceMethod yX2_become ∈ wG := wG_t 358 (by decide +kernel) rfl
theorem se_X2_become : Cond.selects RX2 yX2_become yX2_become ∈ wG := wG_t 359 (by decide +kernel) rfl
theorem fl_X6_28 : Cond.fieldLink RX6 28 "BusyChip$State" "loaded" "LBusyChip$Row;" ∈ wG := wG_t 226 (by decide +kernel) rfl
theorem lk_X6_88 : Cond.methodLink RX6 88 yX4_become ∈ wG := wG_t 361 (by decide +kernel) rfl
theorem fl_X6_35 : Cond.fieldLink RX6 35 "BusyChip$State" "under" "LBusyChip$Work;" ∈ wG := wG_t 228 (by decide +kernel) rfl
theorem in_X7 : Cond.initialized RX7 ∈ wG := wG_t 7 (by decide +kernel) rfl
theorem co_X7_become : Cond.code yX7_become cX7_become 2 none ∈ wG := wG_t 370 (by decide +kernel) rfl
theorem dd_X7_become : yX7_become.cls ≠ "java/lang/invoke/MethodHandle" ∧ yX7_become.cls ≠ "java/lang/invoke/VarHandle" ∧ (parseMethodDescriptor yX7_become.desc).map (fun d => d.parameters.length) = some 1 := by decide +kernel
theorem lk_X6_91 : Cond.methodLink RX6 91 yX7_become ∈ wG := wG_t 367 (by decide +kernel) rfl
theorem im_X7_become : Cond.instanceMethod yX7_become ∈ wG := wG_t 368 (by decide +kernel) rfl
theorem se_X7_become : Cond.selects RX7 yX7_become yX7_become ∈ wG := wG_t 369 (by decide +kernel) rfl
theorem fl_X6_39 : Cond.fieldLink RX6 39 "BusyChip$State" "aside" "LBusyChip$Work;" ∈ wG := wG_t 230 (by decide +kernel) rfl
theorem fl_X6_45 : Cond.fieldLink RX6 45 "BusyChip$State" "line" "LBusyChip$Line;" ∈ wG := wG_t 232 (by decide +kernel) rfl
theorem co_X1_become : Cond.code yX1_become cX1_become 5 none ∈ wG := wG_t 375 (by decide +kernel) rfl
theorem dd_X1_become : yX1_become.cls ≠ "java/lang/invoke/MethodHandle" ∧ yX1_become.cls ≠ "java/lang/invoke/VarHandle" ∧ (parseMethodDescriptor yX1_become.desc).map (fun d => d.parameters.length) = some 1 := by decide +kernel
theorem lk_X6_94 : Cond.methodLink RX6 94 yX1_become ∈ wG := wG_t 372 (by decide +kernel) rfl
theorem im_X1_become : Cond.instanceMethod yX1_become ∈ wG := wG_t 373 (by decide +kernel) rfl
theorem se_X1_become : Cond.selects RX1 yX1_become yX1_become ∈ wG := wG_t 374 (by decide +kernel) rfl
theorem fl_X6_58 : Cond.fieldLink RX6 58 "BusyChip$State" "settings" "[I" ∈ wG := wG_t 234 (by decide +kernel) rfl
theorem lkm_X6_97 : Cond.methodLink RX6 97 Lib.Math.min.name ∈ wG := wG_t 385 (by decide +kernel) rfl
theorem lkc_X6_103 : Cond.methodLink RX6 103 arraycopyName ∈ wG := wG_t 386 (by decide +kernel) rfl
theorem fl_X6_61 : Cond.fieldLink RX6 61 "BusyChip$State" "armed" "Z" ∈ wG := wG_t 236 (by decide +kernel) rfl
theorem fl_X6_65 : Cond.fieldLink RX6 65 "BusyChip$State" "ticks" "I" ∈ wG := wG_t 238 (by decide +kernel) rfl
theorem fl_X6_69 : Cond.fieldLink RX6 69 "BusyChip$State" "writesEnded" "I" ∈ wG := wG_t 240 (by decide +kernel) rfl
theorem fl_X6_72 : Cond.fieldLink RX6 72 "BusyChip$State" "bitsFallen" "I" ∈ wG := wG_t 242 (by decide +kernel) rfl
theorem fl_X6_75 : Cond.fieldLink RX6 75 "BusyChip$State" "worksLost" "I" ∈ wG := wG_t 244 (by decide +kernel) rfl
theorem fl_X6_78 : Cond.fieldLink RX6 78 "BusyChip$State" "timesAside" "I" ∈ wG := wG_t 246 (by decide +kernel) rfl
theorem fl_X6_109 : Cond.fieldLink RX6 109 "BusyChip$Work" "kind" "I" ∈ wG := wG_t 111 (by decide +kernel) rfl
theorem nw_X6_112 : Cond.methodLinkNest RX6 112 yX8_at "BusyChip" ∈ wN := by decide +kernel
theorem in_X6 : Cond.initialized RX6 ∈ wG := wG_t 2 (by decide +kernel) rfl
theorem co_X6_settingOf : Cond.code yX6_settingOf cX6_settingOf 2 (some .int) ∈ wG := wG_t 607 (by decide +kernel) rfl
theorem dd_X6_settingOf : yX6_settingOf.cls ≠ "java/lang/invoke/MethodHandle" ∧ yX6_settingOf.cls ≠ "java/lang/invoke/VarHandle" ∧ (parseMethodDescriptor yX6_settingOf.desc).map (fun d => d.parameters.length) = some 1 := by decide +kernel
theorem lk_X6_116 : Cond.methodLink RX6 116 yX6_settingOf ∈ wG := wG_t 604 (by decide +kernel) rfl
theorem im_X6_settingOf : Cond.instanceMethod yX6_settingOf ∈ wG := wG_t 605 (by decide +kernel) rfl
theorem se_X6_settingOf : Cond.selects RX6 yX6_settingOf yX6_settingOf ∈ wG := wG_t 606 (by decide +kernel) rfl
theorem fl_X6_120 : Cond.fieldLink RX6 120 "BusyChip$Cells" "erasures" "[I" ∈ wG := wG_t 49 (by decide +kernel) rfl
theorem nw_X6_130 : Cond.methodLinkNest RX6 130 yX8_sectorOf "BusyChip" ∈ wN := by decide +kernel
theorem fl_X6_144 : Cond.fieldLink RX6 144 "BusyChip$Work" "where" "I" ∈ wG := wG_t 114 (by decide +kernel) rfl
theorem co_X6_isBusy : Cond.code yX6_isBusy cX6_isBusy 1 (some .boolean) ∈ wG := wG_t 677 (by decide +kernel) rfl
theorem dd_X6_isBusy : yX6_isBusy.cls ≠ "java/lang/invoke/MethodHandle" ∧ yX6_isBusy.cls ≠ "java/lang/invoke/VarHandle" ∧ (parseMethodDescriptor yX6_isBusy.desc).map (fun d => d.parameters.length) = some 0 := by decide +kernel
theorem lk_X6_123 : Cond.methodLink RX6 123 yX6_isBusy ∈ wG := wG_t 674 (by decide +kernel) rfl
theorem im_X6_isBusy : Cond.instanceMethod yX6_isBusy ∈ wG := wG_t 675 (by decide +kernel) rfl
theorem se_X6_isBusy : Cond.selects RX6 yX6_isBusy yX6_isBusy ∈ wG := wG_t 676 (by decide +kernel) rfl
theorem co_X2_hold : Cond.code yX2_hold cX2_hold 3 (some .boolean) ∈ wG := wG_t 587 (by decide +kernel) rfl
theorem dd_X2_hold : yX2_hold.cls ≠ "java/lang/invoke/MethodHandle" ∧ yX2_hold.cls ≠ "java/lang/invoke/VarHandle" ∧ (parseMethodDescriptor yX2_hold.desc).map (fun d => d.parameters.length) = some 1 := by decide +kernel
theorem lk_X6_133 : Cond.methodLink RX6 133 yX2_hold ∈ wG := wG_t 679 (by decide +kernel) rfl
theorem im_X2_hold : Cond.instanceMethod yX2_hold ∈ wG := wG_t 585 (by decide +kernel) rfl
theorem se_X2_hold : Cond.selects RX2 yX2_hold yX2_hold ∈ wG := wG_t 586 (by decide +kernel) rfl
theorem co_X6_asideAllows : Cond.code yX6_asideAllows cX6_asideAllows 3 (some .boolean) ∈ wG := wG_t 683 (by decide +kernel) rfl
theorem dd_X6_asideAllows : yX6_asideAllows.cls ≠ "java/lang/invoke/MethodHandle" ∧ yX6_asideAllows.cls ≠ "java/lang/invoke/VarHandle" ∧ (parseMethodDescriptor yX6_asideAllows.desc).map (fun d => d.parameters.length) = some 2 := by decide +kernel
theorem lk_X6_137 : Cond.methodLink RX6 137 yX6_asideAllows ∈ wG := wG_t 680 (by decide +kernel) rfl
theorem im_X6_asideAllows : Cond.instanceMethod yX6_asideAllows ∈ wG := wG_t 682 (by decide +kernel) rfl
theorem se_X6_asideAllows : Cond.selects RX6 yX6_asideAllows yX6_asideAllows ∈ wG := wG_p 4 (by decide +kernel) rfl
theorem fl_X6_141 : Cond.fieldLink RX6 141 "BusyChip$Row" "size" "I" ∈ wG := wG_t 96 (by decide +kernel) rfl
theorem fl_X6_127 : Cond.fieldLink RX6 127 "BusyChip$Locks" "frozen" "Z" ∈ wG := wG_t 76 (by decide +kernel) rfl
theorem co_X7_start : Cond.code yX7_start cX7_start 5 none ∈ wG := wG_t 743 (by decide +kernel) rfl
theorem dd_X7_start : yX7_start.cls ≠ "java/lang/invoke/MethodHandle" ∧ yX7_start.cls ≠ "java/lang/invoke/VarHandle" ∧ (parseMethodDescriptor yX7_start.desc).map (fun d => d.parameters.length) = some 4 := by decide +kernel
theorem lk_X7_48 : Cond.methodLink RX7 48 yX7_start ∈ wG := wG_t 740 (by decide +kernel) rfl
theorem im_X7_start : Cond.instanceMethod yX7_start ∈ wG := wG_t 741 (by decide +kernel) rfl
theorem se_X7_start : Cond.selects RX7 yX7_start yX7_start ∈ wG := wG_t 742 (by decide +kernel) rfl
theorem fl_X6_147 : Cond.fieldLink RX6 147 "BusyChip$Work" "asideByClerk" "Z" ∈ wG := wG_t 128 (by decide +kernel) rfl
theorem co_X7_end : Cond.code yX7_end cX7_end 1 none ∈ wG := wG_t 739 (by decide +kernel) rfl
theorem dd_X7_end : yX7_end.cls ≠ "java/lang/invoke/MethodHandle" ∧ yX7_end.cls ≠ "java/lang/invoke/VarHandle" ∧ (parseMethodDescriptor yX7_end.desc).map (fun d => d.parameters.length) = some 0 := by decide +kernel
theorem lk_X6_150 : Cond.methodLink RX6 150 yX7_end ∈ wG := wG_t 736 (by decide +kernel) rfl
theorem im_X7_end : Cond.instanceMethod yX7_end ∈ wG := wG_t 737 (by decide +kernel) rfl
theorem se_X7_end : Cond.selects RX7 yX7_end yX7_end ∈ wG := wG_t 738 (by decide +kernel) rfl
theorem co_X0_doubtSector : Cond.code yX0_doubtSector cX0_doubtSector 2 none ∈ wG := wG_t 961 (by decide +kernel) rfl
theorem dd_X0_doubtSector : yX0_doubtSector.cls ≠ "java/lang/invoke/MethodHandle" ∧ yX0_doubtSector.cls ≠ "java/lang/invoke/VarHandle" ∧ (parseMethodDescriptor yX0_doubtSector.desc).map (fun d => d.parameters.length) = some 1 := by decide +kernel
theorem lk_X6_161 : Cond.methodLink RX6 161 yX0_doubtSector ∈ wG := wG_t 958 (by decide +kernel) rfl
theorem im_X0_doubtSector : Cond.instanceMethod yX0_doubtSector ∈ wG := wG_t 959 (by decide +kernel) rfl
theorem se_X0_doubtSector : Cond.selects RX0 yX0_doubtSector yX0_doubtSector ∈ wG := wG_t 960 (by decide +kernel) rfl
theorem co_X0_doubtPage : Cond.code yX0_doubtPage cX0_doubtPage 2 none ∈ wG := wG_t 957 (by decide +kernel) rfl
theorem dd_X0_doubtPage : yX0_doubtPage.cls ≠ "java/lang/invoke/MethodHandle" ∧ yX0_doubtPage.cls ≠ "java/lang/invoke/VarHandle" ∧ (parseMethodDescriptor yX0_doubtPage.desc).map (fun d => d.parameters.length) = some 1 := by decide +kernel
theorem lk_X6_157 : Cond.methodLink RX6 157 yX0_doubtPage ∈ wG := wG_t 954 (by decide +kernel) rfl
theorem im_X0_doubtPage : Cond.instanceMethod yX0_doubtPage ∈ wG := wG_t 955 (by decide +kernel) rfl
theorem se_X0_doubtPage : Cond.selects RX0 yX0_doubtPage yX0_doubtPage ∈ wG := wG_t 956 (by decide +kernel) rfl
theorem co_X6_lose : Cond.code yX6_lose cX6_lose 2 (some .int) ∈ wG := wG_t 953 (by decide +kernel) rfl
theorem dd_X6_lose : yX6_lose.cls ≠ "java/lang/invoke/MethodHandle" ∧ yX6_lose.cls ≠ "java/lang/invoke/VarHandle" ∧ (parseMethodDescriptor yX6_lose.desc).map (fun d => d.parameters.length) = some 1 := by decide +kernel
theorem lk_X6_153 : Cond.methodLink RX6 153 yX6_lose ∈ wG := wG_t 950 (by decide +kernel) rfl
theorem im_X6_lose : Cond.instanceMethod yX6_lose ∈ wG := wG_t 952 (by decide +kernel) rfl
theorem se_X6_lose : Cond.selects RX6 yX6_lose yX6_lose ∈ wG := wG_p 13 (by decide +kernel) rfl
theorem co_X4_span : Cond.code yX4_span cX4_span 1 (some .int) ∈ wG := wG_t 698 (by decide +kernel) rfl
theorem dd_X4_span : yX4_span.cls ≠ "java/lang/invoke/MethodHandle" ∧ yX4_span.cls ≠ "java/lang/invoke/VarHandle" ∧ (parseMethodDescriptor yX4_span.desc).map (fun d => d.parameters.length) = some 0 := by decide +kernel
theorem lk_X7_44 : Cond.methodLink RX7 44 yX4_span ∈ wG := wG_t 756 (by decide +kernel) rfl
theorem im_X4_span : Cond.instanceMethod yX4_span ∈ wG := wG_t 696 (by decide +kernel) rfl
theorem se_X4_span : Cond.selects RX4 yX4_span yX4_span ∈ wG := wG_t 697 (by decide +kernel) rfl
theorem lk_X6_203 : Cond.methodLink RX6 203 yX1_orderAt ∈ wG := wG_t 715 (by decide +kernel) rfl
theorem fl_X6_214 : Cond.fieldLink RX6 214 "BusyChip$Order" "kind" "I" ∈ wG := wG_t 171 (by decide +kernel) rfl
theorem fl_X6_215 : Cond.fieldLink RX6 215 "BusyChip$Order" "where" "I" ∈ wG := wG_t 175 (by decide +kernel) rfl
theorem co_X6_eraseTicks : Cond.code yX6_eraseTicks cX6_eraseTicks 2 (some .int) ∈ wG := wG_t 603 (by decide +kernel) rfl
theorem dd_X6_eraseTicks : yX6_eraseTicks.cls ≠ "java/lang/invoke/MethodHandle" ∧ yX6_eraseTicks.cls ≠ "java/lang/invoke/VarHandle" ∧ (parseMethodDescriptor yX6_eraseTicks.desc).map (fun d => d.parameters.length) = some 1 := by decide +kernel
theorem lk_X6_223 : Cond.methodLink RX6 223 yX6_eraseTicks ∈ wG := wG_t 757 (by decide +kernel) rfl
theorem im_X6_eraseTicks : Cond.instanceMethod yX6_eraseTicks ∈ wG := wG_t 601 (by decide +kernel) rfl
theorem se_X6_eraseTicks : Cond.selects RX6 yX6_eraseTicks yX6_eraseTicks ∈ wG := wG_t 602 (by decide +kernel) rfl
theorem fl_X6_211 : Cond.fieldLink RX6 211 "BusyChip$Order" "urgency" "I" ∈ wG := wG_t 179 (by decide +kernel) rfl
theorem lk_X6_226 : Cond.methodLink RX6 226 yX7_start ∈ wG := wG_t 758 (by decide +kernel) rfl
theorem co_X1_leave : Cond.code yX1_leave cX1_leave 4 none ∈ wG := wG_t 762 (by decide +kernel) rfl
theorem dd_X1_leave : yX1_leave.cls ≠ "java/lang/invoke/MethodHandle" ∧ yX1_leave.cls ≠ "java/lang/invoke/VarHandle" ∧ (parseMethodDescriptor yX1_leave.desc).map (fun d => d.parameters.length) = some 1 := by decide +kernel
theorem lk_X6_230 : Cond.methodLink RX6 230 yX1_leave ∈ wG := wG_t 759 (by decide +kernel) rfl
theorem im_X1_leave : Cond.instanceMethod yX1_leave ∈ wG := wG_t 760 (by decide +kernel) rfl
theorem se_X1_leave : Cond.selects RX1 yX1_leave yX1_leave ∈ wG := wG_t 761 (by decide +kernel) rfl
theorem fl_X6_216 : Cond.fieldLink RX6 216 "BusyChip$Order" "row" "LBusyChip$Row;" ∈ wG := wG_t 186 (by decide +kernel) rfl
theorem co_X7_startWrite : Cond.code yX7_startWrite cX7_startWrite 5 none ∈ wG := wG_t 755 (by decide +kernel) rfl
theorem dd_X7_startWrite : yX7_startWrite.cls ≠ "java/lang/invoke/MethodHandle" ∧ yX7_startWrite.cls ≠ "java/lang/invoke/VarHandle" ∧ (parseMethodDescriptor yX7_startWrite.desc).map (fun d => d.parameters.length) = some 4 := by decide +kernel
theorem lk_X6_219 : Cond.methodLink RX6 219 yX7_startWrite ∈ wG := wG_t 752 (by decide +kernel) rfl
theorem im_X7_startWrite : Cond.instanceMethod yX7_startWrite ∈ wG := wG_t 753 (by decide +kernel) rfl
theorem se_X7_startWrite : Cond.selects RX7 yX7_startWrite yX7_startWrite ∈ wG := wG_t 754 (by decide +kernel) rfl
theorem fl_X6_202 : Cond.fieldLink RX6 202 "BusyChip$Line" "size" "I" ∈ wG := wG_t 204 (by decide +kernel) rfl
theorem co_X6_isOpen : Cond.code yX6_isOpen cX6_isOpen 2 (some .boolean) ∈ wG := wG_t 719 (by decide +kernel) rfl
theorem dd_X6_isOpen : yX6_isOpen.cls ≠ "java/lang/invoke/MethodHandle" ∧ yX6_isOpen.cls ≠ "java/lang/invoke/VarHandle" ∧ (parseMethodDescriptor yX6_isOpen.desc).map (fun d => d.parameters.length) = some 1 := by decide +kernel
theorem lk_X6_207 : Cond.methodLink RX6 207 yX6_isOpen ∈ wG := wG_t 716 (by decide +kernel) rfl
theorem im_X6_isOpen : Cond.instanceMethod yX6_isOpen ∈ wG := wG_t 718 (by decide +kernel) rfl
theorem se_X6_isOpen : Cond.selects RX6 yX6_isOpen yX6_isOpen ∈ wG := wG_p 6 (by decide +kernel) rfl
theorem fl_X6_186 : Cond.fieldLink RX6 186 "BusyChip$Work" "urgency" "I" ∈ wG := wG_t 125 (by decide +kernel) rfl
theorem co_X6_letGoOn : Cond.code yX6_letGoOn cX6_letGoOn 1 none ∈ wG := wG_t 747 (by decide +kernel) rfl
theorem dd_X6_letGoOn : yX6_letGoOn.cls ≠ "java/lang/invoke/MethodHandle" ∧ yX6_letGoOn.cls ≠ "java/lang/invoke/VarHandle" ∧ (parseMethodDescriptor yX6_letGoOn.desc).map (fun d => d.parameters.length) = some 0 := by decide +kernel
theorem lk_X6_199 : Cond.methodLink RX6 199 yX6_letGoOn ∈ wG := wG_t 744 (by decide +kernel) rfl
theorem im_X6_letGoOn : Cond.instanceMethod yX6_letGoOn ∈ wG := wG_t 745 (by decide +kernel) rfl
theorem se_X6_letGoOn : Cond.selects RX6 yX6_letGoOn yX6_letGoOn ∈ wG := wG_t 746 (by decide +kernel) rfl
theorem co_X6_foremostPressing : Cond.code yX6_foremostPressing cX6_foremostPressing 5 (some .int) ∈ wG := wG_t 731 (by decide +kernel) rfl
theorem dd_X6_foremostPressing : yX6_foremostPressing.cls ≠ "java/lang/invoke/MethodHandle" ∧ yX6_foremostPressing.cls ≠ "java/lang/invoke/VarHandle" ∧ (parseMethodDescriptor yX6_foremostPressing.desc).map (fun d => d.parameters.length) = some 1 := by decide +kernel
theorem lk_X6_189 : Cond.methodLink RX6 189 yX6_foremostPressing ∈ wG := wG_t 728 (by decide +kernel) rfl
theorem im_X6_foremostPressing : Cond.instanceMethod yX6_foremostPressing ∈ wG := wG_t 730 (by decide +kernel) rfl
theorem se_X6_foremostPressing : Cond.selects RX6 yX6_foremostPressing yX6_foremostPressing ∈ wG := wG_p 8 (by decide +kernel) rfl
theorem co_X6_foremost : Cond.code yX6_foremost cX6_foremost 2 (some .int) ∈ wG := wG_t 714 (by decide +kernel) rfl
theorem dd_X6_foremost : yX6_foremost.cls ≠ "java/lang/invoke/MethodHandle" ∧ yX6_foremost.cls ≠ "java/lang/invoke/VarHandle" ∧ (parseMethodDescriptor yX6_foremost.desc).map (fun d => d.parameters.length) = some 0 := by decide +kernel
theorem lk_X6_196 : Cond.methodLink RX6 196 yX6_foremost ∈ wG := wG_t 711 (by decide +kernel) rfl
theorem im_X6_foremost : Cond.instanceMethod yX6_foremost ∈ wG := wG_t 713 (by decide +kernel) rfl
theorem se_X6_foremost : Cond.selects RX6 yX6_foremost yX6_foremost ∈ wG := wG_p 5 (by decide +kernel) rfl
theorem co_X6_setAside : Cond.code yX6_setAside cX6_setAside 2 none ∈ wG := wG_t 735 (by decide +kernel) rfl
theorem dd_X6_setAside : yX6_setAside.cls ≠ "java/lang/invoke/MethodHandle" ∧ yX6_setAside.cls ≠ "java/lang/invoke/VarHandle" ∧ (parseMethodDescriptor yX6_setAside.desc).map (fun d => d.parameters.length) = some 1 := by decide +kernel
theorem lk_X6_192 : Cond.methodLink RX6 192 yX6_setAside ∈ wG := wG_t 732 (by decide +kernel) rfl
theorem im_X6_setAside : Cond.instanceMethod yX6_setAside ∈ wG := wG_t 733 (by decide +kernel) rfl
theorem se_X6_setAside : Cond.selects RX6 yX6_setAside yX6_setAside ∈ wG := wG_t 734 (by decide +kernel) rfl
theorem fl_X6_250 : Cond.fieldLink RX6 250 "BusyChip$Locks" "level" "I" ∈ wG := wG_t 70 (by decide +kernel) rfl
theorem fl_X6_253 : Cond.fieldLink RX6 253 "BusyChip$Work" "side" "I" ∈ wG := wG_t 118 (by decide +kernel) rfl
theorem fl_X6_256 : Cond.fieldLink RX6 256 "BusyChip$Locks" "side" "I" ∈ wG := wG_t 73 (by decide +kernel) rfl
theorem co_X0_endErase : Cond.code yX0_endErase cX0_endErase 7 none ∈ wG := wG_t 787 (by decide +kernel) rfl
theorem dd_X0_endErase : yX0_endErase.cls ≠ "java/lang/invoke/MethodHandle" ∧ yX0_endErase.cls ≠ "java/lang/invoke/VarHandle" ∧ (parseMethodDescriptor yX0_endErase.desc).map (fun d => d.parameters.length) = some 2 := by decide +kernel
theorem lk_X6_246 : Cond.methodLink RX6 246 yX0_endErase ∈ wG := wG_t 784 (by decide +kernel) rfl
theorem im_X0_endErase : Cond.instanceMethod yX0_endErase ∈ wG := wG_t 785 (by decide +kernel) rfl
theorem se_X0_endErase : Cond.selects RX0 yX0_endErase yX0_endErase ∈ wG := wG_t 786 (by decide +kernel) rfl
theorem fl_X6_233 : Cond.fieldLink RX6 233 "BusyChip$Work" "cellTicks" "I" ∈ wG := wG_t 120 (by decide +kernel) rfl
theorem fl_X6_171 : Cond.fieldLink RX6 171 "BusyChip$Work" "ticksDone" "I" ∈ wG := wG_t 123 (by decide +kernel) rfl
theorem co_X8_roundPage : Cond.code yX8_roundPage cX8_roundPage 2 (some .int) ∈ wG := wG_t 702 (by decide +kernel) rfl
theorem dd_X8_roundPage : yX8_roundPage.cls ≠ "java/lang/invoke/MethodHandle" ∧ yX8_roundPage.cls ≠ "java/lang/invoke/VarHandle" ∧ (parseMethodDescriptor yX8_roundPage.desc).map (fun d => d.parameters.length) = some 2 := by decide +kernel
theorem st_X8_roundPage : Cond.static yX8_roundPage ∈ wG := wG_t 701 (by decide +kernel) rfl
theorem nw_X6_236 : Cond.methodLinkNest RX6 236 yX8_roundPage "BusyChip" ∈ wN := by decide +kernel
theorem fl_X6_239 : Cond.fieldLink RX6 239 "BusyChip$Work" "row" "LBusyChip$Row;" ∈ wG := wG_t 131 (by decide +kernel) rfl
theorem co_X4_valueFor : Cond.code yX4_valueFor cX4_valueFor 3 (some .int) ∈ wG := wG_t 573 (by decide +kernel) rfl
theorem dd_X4_valueFor : yX4_valueFor.cls ≠ "java/lang/invoke/MethodHandle" ∧ yX4_valueFor.cls ≠ "java/lang/invoke/VarHandle" ∧ (parseMethodDescriptor yX4_valueFor.desc).map (fun d => d.parameters.length) = some 1 := by decide +kernel
theorem lk_X6_240 : Cond.methodLink RX6 240 yX4_valueFor ∈ wG := wG_t 699 (by decide +kernel) rfl
theorem im_X4_valueFor : Cond.instanceMethod yX4_valueFor ∈ wG := wG_t 571 (by decide +kernel) rfl
theorem se_X4_valueFor : Cond.selects RX4 yX4_valueFor yX4_valueFor ∈ wG := wG_t 572 (by decide +kernel) rfl
theorem lk_X6_243 : Cond.methodLink RX6 243 yX0_fall ∈ wG := wG_t 767 (by decide +kernel) rfl
theorem co_X6_clerkChooses : Cond.code yX6_clerkChooses cX6_clerkChooses 3 (some .int) ∈ wG := wG_t 727 (by decide +kernel) rfl
theorem dd_X6_clerkChooses : yX6_clerkChooses.cls ≠ "java/lang/invoke/MethodHandle" ∧ yX6_clerkChooses.cls ≠ "java/lang/invoke/VarHandle" ∧ (parseMethodDescriptor yX6_clerkChooses.desc).map (fun d => d.parameters.length) = some 0 := by decide +kernel
theorem lk_X6_164 : Cond.methodLink RX6 164 yX6_clerkChooses ∈ wG := wG_t 724 (by decide +kernel) rfl
theorem im_X6_clerkChooses : Cond.instanceMethod yX6_clerkChooses ∈ wG := wG_t 726 (by decide +kernel) rfl
theorem se_X6_clerkChooses : Cond.selects RX6 yX6_clerkChooses yX6_clerkChooses ∈ wG := wG_p 7 (by decide +kernel) rfl
theorem co_X7_left : Cond.code yX7_left cX7_left 1 (some .int) ∈ wG := wG_t 624 (by decide +kernel) rfl
theorem dd_X7_left : yX7_left.cls ≠ "java/lang/invoke/MethodHandle" ∧ yX7_left.cls ≠ "java/lang/invoke/VarHandle" ∧ (parseMethodDescriptor yX7_left.desc).map (fun d => d.parameters.length) = some 0 := by decide +kernel
theorem lk_X6_180 : Cond.methodLink RX6 180 yX7_left ∈ wG := wG_t 779 (by decide +kernel) rfl
theorem im_X7_left : Cond.instanceMethod yX7_left ∈ wG := wG_t 622 (by decide +kernel) rfl
theorem se_X7_left : Cond.selects RX7 yX7_left yX7_left ∈ wG := wG_t 623 (by decide +kernel) rfl
theorem co_X6_endWork : Cond.code yX6_endWork cX6_endWork 1 none ∈ wG := wG_t 783 (by decide +kernel) rfl
theorem dd_X6_endWork : yX6_endWork.cls ≠ "java/lang/invoke/MethodHandle" ∧ yX6_endWork.cls ≠ "java/lang/invoke/VarHandle" ∧ (parseMethodDescriptor yX6_endWork.desc).map (fun d => d.parameters.length) = some 0 := by decide +kernel
theorem lk_X6_183 : Cond.methodLink RX6 183 yX6_endWork ∈ wG := wG_t 780 (by decide +kernel) rfl
theorem im_X6_endWork : Cond.instanceMethod yX6_endWork ∈ wG := wG_t 782 (by decide +kernel) rfl
theorem se_X6_endWork : Cond.selects RX6 yX6_endWork yX6_endWork ∈ wG := wG_p 11 (by decide +kernel) rfl
theorem co_X0_fallWholly : Cond.code yX0_fallWholly cX0_fallWholly 4 (some .int) ∈ wG := wG_t 777 (by decide +kernel) rfl
theorem dd_X0_fallWholly : yX0_fallWholly.cls ≠ "java/lang/invoke/MethodHandle" ∧ yX0_fallWholly.cls ≠ "java/lang/invoke/VarHandle" ∧ (parseMethodDescriptor yX0_fallWholly.desc).map (fun d => d.parameters.length) = some 1 := by decide +kernel
theorem lk_X6_177 : Cond.methodLink RX6 177 yX0_fallWholly ∈ wG := wG_t 774 (by decide +kernel) rfl
theorem im_X0_fallWholly : Cond.instanceMethod yX0_fallWholly ∈ wG := wG_t 775 (by decide +kernel) rfl
theorem se_X0_fallWholly : Cond.selects RX0 yX0_fallWholly yX0_fallWholly ∈ wG := wG_t 776 (by decide +kernel) rfl
theorem co_X6_goOnWriting : Cond.code yX6_goOnWriting cX6_goOnWriting 3 none ∈ wG := wG_t 766 (by decide +kernel) rfl
theorem dd_X6_goOnWriting : yX6_goOnWriting.cls ≠ "java/lang/invoke/MethodHandle" ∧ yX6_goOnWriting.cls ≠ "java/lang/invoke/VarHandle" ∧ (parseMethodDescriptor yX6_goOnWriting.desc).map (fun d => d.parameters.length) = some 0 := by decide +kernel
theorem lk_X6_174 : Cond.methodLink RX6 174 yX6_goOnWriting ∈ wG := wG_t 763 (by decide +kernel) rfl
theorem im_X6_goOnWriting : Cond.instanceMethod yX6_goOnWriting ∈ wG := wG_t 765 (by decide +kernel) rfl
theorem se_X6_goOnWriting : Cond.selects RX6 yX6_goOnWriting yX6_goOnWriting ∈ wG := wG_p 10 (by decide +kernel) rfl
theorem co_X6_beginOrder : Cond.code yX6_beginOrder cX6_beginOrder 3 none ∈ wG := wG_t 751 (by decide +kernel) rfl
theorem dd_X6_beginOrder : yX6_beginOrder.cls ≠ "java/lang/invoke/MethodHandle" ∧ yX6_beginOrder.cls ≠ "java/lang/invoke/VarHandle" ∧ (parseMethodDescriptor yX6_beginOrder.desc).map (fun d => d.parameters.length) = some 1 := by decide +kernel
theorem lk_X6_168 : Cond.methodLink RX6 168 yX6_beginOrder ∈ wG := wG_t 748 (by decide +kernel) rfl
theorem im_X6_beginOrder : Cond.instanceMethod yX6_beginOrder ∈ wG := wG_t 750 (by decide +kernel) rfl
theorem se_X6_beginOrder : Cond.selects RX6 yX6_beginOrder yX6_beginOrder ∈ wG := wG_p 9 (by decide +kernel) rfl
theorem lk_X6_257 : Cond.methodLink RX6 257 yX4_span ∈ wG := wG_t 695 (by decide +kernel) rfl
theorem fl_X6_260 : Cond.fieldLink RX6 260 "BusyChip$Cells" "held" "[I" ∈ wG := wG_t 44 (by decide +kernel) rfl
theorem uw_X8 : ∀ w ∈ u_ws RX8 TX8 10, w ∈ wG := fun w hw => wG_of ((show ∀ w ∈ u_ws RX8 TX8 10, w ∈ lw_tbl by decide +kernel) w hw) ((show ∀ w ∈ u_ws RX8 TX8 10, goodWord w = true by decide +kernel) w hw)
theorem fl_X8_26 : Cond.fieldLink RX8 26 "BusyChip" "saved" "[LBusyChip$State;" ∈ wG := wG_t 312 (by decide +kernel) rfl
theorem fl_X8_30 : Cond.fieldLink RX8 30 "BusyChip" "savedStates" "I" ∈ wG := wG_t 313 (by decide +kernel) rfl
theorem co_X8_dropOldest : Cond.code yX8_dropOldest cX8_dropOldest 3 none ∈ wG := wG_t 523 (by decide +kernel) rfl
theorem dd_X8_dropOldest : yX8_dropOldest.cls ≠ "java/lang/invoke/MethodHandle" ∧ yX8_dropOldest.cls ≠ "java/lang/invoke/VarHandle" ∧ (parseMethodDescriptor yX8_dropOldest.desc).map (fun d => d.parameters.length) = some 0 := by decide +kernel
theorem lk_X8_469 : Cond.methodLink RX8 469 yX8_dropOldest ∈ wG := wG_t 520 (by decide +kernel) rfl
theorem im_X8_dropOldest : Cond.instanceMethod yX8_dropOldest ∈ wG := wG_t 522 (by decide +kernel) rfl
theorem se_X8_dropOldest : Cond.selects RX8 yX8_dropOldest yX8_dropOldest ∈ wG := wG_p 2 (by decide +kernel) rfl
theorem fl_X8_10 : Cond.fieldLink RX8 10 "BusyChip" "now" "LBusyChip$State;" ∈ wG := wG_t 308 (by decide +kernel) rfl
theorem co_X6_become : Cond.code yX6_become cX6_become 2 none ∈ wG := wG_t 346 (by decide +kernel) rfl
theorem dd_X6_become : yX6_become.cls ≠ "java/lang/invoke/MethodHandle" ∧ yX6_become.cls ≠ "java/lang/invoke/VarHandle" ∧ (parseMethodDescriptor yX6_become.desc).map (fun d => d.parameters.length) = some 1 := by decide +kernel
theorem lk_X8_261 : Cond.methodLink RX8 261 yX6_become ∈ wG := wG_t 343 (by decide +kernel) rfl
theorem im_X6_become : Cond.instanceMethod yX6_become ∈ wG := wG_t 344 (by decide +kernel) rfl
theorem se_X6_become : Cond.selects RX6 yX6_become yX6_become ∈ wG := wG_t 345 (by decide +kernel) rfl
theorem co_X8_save : Cond.code yX8_save cX8_save 2 none ∈ wG := wG_t 519 (by decide +kernel) rfl
theorem dd_X8_save : yX8_save.cls ≠ "java/lang/invoke/MethodHandle" ∧ yX8_save.cls ≠ "java/lang/invoke/VarHandle" ∧ (parseMethodDescriptor yX8_save.desc).map (fun d => d.parameters.length) = some 0 := by decide +kernel
theorem lk_X8_63 : Cond.methodLink RX8 63 yX8_save ∈ wG := wG_t 516 (by decide +kernel) rfl
theorem im_X8_save : Cond.instanceMethod yX8_save ∈ wG := wG_t 518 (by decide +kernel) rfl
theorem se_X8_save : Cond.selects RX8 yX8_save yX8_save ∈ wG := wG_p 1 (by decide +kernel) rfl
theorem co_X6_losePower : Cond.code yX6_losePower cX6_losePower 2 (some .int) ∈ wG := wG_t 949 (by decide +kernel) rfl
theorem dd_X6_losePower : yX6_losePower.cls ≠ "java/lang/invoke/MethodHandle" ∧ yX6_losePower.cls ≠ "java/lang/invoke/VarHandle" ∧ (parseMethodDescriptor yX6_losePower.desc).map (fun d => d.parameters.length) = some 0 := by decide +kernel
theorem lk_X8_173 : Cond.methodLink RX8 173 yX6_losePower ∈ wG := wG_t 946 (by decide +kernel) rfl
theorem im_X6_losePower : Cond.instanceMethod yX6_losePower ∈ wG := wG_t 947 (by decide +kernel) rfl
theorem se_X6_losePower : Cond.selects RX6 yX6_losePower yX6_losePower ∈ wG := wG_t 948 (by decide +kernel) rfl
theorem fl_X8_38 : Cond.fieldLink RX8 38 "BusyChip" "length" "I" ∈ wG := wG_t 315 (by decide +kernel) rfl
theorem fl_X8_44 : Cond.fieldLink RX8 44 "BusyChip" "scribe" "LBusyChip$Scribe;" ∈ wG := wG_t 316 (by decide +kernel) rfl
theorem co_X5_start : Cond.code yX5_start cX5_start 1 none ∈ wG := wG_t 1001 (by decide +kernel) rfl
theorem dd_X5_start : yX5_start.cls ≠ "java/lang/invoke/MethodHandle" ∧ yX5_start.cls ≠ "java/lang/invoke/VarHandle" ∧ (parseMethodDescriptor yX5_start.desc).map (fun d => d.parameters.length) = some 0 := by decide +kernel
theorem lk_X8_244 : Cond.methodLink RX8 244 yX5_start ∈ wG := wG_t 998 (by decide +kernel) rfl
theorem im_X5_start : Cond.instanceMethod yX5_start ∈ wG := wG_t 999 (by decide +kernel) rfl
theorem se_X5_start : Cond.selects RX5 yX5_start yX5_start ∈ wG := wG_t 1000 (by decide +kernel) rfl
theorem fl_X8_34 : Cond.fieldLink RX8 34 "BusyChip" "buffer" "[C" ∈ wG := wG_t 314 (by decide +kernel) rfl
theorem co_X5_goesOnWith : Cond.code yX5_goesOnWith cX5_goesOnWith 2 (some .boolean) ∈ wG := wG_t 1005 (by decide +kernel) rfl
theorem dd_X5_goesOnWith : yX5_goesOnWith.cls ≠ "java/lang/invoke/MethodHandle" ∧ yX5_goesOnWith.cls ≠ "java/lang/invoke/VarHandle" ∧ (parseMethodDescriptor yX5_goesOnWith.desc).map (fun d => d.parameters.length) = some 1 := by decide +kernel
theorem lk_X8_246 : Cond.methodLink RX8 246 yX5_goesOnWith ∈ wG := wG_t 1002 (by decide +kernel) rfl
theorem im_X5_goesOnWith : Cond.instanceMethod yX5_goesOnWith ∈ wG := wG_t 1003 (by decide +kernel) rfl
theorem se_X5_goesOnWith : Cond.selects RX5 yX5_goesOnWith yX5_goesOnWith ∈ wG := wG_t 1004 (by decide +kernel) rfl
theorem fl_X8_19 : Cond.fieldLink RX8 19 "BusyChip" "snapshot" "LBusyChip$State;" ∈ wG := wG_t 310 (by decide +kernel) rfl
theorem fl_X8_22 : Cond.fieldLink RX8 22 "BusyChip" "hasSnapshot" "Z" ∈ wG := wG_t 311 (by decide +kernel) rfl
theorem fl_X8_191 : Cond.fieldLink RX8 191 "BusyChip$State" "ticks" "I" ∈ wG := wG_t 239 (by decide +kernel) rfl
theorem fl_X8_147 : Cond.fieldLink RX8 147 "BusyChip$State" "locks" "LBusyChip$Locks;" ∈ wG := wG_t 225 (by decide +kernel) rfl
theorem lk_X8_302 : Cond.methodLink RX8 302 yX2_hold ∈ wG := wG_t 584 (by decide +kernel) rfl
theorem co_X6_missesAt : Cond.code yX6_missesAt cX6_missesAt 6 (some .int) ∈ wG := wG_t 694 (by decide +kernel) rfl
theorem dd_X6_missesAt : yX6_missesAt.cls ≠ "java/lang/invoke/MethodHandle" ∧ yX6_missesAt.cls ≠ "java/lang/invoke/VarHandle" ∧ (parseMethodDescriptor yX6_missesAt.desc).map (fun d => d.parameters.length) = some 1 := by decide +kernel
theorem lk_X8_390 : Cond.methodLink RX8 390 yX6_missesAt ∈ wG := wG_t 691 (by decide +kernel) rfl
theorem im_X6_missesAt : Cond.instanceMethod yX6_missesAt ∈ wG := wG_t 692 (by decide +kernel) rfl
theorem se_X6_missesAt : Cond.selects RX6 yX6_missesAt yX6_missesAt ∈ wG := wG_t 693 (by decide +kernel) rfl
theorem fl_X8_16 : Cond.fieldLink RX8 16 "BusyChip" "foreseen" "LBusyChip$State;" ∈ wG := wG_t 309 (by decide +kernel) rfl
theorem co_X6_isFree : Cond.code yX6_isFree cX6_isFree 2 (some .boolean) ∈ wG := wG_t 710 (by decide +kernel) rfl
theorem dd_X6_isFree : yX6_isFree.cls ≠ "java/lang/invoke/MethodHandle" ∧ yX6_isFree.cls ≠ "java/lang/invoke/VarHandle" ∧ (parseMethodDescriptor yX6_isFree.desc).map (fun d => d.parameters.length) = some 0 := by decide +kernel
theorem lk_X8_393 : Cond.methodLink RX8 393 yX6_isFree ∈ wG := wG_t 707 (by decide +kernel) rfl
theorem im_X6_isFree : Cond.instanceMethod yX6_isFree ∈ wG := wG_t 708 (by decide +kernel) rfl
theorem se_X6_isFree : Cond.selects RX6 yX6_isFree yX6_isFree ∈ wG := wG_t 709 (by decide +kernel) rfl
theorem co_X6_tick : Cond.code yX6_tick cX6_tick 2 (some .boolean) ∈ wG := wG_t 723 (by decide +kernel) rfl
theorem dd_X6_tick : yX6_tick.cls ≠ "java/lang/invoke/MethodHandle" ∧ yX6_tick.cls ≠ "java/lang/invoke/VarHandle" ∧ (parseMethodDescriptor yX6_tick.desc).map (fun d => d.parameters.length) = some 0 := by decide +kernel
theorem lk_X8_213 : Cond.methodLink RX8 213 yX6_tick ∈ wG := wG_t 720 (by decide +kernel) rfl
theorem im_X6_tick : Cond.instanceMethod yX6_tick ∈ wG := wG_t 721 (by decide +kernel) rfl
theorem se_X6_tick : Cond.selects RX6 yX6_tick yX6_tick ∈ wG := wG_t 722 (by decide +kernel) rfl
theorem fl_X8_277 : Cond.fieldLink RX8 277 "BusyChip$State" "cells" "LBusyChip$Cells;" ∈ wG := wG_t 223 (by decide +kernel) rfl
theorem fl_X8_299 : Cond.fieldLink RX8 299 "BusyChip$Cells" "erasures" "[I" ∈ wG := wG_t 50 (by decide +kernel) rfl
theorem lk_X8_224 : Cond.methodLink RX8 224 yX8_at ∈ wG := wG_t 565 (by decide +kernel) rfl
theorem fl_X8_472 : Cond.fieldLink RX8 472 "BusyChip$Scribe" "letter" "C" ∈ wG := wG_t 286 (by decide +kernel) rfl
theorem fl_X8_180 : Cond.fieldLink RX8 180 "BusyChip$State" "line" "LBusyChip$Line;" ∈ wG := wG_t 233 (by decide +kernel) rfl
theorem co_X1_isFull : Cond.code yX1_isFull cX1_isFull 1 (some .boolean) ∈ wG := wG_t 881 (by decide +kernel) rfl
theorem dd_X1_isFull : yX1_isFull.cls ≠ "java/lang/invoke/MethodHandle" ∧ yX1_isFull.cls ≠ "java/lang/invoke/VarHandle" ∧ (parseMethodDescriptor yX1_isFull.desc).map (fun d => d.parameters.length) = some 0 := by decide +kernel
theorem lk_X8_184 : Cond.methodLink RX8 184 yX1_isFull ∈ wG := wG_t 878 (by decide +kernel) rfl
theorem im_X1_isFull : Cond.instanceMethod yX1_isFull ∈ wG := wG_t 879 (by decide +kernel) rfl
theorem se_X1_isFull : Cond.selects RX1 yX1_isFull yX1_isFull ∈ wG := wG_t 880 (by decide +kernel) rfl
theorem fl_X8_476 : Cond.fieldLink RX8 476 "BusyChip$Scribe" "number" "I" ∈ wG := wG_t 288 (by decide +kernel) rfl
theorem fl_X8_477 : Cond.fieldLink RX8 477 "BusyChip$Scribe" "urgency" "I" ∈ wG := wG_t 290 (by decide +kernel) rfl
theorem fl_X8_478 : Cond.fieldLink RX8 478 "BusyChip$Scribe" "row" "LBusyChip$Row;" ∈ wG := wG_t 292 (by decide +kernel) rfl
theorem co_X1_joinWrite : Cond.code yX1_joinWrite cX1_joinWrite 7 (some .int) ∈ wG := wG_t 894 (by decide +kernel) rfl
theorem dd_X1_joinWrite : yX1_joinWrite.cls ≠ "java/lang/invoke/MethodHandle" ∧ yX1_joinWrite.cls ≠ "java/lang/invoke/VarHandle" ∧ (parseMethodDescriptor yX1_joinWrite.desc).map (fun d => d.parameters.length) = some 4 := by decide +kernel
theorem lk_X8_198 : Cond.methodLink RX8 198 yX1_joinWrite ∈ wG := wG_t 891 (by decide +kernel) rfl
theorem im_X1_joinWrite : Cond.instanceMethod yX1_joinWrite ∈ wG := wG_t 892 (by decide +kernel) rfl
theorem se_X1_joinWrite : Cond.selects RX1 yX1_joinWrite yX1_joinWrite ∈ wG := wG_t 893 (by decide +kernel) rfl
theorem lk_X8_194 : Cond.methodLink RX8 194 yX1_join ∈ wG := wG_t 883 (by decide +kernel) rfl
theorem co_X8_isSector : Cond.code yX8_isSector cX8_isSector 1 (some .boolean) ∈ wG := wG_t 581 (by decide +kernel) rfl
theorem dd_X8_isSector : yX8_isSector.cls ≠ "java/lang/invoke/MethodHandle" ∧ yX8_isSector.cls ≠ "java/lang/invoke/VarHandle" ∧ (parseMethodDescriptor yX8_isSector.desc).map (fun d => d.parameters.length) = some 1 := by decide +kernel
theorem st_X8_isSector : Cond.static yX8_isSector ∈ wG := wG_t 580 (by decide +kernel) rfl
theorem lk_X8_126 : Cond.methodLink RX8 126 yX8_isSector ∈ wG := wG_t 579 (by decide +kernel) rfl
theorem co_X8_isCell : Cond.code yX8_isCell cX8_isCell 1 (some .boolean) ∈ wG := wG_t 547 (by decide +kernel) rfl
theorem dd_X8_isCell : yX8_isCell.cls ≠ "java/lang/invoke/MethodHandle" ∧ yX8_isCell.cls ≠ "java/lang/invoke/VarHandle" ∧ (parseMethodDescriptor yX8_isCell.desc).map (fun d => d.parameters.length) = some 1 := by decide +kernel
theorem st_X8_isCell : Cond.static yX8_isCell ∈ wG := wG_t 546 (by decide +kernel) rfl
theorem lk_X8_93 : Cond.methodLink RX8 93 yX8_isCell ∈ wG := wG_t 545 (by decide +kernel) rfl
