theorem uw_X0 : ∀ w ∈ u_ws RX0 TX0 4, w ∈ wG := fun w hw => wG_of ((show ∀ w ∈ u_ws RX0 TX0 4, w ∈ lw_tbl by decide +kernel) w hw) ((show ∀ w ∈ u_ws RX0 TX0 4, goodWord w = true by decide +kernel) w hw)
theorem fl_X0_9 : Cond.fieldLink RX0 9 "BusyChip$Cells" "held" "[I" ∈ wG := wG_t 47 (by decide +kernel) rfl
theorem lkm_X0_31 : Cond.methodLink RX0 31 Lib.Math.min.name ∈ wG := wG_t 367 (by decide +kernel) rfl
theorem st_min : Cond.static Lib.Math.min.name ∈ wG := wG_t 368 (by decide +kernel) rfl
theorem in_math : Cond.initialized "java/lang/Math" ∈ wG := wG_t 16 (by decide +kernel) rfl
theorem co_min : Cond.code Lib.Math.min.name Lib.Math.min.code 2 (some .int) ∈ wG := wG_t 369 (by decide +kernel) rfl
theorem lkc_X0_37 : Cond.methodLink RX0 37 arraycopyName ∈ wG := wG_t 370 (by decide +kernel) rfl
theorem na_acp : Cond.native arraycopyName ∈ wG := wG_t 372 (by decide +kernel) rfl
theorem st_acp : Cond.static arraycopyName ∈ wG := wG_t 371 (by decide +kernel) rfl
theorem in_sys : Cond.initialized "java/lang/System" ∈ wG := wG_t 17 (by decide +kernel) rfl
theorem fl_X0_15 : Cond.fieldLink RX0 15 "BusyChip$Cells" "stuck" "[I" ∈ wG := wG_t 50 (by decide +kernel) rfl
theorem fl_X0_18 : Cond.fieldLink RX0 18 "BusyChip$Cells" "erasures" "[I" ∈ wG := wG_t 52 (by decide +kernel) rfl
theorem fl_X0_21 : Cond.fieldLink RX0 21 "BusyChip$Cells" "unsure" "I" ∈ wG := wG_t 55 (by decide +kernel) rfl
theorem co_X8_at : Cond.code yX8_at cX8_at 2 (some .int) ∈ wG := wG_t 523 (by decide +kernel) rfl
theorem dd_X8_at : yX8_at.cls ≠ "java/lang/invoke/MethodHandle" ∧ yX8_at.cls ≠ "java/lang/invoke/VarHandle" ∧ (parseMethodDescriptor yX8_at.desc).map (fun d => d.parameters.length) = some 2 := by decide +kernel
theorem st_X8_at : Cond.static yX8_at ∈ wG := wG_t 522 (by decide +kernel) rfl
theorem nw_X0_43 : Cond.methodLinkNest RX0 43 yX8_at "BusyChip" ∈ wN := by decide +kernel
theorem co_X8_put : Cond.code yX8_put cX8_put 3 none ∈ wG := wG_t 606 (by decide +kernel) rfl
theorem dd_X8_put : yX8_put.cls ≠ "java/lang/invoke/MethodHandle" ∧ yX8_put.cls ≠ "java/lang/invoke/VarHandle" ∧ (parseMethodDescriptor yX8_put.desc).map (fun d => d.parameters.length) = some 3 := by decide +kernel
theorem st_X8_put : Cond.static yX8_put ∈ wG := wG_t 605 (by decide +kernel) rfl
theorem nw_X0_47 : Cond.methodLinkNest RX0 47 yX8_put "BusyChip" ∈ wN := by decide +kernel
theorem in_J6 : Cond.initialized RJ6 ∈ wG := wG_t 21 (by decide +kernel) rfl
theorem co_J6_bitCount_0f7a4 : Cond.code yJ6_bitCount_0f7a4 cJ6_bitCount_0f7a4 1 (some .int) ∈ wG := wG_t 609 (by decide +kernel) rfl
theorem dd_J6_bitCount_0f7a4 : yJ6_bitCount_0f7a4.cls ≠ "java/lang/invoke/MethodHandle" ∧ yJ6_bitCount_0f7a4.cls ≠ "java/lang/invoke/VarHandle" ∧ (parseMethodDescriptor yJ6_bitCount_0f7a4.desc).map (fun d => d.parameters.length) = some 1 := by decide +kernel
theorem st_J6_bitCount_0f7a4 : Cond.static yJ6_bitCount_0f7a4 ∈ wG := wG_t 608 (by decide +kernel) rfl
theorem lk_X0_51 : Cond.methodLink RX0 51 yJ6_bitCount_0f7a4 ∈ wG := wG_t 607 (by decide +kernel) rfl
theorem in_X0 : Cond.initialized RX0 ∈ wG := wG_t 3 (by decide +kernel) rfl
theorem co_X0_fall : Cond.code yX0_fall cX0_fall 5 (some .int) ∈ wG := wG_t 602 (by decide +kernel) rfl
theorem dd_X0_fall : yX0_fall.cls ≠ "java/lang/invoke/MethodHandle" ∧ yX0_fall.cls ≠ "java/lang/invoke/VarHandle" ∧ (parseMethodDescriptor yX0_fall.desc).map (fun d => d.parameters.length) = some 2 := by decide +kernel
theorem lk_X0_57 : Cond.methodLink RX0 57 yX0_fall ∈ wG := wG_t 617 (by decide +kernel) rfl
theorem im_X0_fall : Cond.instanceMethod yX0_fall ∈ wG := wG_t 600 (by decide +kernel) rfl
theorem se_X0_fall : Cond.selects RX0 yX0_fall yX0_fall ∈ wG := wG_t 601 (by decide +kernel) rfl
theorem co_X0_pagesOf : Cond.code yX0_pagesOf cX0_pagesOf 1 (some .int) ∈ wG := wG_t 425 (by decide +kernel) rfl
theorem dd_X0_pagesOf : yX0_pagesOf.cls ≠ "java/lang/invoke/MethodHandle" ∧ yX0_pagesOf.cls ≠ "java/lang/invoke/VarHandle" ∧ (parseMethodDescriptor yX0_pagesOf.desc).map (fun d => d.parameters.length) = some 1 := by decide +kernel
theorem st_X0_pagesOf : Cond.static yX0_pagesOf ∈ wG := wG_t 424 (by decide +kernel) rfl
theorem lk_X0_60 : Cond.methodLink RX0 60 yX0_pagesOf ∈ wG := wG_t 423 (by decide +kernel) rfl
theorem co_X0_ones : Cond.code yX0_ones cX0_ones 5 (some .int) ∈ wG := wG_t 648 (by decide +kernel) rfl
theorem dd_X0_ones : yX0_ones.cls ≠ "java/lang/invoke/MethodHandle" ∧ yX0_ones.cls ≠ "java/lang/invoke/VarHandle" ∧ (parseMethodDescriptor yX0_ones.desc).map (fun d => d.parameters.length) = some 2 := by decide +kernel
theorem lk_X0_63 : Cond.methodLink RX0 63 yX0_ones ∈ wG := wG_t 781 (by decide +kernel) rfl
theorem im_X0_ones : Cond.instanceMethod yX0_ones ∈ wG := wG_t 646 (by decide +kernel) rfl
theorem se_X0_ones : Cond.selects RX0 yX0_ones yX0_ones ∈ wG := wG_t 647 (by decide +kernel) rfl
theorem uw_X1 : ∀ w ∈ u_ws RX1 TX1 3, w ∈ wG := fun w hw => wG_of ((show ∀ w ∈ u_ws RX1 TX1 3, w ∈ lw_tbl by decide +kernel) w hw) ((show ∀ w ∈ u_ws RX1 TX1 3, goodWord w = true by decide +kernel) w hw)
theorem fl_X1_17 : Cond.fieldLink RX1 17 "BusyChip$Line" "size" "I" ∈ wG := wG_t 207 (by decide +kernel) rfl
theorem fl_X1_11 : Cond.fieldLink RX1 11 "BusyChip$Line" "orders" "[LBusyChip$Order;" ∈ wG := wG_t 206 (by decide +kernel) rfl
theorem in_X1 : Cond.initialized RX1 ∈ wG := wG_t 8 (by decide +kernel) rfl
theorem co_X1_orderAt : Cond.code yX1_orderAt cX1_orderAt 2 (some (.object "BusyChip$Order")) ∈ wG := wG_t 395 (by decide +kernel) rfl
theorem dd_X1_orderAt : yX1_orderAt.cls ≠ "java/lang/invoke/MethodHandle" ∧ yX1_orderAt.cls ≠ "java/lang/invoke/VarHandle" ∧ (parseMethodDescriptor yX1_orderAt.desc).map (fun d => d.parameters.length) = some 1 := by decide +kernel
theorem lk_X1_25 : Cond.methodLink RX1 25 yX1_orderAt ∈ wG := wG_t 392 (by decide +kernel) rfl
theorem im_X1_orderAt : Cond.instanceMethod yX1_orderAt ∈ wG := wG_t 393 (by decide +kernel) rfl
theorem se_X1_orderAt : Cond.selects RX1 yX1_orderAt yX1_orderAt ∈ wG := wG_t 394 (by decide +kernel) rfl
theorem uw_X3 : ∀ w ∈ u_ws RX3 TX3 6, w ∈ wG := fun w hw => wG_of ((show ∀ w ∈ u_ws RX3 TX3 6, w ∈ lw_tbl by decide +kernel) w hw) ((show ∀ w ∈ u_ws RX3 TX3 6, goodWord w = true by decide +kernel) w hw)
theorem fl_X1_29 : Cond.fieldLink RX1 29 "BusyChip$Order" "number" "I" ∈ wG := wG_t 172 (by decide +kernel) rfl
theorem fl_X1_32 : Cond.fieldLink RX1 32 "BusyChip$Order" "kind" "I" ∈ wG := wG_t 175 (by decide +kernel) rfl
theorem fl_X1_35 : Cond.fieldLink RX1 35 "BusyChip$Order" "where" "I" ∈ wG := wG_t 179 (by decide +kernel) rfl
theorem co_X8_sectorOf : Cond.code yX8_sectorOf cX8_sectorOf 2 (some .int) ∈ wG := wG_t 551 (by decide +kernel) rfl
theorem dd_X8_sectorOf : yX8_sectorOf.cls ≠ "java/lang/invoke/MethodHandle" ∧ yX8_sectorOf.cls ≠ "java/lang/invoke/VarHandle" ∧ (parseMethodDescriptor yX8_sectorOf.desc).map (fun d => d.parameters.length) = some 2 := by decide +kernel
theorem st_X8_sectorOf : Cond.static yX8_sectorOf ∈ wG := wG_t 550 (by decide +kernel) rfl
theorem nw_X1_38 : Cond.methodLinkNest RX1 38 yX8_sectorOf "BusyChip" ∈ wN := by decide +kernel
theorem fl_X1_45 : Cond.fieldLink RX1 45 "BusyChip$Order" "urgency" "I" ∈ wG := wG_t 183 (by decide +kernel) rfl
theorem co_X1_openPlace : Cond.code yX1_openPlace cX1_openPlace 4 (some (.object "BusyChip$Order")) ∈ wG := wG_t 957 (by decide +kernel) rfl
theorem dd_X1_openPlace : yX1_openPlace.cls ≠ "java/lang/invoke/MethodHandle" ∧ yX1_openPlace.cls ≠ "java/lang/invoke/VarHandle" ∧ (parseMethodDescriptor yX1_openPlace.desc).map (fun d => d.parameters.length) = some 1 := by decide +kernel
theorem lk_X1_42 : Cond.methodLink RX1 42 yX1_openPlace ∈ wG := wG_t 954 (by decide +kernel) rfl
theorem im_X1_openPlace : Cond.instanceMethod yX1_openPlace ∈ wG := wG_t 956 (by decide +kernel) rfl
theorem se_X1_openPlace : Cond.selects RX1 yX1_openPlace yX1_openPlace ∈ wG := wG_p 28 (by decide +kernel) rfl
theorem fl_X1_21 : Cond.fieldLink RX1 21 "BusyChip$Line" "posted" "I" ∈ wG := wG_t 210 (by decide +kernel) rfl
theorem fl_X1_48 : Cond.fieldLink RX1 48 "BusyChip$Order" "postedAt" "I" ∈ wG := wG_t 187 (by decide +kernel) rfl
theorem fl_X1_51 : Cond.fieldLink RX1 51 "BusyChip$Order" "row" "LBusyChip$Row;" ∈ wG := wG_t 190 (by decide +kernel) rfl
theorem uw_X4 : ∀ w ∈ u_ws RX4 TX4 2, w ∈ wG := fun w hw => wG_of ((show ∀ w ∈ u_ws RX4 TX4 2, w ∈ lw_tbl by decide +kernel) w hw) ((show ∀ w ∈ u_ws RX4 TX4 2, goodWord w = true by decide +kernel) w hw)
theorem fl_X1_55 : Cond.fieldLink RX1 55 "BusyChip$Row" "size" "I" ∈ wG := wG_t 100 (by decide +kernel) rfl
theorem fl_X4_9 : Cond.fieldLink RX4 9 "BusyChip$Row" "values" "[I" ∈ wG := wG_t 95 (by decide +kernel) rfl
theorem lkm_X4_19 : Cond.methodLink RX4 19 Lib.Math.min.name ∈ wG := wG_t 381 (by decide +kernel) rfl
theorem lkc_X4_29 : Cond.methodLink RX4 29 arraycopyName ∈ wG := wG_t 382 (by decide +kernel) rfl
theorem fl_X4_15 : Cond.fieldLink RX4 15 "BusyChip$Row" "size" "I" ∈ wG := wG_t 97 (by decide +kernel) rfl
theorem co_X1_join : Cond.code yX1_join cX1_join 6 (some .int) ∈ wG := wG_t 953 (by decide +kernel) rfl
theorem dd_X1_join : yX1_join.cls ≠ "java/lang/invoke/MethodHandle" ∧ yX1_join.cls ≠ "java/lang/invoke/VarHandle" ∧ (parseMethodDescriptor yX1_join.desc).map (fun d => d.parameters.length) = some 4 := by decide +kernel
theorem lk_X1_58 : Cond.methodLink RX1 58 yX1_join ∈ wG := wG_t 962 (by decide +kernel) rfl
theorem im_X1_join : Cond.instanceMethod yX1_join ∈ wG := wG_t 951 (by decide +kernel) rfl
theorem se_X1_join : Cond.selects RX1 yX1_join yX1_join ∈ wG := wG_t 952 (by decide +kernel) rfl
theorem co_X1_rankOf : Cond.code yX1_rankOf cX1_rankOf 4 (some .int) ∈ wG := wG_t 966 (by decide +kernel) rfl
theorem dd_X1_rankOf : yX1_rankOf.cls ≠ "java/lang/invoke/MethodHandle" ∧ yX1_rankOf.cls ≠ "java/lang/invoke/VarHandle" ∧ (parseMethodDescriptor yX1_rankOf.desc).map (fun d => d.parameters.length) = some 1 := by decide +kernel
theorem lk_X1_62 : Cond.methodLink RX1 62 yX1_rankOf ∈ wG := wG_t 963 (by decide +kernel) rfl
theorem im_X1_rankOf : Cond.instanceMethod yX1_rankOf ∈ wG := wG_t 964 (by decide +kernel) rfl
theorem se_X1_rankOf : Cond.selects RX1 yX1_rankOf yX1_rankOf ∈ wG := wG_t 965 (by decide +kernel) rfl
theorem in_X4 : Cond.initialized RX4 ∈ wG := wG_t 6 (by decide +kernel) rfl
theorem co_X4_become : Cond.code yX4_become cX4_become 2 none ∈ wG := wG_t 380 (by decide +kernel) rfl
theorem dd_X4_become : yX4_become.cls ≠ "java/lang/invoke/MethodHandle" ∧ yX4_become.cls ≠ "java/lang/invoke/VarHandle" ∧ (parseMethodDescriptor yX4_become.desc).map (fun d => d.parameters.length) = some 1 := by decide +kernel
theorem lk_X1_66 : Cond.methodLink RX1 66 yX4_become ∈ wG := wG_t 967 (by decide +kernel) rfl
theorem im_X4_become : Cond.instanceMethod yX4_become ∈ wG := wG_t 378 (by decide +kernel) rfl
theorem se_X4_become : Cond.selects RX4 yX4_become yX4_become ∈ wG := wG_t 379 (by decide +kernel) rfl
theorem fl_X3_9 : Cond.fieldLink RX3 9 "BusyChip$Order" "number" "I" ∈ wG := wG_t 171 (by decide +kernel) rfl
theorem fl_X3_15 : Cond.fieldLink RX3 15 "BusyChip$Order" "kind" "I" ∈ wG := wG_t 174 (by decide +kernel) rfl
theorem fl_X3_18 : Cond.fieldLink RX3 18 "BusyChip$Order" "where" "I" ∈ wG := wG_t 178 (by decide +kernel) rfl
theorem fl_X3_21 : Cond.fieldLink RX3 21 "BusyChip$Order" "urgency" "I" ∈ wG := wG_t 182 (by decide +kernel) rfl
theorem fl_X3_24 : Cond.fieldLink RX3 24 "BusyChip$Order" "postedAt" "I" ∈ wG := wG_t 186 (by decide +kernel) rfl
theorem fl_X3_30 : Cond.fieldLink RX3 30 "BusyChip$Order" "row" "LBusyChip$Row;" ∈ wG := wG_t 189 (by decide +kernel) rfl
theorem lk_X3_34 : Cond.methodLink RX3 34 yX4_become ∈ wG := wG_t 400 (by decide +kernel) rfl
theorem in_X3 : Cond.initialized RX3 ∈ wG := wG_t 9 (by decide +kernel) rfl
theorem co_X3_become : Cond.code yX3_become cX3_become 2 none ∈ wG := wG_t 399 (by decide +kernel) rfl
theorem dd_X3_become : yX3_become.cls ≠ "java/lang/invoke/MethodHandle" ∧ yX3_become.cls ≠ "java/lang/invoke/VarHandle" ∧ (parseMethodDescriptor yX3_become.desc).map (fun d => d.parameters.length) = some 1 := by decide +kernel
theorem lk_X1_70 : Cond.methodLink RX1 70 yX3_become ∈ wG := wG_t 396 (by decide +kernel) rfl
theorem im_X3_become : Cond.instanceMethod yX3_become ∈ wG := wG_t 397 (by decide +kernel) rfl
theorem se_X3_become : Cond.selects RX3 yX3_become yX3_become ∈ wG := wG_t 398 (by decide +kernel) rfl
theorem uw_X2 : ∀ w ∈ u_ws RX2 TX2 3, w ∈ wG := fun w hw => wG_of ((show ∀ w ∈ u_ws RX2 TX2 3, w ∈ lw_tbl by decide +kernel) w hw) ((show ∀ w ∈ u_ws RX2 TX2 3, goodWord w = true by decide +kernel) w hw)
theorem fl_X2_9 : Cond.fieldLink RX2 9 "BusyChip$Locks" "level" "I" ∈ wG := wG_t 73 (by decide +kernel) rfl
theorem fl_X2_15 : Cond.fieldLink RX2 15 "BusyChip$Locks" "side" "I" ∈ wG := wG_t 76 (by decide +kernel) rfl
theorem fl_X2_18 : Cond.fieldLink RX2 18 "BusyChip$Locks" "frozen" "Z" ∈ wG := wG_t 79 (by decide +kernel) rfl
theorem nw_X4_25 : Cond.methodLinkNest RX4 25 yX8_at "BusyChip" ∈ wN := by decide +kernel
theorem uw_X5 : ∀ w ∈ u_ws RX5 TX5 6, w ∈ wG := fun w hw => wG_of ((show ∀ w ∈ u_ws RX5 TX5 6, w ∈ lw_tbl by decide +kernel) w hw) ((show ∀ w ∈ u_ws RX5 TX5 6, goodWord w = true by decide +kernel) w hw)
theorem fl_X5_11 : Cond.fieldLink RX5 11 "BusyChip$Scribe" "place" "I" ∈ wG := wG_t 289 (by decide +kernel) rfl
theorem fl_X5_15 : Cond.fieldLink RX5 15 "BusyChip$Scribe" "letter" "C" ∈ wG := wG_t 290 (by decide +kernel) rfl
theorem in_X5 : Cond.initialized RX5 ∈ wG := wG_t 10 (by decide +kernel) rfl
theorem co_X5_figure : Cond.code yX5_figure cX5_figure 2 (some .int) ∈ wG := wG_t 460 (by decide +kernel) rfl
theorem dd_X5_figure : yX5_figure.cls ≠ "java/lang/invoke/MethodHandle" ∧ yX5_figure.cls ≠ "java/lang/invoke/VarHandle" ∧ (parseMethodDescriptor yX5_figure.desc).map (fun d => d.parameters.length) = some 2 := by decide +kernel
theorem st_X5_figure : Cond.static yX5_figure ∈ wG := wG_t 459 (by decide +kernel) rfl
theorem lk_X5_64 : Cond.methodLink RX5 64 yX5_figure ∈ wG := wG_t 458 (by decide +kernel) rfl
theorem fl_X5_28 : Cond.fieldLink RX5 28 "BusyChip$Scribe" "row" "LBusyChip$Row;" ∈ wG := wG_t 296 (by decide +kernel) rfl
theorem fl_X5_32 : Cond.fieldLink RX5 32 "BusyChip$Scribe" "upperFigure" "I" ∈ wG := wG_t 298 (by decide +kernel) rfl
theorem co_X4_add : Cond.code yX4_add cX4_add 2 none ∈ wG := wG_t 488 (by decide +kernel) rfl
theorem dd_X4_add : yX4_add.cls ≠ "java/lang/invoke/MethodHandle" ∧ yX4_add.cls ≠ "java/lang/invoke/VarHandle" ∧ (parseMethodDescriptor yX4_add.desc).map (fun d => d.parameters.length) = some 1 := by decide +kernel
theorem lk_X5_76 : Cond.methodLink RX5 76 yX4_add ∈ wG := wG_t 485 (by decide +kernel) rfl
theorem im_X4_add : Cond.instanceMethod yX4_add ∈ wG := wG_t 486 (by decide +kernel) rfl
theorem se_X4_add : Cond.selects RX4 yX4_add yX4_add ∈ wG := wG_t 487 (by decide +kernel) rfl
theorem fl_X5_19 : Cond.fieldLink RX5 19 "BusyChip$Scribe" "number" "I" ∈ wG := wG_t 292 (by decide +kernel) rfl
theorem co_X5_mostNumber : Cond.code yX5_mostNumber cX5_mostNumber 1 (some .int) ∈ wG := wG_t 464 (by decide +kernel) rfl
theorem dd_X5_mostNumber : yX5_mostNumber.cls ≠ "java/lang/invoke/MethodHandle" ∧ yX5_mostNumber.cls ≠ "java/lang/invoke/VarHandle" ∧ (parseMethodDescriptor yX5_mostNumber.desc).map (fun d => d.parameters.length) = some 0 := by decide +kernel
theorem lk_X5_68 : Cond.methodLink RX5 68 yX5_mostNumber ∈ wG := wG_t 461 (by decide +kernel) rfl
theorem im_X5_mostNumber : Cond.instanceMethod yX5_mostNumber ∈ wG := wG_t 463 (by decide +kernel) rfl
theorem se_X5_mostNumber : Cond.selects RX5 yX5_mostNumber yX5_mostNumber ∈ wG := wG_p 5 (by decide +kernel) rfl
theorem co_X5_endsPart : Cond.code yX5_endsPart cX5_endsPart 3 (some .boolean) ∈ wG := wG_t 476 (by decide +kernel) rfl
theorem dd_X5_endsPart : yX5_endsPart.cls ≠ "java/lang/invoke/MethodHandle" ∧ yX5_endsPart.cls ≠ "java/lang/invoke/VarHandle" ∧ (parseMethodDescriptor yX5_endsPart.desc).map (fun d => d.parameters.length) = some 2 := by decide +kernel
theorem lk_X5_57 : Cond.methodLink RX5 57 yX5_endsPart ∈ wG := wG_t 473 (by decide +kernel) rfl
theorem im_X5_endsPart : Cond.instanceMethod yX5_endsPart ∈ wG := wG_t 475 (by decide +kernel) rfl
theorem se_X5_endsPart : Cond.selects RX5 yX5_endsPart yX5_endsPart ∈ wG := wG_p 8 (by decide +kernel) rfl
theorem co_X5_lengthensNumber : Cond.code yX5_lengthensNumber cX5_lengthensNumber 3 (some .boolean) ∈ wG := wG_t 472 (by decide +kernel) rfl
theorem dd_X5_lengthensNumber : yX5_lengthensNumber.cls ≠ "java/lang/invoke/MethodHandle" ∧ yX5_lengthensNumber.cls ≠ "java/lang/invoke/VarHandle" ∧ (parseMethodDescriptor yX5_lengthensNumber.desc).map (fun d => d.parameters.length) = some 1 := by decide +kernel
theorem lk_X5_72 : Cond.methodLink RX5 72 yX5_lengthensNumber ∈ wG := wG_t 469 (by decide +kernel) rfl
theorem im_X5_lengthensNumber : Cond.instanceMethod yX5_lengthensNumber ∈ wG := wG_t 471 (by decide +kernel) rfl
theorem se_X5_lengthensNumber : Cond.selects RX5 yX5_lengthensNumber yX5_lengthensNumber ∈ wG := wG_p 7 (by decide +kernel) rfl
theorem fl_X5_61 : Cond.fieldLink RX5 61 "BusyChip$Row" "size" "I" ∈ wG := wG_t 99 (by decide +kernel) rfl
theorem co_X5_opensValue : Cond.code yX5_opensValue cX5_opensValue 2 (some .boolean) ∈ wG := wG_t 480 (by decide +kernel) rfl
theorem dd_X5_opensValue : yX5_opensValue.cls ≠ "java/lang/invoke/MethodHandle" ∧ yX5_opensValue.cls ≠ "java/lang/invoke/VarHandle" ∧ (parseMethodDescriptor yX5_opensValue.desc).map (fun d => d.parameters.length) = some 1 := by decide +kernel
theorem lk_X5_45 : Cond.methodLink RX5 45 yX5_opensValue ∈ wG := wG_t 477 (by decide +kernel) rfl
theorem im_X5_opensValue : Cond.instanceMethod yX5_opensValue ∈ wG := wG_t 479 (by decide +kernel) rfl
theorem se_X5_opensValue : Cond.selects RX5 yX5_opensValue yX5_opensValue ∈ wG := wG_p 9 (by decide +kernel) rfl
theorem fl_X5_22 : Cond.fieldLink RX5 22 "BusyChip$Scribe" "urgency" "I" ∈ wG := wG_t 294 (by decide +kernel) rfl
theorem co_X5_opensPart : Cond.code yX5_opensPart cX5_opensPart 2 (some .boolean) ∈ wG := wG_t 453 (by decide +kernel) rfl
theorem dd_X5_opensPart : yX5_opensPart.cls ≠ "java/lang/invoke/MethodHandle" ∧ yX5_opensPart.cls ≠ "java/lang/invoke/VarHandle" ∧ (parseMethodDescriptor yX5_opensPart.desc).map (fun d => d.parameters.length) = some 1 := by decide +kernel
theorem lk_X5_35 : Cond.methodLink RX5 35 yX5_opensPart ∈ wG := wG_t 450 (by decide +kernel) rfl
theorem im_X5_opensPart : Cond.instanceMethod yX5_opensPart ∈ wG := wG_t 452 (by decide +kernel) rfl
theorem se_X5_opensPart : Cond.selects RX5 yX5_opensPart yX5_opensPart ∈ wG := wG_p 3 (by decide +kernel) rfl
theorem co_X5_opensNumber : Cond.code yX5_opensNumber cX5_opensNumber 4 (some .boolean) ∈ wG := wG_t 457 (by decide +kernel) rfl
theorem dd_X5_opensNumber : yX5_opensNumber.cls ≠ "java/lang/invoke/MethodHandle" ∧ yX5_opensNumber.cls ≠ "java/lang/invoke/VarHandle" ∧ (parseMethodDescriptor yX5_opensNumber.desc).map (fun d => d.parameters.length) = some 1 := by decide +kernel
theorem lk_X5_39 : Cond.methodLink RX5 39 yX5_opensNumber ∈ wG := wG_t 454 (by decide +kernel) rfl
theorem im_X5_opensNumber : Cond.instanceMethod yX5_opensNumber ∈ wG := wG_t 456 (by decide +kernel) rfl
theorem se_X5_opensNumber : Cond.selects RX5 yX5_opensNumber yX5_opensNumber ∈ wG := wG_p 4 (by decide +kernel) rfl
theorem co_X5_goesOnBehindDigit : Cond.code yX5_goesOnBehindDigit cX5_goesOnBehindDigit 3 (some .boolean) ∈ wG := wG_t 468 (by decide +kernel) rfl
theorem dd_X5_goesOnBehindDigit : yX5_goesOnBehindDigit.cls ≠ "java/lang/invoke/MethodHandle" ∧ yX5_goesOnBehindDigit.cls ≠ "java/lang/invoke/VarHandle" ∧ (parseMethodDescriptor yX5_goesOnBehindDigit.desc).map (fun d => d.parameters.length) = some 1 := by decide +kernel
theorem lk_X5_42 : Cond.methodLink RX5 42 yX5_goesOnBehindDigit ∈ wG := wG_t 465 (by decide +kernel) rfl
theorem im_X5_goesOnBehindDigit : Cond.instanceMethod yX5_goesOnBehindDigit ∈ wG := wG_t 467 (by decide +kernel) rfl
theorem se_X5_goesOnBehindDigit : Cond.selects RX5 yX5_goesOnBehindDigit yX5_goesOnBehindDigit ∈ wG := wG_p 6 (by decide +kernel) rfl
theorem co_X5_endsValue : Cond.code yX5_endsValue cX5_endsValue 3 (some .boolean) ∈ wG := wG_t 484 (by decide +kernel) rfl
theorem dd_X5_endsValue : yX5_endsValue.cls ≠ "java/lang/invoke/MethodHandle" ∧ yX5_endsValue.cls ≠ "java/lang/invoke/VarHandle" ∧ (parseMethodDescriptor yX5_endsValue.desc).map (fun d => d.parameters.length) = some 1 := by decide +kernel
theorem lk_X5_48 : Cond.methodLink RX5 48 yX5_endsValue ∈ wG := wG_t 481 (by decide +kernel) rfl
theorem im_X5_endsValue : Cond.instanceMethod yX5_endsValue ∈ wG := wG_t 483 (by decide +kernel) rfl
theorem se_X5_endsValue : Cond.selects RX5 yX5_endsValue yX5_endsValue ∈ wG := wG_p 10 (by decide +kernel) rfl
theorem co_X5_goesOnBehindValue : Cond.code yX5_goesOnBehindValue cX5_goesOnBehindValue 2 (some .boolean) ∈ wG := wG_t 492 (by decide +kernel) rfl
theorem dd_X5_goesOnBehindValue : yX5_goesOnBehindValue.cls ≠ "java/lang/invoke/MethodHandle" ∧ yX5_goesOnBehindValue.cls ≠ "java/lang/invoke/VarHandle" ∧ (parseMethodDescriptor yX5_goesOnBehindValue.desc).map (fun d => d.parameters.length) = some 1 := by decide +kernel
theorem lk_X5_51 : Cond.methodLink RX5 51 yX5_goesOnBehindValue ∈ wG := wG_t 489 (by decide +kernel) rfl
theorem im_X5_goesOnBehindValue : Cond.instanceMethod yX5_goesOnBehindValue ∈ wG := wG_t 491 (by decide +kernel) rfl
theorem se_X5_goesOnBehindValue : Cond.selects RX5 yX5_goesOnBehindValue yX5_goesOnBehindValue ∈ wG := wG_p 11 (by decide +kernel) rfl
theorem co_X5_tellsUrgency : Cond.code yX5_tellsUrgency cX5_tellsUrgency 2 (some .boolean) ∈ wG := wG_t 496 (by decide +kernel) rfl
theorem dd_X5_tellsUrgency : yX5_tellsUrgency.cls ≠ "java/lang/invoke/MethodHandle" ∧ yX5_tellsUrgency.cls ≠ "java/lang/invoke/VarHandle" ∧ (parseMethodDescriptor yX5_tellsUrgency.desc).map (fun d => d.parameters.length) = some 1 := by decide +kernel
theorem lk_X5_54 : Cond.methodLink RX5 54 yX5_tellsUrgency ∈ wG := wG_t 493 (by decide +kernel) rfl
theorem im_X5_tellsUrgency : Cond.instanceMethod yX5_tellsUrgency ∈ wG := wG_t 495 (by decide +kernel) rfl
theorem se_X5_tellsUrgency : Cond.selects RX5 yX5_tellsUrgency yX5_tellsUrgency ∈ wG := wG_p 12 (by decide +kernel) rfl
theorem uw_X7 : ∀ w ∈ u_ws RX7 TX7 9, w ∈ wG := fun w hw => wG_of ((show ∀ w ∈ u_ws RX7 TX7 9, w ∈ lw_tbl by decide +kernel) w hw) ((show ∀ w ∈ u_ws RX7 TX7 9, goodWord w = true by decide +kernel) w hw)
theorem fl_X7_9 : Cond.fieldLink RX7 9 "BusyChip$Work" "kind" "I" ∈ wG := wG_t 115 (by decide +kernel) rfl
theorem fl_X7_15 : Cond.fieldLink RX7 15 "BusyChip$Work" "where" "I" ∈ wG := wG_t 118 (by decide +kernel) rfl
theorem fl_X7_18 : Cond.fieldLink RX7 18 "BusyChip$Work" "side" "I" ∈ wG := wG_t 121 (by decide +kernel) rfl
theorem fl_X7_21 : Cond.fieldLink RX7 21 "BusyChip$Work" "cellTicks" "I" ∈ wG := wG_t 124 (by decide +kernel) rfl
theorem fl_X7_24 : Cond.fieldLink RX7 24 "BusyChip$Work" "allTicks" "I" ∈ wG := wG_t 126 (by decide +kernel) rfl
theorem fl_X7_27 : Cond.fieldLink RX7 27 "BusyChip$Work" "ticksDone" "I" ∈ wG := wG_t 127 (by decide +kernel) rfl
theorem fl_X7_30 : Cond.fieldLink RX7 30 "BusyChip$Work" "urgency" "I" ∈ wG := wG_t 129 (by decide +kernel) rfl
theorem fl_X7_33 : Cond.fieldLink RX7 33 "BusyChip$Work" "asideByClerk" "Z" ∈ wG := wG_t 132 (by decide +kernel) rfl
theorem fl_X7_40 : Cond.fieldLink RX7 40 "BusyChip$Work" "row" "LBusyChip$Row;" ∈ wG := wG_t 135 (by decide +kernel) rfl
theorem lk_X7_52 : Cond.methodLink RX7 52 yX4_become ∈ wG := wG_t 387 (by decide +kernel) rfl
theorem uw_X6 : ∀ w ∈ u_ws RX6 TX6 13, w ∈ wG := fun w hw => wG_of ((show ∀ w ∈ u_ws RX6 TX6 13, w ∈ lw_tbl by decide +kernel) w hw) ((show ∀ w ∈ u_ws RX6 TX6 13, goodWord w = true by decide +kernel) w hw)
theorem fl_X6_12 : Cond.fieldLink RX6 12 "BusyChip$State" "cells" "LBusyChip$Cells;" ∈ wG := wG_t 227 (by decide +kernel) rfl
theorem co_X0_become : Cond.code yX0_become cX0_become 2 none ∈ wG := wG_t 366 (by decide +kernel) rfl
theorem dd_X0_become : yX0_become.cls ≠ "java/lang/invoke/MethodHandle" ∧ yX0_become.cls ≠ "java/lang/invoke/VarHandle" ∧ (parseMethodDescriptor yX0_become.desc).map (fun d => d.parameters.length) = some 1 := by decide +kernel
theorem lk_X6_81 : Cond.methodLink RX6 81 yX0_become ∈ wG := wG_t 363 (by decide +kernel) rfl
theorem im_X0_become : Cond.instanceMethod yX0_become ∈ wG := wG_t 364 (by decide +kernel) rfl
theorem se_X0_become : Cond.selects RX0 yX0_become yX0_become ∈ wG := wG_t 365 (by decide +kernel) rfl
theorem fl_X6_21 : Cond.fieldLink RX6 21 "BusyChip$State" "locks" "LBusyChip$Locks;" ∈ wG := wG_t 229 (by decide +kernel) rfl
theorem in_X2 : Cond.initialized RX2 ∈ wG := wG_t 5 (by decide +kernel) rfl
theorem co_X2_become : Cond.code yX2_become cX2_become 2 none ∈ wG := wG_t 376 (by decide +kernel) rfl
theorem dd_X2_become : yX2_become.cls ≠ "java/lang/invoke/MethodHandle" ∧ yX2_become.cls ≠ "java/lang/invoke/VarHandle" ∧ (parseMethodDescriptor yX2_become.desc).map (fun d => d.parameters.length) = some 1 := by decide +kernel
theorem lk_X6_85 : Cond.methodLink RX6 85 yX2_become ∈ wG := wG_t 373 (by decide +kernel) rfl
theorem im_X2_become : Cond.instanceMethod yX2_become ∈ wG := wG_t 374 (by decide +kernel) rfl
theorem se_X2_become : Cond.selects RX2 yX2_become yX2_become ∈ wG := wG_t 375 (by decide +kernel) rfl
theorem fl_X6_28 : Cond.fieldLink RX6 28 "BusyChip$State" "loaded" "LBusyChip$Row;" ∈ wG := wG_t 231 (by decide +kernel) rfl
theorem lk_X6_88 : Cond.methodLink RX6 88 yX4_become ∈ wG := wG_t 377 (by decide +kernel) rfl
theorem fl_X6_35 : Cond.fieldLink RX6 35 "BusyChip$State" "under" "LBusyChip$Work;" ∈ wG := wG_t 233 (by decide +kernel) rfl
theorem in_X7 : Cond.initialized RX7 ∈ wG := wG_t 7 (by decide +kernel) rfl
theorem co_X7_become : Cond.code yX7_become cX7_become 2 none ∈ wG := wG_t 386 (by decide +kernel) rfl
theorem dd_X7_become : yX7_become.cls ≠ "java/lang/invoke/MethodHandle" ∧ yX7_become.cls ≠ "java/lang/invoke/VarHandle" ∧ (parseMethodDescriptor yX7_become.desc).map (fun d => d.parameters.length) = some 1 := by decide +kernel
theorem lk_X6_91 : Cond.methodLink RX6 91 yX7_become ∈ wG := wG_t 383 (by decide +kernel) rfl
theorem im_X7_become : Cond.instanceMethod yX7_become ∈ wG := wG_t 384 (by decide +kernel) rfl
theorem se_X7_become : Cond.selects RX7 yX7_become yX7_become ∈ wG := wG_t 385 (by decide +kernel) rfl
theorem fl_X6_39 : Cond.fieldLink RX6 39 "BusyChip$State" "aside" "LBusyChip$Work;" ∈ wG := wG_t 235 (by decide +kernel) rfl
theorem fl_X6_45 : Cond.fieldLink RX6 45 "BusyChip$State" "line" "LBusyChip$Line;" ∈ wG := wG_t 237 (by decide +kernel) rfl
theorem co_X1_become : Cond.code yX1_become cX1_become 5 none ∈ wG := wG_t 391 (by decide +kernel) rfl
theorem dd_X1_become : yX1_become.cls ≠ "java/lang/invoke/MethodHandle" ∧ yX1_become.cls ≠ "java/lang/invoke/VarHandle" ∧ (parseMethodDescriptor yX1_become.desc).map (fun d => d.parameters.length) = some 1 := by decide +kernel
theorem lk_X6_94 : Cond.methodLink RX6 94 yX1_become ∈ wG := wG_t 388 (by decide +kernel) rfl
theorem im_X1_become : Cond.instanceMethod yX1_become ∈ wG := wG_t 389 (by decide +kernel) rfl
theorem se_X1_become : Cond.selects RX1 yX1_become yX1_become ∈ wG := wG_t 390 (by decide +kernel) rfl
theorem fl_X6_58 : Cond.fieldLink RX6 58 "BusyChip$State" "settings" "[I" ∈ wG := wG_t 239 (by decide +kernel) rfl
theorem lkm_X6_97 : Cond.methodLink RX6 97 Lib.Math.min.name ∈ wG := wG_t 401 (by decide +kernel) rfl
theorem lkc_X6_103 : Cond.methodLink RX6 103 arraycopyName ∈ wG := wG_t 402 (by decide +kernel) rfl
theorem fl_X6_61 : Cond.fieldLink RX6 61 "BusyChip$State" "armed" "Z" ∈ wG := wG_t 241 (by decide +kernel) rfl
theorem fl_X6_65 : Cond.fieldLink RX6 65 "BusyChip$State" "ticks" "I" ∈ wG := wG_t 243 (by decide +kernel) rfl
theorem fl_X6_69 : Cond.fieldLink RX6 69 "BusyChip$State" "writesEnded" "I" ∈ wG := wG_t 245 (by decide +kernel) rfl
theorem fl_X6_72 : Cond.fieldLink RX6 72 "BusyChip$State" "bitsFallen" "I" ∈ wG := wG_t 247 (by decide +kernel) rfl
theorem fl_X6_75 : Cond.fieldLink RX6 75 "BusyChip$State" "worksLost" "I" ∈ wG := wG_t 249 (by decide +kernel) rfl
theorem fl_X6_78 : Cond.fieldLink RX6 78 "BusyChip$State" "timesAside" "I" ∈ wG := wG_t 251 (by decide +kernel) rfl
theorem fl_X6_109 : Cond.fieldLink RX6 109 "BusyChip$Work" "kind" "I" ∈ wG := wG_t 116 (by decide +kernel) rfl
theorem nw_X6_112 : Cond.methodLinkNest RX6 112 yX8_at "BusyChip" ∈ wN := by decide +kernel
theorem in_X6 : Cond.initialized RX6 ∈ wG := wG_t 2 (by decide +kernel) rfl
theorem co_X6_settingOf : Cond.code yX6_settingOf cX6_settingOf 2 (some .int) ∈ wG := wG_t 568 (by decide +kernel) rfl
theorem dd_X6_settingOf : yX6_settingOf.cls ≠ "java/lang/invoke/MethodHandle" ∧ yX6_settingOf.cls ≠ "java/lang/invoke/VarHandle" ∧ (parseMethodDescriptor yX6_settingOf.desc).map (fun d => d.parameters.length) = some 1 := by decide +kernel
theorem lk_X6_116 : Cond.methodLink RX6 116 yX6_settingOf ∈ wG := wG_t 565 (by decide +kernel) rfl
theorem im_X6_settingOf : Cond.instanceMethod yX6_settingOf ∈ wG := wG_t 566 (by decide +kernel) rfl
theorem se_X6_settingOf : Cond.selects RX6 yX6_settingOf yX6_settingOf ∈ wG := wG_t 567 (by decide +kernel) rfl
theorem fl_X6_120 : Cond.fieldLink RX6 120 "BusyChip$Cells" "erasures" "[I" ∈ wG := wG_t 53 (by decide +kernel) rfl
theorem nw_X6_130 : Cond.methodLinkNest RX6 130 yX8_sectorOf "BusyChip" ∈ wN := by decide +kernel
theorem fl_X6_144 : Cond.fieldLink RX6 144 "BusyChip$Work" "where" "I" ∈ wG := wG_t 119 (by decide +kernel) rfl
theorem co_X6_isBusy : Cond.code yX6_isBusy cX6_isBusy 1 (some .boolean) ∈ wG := wG_t 539 (by decide +kernel) rfl
theorem dd_X6_isBusy : yX6_isBusy.cls ≠ "java/lang/invoke/MethodHandle" ∧ yX6_isBusy.cls ≠ "java/lang/invoke/VarHandle" ∧ (parseMethodDescriptor yX6_isBusy.desc).map (fun d => d.parameters.length) = some 0 := by decide +kernel
theorem lk_X6_123 : Cond.methodLink RX6 123 yX6_isBusy ∈ wG := wG_t 536 (by decide +kernel) rfl
theorem im_X6_isBusy : Cond.instanceMethod yX6_isBusy ∈ wG := wG_t 537 (by decide +kernel) rfl
theorem se_X6_isBusy : Cond.selects RX6 yX6_isBusy yX6_isBusy ∈ wG := wG_t 538 (by decide +kernel) rfl
theorem co_X2_hold : Cond.code yX2_hold cX2_hold 3 (some .boolean) ∈ wG := wG_t 508 (by decide +kernel) rfl
theorem dd_X2_hold : yX2_hold.cls ≠ "java/lang/invoke/MethodHandle" ∧ yX2_hold.cls ≠ "java/lang/invoke/VarHandle" ∧ (parseMethodDescriptor yX2_hold.desc).map (fun d => d.parameters.length) = some 1 := by decide +kernel
theorem lk_X6_133 : Cond.methodLink RX6 133 yX2_hold ∈ wG := wG_t 552 (by decide +kernel) rfl
theorem im_X2_hold : Cond.instanceMethod yX2_hold ∈ wG := wG_t 506 (by decide +kernel) rfl
theorem se_X2_hold : Cond.selects RX2 yX2_hold yX2_hold ∈ wG := wG_t 507 (by decide +kernel) rfl
theorem co_X6_asideAllows : Cond.code yX6_asideAllows cX6_asideAllows 3 (some .boolean) ∈ wG := wG_t 824 (by decide +kernel) rfl
theorem dd_X6_asideAllows : yX6_asideAllows.cls ≠ "java/lang/invoke/MethodHandle" ∧ yX6_asideAllows.cls ≠ "java/lang/invoke/VarHandle" ∧ (parseMethodDescriptor yX6_asideAllows.desc).map (fun d => d.parameters.length) = some 2 := by decide +kernel
theorem lk_X6_137 : Cond.methodLink RX6 137 yX6_asideAllows ∈ wG := wG_t 821 (by decide +kernel) rfl
theorem im_X6_asideAllows : Cond.instanceMethod yX6_asideAllows ∈ wG := wG_t 823 (by decide +kernel) rfl
theorem se_X6_asideAllows : Cond.selects RX6 yX6_asideAllows yX6_asideAllows ∈ wG := wG_p 26 (by decide +kernel) rfl
theorem fl_X6_141 : Cond.fieldLink RX6 141 "BusyChip$Row" "size" "I" ∈ wG := wG_t 101 (by decide +kernel) rfl
theorem fl_X6_127 : Cond.fieldLink RX6 127 "BusyChip$Locks" "frozen" "Z" ∈ wG := wG_t 80 (by decide +kernel) rfl
theorem co_X7_start : Cond.code yX7_start cX7_start 5 none ∈ wG := wG_t 433 (by decide +kernel) rfl
theorem dd_X7_start : yX7_start.cls ≠ "java/lang/invoke/MethodHandle" ∧ yX7_start.cls ≠ "java/lang/invoke/VarHandle" ∧ (parseMethodDescriptor yX7_start.desc).map (fun d => d.parameters.length) = some 4 := by decide +kernel
theorem lk_X7_48 : Cond.methodLink RX7 48 yX7_start ∈ wG := wG_t 430 (by decide +kernel) rfl
theorem im_X7_start : Cond.instanceMethod yX7_start ∈ wG := wG_t 431 (by decide +kernel) rfl
theorem se_X7_start : Cond.selects RX7 yX7_start yX7_start ∈ wG := wG_t 432 (by decide +kernel) rfl
theorem fl_X6_147 : Cond.fieldLink RX6 147 "BusyChip$Work" "asideByClerk" "Z" ∈ wG := wG_t 133 (by decide +kernel) rfl
theorem co_X7_end : Cond.code yX7_end cX7_end 1 none ∈ wG := wG_t 429 (by decide +kernel) rfl
theorem dd_X7_end : yX7_end.cls ≠ "java/lang/invoke/MethodHandle" ∧ yX7_end.cls ≠ "java/lang/invoke/VarHandle" ∧ (parseMethodDescriptor yX7_end.desc).map (fun d => d.parameters.length) = some 0 := by decide +kernel
theorem lk_X6_150 : Cond.methodLink RX6 150 yX7_end ∈ wG := wG_t 426 (by decide +kernel) rfl
theorem im_X7_end : Cond.instanceMethod yX7_end ∈ wG := wG_t 427 (by decide +kernel) rfl
theorem se_X7_end : Cond.selects RX7 yX7_end yX7_end ∈ wG := wG_t 428 (by decide +kernel) rfl
theorem co_X0_doubtSector : Cond.code yX0_doubtSector cX0_doubtSector 2 none ∈ wG := wG_t 422 (by decide +kernel) rfl
theorem dd_X0_doubtSector : yX0_doubtSector.cls ≠ "java/lang/invoke/MethodHandle" ∧ yX0_doubtSector.cls ≠ "java/lang/invoke/VarHandle" ∧ (parseMethodDescriptor yX0_doubtSector.desc).map (fun d => d.parameters.length) = some 1 := by decide +kernel
theorem lk_X6_161 : Cond.methodLink RX6 161 yX0_doubtSector ∈ wG := wG_t 419 (by decide +kernel) rfl
theorem im_X0_doubtSector : Cond.instanceMethod yX0_doubtSector ∈ wG := wG_t 420 (by decide +kernel) rfl
theorem se_X0_doubtSector : Cond.selects RX0 yX0_doubtSector yX0_doubtSector ∈ wG := wG_t 421 (by decide +kernel) rfl
theorem co_X0_doubtPage : Cond.code yX0_doubtPage cX0_doubtPage 2 none ∈ wG := wG_t 418 (by decide +kernel) rfl
theorem dd_X0_doubtPage : yX0_doubtPage.cls ≠ "java/lang/invoke/MethodHandle" ∧ yX0_doubtPage.cls ≠ "java/lang/invoke/VarHandle" ∧ (parseMethodDescriptor yX0_doubtPage.desc).map (fun d => d.parameters.length) = some 1 := by decide +kernel
theorem lk_X6_157 : Cond.methodLink RX6 157 yX0_doubtPage ∈ wG := wG_t 415 (by decide +kernel) rfl
theorem im_X0_doubtPage : Cond.instanceMethod yX0_doubtPage ∈ wG := wG_t 416 (by decide +kernel) rfl
theorem se_X0_doubtPage : Cond.selects RX0 yX0_doubtPage yX0_doubtPage ∈ wG := wG_t 417 (by decide +kernel) rfl
theorem co_X6_lose : Cond.code yX6_lose cX6_lose 2 (some .int) ∈ wG := wG_t 414 (by decide +kernel) rfl
theorem dd_X6_lose : yX6_lose.cls ≠ "java/lang/invoke/MethodHandle" ∧ yX6_lose.cls ≠ "java/lang/invoke/VarHandle" ∧ (parseMethodDescriptor yX6_lose.desc).map (fun d => d.parameters.length) = some 1 := by decide +kernel
theorem lk_X6_153 : Cond.methodLink RX6 153 yX6_lose ∈ wG := wG_t 411 (by decide +kernel) rfl
theorem im_X6_lose : Cond.instanceMethod yX6_lose ∈ wG := wG_t 413 (by decide +kernel) rfl
theorem se_X6_lose : Cond.selects RX6 yX6_lose yX6_lose ∈ wG := wG_p 2 (by decide +kernel) rfl
theorem co_X4_span : Cond.code yX4_span cX4_span 1 (some .int) ∈ wG := wG_t 516 (by decide +kernel) rfl
theorem dd_X4_span : yX4_span.cls ≠ "java/lang/invoke/MethodHandle" ∧ yX4_span.cls ≠ "java/lang/invoke/VarHandle" ∧ (parseMethodDescriptor yX4_span.desc).map (fun d => d.parameters.length) = some 0 := by decide +kernel
theorem lk_X7_44 : Cond.methodLink RX7 44 yX4_span ∈ wG := wG_t 585 (by decide +kernel) rfl
theorem im_X4_span : Cond.instanceMethod yX4_span ∈ wG := wG_t 514 (by decide +kernel) rfl
theorem se_X4_span : Cond.selects RX4 yX4_span yX4_span ∈ wG := wG_t 515 (by decide +kernel) rfl
theorem lk_X6_203 : Cond.methodLink RX6 203 yX1_orderAt ∈ wG := wG_t 544 (by decide +kernel) rfl
theorem fl_X6_214 : Cond.fieldLink RX6 214 "BusyChip$Order" "kind" "I" ∈ wG := wG_t 176 (by decide +kernel) rfl
theorem fl_X6_215 : Cond.fieldLink RX6 215 "BusyChip$Order" "where" "I" ∈ wG := wG_t 180 (by decide +kernel) rfl
theorem co_X6_eraseTicks : Cond.code yX6_eraseTicks cX6_eraseTicks 2 (some .int) ∈ wG := wG_t 589 (by decide +kernel) rfl
theorem dd_X6_eraseTicks : yX6_eraseTicks.cls ≠ "java/lang/invoke/MethodHandle" ∧ yX6_eraseTicks.cls ≠ "java/lang/invoke/VarHandle" ∧ (parseMethodDescriptor yX6_eraseTicks.desc).map (fun d => d.parameters.length) = some 1 := by decide +kernel
theorem lk_X6_223 : Cond.methodLink RX6 223 yX6_eraseTicks ∈ wG := wG_t 586 (by decide +kernel) rfl
theorem im_X6_eraseTicks : Cond.instanceMethod yX6_eraseTicks ∈ wG := wG_t 587 (by decide +kernel) rfl
theorem se_X6_eraseTicks : Cond.selects RX6 yX6_eraseTicks yX6_eraseTicks ∈ wG := wG_t 588 (by decide +kernel) rfl
theorem fl_X6_211 : Cond.fieldLink RX6 211 "BusyChip$Order" "urgency" "I" ∈ wG := wG_t 184 (by decide +kernel) rfl
theorem lk_X6_226 : Cond.methodLink RX6 226 yX7_start ∈ wG := wG_t 590 (by decide +kernel) rfl
theorem co_X1_leave : Cond.code yX1_leave cX1_leave 4 none ∈ wG := wG_t 594 (by decide +kernel) rfl
theorem dd_X1_leave : yX1_leave.cls ≠ "java/lang/invoke/MethodHandle" ∧ yX1_leave.cls ≠ "java/lang/invoke/VarHandle" ∧ (parseMethodDescriptor yX1_leave.desc).map (fun d => d.parameters.length) = some 1 := by decide +kernel
theorem lk_X6_230 : Cond.methodLink RX6 230 yX1_leave ∈ wG := wG_t 591 (by decide +kernel) rfl
theorem im_X1_leave : Cond.instanceMethod yX1_leave ∈ wG := wG_t 592 (by decide +kernel) rfl
theorem se_X1_leave : Cond.selects RX1 yX1_leave yX1_leave ∈ wG := wG_t 593 (by decide +kernel) rfl
theorem fl_X6_216 : Cond.fieldLink RX6 216 "BusyChip$Order" "row" "LBusyChip$Row;" ∈ wG := wG_t 191 (by decide +kernel) rfl
theorem co_X7_startWrite : Cond.code yX7_startWrite cX7_startWrite 5 none ∈ wG := wG_t 584 (by decide +kernel) rfl
theorem dd_X7_startWrite : yX7_startWrite.cls ≠ "java/lang/invoke/MethodHandle" ∧ yX7_startWrite.cls ≠ "java/lang/invoke/VarHandle" ∧ (parseMethodDescriptor yX7_startWrite.desc).map (fun d => d.parameters.length) = some 4 := by decide +kernel
theorem lk_X6_219 : Cond.methodLink RX6 219 yX7_startWrite ∈ wG := wG_t 581 (by decide +kernel) rfl
theorem im_X7_startWrite : Cond.instanceMethod yX7_startWrite ∈ wG := wG_t 582 (by decide +kernel) rfl
theorem se_X7_startWrite : Cond.selects RX7 yX7_startWrite yX7_startWrite ∈ wG := wG_t 583 (by decide +kernel) rfl
theorem fl_X6_202 : Cond.fieldLink RX6 202 "BusyChip$Line" "size" "I" ∈ wG := wG_t 209 (by decide +kernel) rfl
theorem co_X6_isOpen : Cond.code yX6_isOpen cX6_isOpen 2 (some .boolean) ∈ wG := wG_t 548 (by decide +kernel) rfl
theorem dd_X6_isOpen : yX6_isOpen.cls ≠ "java/lang/invoke/MethodHandle" ∧ yX6_isOpen.cls ≠ "java/lang/invoke/VarHandle" ∧ (parseMethodDescriptor yX6_isOpen.desc).map (fun d => d.parameters.length) = some 1 := by decide +kernel
theorem lk_X6_207 : Cond.methodLink RX6 207 yX6_isOpen ∈ wG := wG_t 545 (by decide +kernel) rfl
theorem im_X6_isOpen : Cond.instanceMethod yX6_isOpen ∈ wG := wG_t 547 (by decide +kernel) rfl
theorem se_X6_isOpen : Cond.selects RX6 yX6_isOpen yX6_isOpen ∈ wG := wG_p 14 (by decide +kernel) rfl
theorem fl_X6_186 : Cond.fieldLink RX6 186 "BusyChip$Work" "urgency" "I" ∈ wG := wG_t 130 (by decide +kernel) rfl
theorem co_X6_letGoOn : Cond.code yX6_letGoOn cX6_letGoOn 1 none ∈ wG := wG_t 576 (by decide +kernel) rfl
theorem dd_X6_letGoOn : yX6_letGoOn.cls ≠ "java/lang/invoke/MethodHandle" ∧ yX6_letGoOn.cls ≠ "java/lang/invoke/VarHandle" ∧ (parseMethodDescriptor yX6_letGoOn.desc).map (fun d => d.parameters.length) = some 0 := by decide +kernel
theorem lk_X6_199 : Cond.methodLink RX6 199 yX6_letGoOn ∈ wG := wG_t 573 (by decide +kernel) rfl
theorem im_X6_letGoOn : Cond.instanceMethod yX6_letGoOn ∈ wG := wG_t 574 (by decide +kernel) rfl
theorem se_X6_letGoOn : Cond.selects RX6 yX6_letGoOn yX6_letGoOn ∈ wG := wG_t 575 (by decide +kernel) rfl
theorem co_X6_foremostPressing : Cond.code yX6_foremostPressing cX6_foremostPressing 5 (some .int) ∈ wG := wG_t 564 (by decide +kernel) rfl
theorem dd_X6_foremostPressing : yX6_foremostPressing.cls ≠ "java/lang/invoke/MethodHandle" ∧ yX6_foremostPressing.cls ≠ "java/lang/invoke/VarHandle" ∧ (parseMethodDescriptor yX6_foremostPressing.desc).map (fun d => d.parameters.length) = some 1 := by decide +kernel
theorem lk_X6_189 : Cond.methodLink RX6 189 yX6_foremostPressing ∈ wG := wG_t 561 (by decide +kernel) rfl
theorem im_X6_foremostPressing : Cond.instanceMethod yX6_foremostPressing ∈ wG := wG_t 563 (by decide +kernel) rfl
theorem se_X6_foremostPressing : Cond.selects RX6 yX6_foremostPressing yX6_foremostPressing ∈ wG := wG_p 16 (by decide +kernel) rfl
theorem co_X6_foremost : Cond.code yX6_foremost cX6_foremost 2 (some .int) ∈ wG := wG_t 543 (by decide +kernel) rfl
theorem dd_X6_foremost : yX6_foremost.cls ≠ "java/lang/invoke/MethodHandle" ∧ yX6_foremost.cls ≠ "java/lang/invoke/VarHandle" ∧ (parseMethodDescriptor yX6_foremost.desc).map (fun d => d.parameters.length) = some 0 := by decide +kernel
theorem lk_X6_196 : Cond.methodLink RX6 196 yX6_foremost ∈ wG := wG_t 540 (by decide +kernel) rfl
theorem im_X6_foremost : Cond.instanceMethod yX6_foremost ∈ wG := wG_t 542 (by decide +kernel) rfl
theorem se_X6_foremost : Cond.selects RX6 yX6_foremost yX6_foremost ∈ wG := wG_p 13 (by decide +kernel) rfl
theorem co_X6_setAside : Cond.code yX6_setAside cX6_setAside 2 none ∈ wG := wG_t 572 (by decide +kernel) rfl
theorem dd_X6_setAside : yX6_setAside.cls ≠ "java/lang/invoke/MethodHandle" ∧ yX6_setAside.cls ≠ "java/lang/invoke/VarHandle" ∧ (parseMethodDescriptor yX6_setAside.desc).map (fun d => d.parameters.length) = some 1 := by decide +kernel
theorem lk_X6_192 : Cond.methodLink RX6 192 yX6_setAside ∈ wG := wG_t 569 (by decide +kernel) rfl
theorem im_X6_setAside : Cond.instanceMethod yX6_setAside ∈ wG := wG_t 570 (by decide +kernel) rfl
theorem se_X6_setAside : Cond.selects RX6 yX6_setAside yX6_setAside ∈ wG := wG_t 571 (by decide +kernel) rfl
theorem fl_X6_250 : Cond.fieldLink RX6 250 "BusyChip$Locks" "level" "I" ∈ wG := wG_t 74 (by decide +kernel) rfl
theorem fl_X6_253 : Cond.fieldLink RX6 253 "BusyChip$Work" "side" "I" ∈ wG := wG_t 123 (by decide +kernel) rfl
theorem fl_X6_256 : Cond.fieldLink RX6 256 "BusyChip$Locks" "side" "I" ∈ wG := wG_t 77 (by decide +kernel) rfl
theorem co_X0_endErase : Cond.code yX0_endErase cX0_endErase 7 none ∈ wG := wG_t 629 (by decide +kernel) rfl
theorem dd_X0_endErase : yX0_endErase.cls ≠ "java/lang/invoke/MethodHandle" ∧ yX0_endErase.cls ≠ "java/lang/invoke/VarHandle" ∧ (parseMethodDescriptor yX0_endErase.desc).map (fun d => d.parameters.length) = some 2 := by decide +kernel
theorem lk_X6_246 : Cond.methodLink RX6 246 yX0_endErase ∈ wG := wG_t 626 (by decide +kernel) rfl
theorem im_X0_endErase : Cond.instanceMethod yX0_endErase ∈ wG := wG_t 627 (by decide +kernel) rfl
theorem se_X0_endErase : Cond.selects RX0 yX0_endErase yX0_endErase ∈ wG := wG_t 628 (by decide +kernel) rfl
theorem fl_X6_233 : Cond.fieldLink RX6 233 "BusyChip$Work" "cellTicks" "I" ∈ wG := wG_t 125 (by decide +kernel) rfl
theorem fl_X6_171 : Cond.fieldLink RX6 171 "BusyChip$Work" "ticksDone" "I" ∈ wG := wG_t 128 (by decide +kernel) rfl
theorem co_X8_roundPage : Cond.code yX8_roundPage cX8_roundPage 2 (some .int) ∈ wG := wG_t 526 (by decide +kernel) rfl
theorem dd_X8_roundPage : yX8_roundPage.cls ≠ "java/lang/invoke/MethodHandle" ∧ yX8_roundPage.cls ≠ "java/lang/invoke/VarHandle" ∧ (parseMethodDescriptor yX8_roundPage.desc).map (fun d => d.parameters.length) = some 2 := by decide +kernel
theorem st_X8_roundPage : Cond.static yX8_roundPage ∈ wG := wG_t 525 (by decide +kernel) rfl
theorem nw_X6_236 : Cond.methodLinkNest RX6 236 yX8_roundPage "BusyChip" ∈ wN := by decide +kernel
theorem fl_X6_239 : Cond.fieldLink RX6 239 "BusyChip$Work" "row" "LBusyChip$Row;" ∈ wG := wG_t 136 (by decide +kernel) rfl
theorem co_X4_valueFor : Cond.code yX4_valueFor cX4_valueFor 3 (some .int) ∈ wG := wG_t 520 (by decide +kernel) rfl
theorem dd_X4_valueFor : yX4_valueFor.cls ≠ "java/lang/invoke/MethodHandle" ∧ yX4_valueFor.cls ≠ "java/lang/invoke/VarHandle" ∧ (parseMethodDescriptor yX4_valueFor.desc).map (fun d => d.parameters.length) = some 1 := by decide +kernel
theorem lk_X6_240 : Cond.methodLink RX6 240 yX4_valueFor ∈ wG := wG_t 517 (by decide +kernel) rfl
theorem im_X4_valueFor : Cond.instanceMethod yX4_valueFor ∈ wG := wG_t 518 (by decide +kernel) rfl
theorem se_X4_valueFor : Cond.selects RX4 yX4_valueFor yX4_valueFor ∈ wG := wG_t 519 (by decide +kernel) rfl
theorem lk_X6_243 : Cond.methodLink RX6 243 yX0_fall ∈ wG := wG_t 599 (by decide +kernel) rfl
theorem co_X6_clerkChooses : Cond.code yX6_clerkChooses cX6_clerkChooses 3 (some .int) ∈ wG := wG_t 560 (by decide +kernel) rfl
theorem dd_X6_clerkChooses : yX6_clerkChooses.cls ≠ "java/lang/invoke/MethodHandle" ∧ yX6_clerkChooses.cls ≠ "java/lang/invoke/VarHandle" ∧ (parseMethodDescriptor yX6_clerkChooses.desc).map (fun d => d.parameters.length) = some 0 := by decide +kernel
theorem lk_X6_164 : Cond.methodLink RX6 164 yX6_clerkChooses ∈ wG := wG_t 557 (by decide +kernel) rfl
theorem im_X6_clerkChooses : Cond.instanceMethod yX6_clerkChooses ∈ wG := wG_t 559 (by decide +kernel) rfl
theorem se_X6_clerkChooses : Cond.selects RX6 yX6_clerkChooses yX6_clerkChooses ∈ wG := wG_p 15 (by decide +kernel) rfl
theorem co_X7_left : Cond.code yX7_left cX7_left 1 (some .int) ∈ wG := wG_t 621 (by decide +kernel) rfl
theorem dd_X7_left : yX7_left.cls ≠ "java/lang/invoke/MethodHandle" ∧ yX7_left.cls ≠ "java/lang/invoke/VarHandle" ∧ (parseMethodDescriptor yX7_left.desc).map (fun d => d.parameters.length) = some 0 := by decide +kernel
theorem lk_X6_180 : Cond.methodLink RX6 180 yX7_left ∈ wG := wG_t 618 (by decide +kernel) rfl
theorem im_X7_left : Cond.instanceMethod yX7_left ∈ wG := wG_t 619 (by decide +kernel) rfl
theorem se_X7_left : Cond.selects RX7 yX7_left yX7_left ∈ wG := wG_t 620 (by decide +kernel) rfl
theorem co_X6_endWork : Cond.code yX6_endWork cX6_endWork 1 none ∈ wG := wG_t 625 (by decide +kernel) rfl
theorem dd_X6_endWork : yX6_endWork.cls ≠ "java/lang/invoke/MethodHandle" ∧ yX6_endWork.cls ≠ "java/lang/invoke/VarHandle" ∧ (parseMethodDescriptor yX6_endWork.desc).map (fun d => d.parameters.length) = some 0 := by decide +kernel
theorem lk_X6_183 : Cond.methodLink RX6 183 yX6_endWork ∈ wG := wG_t 622 (by decide +kernel) rfl
theorem im_X6_endWork : Cond.instanceMethod yX6_endWork ∈ wG := wG_t 624 (by decide +kernel) rfl
theorem se_X6_endWork : Cond.selects RX6 yX6_endWork yX6_endWork ∈ wG := wG_p 19 (by decide +kernel) rfl
theorem co_X0_fallWholly : Cond.code yX0_fallWholly cX0_fallWholly 4 (some .int) ∈ wG := wG_t 616 (by decide +kernel) rfl
theorem dd_X0_fallWholly : yX0_fallWholly.cls ≠ "java/lang/invoke/MethodHandle" ∧ yX0_fallWholly.cls ≠ "java/lang/invoke/VarHandle" ∧ (parseMethodDescriptor yX0_fallWholly.desc).map (fun d => d.parameters.length) = some 1 := by decide +kernel
theorem lk_X6_177 : Cond.methodLink RX6 177 yX0_fallWholly ∈ wG := wG_t 613 (by decide +kernel) rfl
theorem im_X0_fallWholly : Cond.instanceMethod yX0_fallWholly ∈ wG := wG_t 614 (by decide +kernel) rfl
theorem se_X0_fallWholly : Cond.selects RX0 yX0_fallWholly yX0_fallWholly ∈ wG := wG_t 615 (by decide +kernel) rfl
theorem co_X6_goOnWriting : Cond.code yX6_goOnWriting cX6_goOnWriting 3 none ∈ wG := wG_t 598 (by decide +kernel) rfl
theorem dd_X6_goOnWriting : yX6_goOnWriting.cls ≠ "java/lang/invoke/MethodHandle" ∧ yX6_goOnWriting.cls ≠ "java/lang/invoke/VarHandle" ∧ (parseMethodDescriptor yX6_goOnWriting.desc).map (fun d => d.parameters.length) = some 0 := by decide +kernel
theorem lk_X6_174 : Cond.methodLink RX6 174 yX6_goOnWriting ∈ wG := wG_t 595 (by decide +kernel) rfl
theorem im_X6_goOnWriting : Cond.instanceMethod yX6_goOnWriting ∈ wG := wG_t 597 (by decide +kernel) rfl
theorem se_X6_goOnWriting : Cond.selects RX6 yX6_goOnWriting yX6_goOnWriting ∈ wG := wG_p 18 (by decide +kernel) rfl
theorem co_X6_beginOrder : Cond.code yX6_beginOrder cX6_beginOrder 3 none ∈ wG := wG_t 580 (by decide +kernel) rfl
theorem dd_X6_beginOrder : yX6_beginOrder.cls ≠ "java/lang/invoke/MethodHandle" ∧ yX6_beginOrder.cls ≠ "java/lang/invoke/VarHandle" ∧ (parseMethodDescriptor yX6_beginOrder.desc).map (fun d => d.parameters.length) = some 1 := by decide +kernel
theorem lk_X6_168 : Cond.methodLink RX6 168 yX6_beginOrder ∈ wG := wG_t 577 (by decide +kernel) rfl
theorem im_X6_beginOrder : Cond.instanceMethod yX6_beginOrder ∈ wG := wG_t 579 (by decide +kernel) rfl
theorem se_X6_beginOrder : Cond.selects RX6 yX6_beginOrder yX6_beginOrder ∈ wG := wG_p 17 (by decide +kernel) rfl
theorem lk_X6_257 : Cond.methodLink RX6 257 yX4_span ∈ wG := wG_t 513 (by decide +kernel) rfl
theorem fl_X6_260 : Cond.fieldLink RX6 260 "BusyChip$Cells" "held" "[I" ∈ wG := wG_t 48 (by decide +kernel) rfl
theorem uw_X8 : ∀ w ∈ u_ws RX8 TX8 10, w ∈ wG := fun w hw => wG_of ((show ∀ w ∈ u_ws RX8 TX8 10, w ∈ lw_tbl by decide +kernel) w hw) ((show ∀ w ∈ u_ws RX8 TX8 10, goodWord w = true by decide +kernel) w hw)
theorem fl_X8_26 : Cond.fieldLink RX8 26 "BusyChip" "saved" "[LBusyChip$State;" ∈ wG := wG_t 317 (by decide +kernel) rfl
theorem fl_X8_30 : Cond.fieldLink RX8 30 "BusyChip" "savedStates" "I" ∈ wG := wG_t 318 (by decide +kernel) rfl
theorem co_X8_dropOldest : Cond.code yX8_dropOldest cX8_dropOldest 3 none ∈ wG := wG_t 355 (by decide +kernel) rfl
theorem dd_X8_dropOldest : yX8_dropOldest.cls ≠ "java/lang/invoke/MethodHandle" ∧ yX8_dropOldest.cls ≠ "java/lang/invoke/VarHandle" ∧ (parseMethodDescriptor yX8_dropOldest.desc).map (fun d => d.parameters.length) = some 0 := by decide +kernel
theorem lk_X8_469 : Cond.methodLink RX8 469 yX8_dropOldest ∈ wG := wG_t 352 (by decide +kernel) rfl
theorem im_X8_dropOldest : Cond.instanceMethod yX8_dropOldest ∈ wG := wG_t 354 (by decide +kernel) rfl
theorem se_X8_dropOldest : Cond.selects RX8 yX8_dropOldest yX8_dropOldest ∈ wG := wG_p 1 (by decide +kernel) rfl
theorem fl_X8_10 : Cond.fieldLink RX8 10 "BusyChip" "now" "LBusyChip$State;" ∈ wG := wG_t 313 (by decide +kernel) rfl
theorem co_X6_become : Cond.code yX6_become cX6_become 2 none ∈ wG := wG_t 362 (by decide +kernel) rfl
theorem dd_X6_become : yX6_become.cls ≠ "java/lang/invoke/MethodHandle" ∧ yX6_become.cls ≠ "java/lang/invoke/VarHandle" ∧ (parseMethodDescriptor yX6_become.desc).map (fun d => d.parameters.length) = some 1 := by decide +kernel
theorem lk_X8_261 : Cond.methodLink RX8 261 yX6_become ∈ wG := wG_t 359 (by decide +kernel) rfl
theorem im_X6_become : Cond.instanceMethod yX6_become ∈ wG := wG_t 360 (by decide +kernel) rfl
theorem se_X6_become : Cond.selects RX6 yX6_become yX6_become ∈ wG := wG_t 361 (by decide +kernel) rfl
theorem co_X8_save : Cond.code yX8_save cX8_save 2 none ∈ wG := wG_t 351 (by decide +kernel) rfl
theorem dd_X8_save : yX8_save.cls ≠ "java/lang/invoke/MethodHandle" ∧ yX8_save.cls ≠ "java/lang/invoke/VarHandle" ∧ (parseMethodDescriptor yX8_save.desc).map (fun d => d.parameters.length) = some 0 := by decide +kernel
theorem lk_X8_63 : Cond.methodLink RX8 63 yX8_save ∈ wG := wG_t 348 (by decide +kernel) rfl
theorem im_X8_save : Cond.instanceMethod yX8_save ∈ wG := wG_t 350 (by decide +kernel) rfl
theorem se_X8_save : Cond.selects RX8 yX8_save yX8_save ∈ wG := wG_p 0 (by decide +kernel) rfl
theorem fl_X8_78 : Cond.fieldLink RX8 78 "BusyChip$State" "loaded" "LBusyChip$Row;" ∈ wG := wG_t 232 (by decide +kernel) rfl
theorem fl_X8_82 : Cond.fieldLink RX8 82 "BusyChip$Row" "size" "I" ∈ wG := wG_t 98 (by decide +kernel) rfl
theorem co_X6_losePower : Cond.code yX6_losePower cX6_losePower 2 (some .int) ∈ wG := wG_t 410 (by decide +kernel) rfl
theorem dd_X6_losePower : yX6_losePower.cls ≠ "java/lang/invoke/MethodHandle" ∧ yX6_losePower.cls ≠ "java/lang/invoke/VarHandle" ∧ (parseMethodDescriptor yX6_losePower.desc).map (fun d => d.parameters.length) = some 0 := by decide +kernel
theorem lk_X8_173 : Cond.methodLink RX8 173 yX6_losePower ∈ wG := wG_t 407 (by decide +kernel) rfl
theorem im_X6_losePower : Cond.instanceMethod yX6_losePower ∈ wG := wG_t 408 (by decide +kernel) rfl
theorem se_X6_losePower : Cond.selects RX6 yX6_losePower yX6_losePower ∈ wG := wG_t 409 (by decide +kernel) rfl
theorem fl_X8_38 : Cond.fieldLink RX8 38 "BusyChip" "length" "I" ∈ wG := wG_t 320 (by decide +kernel) rfl
theorem fl_X8_44 : Cond.fieldLink RX8 44 "BusyChip" "scribe" "LBusyChip$Scribe;" ∈ wG := wG_t 321 (by decide +kernel) rfl
theorem co_X5_start : Cond.code yX5_start cX5_start 1 none ∈ wG := wG_t 445 (by decide +kernel) rfl
theorem dd_X5_start : yX5_start.cls ≠ "java/lang/invoke/MethodHandle" ∧ yX5_start.cls ≠ "java/lang/invoke/VarHandle" ∧ (parseMethodDescriptor yX5_start.desc).map (fun d => d.parameters.length) = some 0 := by decide +kernel
theorem lk_X8_244 : Cond.methodLink RX8 244 yX5_start ∈ wG := wG_t 442 (by decide +kernel) rfl
theorem im_X5_start : Cond.instanceMethod yX5_start ∈ wG := wG_t 443 (by decide +kernel) rfl
theorem se_X5_start : Cond.selects RX5 yX5_start yX5_start ∈ wG := wG_t 444 (by decide +kernel) rfl
theorem fl_X8_34 : Cond.fieldLink RX8 34 "BusyChip" "buffer" "[C" ∈ wG := wG_t 319 (by decide +kernel) rfl
theorem co_X5_goesOnWith : Cond.code yX5_goesOnWith cX5_goesOnWith 2 (some .boolean) ∈ wG := wG_t 449 (by decide +kernel) rfl
theorem dd_X5_goesOnWith : yX5_goesOnWith.cls ≠ "java/lang/invoke/MethodHandle" ∧ yX5_goesOnWith.cls ≠ "java/lang/invoke/VarHandle" ∧ (parseMethodDescriptor yX5_goesOnWith.desc).map (fun d => d.parameters.length) = some 1 := by decide +kernel
theorem lk_X8_246 : Cond.methodLink RX8 246 yX5_goesOnWith ∈ wG := wG_t 446 (by decide +kernel) rfl
theorem im_X5_goesOnWith : Cond.instanceMethod yX5_goesOnWith ∈ wG := wG_t 447 (by decide +kernel) rfl
theorem se_X5_goesOnWith : Cond.selects RX5 yX5_goesOnWith yX5_goesOnWith ∈ wG := wG_t 448 (by decide +kernel) rfl
theorem fl_X8_19 : Cond.fieldLink RX8 19 "BusyChip" "snapshot" "LBusyChip$State;" ∈ wG := wG_t 315 (by decide +kernel) rfl
theorem fl_X8_22 : Cond.fieldLink RX8 22 "BusyChip" "hasSnapshot" "Z" ∈ wG := wG_t 316 (by decide +kernel) rfl
theorem fl_X8_191 : Cond.fieldLink RX8 191 "BusyChip$State" "ticks" "I" ∈ wG := wG_t 244 (by decide +kernel) rfl
theorem fl_X8_147 : Cond.fieldLink RX8 147 "BusyChip$State" "locks" "LBusyChip$Locks;" ∈ wG := wG_t 230 (by decide +kernel) rfl
theorem lk_X8_302 : Cond.methodLink RX8 302 yX2_hold ∈ wG := wG_t 505 (by decide +kernel) rfl
theorem co_X6_missesAt : Cond.code yX6_missesAt cX6_missesAt 6 (some .int) ∈ wG := wG_t 512 (by decide +kernel) rfl
theorem dd_X6_missesAt : yX6_missesAt.cls ≠ "java/lang/invoke/MethodHandle" ∧ yX6_missesAt.cls ≠ "java/lang/invoke/VarHandle" ∧ (parseMethodDescriptor yX6_missesAt.desc).map (fun d => d.parameters.length) = some 1 := by decide +kernel
theorem lk_X8_390 : Cond.methodLink RX8 390 yX6_missesAt ∈ wG := wG_t 509 (by decide +kernel) rfl
theorem im_X6_missesAt : Cond.instanceMethod yX6_missesAt ∈ wG := wG_t 510 (by decide +kernel) rfl
theorem se_X6_missesAt : Cond.selects RX6 yX6_missesAt yX6_missesAt ∈ wG := wG_t 511 (by decide +kernel) rfl
theorem fl_X8_16 : Cond.fieldLink RX8 16 "BusyChip" "foreseen" "LBusyChip$State;" ∈ wG := wG_t 314 (by decide +kernel) rfl
theorem co_X6_isFree : Cond.code yX6_isFree cX6_isFree 2 (some .boolean) ∈ wG := wG_t 535 (by decide +kernel) rfl
theorem dd_X6_isFree : yX6_isFree.cls ≠ "java/lang/invoke/MethodHandle" ∧ yX6_isFree.cls ≠ "java/lang/invoke/VarHandle" ∧ (parseMethodDescriptor yX6_isFree.desc).map (fun d => d.parameters.length) = some 0 := by decide +kernel
theorem lk_X8_393 : Cond.methodLink RX8 393 yX6_isFree ∈ wG := wG_t 532 (by decide +kernel) rfl
theorem im_X6_isFree : Cond.instanceMethod yX6_isFree ∈ wG := wG_t 533 (by decide +kernel) rfl
theorem se_X6_isFree : Cond.selects RX6 yX6_isFree yX6_isFree ∈ wG := wG_t 534 (by decide +kernel) rfl
theorem co_X6_tick : Cond.code yX6_tick cX6_tick 2 (some .boolean) ∈ wG := wG_t 556 (by decide +kernel) rfl
theorem dd_X6_tick : yX6_tick.cls ≠ "java/lang/invoke/MethodHandle" ∧ yX6_tick.cls ≠ "java/lang/invoke/VarHandle" ∧ (parseMethodDescriptor yX6_tick.desc).map (fun d => d.parameters.length) = some 0 := by decide +kernel
theorem lk_X8_213 : Cond.methodLink RX8 213 yX6_tick ∈ wG := wG_t 553 (by decide +kernel) rfl
theorem im_X6_tick : Cond.instanceMethod yX6_tick ∈ wG := wG_t 554 (by decide +kernel) rfl
theorem se_X6_tick : Cond.selects RX6 yX6_tick yX6_tick ∈ wG := wG_t 555 (by decide +kernel) rfl
theorem fl_X8_277 : Cond.fieldLink RX8 277 "BusyChip$State" "cells" "LBusyChip$Cells;" ∈ wG := wG_t 228 (by decide +kernel) rfl
theorem fl_X8_299 : Cond.fieldLink RX8 299 "BusyChip$Cells" "erasures" "[I" ∈ wG := wG_t 54 (by decide +kernel) rfl
theorem lk_X8_224 : Cond.methodLink RX8 224 yX8_at ∈ wG := wG_t 634 (by decide +kernel) rfl
theorem fl_X8_48 : Cond.fieldLink RX8 48 "BusyChip" "tally" "[I" ∈ wG := wG_t 322 (by decide +kernel) rfl
theorem in_J7 : Cond.initialized RJ7 ∈ wG := wG_t 4 (by decide +kernel) rfl
theorem co_J7_fill_53178 : Cond.code yJ7_fill_53178 cJ7_fill_53178 4 none ∈ wG := wG_t 46 (by decide +kernel) rfl
theorem dd_J7_fill_53178 : yJ7_fill_53178.cls ≠ "java/lang/invoke/MethodHandle" ∧ yJ7_fill_53178.cls ≠ "java/lang/invoke/VarHandle" ∧ (parseMethodDescriptor yJ7_fill_53178.desc).map (fun d => d.parameters.length) = some 2 := by decide +kernel
theorem st_J7_fill_53178 : Cond.static yJ7_fill_53178 ∈ wG := wG_t 45 (by decide +kernel) rfl
theorem lk_X8_396 : Cond.methodLink RX8 396 yJ7_fill_53178 ∈ wG := wG_t 639 (by decide +kernel) rfl
theorem fl_X8_281 : Cond.fieldLink RX8 281 "BusyChip$Cells" "held" "[I" ∈ wG := wG_t 49 (by decide +kernel) rfl
theorem lk_X8_236 : Cond.methodLink RX8 236 yX8_put ∈ wG := wG_t 640 (by decide +kernel) rfl
theorem co_X8_mix : Cond.code yX8_mix cX8_mix 4 (some .long) ∈ wG := wG_t 747 (by decide +kernel) rfl
theorem dd_X8_mix : yX8_mix.cls ≠ "java/lang/invoke/MethodHandle" ∧ yX8_mix.cls ≠ "java/lang/invoke/VarHandle" ∧ (parseMethodDescriptor yX8_mix.desc).map (fun d => d.parameters.length) = some 2 := by decide +kernel
theorem st_X8_mix : Cond.static yX8_mix ∈ wG := wG_t 746 (by decide +kernel) rfl
theorem lk_X8_426 : Cond.methodLink RX8 426 yX8_mix ∈ wG := wG_t 745 (by decide +kernel) rfl
theorem co_X6_hindrance : Cond.code yX6_hindrance cX6_hindrance 3 (some .int) ∈ wG := wG_t 820 (by decide +kernel) rfl
theorem dd_X6_hindrance : yX6_hindrance.cls ≠ "java/lang/invoke/MethodHandle" ∧ yX6_hindrance.cls ≠ "java/lang/invoke/VarHandle" ∧ (parseMethodDescriptor yX6_hindrance.desc).map (fun d => d.parameters.length) = some 2 := by decide +kernel
theorem lk_X8_102 : Cond.methodLink RX8 102 yX6_hindrance ∈ wG := wG_t 817 (by decide +kernel) rfl
theorem im_X6_hindrance : Cond.instanceMethod yX6_hindrance ∈ wG := wG_t 818 (by decide +kernel) rfl
theorem se_X6_hindrance : Cond.selects RX6 yX6_hindrance yX6_hindrance ∈ wG := wG_t 819 (by decide +kernel) rfl
theorem co_X8_highestBit : Cond.code yX8_highestBit cX8_highestBit 2 (some .int) ∈ wG := wG_t 834 (by decide +kernel) rfl
theorem dd_X8_highestBit : yX8_highestBit.cls ≠ "java/lang/invoke/MethodHandle" ∧ yX8_highestBit.cls ≠ "java/lang/invoke/VarHandle" ∧ (parseMethodDescriptor yX8_highestBit.desc).map (fun d => d.parameters.length) = some 1 := by decide +kernel
theorem st_X8_highestBit : Cond.static yX8_highestBit ∈ wG := wG_t 833 (by decide +kernel) rfl
theorem lk_X8_466 : Cond.methodLink RX8 466 yX8_highestBit ∈ wG := wG_t 832 (by decide +kernel) rfl
theorem fl_X8_472 : Cond.fieldLink RX8 472 "BusyChip$Scribe" "letter" "C" ∈ wG := wG_t 291 (by decide +kernel) rfl
theorem fl_X8_180 : Cond.fieldLink RX8 180 "BusyChip$State" "line" "LBusyChip$Line;" ∈ wG := wG_t 238 (by decide +kernel) rfl
theorem co_X1_isFull : Cond.code yX1_isFull cX1_isFull 1 (some .boolean) ∈ wG := wG_t 948 (by decide +kernel) rfl
theorem dd_X1_isFull : yX1_isFull.cls ≠ "java/lang/invoke/MethodHandle" ∧ yX1_isFull.cls ≠ "java/lang/invoke/VarHandle" ∧ (parseMethodDescriptor yX1_isFull.desc).map (fun d => d.parameters.length) = some 0 := by decide +kernel
theorem lk_X8_184 : Cond.methodLink RX8 184 yX1_isFull ∈ wG := wG_t 945 (by decide +kernel) rfl
theorem im_X1_isFull : Cond.instanceMethod yX1_isFull ∈ wG := wG_t 946 (by decide +kernel) rfl
theorem se_X1_isFull : Cond.selects RX1 yX1_isFull yX1_isFull ∈ wG := wG_t 947 (by decide +kernel) rfl
theorem fl_X8_476 : Cond.fieldLink RX8 476 "BusyChip$Scribe" "number" "I" ∈ wG := wG_t 293 (by decide +kernel) rfl
theorem fl_X8_477 : Cond.fieldLink RX8 477 "BusyChip$Scribe" "urgency" "I" ∈ wG := wG_t 295 (by decide +kernel) rfl
theorem fl_X8_478 : Cond.fieldLink RX8 478 "BusyChip$Scribe" "row" "LBusyChip$Row;" ∈ wG := wG_t 297 (by decide +kernel) rfl
theorem co_X1_joinWrite : Cond.code yX1_joinWrite cX1_joinWrite 7 (some .int) ∈ wG := wG_t 961 (by decide +kernel) rfl
theorem dd_X1_joinWrite : yX1_joinWrite.cls ≠ "java/lang/invoke/MethodHandle" ∧ yX1_joinWrite.cls ≠ "java/lang/invoke/VarHandle" ∧ (parseMethodDescriptor yX1_joinWrite.desc).map (fun d => d.parameters.length) = some 4 := by decide +kernel
theorem lk_X8_198 : Cond.methodLink RX8 198 yX1_joinWrite ∈ wG := wG_t 958 (by decide +kernel) rfl
theorem im_X1_joinWrite : Cond.instanceMethod yX1_joinWrite ∈ wG := wG_t 959 (by decide +kernel) rfl
theorem se_X1_joinWrite : Cond.selects RX1 yX1_joinWrite yX1_joinWrite ∈ wG := wG_t 960 (by decide +kernel) rfl
theorem lk_X8_194 : Cond.methodLink RX8 194 yX1_join ∈ wG := wG_t 950 (by decide +kernel) rfl
theorem co_X8_isSector : Cond.code yX8_isSector cX8_isSector 1 (some .boolean) ∈ wG := wG_t 759 (by decide +kernel) rfl
theorem dd_X8_isSector : yX8_isSector.cls ≠ "java/lang/invoke/MethodHandle" ∧ yX8_isSector.cls ≠ "java/lang/invoke/VarHandle" ∧ (parseMethodDescriptor yX8_isSector.desc).map (fun d => d.parameters.length) = some 1 := by decide +kernel
theorem st_X8_isSector : Cond.static yX8_isSector ∈ wG := wG_t 758 (by decide +kernel) rfl
theorem lk_X8_126 : Cond.methodLink RX8 126 yX8_isSector ∈ wG := wG_t 757 (by decide +kernel) rfl
theorem co_X8_isCell : Cond.code yX8_isCell cX8_isCell 1 (some .boolean) ∈ wG := wG_t 888 (by decide +kernel) rfl
theorem dd_X8_isCell : yX8_isCell.cls ≠ "java/lang/invoke/MethodHandle" ∧ yX8_isCell.cls ≠ "java/lang/invoke/VarHandle" ∧ (parseMethodDescriptor yX8_isCell.desc).map (fun d => d.parameters.length) = some 1 := by decide +kernel
theorem st_X8_isCell : Cond.static yX8_isCell ∈ wG := wG_t 887 (by decide +kernel) rfl
theorem lk_X8_93 : Cond.methodLink RX8 93 yX8_isCell ∈ wG := wG_t 886 (by decide +kernel) rfl
theorem uw_X9 : ∀ w ∈ u_ws RX9 TX9 17, w ∈ wG := fun w hw => wG_of ((show ∀ w ∈ u_ws RX9 TX9 17, w ∈ lw_tbl by decide +kernel) w hw) ((show ∀ w ∈ u_ws RX9 TX9 17, goodWord w = true by decide +kernel) w hw)
theorem fl_X9_31 : Cond.fieldLink RX9 31 "BusyChipModel" "thrown" "I" ∈ wG := wG_t 1130 (by decide +kernel) rfl
theorem fl_X9_35 : Cond.fieldLink RX9 35 "BusyChipModel" "saved" "I" ∈ wG := wG_t 1125 (by decide +kernel) rfl
theorem fl_X9_7 : Cond.fieldLink RX9 7 "BusyChipModel" "s" "[I" ∈ wG := wG_t 1122 (by decide +kernel) rfl
theorem fl_X9_16 : Cond.fieldLink RX9 16 "BusyChipModel" "past" "[I" ∈ wG := wG_t 1124 (by decide +kernel) rfl
theorem co_X9_copies : Cond.code yX9_copies cX9_copies 5 none ∈ wG := wG_t 1200 (by decide +kernel) rfl
theorem dd_X9_copies : yX9_copies.cls ≠ "java/lang/invoke/MethodHandle" ∧ yX9_copies.cls ≠ "java/lang/invoke/VarHandle" ∧ (parseMethodDescriptor yX9_copies.desc).map (fun d => d.parameters.length) = some 4 := by decide +kernel
theorem st_X9_copies : Cond.static yX9_copies ∈ wG := wG_t 1199 (by decide +kernel) rfl
theorem lk_X9_38 : Cond.methodLink RX9 38 yX9_copies ∈ wG := wG_t 1198 (by decide +kernel) rfl
theorem co_X9_under : Cond.code yX9_under cX9_under 2 (some .int) ∈ wG := wG_t 1189 (by decide +kernel) rfl
theorem dd_X9_under : yX9_under.cls ≠ "java/lang/invoke/MethodHandle" ∧ yX9_under.cls ≠ "java/lang/invoke/VarHandle" ∧ (parseMethodDescriptor yX9_under.desc).map (fun d => d.parameters.length) = some 1 := by decide +kernel
theorem lk_X9_46 : Cond.methodLink RX9 46 yX9_under ∈ wG := wG_t 1186 (by decide +kernel) rfl
theorem im_X9_under : Cond.instanceMethod yX9_under ∈ wG := wG_t 1188 (by decide +kernel) rfl
theorem se_X9_under : Cond.selects RX9 yX9_under yX9_under ∈ wG := wG_p 32 (by decide +kernel) rfl
theorem co_X9_apart : Cond.code yX9_apart cX9_apart 2 (some .int) ∈ wG := wG_t 1246 (by decide +kernel) rfl
theorem dd_X9_apart : yX9_apart.cls ≠ "java/lang/invoke/MethodHandle" ∧ yX9_apart.cls ≠ "java/lang/invoke/VarHandle" ∧ (parseMethodDescriptor yX9_apart.desc).map (fun d => d.parameters.length) = some 1 := by decide +kernel
theorem lk_X9_50 : Cond.methodLink RX9 50 yX9_apart ∈ wG := wG_t 1243 (by decide +kernel) rfl
theorem im_X9_apart : Cond.instanceMethod yX9_apart ∈ wG := wG_t 1245 (by decide +kernel) rfl
theorem se_X9_apart : Cond.selects RX9 yX9_apart yX9_apart ∈ wG := wG_p 41 (by decide +kernel) rfl
theorem co_X9_ofOrder : Cond.code yX9_ofOrder cX9_ofOrder 3 (some .int) ∈ wG := wG_t 1321 (by decide +kernel) rfl
theorem dd_X9_ofOrder : yX9_ofOrder.cls ≠ "java/lang/invoke/MethodHandle" ∧ yX9_ofOrder.cls ≠ "java/lang/invoke/VarHandle" ∧ (parseMethodDescriptor yX9_ofOrder.desc).map (fun d => d.parameters.length) = some 2 := by decide +kernel
theorem lk_X9_53 : Cond.methodLink RX9 53 yX9_ofOrder ∈ wG := wG_t 1318 (by decide +kernel) rfl
theorem im_X9_ofOrder : Cond.instanceMethod yX9_ofOrder ∈ wG := wG_t 1320 (by decide +kernel) rfl
theorem se_X9_ofOrder : Cond.selects RX9 yX9_ofOrder yX9_ofOrder ∈ wG := wG_p 52 (by decide +kernel) rfl
theorem co_X9_clears : Cond.code yX9_clears cX9_clears 3 none ∈ wG := wG_t 1254 (by decide +kernel) rfl
theorem dd_X9_clears : yX9_clears.cls ≠ "java/lang/invoke/MethodHandle" ∧ yX9_clears.cls ≠ "java/lang/invoke/VarHandle" ∧ (parseMethodDescriptor yX9_clears.desc).map (fun d => d.parameters.length) = some 1 := by decide +kernel
theorem lk_X9_57 : Cond.methodLink RX9 57 yX9_clears ∈ wG := wG_t 1251 (by decide +kernel) rfl
theorem im_X9_clears : Cond.instanceMethod yX9_clears ∈ wG := wG_t 1253 (by decide +kernel) rfl
theorem se_X9_clears : Cond.selects RX9 yX9_clears yX9_clears ∈ wG := wG_p 43 (by decide +kernel) rfl
theorem co_X9_lays : Cond.code yX9_lays cX9_lays 3 none ∈ wG := wG_t 1258 (by decide +kernel) rfl
theorem dd_X9_lays : yX9_lays.cls ≠ "java/lang/invoke/MethodHandle" ∧ yX9_lays.cls ≠ "java/lang/invoke/VarHandle" ∧ (parseMethodDescriptor yX9_lays.desc).map (fun d => d.parameters.length) = some 2 := by decide +kernel
theorem lk_X9_61 : Cond.methodLink RX9 61 yX9_lays ∈ wG := wG_t 1255 (by decide +kernel) rfl
theorem im_X9_lays : Cond.instanceMethod yX9_lays ∈ wG := wG_t 1257 (by decide +kernel) rfl
theorem se_X9_lays : Cond.selects RX9 yX9_lays yX9_lays ∈ wG := wG_p 44 (by decide +kernel) rfl
theorem co_X9_eraseTicks : Cond.code yX9_eraseTicks cX9_eraseTicks 2 (some .int) ∈ wG := wG_t 1273 (by decide +kernel) rfl
theorem dd_X9_eraseTicks : yX9_eraseTicks.cls ≠ "java/lang/invoke/MethodHandle" ∧ yX9_eraseTicks.cls ≠ "java/lang/invoke/VarHandle" ∧ (parseMethodDescriptor yX9_eraseTicks.desc).map (fun d => d.parameters.length) = some 1 := by decide +kernel
theorem lk_X9_65 : Cond.methodLink RX9 65 yX9_eraseTicks ∈ wG := wG_t 1270 (by decide +kernel) rfl
theorem im_X9_eraseTicks : Cond.instanceMethod yX9_eraseTicks ∈ wG := wG_t 1272 (by decide +kernel) rfl
theorem se_X9_eraseTicks : Cond.selects RX9 yX9_eraseTicks yX9_eraseTicks ∈ wG := wG_p 46 (by decide +kernel) rfl
theorem co_X9_beginsErase : Cond.code yX9_beginsErase cX9_beginsErase 3 (some .int) ∈ wG := wG_t 1269 (by decide +kernel) rfl
theorem dd_X9_beginsErase : yX9_beginsErase.cls ≠ "java/lang/invoke/MethodHandle" ∧ yX9_beginsErase.cls ≠ "java/lang/invoke/VarHandle" ∧ (parseMethodDescriptor yX9_beginsErase.desc).map (fun d => d.parameters.length) = some 2 := by decide +kernel
theorem lk_X9_72 : Cond.methodLink RX9 72 yX9_beginsErase ∈ wG := wG_t 1266 (by decide +kernel) rfl
theorem im_X9_beginsErase : Cond.instanceMethod yX9_beginsErase ∈ wG := wG_t 1268 (by decide +kernel) rfl
theorem se_X9_beginsErase : Cond.selects RX9 yX9_beginsErase yX9_beginsErase ∈ wG := wG_p 45 (by decide +kernel) rfl
theorem co_X9_removes : Cond.code yX9_removes cX9_removes 3 none ∈ wG := wG_t 1333 (by decide +kernel) rfl
theorem dd_X9_removes : yX9_removes.cls ≠ "java/lang/invoke/MethodHandle" ∧ yX9_removes.cls ≠ "java/lang/invoke/VarHandle" ∧ (parseMethodDescriptor yX9_removes.desc).map (fun d => d.parameters.length) = some 1 := by decide +kernel
theorem lk_X9_75 : Cond.methodLink RX9 75 yX9_removes ∈ wG := wG_t 1330 (by decide +kernel) rfl
theorem im_X9_removes : Cond.instanceMethod yX9_removes ∈ wG := wG_t 1332 (by decide +kernel) rfl
theorem se_X9_removes : Cond.selects RX9 yX9_removes yX9_removes ∈ wG := wG_p 54 (by decide +kernel) rfl
theorem co_X9_beginsWrite : Cond.code yX9_beginsWrite cX9_beginsWrite 7 (some .int) ∈ wG := wG_t 1250 (by decide +kernel) rfl
theorem dd_X9_beginsWrite : yX9_beginsWrite.cls ≠ "java/lang/invoke/MethodHandle" ∧ yX9_beginsWrite.cls ≠ "java/lang/invoke/VarHandle" ∧ (parseMethodDescriptor yX9_beginsWrite.desc).map (fun d => d.parameters.length) = some 4 := by decide +kernel
theorem lk_X9_68 : Cond.methodLink RX9 68 yX9_beginsWrite ∈ wG := wG_t 1247 (by decide +kernel) rfl
theorem im_X9_beginsWrite : Cond.instanceMethod yX9_beginsWrite ∈ wG := wG_t 1249 (by decide +kernel) rfl
theorem se_X9_beginsWrite : Cond.selects RX9 yX9_beginsWrite yX9_beginsWrite ∈ wG := wG_p 42 (by decide +kernel) rfl
theorem co_X9_ones : Cond.code yX9_ones cX9_ones 3 (some .int) ∈ wG := wG_t 1380 (by decide +kernel) rfl
theorem dd_X9_ones : yX9_ones.cls ≠ "java/lang/invoke/MethodHandle" ∧ yX9_ones.cls ≠ "java/lang/invoke/VarHandle" ∧ (parseMethodDescriptor yX9_ones.desc).map (fun d => d.parameters.length) = some 1 := by decide +kernel
theorem st_X9_ones : Cond.static yX9_ones ∈ wG := wG_t 1379 (by decide +kernel) rfl
theorem lk_X9_78 : Cond.methodLink RX9 78 yX9_ones ∈ wG := wG_t 1378 (by decide +kernel) rfl
theorem co_X9_falls : Cond.code yX9_falls cX9_falls 3 none ∈ wG := wG_t 1377 (by decide +kernel) rfl
theorem dd_X9_falls : yX9_falls.cls ≠ "java/lang/invoke/MethodHandle" ∧ yX9_falls.cls ≠ "java/lang/invoke/VarHandle" ∧ (parseMethodDescriptor yX9_falls.desc).map (fun d => d.parameters.length) = some 2 := by decide +kernel
theorem lk_X9_81 : Cond.methodLink RX9 81 yX9_falls ∈ wG := wG_t 1374 (by decide +kernel) rfl
theorem im_X9_falls : Cond.instanceMethod yX9_falls ∈ wG := wG_t 1376 (by decide +kernel) rfl
theorem se_X9_falls : Cond.selects RX9 yX9_falls yX9_falls ∈ wG := wG_p 64 (by decide +kernel) rfl
theorem co_X9_endsErase : Cond.code yX9_endsErase cX9_endsErase 4 none ∈ wG := wG_t 1388 (by decide +kernel) rfl
theorem dd_X9_endsErase : yX9_endsErase.cls ≠ "java/lang/invoke/MethodHandle" ∧ yX9_endsErase.cls ≠ "java/lang/invoke/VarHandle" ∧ (parseMethodDescriptor yX9_endsErase.desc).map (fun d => d.parameters.length) = some 1 := by decide +kernel
theorem lk_X9_84 : Cond.methodLink RX9 84 yX9_endsErase ∈ wG := wG_t 1385 (by decide +kernel) rfl
theorem im_X9_endsErase : Cond.instanceMethod yX9_endsErase ∈ wG := wG_t 1387 (by decide +kernel) rfl
theorem se_X9_endsErase : Cond.selects RX9 yX9_endsErase yX9_endsErase ∈ wG := wG_p 66 (by decide +kernel) rfl
theorem co_X9_writesOn : Cond.code yX9_writesOn cX9_writesOn 3 none ∈ wG := wG_t 1373 (by decide +kernel) rfl
theorem dd_X9_writesOn : yX9_writesOn.cls ≠ "java/lang/invoke/MethodHandle" ∧ yX9_writesOn.cls ≠ "java/lang/invoke/VarHandle" ∧ (parseMethodDescriptor yX9_writesOn.desc).map (fun d => d.parameters.length) = some 0 := by decide +kernel
theorem lk_X9_87 : Cond.methodLink RX9 87 yX9_writesOn ∈ wG := wG_t 1370 (by decide +kernel) rfl
theorem im_X9_writesOn : Cond.instanceMethod yX9_writesOn ∈ wG := wG_t 1372 (by decide +kernel) rfl
theorem se_X9_writesOn : Cond.selects RX9 yX9_writesOn yX9_writesOn ∈ wG := wG_p 63 (by decide +kernel) rfl
theorem co_X9_erasesOn : Cond.code yX9_erasesOn cX9_erasesOn 4 none ∈ wG := wG_t 1384 (by decide +kernel) rfl
theorem dd_X9_erasesOn : yX9_erasesOn.cls ≠ "java/lang/invoke/MethodHandle" ∧ yX9_erasesOn.cls ≠ "java/lang/invoke/VarHandle" ∧ (parseMethodDescriptor yX9_erasesOn.desc).map (fun d => d.parameters.length) = some 0 := by decide +kernel
theorem lk_X9_90 : Cond.methodLink RX9 90 yX9_erasesOn ∈ wG := wG_t 1381 (by decide +kernel) rfl
theorem im_X9_erasesOn : Cond.instanceMethod yX9_erasesOn ∈ wG := wG_t 1383 (by decide +kernel) rfl
theorem se_X9_erasesOn : Cond.selects RX9 yX9_erasesOn yX9_erasesOn ∈ wG := wG_p 65 (by decide +kernel) rfl
theorem co_X9_locksOn : Cond.code yX9_locksOn cX9_locksOn 1 none ∈ wG := wG_t 1392 (by decide +kernel) rfl
theorem dd_X9_locksOn : yX9_locksOn.cls ≠ "java/lang/invoke/MethodHandle" ∧ yX9_locksOn.cls ≠ "java/lang/invoke/VarHandle" ∧ (parseMethodDescriptor yX9_locksOn.desc).map (fun d => d.parameters.length) = some 0 := by decide +kernel
theorem lk_X9_93 : Cond.methodLink RX9 93 yX9_locksOn ∈ wG := wG_t 1389 (by decide +kernel) rfl
theorem im_X9_locksOn : Cond.instanceMethod yX9_locksOn ∈ wG := wG_t 1391 (by decide +kernel) rfl
theorem se_X9_locksOn : Cond.selects RX9 yX9_locksOn yX9_locksOn ∈ wG := wG_p 67 (by decide +kernel) rfl
theorem co_X9_sectorAt : Cond.code yX9_sectorAt cX9_sectorAt 2 (some .int) ∈ wG := wG_t 1357 (by decide +kernel) rfl
theorem dd_X9_sectorAt : yX9_sectorAt.cls ≠ "java/lang/invoke/MethodHandle" ∧ yX9_sectorAt.cls ≠ "java/lang/invoke/VarHandle" ∧ (parseMethodDescriptor yX9_sectorAt.desc).map (fun d => d.parameters.length) = some 1 := by decide +kernel
theorem lk_X9_96 : Cond.methodLink RX9 96 yX9_sectorAt ∈ wG := wG_t 1354 (by decide +kernel) rfl
theorem im_X9_sectorAt : Cond.instanceMethod yX9_sectorAt ∈ wG := wG_t 1356 (by decide +kernel) rfl
theorem se_X9_sectorAt : Cond.selects RX9 yX9_sectorAt yX9_sectorAt ∈ wG := wG_p 59 (by decide +kernel) rfl
theorem co_X9_isLocked : Cond.code yX9_isLocked cX9_isLocked 3 (some .boolean) ∈ wG := wG_t 1234 (by decide +kernel) rfl
theorem dd_X9_isLocked : yX9_isLocked.cls ≠ "java/lang/invoke/MethodHandle" ∧ yX9_isLocked.cls ≠ "java/lang/invoke/VarHandle" ∧ (parseMethodDescriptor yX9_isLocked.desc).map (fun d => d.parameters.length) = some 1 := by decide +kernel
theorem lk_X9_99 : Cond.methodLink RX9 99 yX9_isLocked ∈ wG := wG_t 1231 (by decide +kernel) rfl
theorem im_X9_isLocked : Cond.instanceMethod yX9_isLocked ∈ wG := wG_t 1233 (by decide +kernel) rfl
theorem se_X9_isLocked : Cond.selects RX9 yX9_isLocked yX9_isLocked ∈ wG := wG_p 38 (by decide +kernel) rfl
theorem co_X9_isBusy : Cond.code yX9_isBusy cX9_isBusy 1 (some .boolean) ∈ wG := wG_t 1185 (by decide +kernel) rfl
theorem dd_X9_isBusy : yX9_isBusy.cls ≠ "java/lang/invoke/MethodHandle" ∧ yX9_isBusy.cls ≠ "java/lang/invoke/VarHandle" ∧ (parseMethodDescriptor yX9_isBusy.desc).map (fun d => d.parameters.length) = some 0 := by decide +kernel
theorem lk_X9_116 : Cond.methodLink RX9 116 yX9_isBusy ∈ wG := wG_t 1182 (by decide +kernel) rfl
theorem im_X9_isBusy : Cond.instanceMethod yX9_isBusy ∈ wG := wG_t 1184 (by decide +kernel) rfl
theorem se_X9_isBusy : Cond.selects RX9 yX9_isBusy yX9_isBusy ∈ wG := wG_p 31 (by decide +kernel) rfl
theorem co_X9_isAside : Cond.code yX9_isAside cX9_isAside 1 (some .boolean) ∈ wG := wG_t 1242 (by decide +kernel) rfl
theorem dd_X9_isAside : yX9_isAside.cls ≠ "java/lang/invoke/MethodHandle" ∧ yX9_isAside.cls ≠ "java/lang/invoke/VarHandle" ∧ (parseMethodDescriptor yX9_isAside.desc).map (fun d => d.parameters.length) = some 0 := by decide +kernel
theorem lk_X9_103 : Cond.methodLink RX9 103 yX9_isAside ∈ wG := wG_t 1239 (by decide +kernel) rfl
theorem im_X9_isAside : Cond.instanceMethod yX9_isAside ∈ wG := wG_t 1241 (by decide +kernel) rfl
theorem se_X9_isAside : Cond.selects RX9 yX9_isAside yX9_isAside ∈ wG := wG_p 40 (by decide +kernel) rfl
theorem co_X9_foremost : Cond.code yX9_foremost cX9_foremost 3 (some .int) ∈ wG := wG_t 1365 (by decide +kernel) rfl
theorem dd_X9_foremost : yX9_foremost.cls ≠ "java/lang/invoke/MethodHandle" ∧ yX9_foremost.cls ≠ "java/lang/invoke/VarHandle" ∧ (parseMethodDescriptor yX9_foremost.desc).map (fun d => d.parameters.length) = some 0 := by decide +kernel
theorem lk_X9_122 : Cond.methodLink RX9 122 yX9_foremost ∈ wG := wG_t 1362 (by decide +kernel) rfl
theorem im_X9_foremost : Cond.instanceMethod yX9_foremost ∈ wG := wG_t 1364 (by decide +kernel) rfl
theorem se_X9_foremost : Cond.selects RX9 yX9_foremost yX9_foremost ∈ wG := wG_p 61 (by decide +kernel) rfl
theorem co_X9_beginsOrder : Cond.code yX9_beginsOrder cX9_beginsOrder 3 none ∈ wG := wG_t 1361 (by decide +kernel) rfl
theorem dd_X9_beginsOrder : yX9_beginsOrder.cls ≠ "java/lang/invoke/MethodHandle" ∧ yX9_beginsOrder.cls ≠ "java/lang/invoke/VarHandle" ∧ (parseMethodDescriptor yX9_beginsOrder.desc).map (fun d => d.parameters.length) = some 1 := by decide +kernel
theorem lk_X9_113 : Cond.methodLink RX9 113 yX9_beginsOrder ∈ wG := wG_t 1358 (by decide +kernel) rfl
theorem im_X9_beginsOrder : Cond.instanceMethod yX9_beginsOrder ∈ wG := wG_t 1360 (by decide +kernel) rfl
theorem se_X9_beginsOrder : Cond.selects RX9 yX9_beginsOrder yX9_beginsOrder ∈ wG := wG_p 60 (by decide +kernel) rfl
theorem co_X9_presses : Cond.code yX9_presses cX9_presses 6 (some .int) ∈ wG := wG_t 1353 (by decide +kernel) rfl
theorem dd_X9_presses : yX9_presses.cls ≠ "java/lang/invoke/MethodHandle" ∧ yX9_presses.cls ≠ "java/lang/invoke/VarHandle" ∧ (parseMethodDescriptor yX9_presses.desc).map (fun d => d.parameters.length) = some 2 := by decide +kernel
theorem lk_X9_107 : Cond.methodLink RX9 107 yX9_presses ∈ wG := wG_t 1350 (by decide +kernel) rfl
theorem im_X9_presses : Cond.instanceMethod yX9_presses ∈ wG := wG_t 1352 (by decide +kernel) rfl
theorem se_X9_presses : Cond.selects RX9 yX9_presses yX9_presses ∈ wG := wG_p 58 (by decide +kernel) rfl
theorem co_X9_takesBack : Cond.code yX9_takesBack cX9_takesBack 2 none ∈ wG := wG_t 1301 (by decide +kernel) rfl
theorem dd_X9_takesBack : yX9_takesBack.cls ≠ "java/lang/invoke/MethodHandle" ∧ yX9_takesBack.cls ≠ "java/lang/invoke/VarHandle" ∧ (parseMethodDescriptor yX9_takesBack.desc).map (fun d => d.parameters.length) = some 0 := by decide +kernel
theorem lk_X9_119 : Cond.methodLink RX9 119 yX9_takesBack ∈ wG := wG_t 1298 (by decide +kernel) rfl
theorem im_X9_takesBack : Cond.instanceMethod yX9_takesBack ∈ wG := wG_t 1300 (by decide +kernel) rfl
theorem se_X9_takesBack : Cond.selects RX9 yX9_takesBack yX9_takesBack ∈ wG := wG_p 49 (by decide +kernel) rfl
theorem co_X9_setsAside : Cond.code yX9_setsAside cX9_setsAside 3 none ∈ wG := wG_t 1293 (by decide +kernel) rfl
theorem dd_X9_setsAside : yX9_setsAside.cls ≠ "java/lang/invoke/MethodHandle" ∧ yX9_setsAside.cls ≠ "java/lang/invoke/VarHandle" ∧ (parseMethodDescriptor yX9_setsAside.desc).map (fun d => d.parameters.length) = some 1 := by decide +kernel
theorem lk_X9_110 : Cond.methodLink RX9 110 yX9_setsAside ∈ wG := wG_t 1290 (by decide +kernel) rfl
theorem im_X9_setsAside : Cond.instanceMethod yX9_setsAside ∈ wG := wG_t 1292 (by decide +kernel) rfl
theorem se_X9_setsAside : Cond.selects RX9 yX9_setsAside yX9_setsAside ∈ wG := wG_p 48 (by decide +kernel) rfl
theorem co_X9_acts : Cond.code yX9_acts cX9_acts 4 none ∈ wG := wG_t 1349 (by decide +kernel) rfl
theorem dd_X9_acts : yX9_acts.cls ≠ "java/lang/invoke/MethodHandle" ∧ yX9_acts.cls ≠ "java/lang/invoke/VarHandle" ∧ (parseMethodDescriptor yX9_acts.desc).map (fun d => d.parameters.length) = some 0 := by decide +kernel
theorem lk_X9_126 : Cond.methodLink RX9 126 yX9_acts ∈ wG := wG_t 1346 (by decide +kernel) rfl
theorem im_X9_acts : Cond.instanceMethod yX9_acts ∈ wG := wG_t 1348 (by decide +kernel) rfl
theorem se_X9_acts : Cond.selects RX9 yX9_acts yX9_acts ∈ wG := wG_p 57 (by decide +kernel) rfl
theorem co_X9_goesOn : Cond.code yX9_goesOn cX9_goesOn 1 none ∈ wG := wG_t 1369 (by decide +kernel) rfl
theorem dd_X9_goesOn : yX9_goesOn.cls ≠ "java/lang/invoke/MethodHandle" ∧ yX9_goesOn.cls ≠ "java/lang/invoke/VarHandle" ∧ (parseMethodDescriptor yX9_goesOn.desc).map (fun d => d.parameters.length) = some 0 := by decide +kernel
theorem lk_X9_129 : Cond.methodLink RX9 129 yX9_goesOn ∈ wG := wG_t 1366 (by decide +kernel) rfl
theorem im_X9_goesOn : Cond.instanceMethod yX9_goesOn ∈ wG := wG_t 1368 (by decide +kernel) rfl
theorem se_X9_goesOn : Cond.selects RX9 yX9_goesOn yX9_goesOn ∈ wG := wG_p 62 (by decide +kernel) rfl
theorem co_X9_ticks : Cond.code yX9_ticks cX9_ticks 2 (some .boolean) ∈ wG := wG_t 1345 (by decide +kernel) rfl
theorem dd_X9_ticks : yX9_ticks.cls ≠ "java/lang/invoke/MethodHandle" ∧ yX9_ticks.cls ≠ "java/lang/invoke/VarHandle" ∧ (parseMethodDescriptor yX9_ticks.desc).map (fun d => d.parameters.length) = some 0 := by decide +kernel
theorem lk_X9_132 : Cond.methodLink RX9 132 yX9_ticks ∈ wG := wG_t 1342 (by decide +kernel) rfl
theorem im_X9_ticks : Cond.instanceMethod yX9_ticks ∈ wG := wG_t 1344 (by decide +kernel) rfl
theorem se_X9_ticks : Cond.selects RX9 yX9_ticks yX9_ticks ∈ wG := wG_p 56 (by decide +kernel) rfl
theorem co_X9_sectorOf : Cond.code yX9_sectorOf cX9_sectorOf 3 (some .int) ∈ wG := wG_t 1230 (by decide +kernel) rfl
theorem dd_X9_sectorOf : yX9_sectorOf.cls ≠ "java/lang/invoke/MethodHandle" ∧ yX9_sectorOf.cls ≠ "java/lang/invoke/VarHandle" ∧ (parseMethodDescriptor yX9_sectorOf.desc).map (fun d => d.parameters.length) = some 2 := by decide +kernel
theorem lk_X9_135 : Cond.methodLink RX9 135 yX9_sectorOf ∈ wG := wG_t 1227 (by decide +kernel) rfl
theorem im_X9_sectorOf : Cond.instanceMethod yX9_sectorOf ∈ wG := wG_t 1229 (by decide +kernel) rfl
theorem se_X9_sectorOf : Cond.selects RX9 yX9_sectorOf yX9_sectorOf ∈ wG := wG_p 37 (by decide +kernel) rfl
theorem co_X9_allows : Cond.code yX9_allows cX9_allows 3 (some .boolean) ∈ wG := wG_t 1238 (by decide +kernel) rfl
theorem dd_X9_allows : yX9_allows.cls ≠ "java/lang/invoke/MethodHandle" ∧ yX9_allows.cls ≠ "java/lang/invoke/VarHandle" ∧ (parseMethodDescriptor yX9_allows.desc).map (fun d => d.parameters.length) = some 2 := by decide +kernel
theorem lk_X9_138 : Cond.methodLink RX9 138 yX9_allows ∈ wG := wG_t 1235 (by decide +kernel) rfl
theorem im_X9_allows : Cond.instanceMethod yX9_allows ∈ wG := wG_t 1237 (by decide +kernel) rfl
theorem se_X9_allows : Cond.selects RX9 yX9_allows yX9_allows ∈ wG := wG_p 39 (by decide +kernel) rfl
theorem co_X9_saves : Cond.code yX9_saves cX9_saves 2 none ∈ wG := wG_t 1197 (by decide +kernel) rfl
theorem dd_X9_saves : yX9_saves.cls ≠ "java/lang/invoke/MethodHandle" ∧ yX9_saves.cls ≠ "java/lang/invoke/VarHandle" ∧ (parseMethodDescriptor yX9_saves.desc).map (fun d => d.parameters.length) = some 0 := by decide +kernel
theorem lk_X9_145 : Cond.methodLink RX9 145 yX9_saves ∈ wG := wG_t 1194 (by decide +kernel) rfl
theorem im_X9_saves : Cond.instanceMethod yX9_saves ∈ wG := wG_t 1196 (by decide +kernel) rfl
theorem se_X9_saves : Cond.selects RX9 yX9_saves yX9_saves ∈ wG := wG_p 34 (by decide +kernel) rfl
theorem co_X9_fails : Cond.code yX9_fails cX9_fails 2 (some .int) ∈ wG := wG_t 1193 (by decide +kernel) rfl
theorem dd_X9_fails : yX9_fails.cls ≠ "java/lang/invoke/MethodHandle" ∧ yX9_fails.cls ≠ "java/lang/invoke/VarHandle" ∧ (parseMethodDescriptor yX9_fails.desc).map (fun d => d.parameters.length) = some 1 := by decide +kernel
theorem lk_X9_142 : Cond.methodLink RX9 142 yX9_fails ∈ wG := wG_t 1190 (by decide +kernel) rfl
theorem im_X9_fails : Cond.instanceMethod yX9_fails ∈ wG := wG_t 1192 (by decide +kernel) rfl
theorem se_X9_fails : Cond.selects RX9 yX9_fails yX9_fails ∈ wG := wG_p 33 (by decide +kernel) rfl
theorem co_X9_unloads : Cond.code yX9_unloads cX9_unloads 2 none ∈ wG := wG_t 1215 (by decide +kernel) rfl
theorem dd_X9_unloads : yX9_unloads.cls ≠ "java/lang/invoke/MethodHandle" ∧ yX9_unloads.cls ≠ "java/lang/invoke/VarHandle" ∧ (parseMethodDescriptor yX9_unloads.desc).map (fun d => d.parameters.length) = some 0 := by decide +kernel
theorem lk_X9_148 : Cond.methodLink RX9 148 yX9_unloads ∈ wG := wG_t 1212 (by decide +kernel) rfl
theorem im_X9_unloads : Cond.instanceMethod yX9_unloads ∈ wG := wG_t 1214 (by decide +kernel) rfl
theorem se_X9_unloads : Cond.selects RX9 yX9_unloads yX9_unloads ∈ wG := wG_p 35 (by decide +kernel) rfl
theorem co_X9_isCell : Cond.code yX9_isCell cX9_isCell 1 (some .boolean) ∈ wG := wG_t 1222 (by decide +kernel) rfl
theorem dd_X9_isCell : yX9_isCell.cls ≠ "java/lang/invoke/MethodHandle" ∧ yX9_isCell.cls ≠ "java/lang/invoke/VarHandle" ∧ (parseMethodDescriptor yX9_isCell.desc).map (fun d => d.parameters.length) = some 1 := by decide +kernel
theorem st_X9_isCell : Cond.static yX9_isCell ∈ wG := wG_t 1221 (by decide +kernel) rfl
theorem lk_X9_151 : Cond.methodLink RX9 151 yX9_isCell ∈ wG := wG_t 1220 (by decide +kernel) rfl
theorem co_X9_whyNot : Cond.code yX9_whyNot cX9_whyNot 3 (some .int) ∈ wG := wG_t 1226 (by decide +kernel) rfl
theorem dd_X9_whyNot : yX9_whyNot.cls ≠ "java/lang/invoke/MethodHandle" ∧ yX9_whyNot.cls ≠ "java/lang/invoke/VarHandle" ∧ (parseMethodDescriptor yX9_whyNot.desc).map (fun d => d.parameters.length) = some 2 := by decide +kernel
theorem lk_X9_154 : Cond.methodLink RX9 154 yX9_whyNot ∈ wG := wG_t 1223 (by decide +kernel) rfl
theorem im_X9_whyNot : Cond.instanceMethod yX9_whyNot ∈ wG := wG_t 1225 (by decide +kernel) rfl
theorem se_X9_whyNot : Cond.selects RX9 yX9_whyNot yX9_whyNot ∈ wG := wG_p 36 (by decide +kernel) rfl
theorem co_X9_isSector : Cond.code yX9_isSector cX9_isSector 1 (some .boolean) ∈ wG := wG_t 1265 (by decide +kernel) rfl
theorem dd_X9_isSector : yX9_isSector.cls ≠ "java/lang/invoke/MethodHandle" ∧ yX9_isSector.cls ≠ "java/lang/invoke/VarHandle" ∧ (parseMethodDescriptor yX9_isSector.desc).map (fun d => d.parameters.length) = some 1 := by decide +kernel
theorem st_X9_isSector : Cond.static yX9_isSector ∈ wG := wG_t 1264 (by decide +kernel) rfl
theorem lk_X9_157 : Cond.methodLink RX9 157 yX9_isSector ∈ wG := wG_t 1263 (by decide +kernel) rfl
theorem co_X9_beginsLock : Cond.code yX9_beginsLock cX9_beginsLock 3 (some .int) ∈ wG := wG_t 1281 (by decide +kernel) rfl
theorem dd_X9_beginsLock : yX9_beginsLock.cls ≠ "java/lang/invoke/MethodHandle" ∧ yX9_beginsLock.cls ≠ "java/lang/invoke/VarHandle" ∧ (parseMethodDescriptor yX9_beginsLock.desc).map (fun d => d.parameters.length) = some 2 := by decide +kernel
theorem lk_X9_160 : Cond.methodLink RX9 160 yX9_beginsLock ∈ wG := wG_t 1278 (by decide +kernel) rfl
theorem im_X9_beginsLock : Cond.instanceMethod yX9_beginsLock ∈ wG := wG_t 1280 (by decide +kernel) rfl
theorem se_X9_beginsLock : Cond.selects RX9 yX9_beginsLock yX9_beginsLock ∈ wG := wG_p 47 (by decide +kernel) rfl
theorem co_X9_loses : Cond.code yX9_loses cX9_loses 5 (some .int) ∈ wG := wG_t 1309 (by decide +kernel) rfl
theorem dd_X9_loses : yX9_loses.cls ≠ "java/lang/invoke/MethodHandle" ∧ yX9_loses.cls ≠ "java/lang/invoke/VarHandle" ∧ (parseMethodDescriptor yX9_loses.desc).map (fun d => d.parameters.length) = some 1 := by decide +kernel
theorem lk_X9_163 : Cond.methodLink RX9 163 yX9_loses ∈ wG := wG_t 1306 (by decide +kernel) rfl
theorem im_X9_loses : Cond.instanceMethod yX9_loses ∈ wG := wG_t 1308 (by decide +kernel) rfl
theorem se_X9_loses : Cond.selects RX9 yX9_loses yX9_loses ∈ wG := wG_p 50 (by decide +kernel) rfl
theorem co_X9_posts : Cond.code yX9_posts cX9_posts 7 (some .int) ∈ wG := wG_t 1317 (by decide +kernel) rfl
theorem dd_X9_posts : yX9_posts.cls ≠ "java/lang/invoke/MethodHandle" ∧ yX9_posts.cls ≠ "java/lang/invoke/VarHandle" ∧ (parseMethodDescriptor yX9_posts.desc).map (fun d => d.parameters.length) = some 3 := by decide +kernel
theorem lk_X9_166 : Cond.methodLink RX9 166 yX9_posts ∈ wG := wG_t 1314 (by decide +kernel) rfl
theorem im_X9_posts : Cond.instanceMethod yX9_posts ∈ wG := wG_t 1316 (by decide +kernel) rfl
theorem se_X9_posts : Cond.selects RX9 yX9_posts yX9_posts ∈ wG := wG_p 51 (by decide +kernel) rfl
theorem co_X9_rankOf : Cond.code yX9_rankOf cX9_rankOf 4 (some .int) ∈ wG := wG_t 1329 (by decide +kernel) rfl
theorem dd_X9_rankOf : yX9_rankOf.cls ≠ "java/lang/invoke/MethodHandle" ∧ yX9_rankOf.cls ≠ "java/lang/invoke/VarHandle" ∧ (parseMethodDescriptor yX9_rankOf.desc).map (fun d => d.parameters.length) = some 1 := by decide +kernel
theorem lk_X9_170 : Cond.methodLink RX9 170 yX9_rankOf ∈ wG := wG_t 1326 (by decide +kernel) rfl
theorem im_X9_rankOf : Cond.instanceMethod yX9_rankOf ∈ wG := wG_t 1328 (by decide +kernel) rfl
theorem se_X9_rankOf : Cond.selects RX9 yX9_rankOf yX9_rankOf ∈ wG := wG_p 53 (by decide +kernel) rfl
theorem co_X9_passes : Cond.code yX9_passes cX9_passes 4 (some .int) ∈ wG := wG_t 1341 (by decide +kernel) rfl
theorem dd_X9_passes : yX9_passes.cls ≠ "java/lang/invoke/MethodHandle" ∧ yX9_passes.cls ≠ "java/lang/invoke/VarHandle" ∧ (parseMethodDescriptor yX9_passes.desc).map (fun d => d.parameters.length) = some 1 := by decide +kernel
theorem lk_X9_173 : Cond.methodLink RX9 173 yX9_passes ∈ wG := wG_t 1338 (by decide +kernel) rfl
theorem im_X9_passes : Cond.instanceMethod yX9_passes ∈ wG := wG_t 1340 (by decide +kernel) rfl
theorem se_X9_passes : Cond.selects RX9 yX9_passes yX9_passes ∈ wG := wG_p 55 (by decide +kernel) rfl
theorem co_X9_mostOf : Cond.code yX9_mostOf cX9_mostOf 1 (some .int) ∈ wG := wG_t 1399 (by decide +kernel) rfl
theorem dd_X9_mostOf : yX9_mostOf.cls ≠ "java/lang/invoke/MethodHandle" ∧ yX9_mostOf.cls ≠ "java/lang/invoke/VarHandle" ∧ (parseMethodDescriptor yX9_mostOf.desc).map (fun d => d.parameters.length) = some 1 := by decide +kernel
theorem st_X9_mostOf : Cond.static yX9_mostOf ∈ wG := wG_t 1398 (by decide +kernel) rfl
theorem lk_X9_176 : Cond.methodLink RX9 176 yX9_mostOf ∈ wG := wG_t 1397 (by decide +kernel) rfl
theorem fl_X9_179 : Cond.fieldLink RX9 179 "BusyChipModel" "length" "I" ∈ wG := wG_t 1129 (by decide +kernel) rfl
theorem fl_X9_22 : Cond.fieldLink RX9 22 "BusyChipModel" "text" "[I" ∈ wG := wG_t 1128 (by decide +kernel) rfl
theorem fl_X9_182 : Cond.fieldLink RX9 182 "BusyChipModel" "spot" "I" ∈ wG := wG_t 1131 (by decide +kernel) rfl
theorem fl_X9_185 : Cond.fieldLink RX9 185 "BusyChipModel" "isForm" "Z" ∈ wG := wG_t 1132 (by decide +kernel) rfl
theorem co_X9_here : Cond.code yX9_here cX9_here 1 (some .int) ∈ wG := wG_t 1423 (by decide +kernel) rfl
theorem dd_X9_here : yX9_here.cls ≠ "java/lang/invoke/MethodHandle" ∧ yX9_here.cls ≠ "java/lang/invoke/VarHandle" ∧ (parseMethodDescriptor yX9_here.desc).map (fun d => d.parameters.length) = some 0 := by decide +kernel
theorem lk_X9_189 : Cond.methodLink RX9 189 yX9_here ∈ wG := wG_t 1420 (by decide +kernel) rfl
theorem im_X9_here : Cond.instanceMethod yX9_here ∈ wG := wG_t 1422 (by decide +kernel) rfl
theorem se_X9_here : Cond.selects RX9 yX9_here yX9_here ∈ wG := wG_p 70 (by decide +kernel) rfl
theorem fl_X9_192 : Cond.fieldLink RX9 192 "BusyChipModel" "told" "I" ∈ wG := wG_t 1134 (by decide +kernel) rfl
theorem co_X9_takes : Cond.code yX9_takes cX9_takes 2 none ∈ wG := wG_t 1427 (by decide +kernel) rfl
theorem dd_X9_takes : yX9_takes.cls ≠ "java/lang/invoke/MethodHandle" ∧ yX9_takes.cls ≠ "java/lang/invoke/VarHandle" ∧ (parseMethodDescriptor yX9_takes.desc).map (fun d => d.parameters.length) = some 1 := by decide +kernel
theorem lk_X9_195 : Cond.methodLink RX9 195 yX9_takes ∈ wG := wG_t 1424 (by decide +kernel) rfl
theorem im_X9_takes : Cond.instanceMethod yX9_takes ∈ wG := wG_t 1426 (by decide +kernel) rfl
theorem se_X9_takes : Cond.selects RX9 yX9_takes yX9_takes ∈ wG := wG_p 71 (by decide +kernel) rfl
theorem co_X9_figure : Cond.code yX9_figure cX9_figure 1 (some .int) ∈ wG := wG_t 1442 (by decide +kernel) rfl
theorem dd_X9_figure : yX9_figure.cls ≠ "java/lang/invoke/MethodHandle" ∧ yX9_figure.cls ≠ "java/lang/invoke/VarHandle" ∧ (parseMethodDescriptor yX9_figure.desc).map (fun d => d.parameters.length) = some 1 := by decide +kernel
theorem st_X9_figure : Cond.static yX9_figure ∈ wG := wG_t 1441 (by decide +kernel) rfl
theorem lk_X9_199 : Cond.methodLink RX9 199 yX9_figure ∈ wG := wG_t 1440 (by decide +kernel) rfl
theorem fl_X9_25 : Cond.fieldLink RX9 25 "BusyChipModel" "row" "[I" ∈ wG := wG_t 1137 (by decide +kernel) rfl
theorem fl_X9_202 : Cond.fieldLink RX9 202 "BusyChipModel" "values" "I" ∈ wG := wG_t 1136 (by decide +kernel) rfl
theorem co_X9_takesValue : Cond.code yX9_takesValue cX9_takesValue 3 none ∈ wG := wG_t 1439 (by decide +kernel) rfl
theorem dd_X9_takesValue : yX9_takesValue.cls ≠ "java/lang/invoke/MethodHandle" ∧ yX9_takesValue.cls ≠ "java/lang/invoke/VarHandle" ∧ (parseMethodDescriptor yX9_takesValue.desc).map (fun d => d.parameters.length) = some 0 := by decide +kernel
theorem lk_X9_205 : Cond.methodLink RX9 205 yX9_takesValue ∈ wG := wG_t 1436 (by decide +kernel) rfl
theorem im_X9_takesValue : Cond.instanceMethod yX9_takesValue ∈ wG := wG_t 1438 (by decide +kernel) rfl
theorem se_X9_takesValue : Cond.selects RX9 yX9_takesValue yX9_takesValue ∈ wG := wG_p 74 (by decide +kernel) rfl
theorem fl_X9_208 : Cond.fieldLink RX9 208 "BusyChipModel" "letter" "I" ∈ wG := wG_t 1133 (by decide +kernel) rfl
theorem co_X9_takesNumber : Cond.code yX9_takesNumber cX9_takesNumber 3 none ∈ wG := wG_t 1431 (by decide +kernel) rfl
theorem dd_X9_takesNumber : yX9_takesNumber.cls ≠ "java/lang/invoke/MethodHandle" ∧ yX9_takesNumber.cls ≠ "java/lang/invoke/VarHandle" ∧ (parseMethodDescriptor yX9_takesNumber.desc).map (fun d => d.parameters.length) = some 2 := by decide +kernel
theorem lk_X9_211 : Cond.methodLink RX9 211 yX9_takesNumber ∈ wG := wG_t 1428 (by decide +kernel) rfl
theorem im_X9_takesNumber : Cond.instanceMethod yX9_takesNumber ∈ wG := wG_t 1430 (by decide +kernel) rfl
theorem se_X9_takesNumber : Cond.selects RX9 yX9_takesNumber yX9_takesNumber ∈ wG := wG_p 72 (by decide +kernel) rfl
theorem fl_X9_217 : Cond.fieldLink RX9 217 "BusyChipModel" "toldUrgency" "I" ∈ wG := wG_t 1135 (by decide +kernel) rfl
theorem co_X9_takesValues : Cond.code yX9_takesValues cX9_takesValues 1 none ∈ wG := wG_t 1435 (by decide +kernel) rfl
theorem dd_X9_takesValues : yX9_takesValues.cls ≠ "java/lang/invoke/MethodHandle" ∧ yX9_takesValues.cls ≠ "java/lang/invoke/VarHandle" ∧ (parseMethodDescriptor yX9_takesValues.desc).map (fun d => d.parameters.length) = some 0 := by decide +kernel
theorem lk_X9_214 : Cond.methodLink RX9 214 yX9_takesValues ∈ wG := wG_t 1432 (by decide +kernel) rfl
theorem im_X9_takesValues : Cond.instanceMethod yX9_takesValues ∈ wG := wG_t 1434 (by decide +kernel) rfl
theorem se_X9_takesValues : Cond.selects RX9 yX9_takesValues yX9_takesValues ∈ wG := wG_p 73 (by decide +kernel) rfl
theorem co_X9_takesPart : Cond.code yX9_takesPart cX9_takesPart 1 none ∈ wG := wG_t 1419 (by decide +kernel) rfl
theorem dd_X9_takesPart : yX9_takesPart.cls ≠ "java/lang/invoke/MethodHandle" ∧ yX9_takesPart.cls ≠ "java/lang/invoke/VarHandle" ∧ (parseMethodDescriptor yX9_takesPart.desc).map (fun d => d.parameters.length) = some 0 := by decide +kernel
theorem lk_X9_220 : Cond.methodLink RX9 220 yX9_takesPart ∈ wG := wG_t 1416 (by decide +kernel) rfl
theorem im_X9_takesPart : Cond.instanceMethod yX9_takesPart ∈ wG := wG_t 1418 (by decide +kernel) rfl
theorem se_X9_takesPart : Cond.selects RX9 yX9_takesPart yX9_takesPart ∈ wG := wG_p 69 (by decide +kernel) rfl
theorem co_X9_isText : Cond.code yX9_isText cX9_isText 1 (some .boolean) ∈ wG := wG_t 1415 (by decide +kernel) rfl
theorem dd_X9_isText : yX9_isText.cls ≠ "java/lang/invoke/MethodHandle" ∧ yX9_isText.cls ≠ "java/lang/invoke/VarHandle" ∧ (parseMethodDescriptor yX9_isText.desc).map (fun d => d.parameters.length) = some 0 := by decide +kernel
theorem lk_X9_223 : Cond.methodLink RX9 223 yX9_isText ∈ wG := wG_t 1412 (by decide +kernel) rfl
theorem im_X9_isText : Cond.instanceMethod yX9_isText ∈ wG := wG_t 1414 (by decide +kernel) rfl
theorem se_X9_isText : Cond.selects RX9 yX9_isText yX9_isText ∈ wG := wG_p 68 (by decide +kernel) rfl
theorem co_X9_doesPart : Cond.code yX9_doesPart cX9_doesPart 3 (some .boolean) ∈ wG := wG_t 1450 (by decide +kernel) rfl
theorem dd_X9_doesPart : yX9_doesPart.cls ≠ "java/lang/invoke/MethodHandle" ∧ yX9_doesPart.cls ≠ "java/lang/invoke/VarHandle" ∧ (parseMethodDescriptor yX9_doesPart.desc).map (fun d => d.parameters.length) = some 0 := by decide +kernel
theorem lk_X9_226 : Cond.methodLink RX9 226 yX9_doesPart ∈ wG := wG_t 1447 (by decide +kernel) rfl
theorem im_X9_doesPart : Cond.instanceMethod yX9_doesPart ∈ wG := wG_t 1449 (by decide +kernel) rfl
theorem se_X9_doesPart : Cond.selects RX9 yX9_doesPart yX9_doesPart ∈ wG := wG_p 75 (by decide +kernel) rfl
theorem fl_X9_19 : Cond.fieldLink RX9 19 "BusyChipModel" "kept" "[I" ∈ wG := wG_t 1126 (by decide +kernel) rfl
theorem fl_X9_229 : Cond.fieldLink RX9 229 "BusyChipModel" "isKept" "Z" ∈ wG := wG_t 1127 (by decide +kernel) rfl
theorem co_X9_isHidden : Cond.code yX9_isHidden cX9_isHidden 2 (some .boolean) ∈ wG := wG_t 1470 (by decide +kernel) rfl
theorem dd_X9_isHidden : yX9_isHidden.cls ≠ "java/lang/invoke/MethodHandle" ∧ yX9_isHidden.cls ≠ "java/lang/invoke/VarHandle" ∧ (parseMethodDescriptor yX9_isHidden.desc).map (fun d => d.parameters.length) = some 1 := by decide +kernel
theorem lk_X9_232 : Cond.methodLink RX9 232 yX9_isHidden ∈ wG := wG_t 1467 (by decide +kernel) rfl
theorem im_X9_isHidden : Cond.instanceMethod yX9_isHidden ∈ wG := wG_t 1469 (by decide +kernel) rfl
theorem se_X9_isHidden : Cond.selects RX9 yX9_isHidden yX9_isHidden ∈ wG := wG_p 76 (by decide +kernel) rfl
theorem co_X9_loadedFor : Cond.code yX9_loadedFor cX9_loadedFor 2 (some .int) ∈ wG := wG_t 1482 (by decide +kernel) rfl
theorem dd_X9_loadedFor : yX9_loadedFor.cls ≠ "java/lang/invoke/MethodHandle" ∧ yX9_loadedFor.cls ≠ "java/lang/invoke/VarHandle" ∧ (parseMethodDescriptor yX9_loadedFor.desc).map (fun d => d.parameters.length) = some 1 := by decide +kernel
theorem lk_X9_235 : Cond.methodLink RX9 235 yX9_loadedFor ∈ wG := wG_t 1479 (by decide +kernel) rfl
theorem im_X9_loadedFor : Cond.instanceMethod yX9_loadedFor ∈ wG := wG_t 1481 (by decide +kernel) rfl
theorem se_X9_loadedFor : Cond.selects RX9 yX9_loadedFor yX9_loadedFor ∈ wG := wG_p 78 (by decide +kernel) rfl
theorem co_X9_cellTold : Cond.code yX9_cellTold cX9_cellTold 3 (some .int) ∈ wG := wG_t 1478 (by decide +kernel) rfl
theorem dd_X9_cellTold : yX9_cellTold.cls ≠ "java/lang/invoke/MethodHandle" ∧ yX9_cellTold.cls ≠ "java/lang/invoke/VarHandle" ∧ (parseMethodDescriptor yX9_cellTold.desc).map (fun d => d.parameters.length) = some 2 := by decide +kernel
theorem lk_X9_238 : Cond.methodLink RX9 238 yX9_cellTold ∈ wG := wG_t 1475 (by decide +kernel) rfl
theorem im_X9_cellTold : Cond.instanceMethod yX9_cellTold ∈ wG := wG_t 1477 (by decide +kernel) rfl
theorem se_X9_cellTold : Cond.selects RX9 yX9_cellTold yX9_cellTold ∈ wG := wG_p 77 (by decide +kernel) rfl
theorem co_X9_onesFrom : Cond.code yX9_onesFrom cX9_onesFrom 5 (some .int) ∈ wG := wG_t 1494 (by decide +kernel) rfl
theorem dd_X9_onesFrom : yX9_onesFrom.cls ≠ "java/lang/invoke/MethodHandle" ∧ yX9_onesFrom.cls ≠ "java/lang/invoke/VarHandle" ∧ (parseMethodDescriptor yX9_onesFrom.desc).map (fun d => d.parameters.length) = some 2 := by decide +kernel
theorem lk_X9_241 : Cond.methodLink RX9 241 yX9_onesFrom ∈ wG := wG_t 1491 (by decide +kernel) rfl
theorem im_X9_onesFrom : Cond.instanceMethod yX9_onesFrom ∈ wG := wG_t 1493 (by decide +kernel) rfl
theorem se_X9_onesFrom : Cond.selects RX9 yX9_onesFrom yX9_onesFrom ∈ wG := wG_p 80 (by decide +kernel) rfl
theorem co_X9_usedPages : Cond.code yX9_usedPages cX9_usedPages 4 (some .int) ∈ wG := wG_t 1498 (by decide +kernel) rfl
theorem dd_X9_usedPages : yX9_usedPages.cls ≠ "java/lang/invoke/MethodHandle" ∧ yX9_usedPages.cls ≠ "java/lang/invoke/VarHandle" ∧ (parseMethodDescriptor yX9_usedPages.desc).map (fun d => d.parameters.length) = some 1 := by decide +kernel
theorem lk_X9_244 : Cond.methodLink RX9 244 yX9_usedPages ∈ wG := wG_t 1495 (by decide +kernel) rfl
theorem im_X9_usedPages : Cond.instanceMethod yX9_usedPages ∈ wG := wG_t 1497 (by decide +kernel) rfl
theorem se_X9_usedPages : Cond.selects RX9 yX9_usedPages yX9_usedPages ∈ wG := wG_p 81 (by decide +kernel) rfl
theorem co_X9_unsurePages : Cond.code yX9_unsurePages cX9_unsurePages 5 (some .int) ∈ wG := wG_t 1502 (by decide +kernel) rfl
theorem dd_X9_unsurePages : yX9_unsurePages.cls ≠ "java/lang/invoke/MethodHandle" ∧ yX9_unsurePages.cls ≠ "java/lang/invoke/VarHandle" ∧ (parseMethodDescriptor yX9_unsurePages.desc).map (fun d => d.parameters.length) = some 2 := by decide +kernel
theorem lk_X9_247 : Cond.methodLink RX9 247 yX9_unsurePages ∈ wG := wG_t 1499 (by decide +kernel) rfl
theorem im_X9_unsurePages : Cond.instanceMethod yX9_unsurePages ∈ wG := wG_t 1501 (by decide +kernel) rfl
theorem se_X9_unsurePages : Cond.selects RX9 yX9_unsurePages yX9_unsurePages ∈ wG := wG_p 82 (by decide +kernel) rfl
theorem co_X9_ordersFor : Cond.code yX9_ordersFor cX9_ordersFor 4 (some .int) ∈ wG := wG_t 1506 (by decide +kernel) rfl
theorem dd_X9_ordersFor : yX9_ordersFor.cls ≠ "java/lang/invoke/MethodHandle" ∧ yX9_ordersFor.cls ≠ "java/lang/invoke/VarHandle" ∧ (parseMethodDescriptor yX9_ordersFor.desc).map (fun d => d.parameters.length) = some 1 := by decide +kernel
theorem lk_X9_250 : Cond.methodLink RX9 250 yX9_ordersFor ∈ wG := wG_t 1503 (by decide +kernel) rfl
theorem im_X9_ordersFor : Cond.instanceMethod yX9_ordersFor ∈ wG := wG_t 1505 (by decide +kernel) rfl
theorem se_X9_ordersFor : Cond.selects RX9 yX9_ordersFor yX9_ordersFor ∈ wG := wG_p 83 (by decide +kernel) rfl
theorem co_X9_sectorTold : Cond.code yX9_sectorTold cX9_sectorTold 3 (some .int) ∈ wG := wG_t 1490 (by decide +kernel) rfl
theorem dd_X9_sectorTold : yX9_sectorTold.cls ≠ "java/lang/invoke/MethodHandle" ∧ yX9_sectorTold.cls ≠ "java/lang/invoke/VarHandle" ∧ (parseMethodDescriptor yX9_sectorTold.desc).map (fun d => d.parameters.length) = some 2 := by decide +kernel
theorem lk_X9_253 : Cond.methodLink RX9 253 yX9_sectorTold ∈ wG := wG_t 1487 (by decide +kernel) rfl
theorem im_X9_sectorTold : Cond.instanceMethod yX9_sectorTold ∈ wG := wG_t 1489 (by decide +kernel) rfl
theorem se_X9_sectorTold : Cond.selects RX9 yX9_sectorTold yX9_sectorTold ∈ wG := wG_p 79 (by decide +kernel) rfl
theorem co_X9_workTold : Cond.code yX9_workTold cX9_workTold 5 (some .int) ∈ wG := wG_t 1514 (by decide +kernel) rfl
theorem dd_X9_workTold : yX9_workTold.cls ≠ "java/lang/invoke/MethodHandle" ∧ yX9_workTold.cls ≠ "java/lang/invoke/VarHandle" ∧ (parseMethodDescriptor yX9_workTold.desc).map (fun d => d.parameters.length) = some 2 := by decide +kernel
theorem lk_X9_256 : Cond.methodLink RX9 256 yX9_workTold ∈ wG := wG_t 1511 (by decide +kernel) rfl
theorem im_X9_workTold : Cond.instanceMethod yX9_workTold ∈ wG := wG_t 1513 (by decide +kernel) rfl
theorem se_X9_workTold : Cond.selects RX9 yX9_workTold yX9_workTold ∈ wG := wG_p 84 (by decide +kernel) rfl
theorem co_X9_orderTold : Cond.code yX9_orderTold cX9_orderTold 3 (some .int) ∈ wG := wG_t 1522 (by decide +kernel) rfl
theorem dd_X9_orderTold : yX9_orderTold.cls ≠ "java/lang/invoke/MethodHandle" ∧ yX9_orderTold.cls ≠ "java/lang/invoke/VarHandle" ∧ (parseMethodDescriptor yX9_orderTold.desc).map (fun d => d.parameters.length) = some 2 := by decide +kernel
theorem lk_X9_259 : Cond.methodLink RX9 259 yX9_orderTold ∈ wG := wG_t 1519 (by decide +kernel) rfl
theorem im_X9_orderTold : Cond.instanceMethod yX9_orderTold ∈ wG := wG_t 1521 (by decide +kernel) rfl
theorem se_X9_orderTold : Cond.selects RX9 yX9_orderTold yX9_orderTold ∈ wG := wG_p 85 (by decide +kernel) rfl
theorem co_X9_erasures : Cond.code yX9_erasures cX9_erasures 3 (some .int) ∈ wG := wG_t 1534 (by decide +kernel) rfl
theorem dd_X9_erasures : yX9_erasures.cls ≠ "java/lang/invoke/MethodHandle" ∧ yX9_erasures.cls ≠ "java/lang/invoke/VarHandle" ∧ (parseMethodDescriptor yX9_erasures.desc).map (fun d => d.parameters.length) = some 0 := by decide +kernel
theorem lk_X9_262 : Cond.methodLink RX9 262 yX9_erasures ∈ wG := wG_t 1531 (by decide +kernel) rfl
theorem im_X9_erasures : Cond.instanceMethod yX9_erasures ∈ wG := wG_t 1533 (by decide +kernel) rfl
theorem se_X9_erasures : Cond.selects RX9 yX9_erasures yX9_erasures ∈ wG := wG_p 87 (by decide +kernel) rfl
theorem co_X9_stuckBits : Cond.code yX9_stuckBits cX9_stuckBits 3 (some .int) ∈ wG := wG_t 1538 (by decide +kernel) rfl
theorem dd_X9_stuckBits : yX9_stuckBits.cls ≠ "java/lang/invoke/MethodHandle" ∧ yX9_stuckBits.cls ≠ "java/lang/invoke/VarHandle" ∧ (parseMethodDescriptor yX9_stuckBits.desc).map (fun d => d.parameters.length) = some 0 := by decide +kernel
theorem lk_X9_265 : Cond.methodLink RX9 265 yX9_stuckBits ∈ wG := wG_t 1535 (by decide +kernel) rfl
theorem im_X9_stuckBits : Cond.instanceMethod yX9_stuckBits ∈ wG := wG_t 1537 (by decide +kernel) rfl
theorem se_X9_stuckBits : Cond.selects RX9 yX9_stuckBits yX9_stuckBits ∈ wG := wG_p 88 (by decide +kernel) rfl
theorem co_X9_counted : Cond.code yX9_counted cX9_counted 2 (some .int) ∈ wG := wG_t 1530 (by decide +kernel) rfl
theorem dd_X9_counted : yX9_counted.cls ≠ "java/lang/invoke/MethodHandle" ∧ yX9_counted.cls ≠ "java/lang/invoke/VarHandle" ∧ (parseMethodDescriptor yX9_counted.desc).map (fun d => d.parameters.length) = some 1 := by decide +kernel
theorem lk_X9_268 : Cond.methodLink RX9 268 yX9_counted ∈ wG := wG_t 1527 (by decide +kernel) rfl
theorem im_X9_counted : Cond.instanceMethod yX9_counted ∈ wG := wG_t 1529 (by decide +kernel) rfl
theorem se_X9_counted : Cond.selects RX9 yX9_counted yX9_counted ∈ wG := wG_p 86 (by decide +kernel) rfl
theorem co_X9_missesAt : Cond.code yX9_missesAt cX9_missesAt 6 (some .int) ∈ wG := wG_t 1554 (by decide +kernel) rfl
theorem dd_X9_missesAt : yX9_missesAt.cls ≠ "java/lang/invoke/MethodHandle" ∧ yX9_missesAt.cls ≠ "java/lang/invoke/VarHandle" ∧ (parseMethodDescriptor yX9_missesAt.desc).map (fun d => d.parameters.length) = some 1 := by decide +kernel
theorem lk_X9_271 : Cond.methodLink RX9 271 yX9_missesAt ∈ wG := wG_t 1551 (by decide +kernel) rfl
theorem im_X9_missesAt : Cond.instanceMethod yX9_missesAt ∈ wG := wG_t 1553 (by decide +kernel) rfl
theorem se_X9_missesAt : Cond.selects RX9 yX9_missesAt yX9_missesAt ∈ wG := wG_p 89 (by decide +kernel) rfl
theorem co_X9_fitting : Cond.code yX9_fitting cX9_fitting 2 (some .int) ∈ wG := wG_t 1562 (by decide +kernel) rfl
theorem dd_X9_fitting : yX9_fitting.cls ≠ "java/lang/invoke/MethodHandle" ∧ yX9_fitting.cls ≠ "java/lang/invoke/VarHandle" ∧ (parseMethodDescriptor yX9_fitting.desc).map (fun d => d.parameters.length) = some 0 := by decide +kernel
theorem lk_X9_274 : Cond.methodLink RX9 274 yX9_fitting ∈ wG := wG_t 1559 (by decide +kernel) rfl
theorem im_X9_fitting : Cond.instanceMethod yX9_fitting ∈ wG := wG_t 1561 (by decide +kernel) rfl
theorem se_X9_fitting : Cond.selects RX9 yX9_fitting yX9_fitting ∈ wG := wG_p 90 (by decide +kernel) rfl
theorem fl_X9_13 : Cond.fieldLink RX9 13 "BusyChipModel" "aside" "[I" ∈ wG := wG_t 1123 (by decide +kernel) rfl
theorem co_X9_isFree : Cond.code yX9_isFree cX9_isFree 1 (some .boolean) ∈ wG := wG_t 1574 (by decide +kernel) rfl
theorem dd_X9_isFree : yX9_isFree.cls ≠ "java/lang/invoke/MethodHandle" ∧ yX9_isFree.cls ≠ "java/lang/invoke/VarHandle" ∧ (parseMethodDescriptor yX9_isFree.desc).map (fun d => d.parameters.length) = some 0 := by decide +kernel
theorem lk_X9_277 : Cond.methodLink RX9 277 yX9_isFree ∈ wG := wG_t 1571 (by decide +kernel) rfl
theorem im_X9_isFree : Cond.instanceMethod yX9_isFree ∈ wG := wG_t 1573 (by decide +kernel) rfl
theorem se_X9_isFree : Cond.selects RX9 yX9_isFree yX9_isFree ∈ wG := wG_p 92 (by decide +kernel) rfl
theorem co_X9_freeTicks : Cond.code yX9_freeTicks cX9_freeTicks 3 (some .int) ∈ wG := wG_t 1570 (by decide +kernel) rfl
theorem dd_X9_freeTicks : yX9_freeTicks.cls ≠ "java/lang/invoke/MethodHandle" ∧ yX9_freeTicks.cls ≠ "java/lang/invoke/VarHandle" ∧ (parseMethodDescriptor yX9_freeTicks.desc).map (fun d => d.parameters.length) = some 0 := by decide +kernel
theorem lk_X9_280 : Cond.methodLink RX9 280 yX9_freeTicks ∈ wG := wG_t 1567 (by decide +kernel) rfl
theorem im_X9_freeTicks : Cond.instanceMethod yX9_freeTicks ∈ wG := wG_t 1569 (by decide +kernel) rfl
theorem se_X9_freeTicks : Cond.selects RX9 yX9_freeTicks yX9_freeTicks ∈ wG := wG_p 91 (by decide +kernel) rfl
theorem co_X9_leastErased : Cond.code yX9_leastErased cX9_leastErased 3 (some .int) ∈ wG := wG_t 1582 (by decide +kernel) rfl
theorem dd_X9_leastErased : yX9_leastErased.cls ≠ "java/lang/invoke/MethodHandle" ∧ yX9_leastErased.cls ≠ "java/lang/invoke/VarHandle" ∧ (parseMethodDescriptor yX9_leastErased.desc).map (fun d => d.parameters.length) = some 0 := by decide +kernel
theorem lk_X9_283 : Cond.methodLink RX9 283 yX9_leastErased ∈ wG := wG_t 1579 (by decide +kernel) rfl
theorem im_X9_leastErased : Cond.instanceMethod yX9_leastErased ∈ wG := wG_t 1581 (by decide +kernel) rfl
theorem se_X9_leastErased : Cond.selects RX9 yX9_leastErased yX9_leastErased ∈ wG := wG_p 93 (by decide +kernel) rfl
theorem fl_X9_28 : Cond.fieldLink RX9 28 "BusyChipModel" "hold" "[I" ∈ wG := wG_t 1138 (by decide +kernel) rfl
theorem co_X9_mostHeld : Cond.code yX9_mostHeld cX9_mostHeld 3 (some .int) ∈ wG := wG_t 1590 (by decide +kernel) rfl
theorem dd_X9_mostHeld : yX9_mostHeld.cls ≠ "java/lang/invoke/MethodHandle" ∧ yX9_mostHeld.cls ≠ "java/lang/invoke/VarHandle" ∧ (parseMethodDescriptor yX9_mostHeld.desc).map (fun d => d.parameters.length) = some 0 := by decide +kernel
theorem lk_X9_286 : Cond.methodLink RX9 286 yX9_mostHeld ∈ wG := wG_t 1587 (by decide +kernel) rfl
theorem im_X9_mostHeld : Cond.instanceMethod yX9_mostHeld ∈ wG := wG_t 1589 (by decide +kernel) rfl
theorem se_X9_mostHeld : Cond.selects RX9 yX9_mostHeld yX9_mostHeld ∈ wG := wG_p 94 (by decide +kernel) rfl
