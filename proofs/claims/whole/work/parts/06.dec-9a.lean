theorem dX9_init_0 : decode cX9_init 0 = .ok (.aload_n 0, 1) := by decide +kernel
theorem dX9_init_1 : decode cX9_init 1 = .ok (.invokespecial 1, 3) := by decide +kernel
theorem dX9_init_4 : decode cX9_init 4 = .ok (.aload_n 0, 1) := by decide +kernel
theorem dX9_init_5 : decode cX9_init 5 = .ok (.sipush 797, 3) := by decide +kernel
theorem dX9_init_8 : decode cX9_init 8 = .ok (.newarray .int, 2) := by decide +kernel
theorem dX9_init_10 : decode cX9_init 10 = .ok (.putfield 7, 3) := by decide +kernel
theorem dX9_init_13 : decode cX9_init 13 = .ok (.aload_n 0, 1) := by decide +kernel
theorem dX9_init_14 : decode cX9_init 14 = .ok (.sipush 797, 3) := by decide +kernel
theorem dX9_init_17 : decode cX9_init 17 = .ok (.newarray .int, 2) := by decide +kernel
theorem dX9_init_19 : decode cX9_init 19 = .ok (.putfield 13, 3) := by decide +kernel
theorem dX9_init_22 : decode cX9_init 22 = .ok (.aload_n 0, 1) := by decide +kernel
theorem dX9_init_23 : decode cX9_init 23 = .ok (.sipush 4782, 3) := by decide +kernel
theorem dX9_init_26 : decode cX9_init 26 = .ok (.newarray .int, 2) := by decide +kernel
theorem dX9_init_28 : decode cX9_init 28 = .ok (.putfield 16, 3) := by decide +kernel
theorem dX9_init_31 : decode cX9_init 31 = .ok (.aload_n 0, 1) := by decide +kernel
theorem dX9_init_32 : decode cX9_init 32 = .ok (.sipush 797, 3) := by decide +kernel
theorem dX9_init_35 : decode cX9_init 35 = .ok (.newarray .int, 2) := by decide +kernel
theorem dX9_init_37 : decode cX9_init 37 = .ok (.putfield 19, 3) := by decide +kernel
theorem dX9_init_40 : decode cX9_init 40 = .ok (.aload_n 0, 1) := by decide +kernel
theorem dX9_init_41 : decode cX9_init 41 = .ok (.bipush 60, 2) := by decide +kernel
theorem dX9_init_43 : decode cX9_init 43 = .ok (.newarray .int, 2) := by decide +kernel
theorem dX9_init_45 : decode cX9_init 45 = .ok (.putfield 22, 3) := by decide +kernel
theorem dX9_init_48 : decode cX9_init 48 = .ok (.aload_n 0, 1) := by decide +kernel
theorem dX9_init_49 : decode cX9_init 49 = .ok (.bipush 8, 2) := by decide +kernel
theorem dX9_init_51 : decode cX9_init 51 = .ok (.newarray .int, 2) := by decide +kernel
theorem dX9_init_53 : decode cX9_init 53 = .ok (.putfield 25, 3) := by decide +kernel
theorem dX9_init_56 : decode cX9_init 56 = .ok (.aload_n 0, 1) := by decide +kernel
theorem dX9_init_57 : decode cX9_init 57 = .ok (.sipush 256, 3) := by decide +kernel
theorem dX9_init_60 : decode cX9_init 60 = .ok (.newarray .int, 2) := by decide +kernel
theorem dX9_init_62 : decode cX9_init 62 = .ok (.putfield 28, 3) := by decide +kernel
theorem dX9_init_65 : decode cX9_init 65 = .ok (.iconst 0, 1) := by decide +kernel
theorem dX9_init_66 : decode cX9_init 66 = .ok (.istore_n 1, 1) := by decide +kernel
theorem dX9_init_67 : decode cX9_init 67 = .ok (.iload_n 1, 1) := by decide +kernel
theorem dX9_init_68 : decode cX9_init 68 = .ok (.sipush 256, 3) := by decide +kernel
theorem dX9_init_71 : decode cX9_init 71 = .ok (.if_icmp .ge 18, 3) := by decide +kernel
theorem dX9_init_74 : decode cX9_init 74 = .ok (.aload_n 0, 1) := by decide +kernel
theorem dX9_init_75 : decode cX9_init 75 = .ok (.getfield 7, 3) := by decide +kernel
theorem dX9_init_78 : decode cX9_init 78 = .ok (.iload_n 1, 1) := by decide +kernel
theorem dX9_init_79 : decode cX9_init 79 = .ok (.sipush 255, 3) := by decide +kernel
theorem dX9_init_82 : decode cX9_init 82 = .ok (.iastore, 1) := by decide +kernel
theorem dX9_init_83 : decode cX9_init 83 = .ok (.iinc 1 1, 3) := by decide +kernel
theorem dX9_init_86 : decode cX9_init 86 = .ok (.goto (-19), 3) := by decide +kernel
theorem dX9_init_89 : decode cX9_init 89 = .ok (.aload_n 0, 1) := by decide +kernel
theorem dX9_init_90 : decode cX9_init 90 = .ok (.getfield 7, 3) := by decide +kernel
theorem dX9_init_93 : decode cX9_init 93 = .ok (.sipush 555, 3) := by decide +kernel
theorem dX9_init_96 : decode cX9_init 96 = .ok (.iconst 1, 1) := by decide +kernel
theorem dX9_init_97 : decode cX9_init 97 = .ok (.iastore, 1) := by decide +kernel
theorem dX9_init_98 : decode cX9_init 98 = .ok (.aload_n 0, 1) := by decide +kernel
theorem dX9_init_99 : decode cX9_init 99 = .ok (.getfield 7, 3) := by decide +kernel
theorem dX9_init_102 : decode cX9_init 102 = .ok (.sipush 556, 3) := by decide +kernel
theorem dX9_init_105 : decode cX9_init 105 = .ok (.iconst 2, 1) := by decide +kernel
theorem dX9_init_106 : decode cX9_init 106 = .ok (.iastore, 1) := by decide +kernel
theorem dX9_init_107 : decode cX9_init 107 = .ok (.aload_n 0, 1) := by decide +kernel
theorem dX9_init_108 : decode cX9_init 108 = .ok (.getfield 7, 3) := by decide +kernel
theorem dX9_init_111 : decode cX9_init 111 = .ok (.sipush 557, 3) := by decide +kernel
theorem dX9_init_114 : decode cX9_init 114 = .ok (.bipush 20, 2) := by decide +kernel
theorem dX9_init_116 : decode cX9_init 116 = .ok (.iastore, 1) := by decide +kernel
theorem dX9_init_117 : decode cX9_init 117 = .ok (.aload_n 0, 1) := by decide +kernel
theorem dX9_init_118 : decode cX9_init 118 = .ok (.getfield 7, 3) := by decide +kernel
theorem dX9_init_121 : decode cX9_init 121 = .ok (.sipush 558, 3) := by decide +kernel
theorem dX9_init_124 : decode cX9_init 124 = .ok (.bipush 30, 2) := by decide +kernel
theorem dX9_init_126 : decode cX9_init 126 = .ok (.iastore, 1) := by decide +kernel
theorem dX9_init_127 : decode cX9_init 127 = .ok (.aload_n 0, 1) := by decide +kernel
theorem dX9_init_128 : decode cX9_init 128 = .ok (.getfield 7, 3) := by decide +kernel
theorem dX9_init_131 : decode cX9_init 131 = .ok (.sipush 559, 3) := by decide +kernel
theorem dX9_init_134 : decode cX9_init 134 = .ok (.iconst 5, 1) := by decide +kernel
theorem dX9_init_135 : decode cX9_init 135 = .ok (.iastore, 1) := by decide +kernel
theorem dX9_init_136 : decode cX9_init 136 = .ok (.aload_n 0, 1) := by decide +kernel
theorem dX9_init_137 : decode cX9_init 137 = .ok (.getfield 7, 3) := by decide +kernel
theorem dX9_init_140 : decode cX9_init 140 = .ok (.sipush 560, 3) := by decide +kernel
theorem dX9_init_143 : decode cX9_init 143 = .ok (.iconst 3, 1) := by decide +kernel
theorem dX9_init_144 : decode cX9_init 144 = .ok (.iastore, 1) := by decide +kernel
theorem dX9_init_145 : decode cX9_init 145 = .ok (.return_, 1) := by decide +kernel
theorem dX9_thrown_0 : decode cX9_thrown 0 = .ok (.aload_n 0, 1) := by decide +kernel
theorem dX9_thrown_1 : decode cX9_thrown 1 = .ok (.getfield 31, 3) := by decide +kernel
theorem dX9_thrown_4 : decode cX9_thrown 4 = .ok (.ireturn, 1) := by decide +kernel
theorem dX9_fails_0 : decode cX9_fails 0 = .ok (.aload_n 0, 1) := by decide +kernel
theorem dX9_fails_1 : decode cX9_fails 1 = .ok (.iload_n 1, 1) := by decide +kernel
theorem dX9_fails_2 : decode cX9_fails 2 = .ok (.putfield 31, 3) := by decide +kernel
theorem dX9_fails_5 : decode cX9_fails 5 = .ok (.iconst 0, 1) := by decide +kernel
theorem dX9_fails_6 : decode cX9_fails 6 = .ok (.ireturn, 1) := by decide +kernel
theorem dX9_in_0 : decode cX9_in 0 = .ok (.iload_n 0, 1) := by decide +kernel
theorem dX9_in_1 : decode cX9_in 1 = .ok (.iload_n 1, 1) := by decide +kernel
theorem dX9_in_2 : decode cX9_in 2 = .ok (.if_icmp .lt 12, 3) := by decide +kernel
theorem dX9_in_5 : decode cX9_in 5 = .ok (.iload_n 0, 1) := by decide +kernel
theorem dX9_in_6 : decode cX9_in 6 = .ok (.iload_n 2, 1) := by decide +kernel
theorem dX9_in_7 : decode cX9_in 7 = .ok (.if_icmp .gt 7, 3) := by decide +kernel
theorem dX9_in_10 : decode cX9_in 10 = .ok (.iconst 1, 1) := by decide +kernel
theorem dX9_in_11 : decode cX9_in 11 = .ok (.goto 4, 3) := by decide +kernel
theorem dX9_in_14 : decode cX9_in 14 = .ok (.iconst 0, 1) := by decide +kernel
theorem dX9_in_15 : decode cX9_in 15 = .ok (.ireturn, 1) := by decide +kernel
theorem dX9_copies_0 : decode cX9_copies 0 = .ok (.iconst 0, 1) := by decide +kernel
theorem dX9_copies_1 : decode cX9_copies 1 = .ok (.istore 4, 2) := by decide +kernel
theorem dX9_copies_3 : decode cX9_copies 3 = .ok (.iload 4, 2) := by decide +kernel
theorem dX9_copies_5 : decode cX9_copies 5 = .ok (.sipush 797, 3) := by decide +kernel
theorem dX9_copies_8 : decode cX9_copies 8 = .ok (.if_icmp .ge 21, 3) := by decide +kernel
theorem dX9_copies_11 : decode cX9_copies 11 = .ok (.aload_n 2, 1) := by decide +kernel
theorem dX9_copies_12 : decode cX9_copies 12 = .ok (.iload_n 3, 1) := by decide +kernel
theorem dX9_copies_13 : decode cX9_copies 13 = .ok (.iload 4, 2) := by decide +kernel
theorem dX9_copies_15 : decode cX9_copies 15 = .ok (.iadd, 1) := by decide +kernel
theorem dX9_copies_16 : decode cX9_copies 16 = .ok (.aload_n 0, 1) := by decide +kernel
theorem dX9_copies_17 : decode cX9_copies 17 = .ok (.iload_n 1, 1) := by decide +kernel
theorem dX9_copies_18 : decode cX9_copies 18 = .ok (.iload 4, 2) := by decide +kernel
theorem dX9_copies_20 : decode cX9_copies 20 = .ok (.iadd, 1) := by decide +kernel
theorem dX9_copies_21 : decode cX9_copies 21 = .ok (.iaload, 1) := by decide +kernel
theorem dX9_copies_22 : decode cX9_copies 22 = .ok (.iastore, 1) := by decide +kernel
theorem dX9_copies_23 : decode cX9_copies 23 = .ok (.iinc 4 1, 3) := by decide +kernel
theorem dX9_copies_26 : decode cX9_copies 26 = .ok (.goto (-23), 3) := by decide +kernel
theorem dX9_copies_29 : decode cX9_copies 29 = .ok (.return_, 1) := by decide +kernel
theorem dX9_saves_0 : decode cX9_saves 0 = .ok (.aload_n 0, 1) := by decide +kernel
theorem dX9_saves_1 : decode cX9_saves 1 = .ok (.getfield 35, 3) := by decide +kernel
theorem dX9_saves_4 : decode cX9_saves 4 = .ok (.bipush 6, 2) := by decide +kernel
theorem dX9_saves_6 : decode cX9_saves 6 = .ok (.if_icmp .ne 44, 3) := by decide +kernel
theorem dX9_saves_9 : decode cX9_saves 9 = .ok (.iconst 0, 1) := by decide +kernel
theorem dX9_saves_10 : decode cX9_saves 10 = .ok (.istore_n 1, 1) := by decide +kernel
theorem dX9_saves_11 : decode cX9_saves 11 = .ok (.iload_n 1, 1) := by decide +kernel
theorem dX9_saves_12 : decode cX9_saves 12 = .ok (.sipush 3985, 3) := by decide +kernel
theorem dX9_saves_15 : decode cX9_saves 15 = .ok (.if_icmp .ge 25, 3) := by decide +kernel
theorem dX9_saves_18 : decode cX9_saves 18 = .ok (.aload_n 0, 1) := by decide +kernel
theorem dX9_saves_19 : decode cX9_saves 19 = .ok (.getfield 16, 3) := by decide +kernel
theorem dX9_saves_22 : decode cX9_saves 22 = .ok (.iload_n 1, 1) := by decide +kernel
theorem dX9_saves_23 : decode cX9_saves 23 = .ok (.aload_n 0, 1) := by decide +kernel
theorem dX9_saves_24 : decode cX9_saves 24 = .ok (.getfield 16, 3) := by decide +kernel
theorem dX9_saves_27 : decode cX9_saves 27 = .ok (.iload_n 1, 1) := by decide +kernel
theorem dX9_saves_28 : decode cX9_saves 28 = .ok (.sipush 797, 3) := by decide +kernel
theorem dX9_saves_31 : decode cX9_saves 31 = .ok (.iadd, 1) := by decide +kernel
theorem dX9_saves_32 : decode cX9_saves 32 = .ok (.iaload, 1) := by decide +kernel
theorem dX9_saves_33 : decode cX9_saves 33 = .ok (.iastore, 1) := by decide +kernel
theorem dX9_saves_34 : decode cX9_saves 34 = .ok (.iinc 1 1, 3) := by decide +kernel
theorem dX9_saves_37 : decode cX9_saves 37 = .ok (.goto (-26), 3) := by decide +kernel
theorem dX9_saves_40 : decode cX9_saves 40 = .ok (.aload_n 0, 1) := by decide +kernel
theorem dX9_saves_41 : decode cX9_saves 41 = .ok (.dup, 1) := by decide +kernel
theorem dX9_saves_42 : decode cX9_saves 42 = .ok (.getfield 35, 3) := by decide +kernel
theorem dX9_saves_45 : decode cX9_saves 45 = .ok (.iconst 1, 1) := by decide +kernel
theorem dX9_saves_46 : decode cX9_saves 46 = .ok (.isub, 1) := by decide +kernel
theorem dX9_saves_47 : decode cX9_saves 47 = .ok (.putfield 35, 3) := by decide +kernel
theorem dX9_saves_50 : decode cX9_saves 50 = .ok (.aload_n 0, 1) := by decide +kernel
theorem dX9_saves_51 : decode cX9_saves 51 = .ok (.getfield 7, 3) := by decide +kernel
theorem dX9_saves_54 : decode cX9_saves 54 = .ok (.iconst 0, 1) := by decide +kernel
theorem dX9_saves_55 : decode cX9_saves 55 = .ok (.aload_n 0, 1) := by decide +kernel
theorem dX9_saves_56 : decode cX9_saves 56 = .ok (.getfield 16, 3) := by decide +kernel
theorem dX9_saves_59 : decode cX9_saves 59 = .ok (.sipush 797, 3) := by decide +kernel
theorem dX9_saves_62 : decode cX9_saves 62 = .ok (.aload_n 0, 1) := by decide +kernel
theorem dX9_saves_63 : decode cX9_saves 63 = .ok (.getfield 35, 3) := by decide +kernel
theorem dX9_saves_66 : decode cX9_saves 66 = .ok (.imul, 1) := by decide +kernel
theorem dX9_saves_67 : decode cX9_saves 67 = .ok (.invokestatic 38, 3) := by decide +kernel
theorem dX9_saves_70 : decode cX9_saves 70 = .ok (.aload_n 0, 1) := by decide +kernel
theorem dX9_saves_71 : decode cX9_saves 71 = .ok (.dup, 1) := by decide +kernel
theorem dX9_saves_72 : decode cX9_saves 72 = .ok (.getfield 35, 3) := by decide +kernel
theorem dX9_saves_75 : decode cX9_saves 75 = .ok (.iconst 1, 1) := by decide +kernel
theorem dX9_saves_76 : decode cX9_saves 76 = .ok (.iadd, 1) := by decide +kernel
theorem dX9_saves_77 : decode cX9_saves 77 = .ok (.putfield 35, 3) := by decide +kernel
theorem dX9_saves_80 : decode cX9_saves 80 = .ok (.return_, 1) := by decide +kernel
theorem dX9_isCell_0 : decode cX9_isCell 0 = .ok (.iload_n 0, 1) := by decide +kernel
theorem dX9_isCell_1 : decode cX9_isCell 1 = .ok (.iconst 0, 1) := by decide +kernel
theorem dX9_isCell_2 : decode cX9_isCell 2 = .ok (.sipush 255, 3) := by decide +kernel
theorem dX9_isCell_5 : decode cX9_isCell 5 = .ok (.invokestatic 42, 3) := by decide +kernel
theorem dX9_isCell_8 : decode cX9_isCell 8 = .ok (.ireturn, 1) := by decide +kernel
theorem dX9_isSector_0 : decode cX9_isSector 0 = .ok (.iload_n 0, 1) := by decide +kernel
theorem dX9_isSector_1 : decode cX9_isSector 1 = .ok (.iconst 0, 1) := by decide +kernel
theorem dX9_isSector_2 : decode cX9_isSector 2 = .ok (.bipush 7, 2) := by decide +kernel
theorem dX9_isSector_4 : decode cX9_isSector 4 = .ok (.invokestatic 42, 3) := by decide +kernel
theorem dX9_isSector_7 : decode cX9_isSector 7 = .ok (.ireturn, 1) := by decide +kernel
theorem dX9_ones_0 : decode cX9_ones 0 = .ok (.iconst 0, 1) := by decide +kernel
theorem dX9_ones_1 : decode cX9_ones 1 = .ok (.istore_n 1, 1) := by decide +kernel
theorem dX9_ones_2 : decode cX9_ones 2 = .ok (.iload_n 0, 1) := by decide +kernel
theorem dX9_ones_3 : decode cX9_ones 3 = .ok (.istore_n 2, 1) := by decide +kernel
theorem dX9_ones_4 : decode cX9_ones 4 = .ok (.iload_n 2, 1) := by decide +kernel
theorem dX9_ones_5 : decode cX9_ones 5 = .ok (.ifCond .eq 15, 3) := by decide +kernel
theorem dX9_ones_8 : decode cX9_ones 8 = .ok (.iinc 1 1, 3) := by decide +kernel
theorem dX9_ones_11 : decode cX9_ones 11 = .ok (.iload_n 2, 1) := by decide +kernel
theorem dX9_ones_12 : decode cX9_ones 12 = .ok (.iload_n 2, 1) := by decide +kernel
theorem dX9_ones_13 : decode cX9_ones 13 = .ok (.iconst 1, 1) := by decide +kernel
theorem dX9_ones_14 : decode cX9_ones 14 = .ok (.isub, 1) := by decide +kernel
theorem dX9_ones_15 : decode cX9_ones 15 = .ok (.iand, 1) := by decide +kernel
theorem dX9_ones_16 : decode cX9_ones 16 = .ok (.istore_n 2, 1) := by decide +kernel
theorem dX9_ones_17 : decode cX9_ones 17 = .ok (.goto (-13), 3) := by decide +kernel
theorem dX9_ones_20 : decode cX9_ones 20 = .ok (.iload_n 1, 1) := by decide +kernel
theorem dX9_ones_21 : decode cX9_ones 21 = .ok (.ireturn, 1) := by decide +kernel
theorem dX9_under_0 : decode cX9_under 0 = .ok (.aload_n 0, 1) := by decide +kernel
theorem dX9_under_1 : decode cX9_under 1 = .ok (.getfield 7, 3) := by decide +kernel
theorem dX9_under_4 : decode cX9_under 4 = .ok (.sipush 581, 3) := by decide +kernel
theorem dX9_under_7 : decode cX9_under 7 = .ok (.iload_n 1, 1) := by decide +kernel
theorem dX9_under_8 : decode cX9_under 8 = .ok (.iadd, 1) := by decide +kernel
theorem dX9_under_9 : decode cX9_under 9 = .ok (.iaload, 1) := by decide +kernel
theorem dX9_under_10 : decode cX9_under 10 = .ok (.ireturn, 1) := by decide +kernel
theorem dX9_apart_0 : decode cX9_apart 0 = .ok (.aload_n 0, 1) := by decide +kernel
theorem dX9_apart_1 : decode cX9_apart 1 = .ok (.getfield 7, 3) := by decide +kernel
theorem dX9_apart_4 : decode cX9_apart 4 = .ok (.sipush 599, 3) := by decide +kernel
theorem dX9_apart_7 : decode cX9_apart 7 = .ok (.iload_n 1, 1) := by decide +kernel
theorem dX9_apart_8 : decode cX9_apart 8 = .ok (.iadd, 1) := by decide +kernel
theorem dX9_apart_9 : decode cX9_apart 9 = .ok (.iaload, 1) := by decide +kernel
theorem dX9_apart_10 : decode cX9_apart 10 = .ok (.ireturn, 1) := by decide +kernel
theorem dX9_isBusy_0 : decode cX9_isBusy 0 = .ok (.aload_n 0, 1) := by decide +kernel
theorem dX9_isBusy_1 : decode cX9_isBusy 1 = .ok (.iconst 0, 1) := by decide +kernel
theorem dX9_isBusy_2 : decode cX9_isBusy 2 = .ok (.invokevirtual 46, 3) := by decide +kernel
theorem dX9_isBusy_5 : decode cX9_isBusy 5 = .ok (.ifCond .le 7, 3) := by decide +kernel
theorem dX9_isBusy_8 : decode cX9_isBusy 8 = .ok (.iconst 1, 1) := by decide +kernel
theorem dX9_isBusy_9 : decode cX9_isBusy 9 = .ok (.goto 4, 3) := by decide +kernel
theorem dX9_isBusy_12 : decode cX9_isBusy 12 = .ok (.iconst 0, 1) := by decide +kernel
theorem dX9_isBusy_13 : decode cX9_isBusy 13 = .ok (.ireturn, 1) := by decide +kernel
theorem dX9_isAside_0 : decode cX9_isAside 0 = .ok (.aload_n 0, 1) := by decide +kernel
theorem dX9_isAside_1 : decode cX9_isAside 1 = .ok (.iconst 0, 1) := by decide +kernel
theorem dX9_isAside_2 : decode cX9_isAside 2 = .ok (.invokevirtual 50, 3) := by decide +kernel
theorem dX9_isAside_5 : decode cX9_isAside 5 = .ok (.ifCond .le 7, 3) := by decide +kernel
theorem dX9_isAside_8 : decode cX9_isAside 8 = .ok (.iconst 1, 1) := by decide +kernel
theorem dX9_isAside_9 : decode cX9_isAside 9 = .ok (.goto 4, 3) := by decide +kernel
theorem dX9_isAside_12 : decode cX9_isAside 12 = .ok (.iconst 0, 1) := by decide +kernel
theorem dX9_isAside_13 : decode cX9_isAside 13 = .ok (.ireturn, 1) := by decide +kernel
theorem dX9_sectorOf_0 : decode cX9_sectorOf 0 = .ok (.iload_n 1, 1) := by decide +kernel
theorem dX9_sectorOf_1 : decode cX9_sectorOf 1 = .ok (.iconst 1, 1) := by decide +kernel
theorem dX9_sectorOf_2 : decode cX9_sectorOf 2 = .ok (.if_icmp .ne 10, 3) := by decide +kernel
theorem dX9_sectorOf_5 : decode cX9_sectorOf 5 = .ok (.iload_n 2, 1) := by decide +kernel
theorem dX9_sectorOf_6 : decode cX9_sectorOf 6 = .ok (.bipush 32, 2) := by decide +kernel
theorem dX9_sectorOf_8 : decode cX9_sectorOf 8 = .ok (.idiv, 1) := by decide +kernel
theorem dX9_sectorOf_9 : decode cX9_sectorOf 9 = .ok (.goto 4, 3) := by decide +kernel
theorem dX9_sectorOf_12 : decode cX9_sectorOf 12 = .ok (.iload_n 2, 1) := by decide +kernel
theorem dX9_sectorOf_13 : decode cX9_sectorOf 13 = .ok (.ireturn, 1) := by decide +kernel
theorem dX9_isLocked_0 : decode cX9_isLocked 0 = .ok (.aload_n 0, 1) := by decide +kernel
theorem dX9_isLocked_1 : decode cX9_isLocked 1 = .ok (.getfield 7, 3) := by decide +kernel
theorem dX9_isLocked_4 : decode cX9_isLocked 4 = .ok (.sipush 554, 3) := by decide +kernel
theorem dX9_isLocked_7 : decode cX9_isLocked 7 = .ok (.iaload, 1) := by decide +kernel
theorem dX9_isLocked_8 : decode cX9_isLocked 8 = .ok (.ifCond .ne 7, 3) := by decide +kernel
theorem dX9_isLocked_11 : decode cX9_isLocked 11 = .ok (.iconst 0, 1) := by decide +kernel
theorem dX9_isLocked_12 : decode cX9_isLocked 12 = .ok (.goto 15, 3) := by decide +kernel
theorem dX9_isLocked_15 : decode cX9_isLocked 15 = .ok (.iconst 1, 1) := by decide +kernel
theorem dX9_isLocked_16 : decode cX9_isLocked 16 = .ok (.aload_n 0, 1) := by decide +kernel
theorem dX9_isLocked_17 : decode cX9_isLocked 17 = .ok (.getfield 7, 3) := by decide +kernel
theorem dX9_isLocked_20 : decode cX9_isLocked 20 = .ok (.sipush 554, 3) := by decide +kernel
theorem dX9_isLocked_23 : decode cX9_isLocked 23 = .ok (.iaload, 1) := by decide +kernel
theorem dX9_isLocked_24 : decode cX9_isLocked 24 = .ok (.iconst 1, 1) := by decide +kernel
theorem dX9_isLocked_25 : decode cX9_isLocked 25 = .ok (.isub, 1) := by decide +kernel
theorem dX9_isLocked_26 : decode cX9_isLocked 26 = .ok (.ishl, 1) := by decide +kernel
theorem dX9_isLocked_27 : decode cX9_isLocked 27 = .ok (.istore_n 2, 1) := by decide +kernel
theorem dX9_isLocked_28 : decode cX9_isLocked 28 = .ok (.aload_n 0, 1) := by decide +kernel
theorem dX9_isLocked_29 : decode cX9_isLocked 29 = .ok (.getfield 7, 3) := by decide +kernel
theorem dX9_isLocked_32 : decode cX9_isLocked 32 = .ok (.sipush 555, 3) := by decide +kernel
theorem dX9_isLocked_35 : decode cX9_isLocked 35 = .ok (.iaload, 1) := by decide +kernel
theorem dX9_isLocked_36 : decode cX9_isLocked 36 = .ok (.iconst 1, 1) := by decide +kernel
theorem dX9_isLocked_37 : decode cX9_isLocked 37 = .ok (.if_icmp .ne 19, 3) := by decide +kernel
theorem dX9_isLocked_40 : decode cX9_isLocked 40 = .ok (.iload_n 1, 1) := by decide +kernel
theorem dX9_isLocked_41 : decode cX9_isLocked 41 = .ok (.bipush 8, 2) := by decide +kernel
theorem dX9_isLocked_43 : decode cX9_isLocked 43 = .ok (.iload_n 2, 1) := by decide +kernel
theorem dX9_isLocked_44 : decode cX9_isLocked 44 = .ok (.isub, 1) := by decide +kernel
theorem dX9_isLocked_45 : decode cX9_isLocked 45 = .ok (.if_icmp .lt 7, 3) := by decide +kernel
theorem dX9_isLocked_48 : decode cX9_isLocked 48 = .ok (.iconst 1, 1) := by decide +kernel
theorem dX9_isLocked_49 : decode cX9_isLocked 49 = .ok (.goto 17, 3) := by decide +kernel
theorem dX9_isLocked_52 : decode cX9_isLocked 52 = .ok (.iconst 0, 1) := by decide +kernel
theorem dX9_isLocked_53 : decode cX9_isLocked 53 = .ok (.goto 13, 3) := by decide +kernel
theorem dX9_isLocked_56 : decode cX9_isLocked 56 = .ok (.iload_n 1, 1) := by decide +kernel
theorem dX9_isLocked_57 : decode cX9_isLocked 57 = .ok (.iload_n 2, 1) := by decide +kernel
theorem dX9_isLocked_58 : decode cX9_isLocked 58 = .ok (.if_icmp .ge 7, 3) := by decide +kernel
theorem dX9_isLocked_61 : decode cX9_isLocked 61 = .ok (.iconst 1, 1) := by decide +kernel
theorem dX9_isLocked_62 : decode cX9_isLocked 62 = .ok (.goto 4, 3) := by decide +kernel
theorem dX9_isLocked_65 : decode cX9_isLocked 65 = .ok (.iconst 0, 1) := by decide +kernel
theorem dX9_isLocked_66 : decode cX9_isLocked 66 = .ok (.ireturn, 1) := by decide +kernel
theorem dX9_ofOrder_0 : decode cX9_ofOrder 0 = .ok (.aload_n 0, 1) := by decide +kernel
theorem dX9_ofOrder_1 : decode cX9_ofOrder 1 = .ok (.getfield 7, 3) := by decide +kernel
theorem dX9_ofOrder_4 : decode cX9_ofOrder 4 = .ok (.sipush 617, 3) := by decide +kernel
theorem dX9_ofOrder_7 : decode cX9_ofOrder 7 = .ok (.bipush 18, 2) := by decide +kernel
theorem dX9_ofOrder_9 : decode cX9_ofOrder 9 = .ok (.iload_n 1, 1) := by decide +kernel
theorem dX9_ofOrder_10 : decode cX9_ofOrder 10 = .ok (.imul, 1) := by decide +kernel
theorem dX9_ofOrder_11 : decode cX9_ofOrder 11 = .ok (.iadd, 1) := by decide +kernel
theorem dX9_ofOrder_12 : decode cX9_ofOrder 12 = .ok (.iload_n 2, 1) := by decide +kernel
theorem dX9_ofOrder_13 : decode cX9_ofOrder 13 = .ok (.iadd, 1) := by decide +kernel
theorem dX9_ofOrder_14 : decode cX9_ofOrder 14 = .ok (.iaload, 1) := by decide +kernel
theorem dX9_ofOrder_15 : decode cX9_ofOrder 15 = .ok (.ireturn, 1) := by decide +kernel
theorem dX9_sectorAt_0 : decode cX9_sectorAt 0 = .ok (.aload_n 0, 1) := by decide +kernel
theorem dX9_sectorAt_1 : decode cX9_sectorAt 1 = .ok (.iload_n 1, 1) := by decide +kernel
theorem dX9_sectorAt_2 : decode cX9_sectorAt 2 = .ok (.iconst 1, 1) := by decide +kernel
theorem dX9_sectorAt_3 : decode cX9_sectorAt 3 = .ok (.invokevirtual 53, 3) := by decide +kernel
theorem dX9_sectorAt_6 : decode cX9_sectorAt 6 = .ok (.ifCond .ne 15, 3) := by decide +kernel
theorem dX9_sectorAt_9 : decode cX9_sectorAt 9 = .ok (.aload_n 0, 1) := by decide +kernel
theorem dX9_sectorAt_10 : decode cX9_sectorAt 10 = .ok (.iload_n 1, 1) := by decide +kernel
theorem dX9_sectorAt_11 : decode cX9_sectorAt 11 = .ok (.iconst 2, 1) := by decide +kernel
theorem dX9_sectorAt_12 : decode cX9_sectorAt 12 = .ok (.invokevirtual 53, 3) := by decide +kernel
theorem dX9_sectorAt_15 : decode cX9_sectorAt 15 = .ok (.bipush 32, 2) := by decide +kernel
theorem dX9_sectorAt_17 : decode cX9_sectorAt 17 = .ok (.idiv, 1) := by decide +kernel
theorem dX9_sectorAt_18 : decode cX9_sectorAt 18 = .ok (.goto 9, 3) := by decide +kernel
theorem dX9_sectorAt_21 : decode cX9_sectorAt 21 = .ok (.aload_n 0, 1) := by decide +kernel
theorem dX9_sectorAt_22 : decode cX9_sectorAt 22 = .ok (.iload_n 1, 1) := by decide +kernel
theorem dX9_sectorAt_23 : decode cX9_sectorAt 23 = .ok (.iconst 2, 1) := by decide +kernel
theorem dX9_sectorAt_24 : decode cX9_sectorAt 24 = .ok (.invokevirtual 53, 3) := by decide +kernel
theorem dX9_sectorAt_27 : decode cX9_sectorAt 27 = .ok (.ireturn, 1) := by decide +kernel
theorem dX9_removes_0 : decode cX9_removes 0 = .ok (.sipush 617, 3) := by decide +kernel
theorem dX9_removes_3 : decode cX9_removes 3 = .ok (.bipush 18, 2) := by decide +kernel
theorem dX9_removes_5 : decode cX9_removes 5 = .ok (.iload_n 1, 1) := by decide +kernel
theorem dX9_removes_6 : decode cX9_removes 6 = .ok (.imul, 1) := by decide +kernel
theorem dX9_removes_7 : decode cX9_removes 7 = .ok (.iadd, 1) := by decide +kernel
theorem dX9_removes_8 : decode cX9_removes 8 = .ok (.istore_n 2, 1) := by decide +kernel
theorem dX9_removes_9 : decode cX9_removes 9 = .ok (.iload_n 2, 1) := by decide +kernel
theorem dX9_removes_10 : decode cX9_removes 10 = .ok (.sipush 797, 3) := by decide +kernel
theorem dX9_removes_13 : decode cX9_removes 13 = .ok (.if_icmp .ge 38, 3) := by decide +kernel
theorem dX9_removes_16 : decode cX9_removes 16 = .ok (.aload_n 0, 1) := by decide +kernel
theorem dX9_removes_17 : decode cX9_removes 17 = .ok (.getfield 7, 3) := by decide +kernel
theorem dX9_removes_20 : decode cX9_removes 20 = .ok (.iload_n 2, 1) := by decide +kernel
theorem dX9_removes_21 : decode cX9_removes 21 = .ok (.iload_n 2, 1) := by decide +kernel
theorem dX9_removes_22 : decode cX9_removes 22 = .ok (.bipush 18, 2) := by decide +kernel
theorem dX9_removes_24 : decode cX9_removes 24 = .ok (.iadd, 1) := by decide +kernel
theorem dX9_removes_25 : decode cX9_removes 25 = .ok (.sipush 797, 3) := by decide +kernel
theorem dX9_removes_28 : decode cX9_removes 28 = .ok (.if_icmp .ge 15, 3) := by decide +kernel
theorem dX9_removes_31 : decode cX9_removes 31 = .ok (.aload_n 0, 1) := by decide +kernel
theorem dX9_removes_32 : decode cX9_removes 32 = .ok (.getfield 7, 3) := by decide +kernel
theorem dX9_removes_35 : decode cX9_removes 35 = .ok (.iload_n 2, 1) := by decide +kernel
theorem dX9_removes_36 : decode cX9_removes 36 = .ok (.bipush 18, 2) := by decide +kernel
theorem dX9_removes_38 : decode cX9_removes 38 = .ok (.iadd, 1) := by decide +kernel
theorem dX9_removes_39 : decode cX9_removes 39 = .ok (.iaload, 1) := by decide +kernel
theorem dX9_removes_40 : decode cX9_removes 40 = .ok (.goto 4, 3) := by decide +kernel
theorem dX9_removes_43 : decode cX9_removes 43 = .ok (.iconst 0, 1) := by decide +kernel
theorem dX9_removes_44 : decode cX9_removes 44 = .ok (.iastore, 1) := by decide +kernel
theorem dX9_removes_45 : decode cX9_removes 45 = .ok (.iinc 2 1, 3) := by decide +kernel
theorem dX9_removes_48 : decode cX9_removes 48 = .ok (.goto (-39), 3) := by decide +kernel
theorem dX9_removes_51 : decode cX9_removes 51 = .ok (.aload_n 0, 1) := by decide +kernel
theorem dX9_removes_52 : decode cX9_removes 52 = .ok (.getfield 7, 3) := by decide +kernel
theorem dX9_removes_55 : decode cX9_removes 55 = .ok (.sipush 580, 3) := by decide +kernel
theorem dX9_removes_58 : decode cX9_removes 58 = .ok (.dup2, 1) := by decide +kernel
theorem dX9_removes_59 : decode cX9_removes 59 = .ok (.iaload, 1) := by decide +kernel
theorem dX9_removes_60 : decode cX9_removes 60 = .ok (.iconst 1, 1) := by decide +kernel
theorem dX9_removes_61 : decode cX9_removes 61 = .ok (.isub, 1) := by decide +kernel
theorem dX9_removes_62 : decode cX9_removes 62 = .ok (.iastore, 1) := by decide +kernel
theorem dX9_removes_63 : decode cX9_removes 63 = .ok (.return_, 1) := by decide +kernel
theorem dX9_lays_0 : decode cX9_lays 0 = .ok (.aload_n 0, 1) := by decide +kernel
theorem dX9_lays_1 : decode cX9_lays 1 = .ok (.getfield 7, 3) := by decide +kernel
theorem dX9_lays_4 : decode cX9_lays 4 = .ok (.sipush 581, 3) := by decide +kernel
theorem dX9_lays_7 : decode cX9_lays 7 = .ok (.iload_n 1, 1) := by decide +kernel
theorem dX9_lays_8 : decode cX9_lays 8 = .ok (.iadd, 1) := by decide +kernel
theorem dX9_lays_9 : decode cX9_lays 9 = .ok (.iload_n 2, 1) := by decide +kernel
theorem dX9_lays_10 : decode cX9_lays 10 = .ok (.iastore, 1) := by decide +kernel
theorem dX9_lays_11 : decode cX9_lays 11 = .ok (.return_, 1) := by decide +kernel
theorem dX9_clears_0 : decode cX9_clears 0 = .ok (.iconst 0, 1) := by decide +kernel
theorem dX9_clears_1 : decode cX9_clears 1 = .ok (.istore_n 2, 1) := by decide +kernel
theorem dX9_clears_2 : decode cX9_clears 2 = .ok (.iload_n 2, 1) := by decide +kernel
theorem dX9_clears_3 : decode cX9_clears 3 = .ok (.bipush 18, 2) := by decide +kernel
theorem dX9_clears_5 : decode cX9_clears 5 = .ok (.if_icmp .ge 25, 3) := by decide +kernel
theorem dX9_clears_8 : decode cX9_clears 8 = .ok (.aload_n 0, 1) := by decide +kernel
theorem dX9_clears_9 : decode cX9_clears 9 = .ok (.getfield 7, 3) := by decide +kernel
theorem dX9_clears_12 : decode cX9_clears 12 = .ok (.sipush 581, 3) := by decide +kernel
theorem dX9_clears_15 : decode cX9_clears 15 = .ok (.bipush 18, 2) := by decide +kernel
theorem dX9_clears_17 : decode cX9_clears 17 = .ok (.iload_n 1, 1) := by decide +kernel
theorem dX9_clears_18 : decode cX9_clears 18 = .ok (.imul, 1) := by decide +kernel
theorem dX9_clears_19 : decode cX9_clears 19 = .ok (.iadd, 1) := by decide +kernel
theorem dX9_clears_20 : decode cX9_clears 20 = .ok (.iload_n 2, 1) := by decide +kernel
theorem dX9_clears_21 : decode cX9_clears 21 = .ok (.iadd, 1) := by decide +kernel
theorem dX9_clears_22 : decode cX9_clears 22 = .ok (.iconst 0, 1) := by decide +kernel
theorem dX9_clears_23 : decode cX9_clears 23 = .ok (.iastore, 1) := by decide +kernel
theorem dX9_clears_24 : decode cX9_clears 24 = .ok (.iinc 2 1, 3) := by decide +kernel
theorem dX9_clears_27 : decode cX9_clears 27 = .ok (.goto (-25), 3) := by decide +kernel
theorem dX9_clears_30 : decode cX9_clears 30 = .ok (.return_, 1) := by decide +kernel
theorem dX9_beginsWrite_0 : decode cX9_beginsWrite 0 = .ok (.iload_n 3, 1) := by decide +kernel
theorem dX9_beginsWrite_1 : decode cX9_beginsWrite 1 = .ok (.bipush 8, 2) := by decide +kernel
theorem dX9_beginsWrite_3 : decode cX9_beginsWrite 3 = .ok (.if_icmp .ge 7, 3) := by decide +kernel
theorem dX9_beginsWrite_6 : decode cX9_beginsWrite 6 = .ok (.iload_n 3, 1) := by decide +kernel
theorem dX9_beginsWrite_7 : decode cX9_beginsWrite 7 = .ok (.goto 5, 3) := by decide +kernel
theorem dX9_beginsWrite_10 : decode cX9_beginsWrite 10 = .ok (.bipush 8, 2) := by decide +kernel
theorem dX9_beginsWrite_12 : decode cX9_beginsWrite 12 = .ok (.istore 5, 2) := by decide +kernel
theorem dX9_beginsWrite_14 : decode cX9_beginsWrite 14 = .ok (.aload_n 0, 1) := by decide +kernel
theorem dX9_beginsWrite_15 : decode cX9_beginsWrite 15 = .ok (.iconst 0, 1) := by decide +kernel
theorem dX9_beginsWrite_16 : decode cX9_beginsWrite 16 = .ok (.invokevirtual 57, 3) := by decide +kernel
theorem dX9_beginsWrite_19 : decode cX9_beginsWrite 19 = .ok (.aload_n 0, 1) := by decide +kernel
theorem dX9_beginsWrite_20 : decode cX9_beginsWrite 20 = .ok (.iconst 0, 1) := by decide +kernel
theorem dX9_beginsWrite_21 : decode cX9_beginsWrite 21 = .ok (.iconst 1, 1) := by decide +kernel
theorem dX9_beginsWrite_22 : decode cX9_beginsWrite 22 = .ok (.invokevirtual 61, 3) := by decide +kernel
theorem dX9_beginsWrite_25 : decode cX9_beginsWrite 25 = .ok (.aload_n 0, 1) := by decide +kernel
theorem dX9_beginsWrite_26 : decode cX9_beginsWrite 26 = .ok (.iconst 1, 1) := by decide +kernel
theorem dX9_beginsWrite_27 : decode cX9_beginsWrite 27 = .ok (.iload_n 1, 1) := by decide +kernel
theorem dX9_beginsWrite_28 : decode cX9_beginsWrite 28 = .ok (.invokevirtual 61, 3) := by decide +kernel
theorem dX9_beginsWrite_31 : decode cX9_beginsWrite 31 = .ok (.aload_n 0, 1) := by decide +kernel
theorem dX9_beginsWrite_32 : decode cX9_beginsWrite 32 = .ok (.iconst 4, 1) := by decide +kernel
theorem dX9_beginsWrite_33 : decode cX9_beginsWrite 33 = .ok (.aload_n 0, 1) := by decide +kernel
theorem dX9_beginsWrite_34 : decode cX9_beginsWrite 34 = .ok (.getfield 7, 3) := by decide +kernel
theorem dX9_beginsWrite_37 : decode cX9_beginsWrite 37 = .ok (.sipush 556, 3) := by decide +kernel
theorem dX9_beginsWrite_40 : decode cX9_beginsWrite 40 = .ok (.iaload, 1) := by decide +kernel
theorem dX9_beginsWrite_41 : decode cX9_beginsWrite 41 = .ok (.invokevirtual 61, 3) := by decide +kernel
theorem dX9_beginsWrite_44 : decode cX9_beginsWrite 44 = .ok (.aload_n 0, 1) := by decide +kernel
theorem dX9_beginsWrite_45 : decode cX9_beginsWrite 45 = .ok (.iconst 3, 1) := by decide +kernel
theorem dX9_beginsWrite_46 : decode cX9_beginsWrite 46 = .ok (.iload 5, 2) := by decide +kernel
theorem dX9_beginsWrite_48 : decode cX9_beginsWrite 48 = .ok (.aload_n 0, 1) := by decide +kernel
theorem dX9_beginsWrite_49 : decode cX9_beginsWrite 49 = .ok (.getfield 7, 3) := by decide +kernel
theorem dX9_beginsWrite_52 : decode cX9_beginsWrite 52 = .ok (.sipush 556, 3) := by decide +kernel
theorem dX9_beginsWrite_55 : decode cX9_beginsWrite 55 = .ok (.iaload, 1) := by decide +kernel
theorem dX9_beginsWrite_56 : decode cX9_beginsWrite 56 = .ok (.imul, 1) := by decide +kernel
theorem dX9_beginsWrite_57 : decode cX9_beginsWrite 57 = .ok (.invokevirtual 61, 3) := by decide +kernel
theorem dX9_beginsWrite_60 : decode cX9_beginsWrite 60 = .ok (.aload_n 0, 1) := by decide +kernel
theorem dX9_beginsWrite_61 : decode cX9_beginsWrite 61 = .ok (.iconst 5, 1) := by decide +kernel
theorem dX9_beginsWrite_62 : decode cX9_beginsWrite 62 = .ok (.iload 4, 2) := by decide +kernel
theorem dX9_beginsWrite_64 : decode cX9_beginsWrite 64 = .ok (.invokevirtual 61, 3) := by decide +kernel
theorem dX9_beginsWrite_67 : decode cX9_beginsWrite 67 = .ok (.iconst 0, 1) := by decide +kernel
theorem dX9_beginsWrite_68 : decode cX9_beginsWrite 68 = .ok (.istore 6, 2) := by decide +kernel
theorem dX9_beginsWrite_70 : decode cX9_beginsWrite 70 = .ok (.iload 6, 2) := by decide +kernel
theorem dX9_beginsWrite_72 : decode cX9_beginsWrite 72 = .ok (.iload 5, 2) := by decide +kernel
theorem dX9_beginsWrite_74 : decode cX9_beginsWrite 74 = .ok (.if_icmp .ge 44, 3) := by decide +kernel
theorem dX9_beginsWrite_77 : decode cX9_beginsWrite 77 = .ok (.aload_n 0, 1) := by decide +kernel
theorem dX9_beginsWrite_78 : decode cX9_beginsWrite 78 = .ok (.bipush 9, 2) := by decide +kernel
theorem dX9_beginsWrite_80 : decode cX9_beginsWrite 80 = .ok (.iload 6, 2) := by decide +kernel
theorem dX9_beginsWrite_82 : decode cX9_beginsWrite 82 = .ok (.iadd, 1) := by decide +kernel
theorem dX9_beginsWrite_83 : decode cX9_beginsWrite 83 = .ok (.aload_n 0, 1) := by decide +kernel
theorem dX9_beginsWrite_84 : decode cX9_beginsWrite 84 = .ok (.getfield 7, 3) := by decide +kernel
theorem dX9_beginsWrite_87 : decode cX9_beginsWrite 87 = .ok (.iload_n 2, 1) := by decide +kernel
theorem dX9_beginsWrite_88 : decode cX9_beginsWrite 88 = .ok (.iload 6, 2) := by decide +kernel
theorem dX9_beginsWrite_90 : decode cX9_beginsWrite 90 = .ok (.bipush 8, 2) := by decide +kernel
theorem dX9_beginsWrite_92 : decode cX9_beginsWrite 92 = .ok (.iadd, 1) := by decide +kernel
theorem dX9_beginsWrite_93 : decode cX9_beginsWrite 93 = .ok (.iload_n 3, 1) := by decide +kernel
theorem dX9_beginsWrite_94 : decode cX9_beginsWrite 94 = .ok (.if_icmp .ge 11, 3) := by decide +kernel
theorem dX9_beginsWrite_97 : decode cX9_beginsWrite 97 = .ok (.iload 6, 2) := by decide +kernel
theorem dX9_beginsWrite_99 : decode cX9_beginsWrite 99 = .ok (.bipush 8, 2) := by decide +kernel
theorem dX9_beginsWrite_101 : decode cX9_beginsWrite 101 = .ok (.iadd, 1) := by decide +kernel
theorem dX9_beginsWrite_102 : decode cX9_beginsWrite 102 = .ok (.goto 5, 3) := by decide +kernel
theorem dX9_beginsWrite_105 : decode cX9_beginsWrite 105 = .ok (.iload 6, 2) := by decide +kernel
theorem dX9_beginsWrite_107 : decode cX9_beginsWrite 107 = .ok (.iadd, 1) := by decide +kernel
theorem dX9_beginsWrite_108 : decode cX9_beginsWrite 108 = .ok (.iaload, 1) := by decide +kernel
theorem dX9_beginsWrite_109 : decode cX9_beginsWrite 109 = .ok (.invokevirtual 61, 3) := by decide +kernel
theorem dX9_beginsWrite_112 : decode cX9_beginsWrite 112 = .ok (.iinc 6 1, 3) := by decide +kernel
theorem dX9_beginsWrite_115 : decode cX9_beginsWrite 115 = .ok (.goto (-45), 3) := by decide +kernel
theorem dX9_beginsWrite_118 : decode cX9_beginsWrite 118 = .ok (.aload_n 0, 1) := by decide +kernel
theorem dX9_beginsWrite_119 : decode cX9_beginsWrite 119 = .ok (.iconst 3, 1) := by decide +kernel
theorem dX9_beginsWrite_120 : decode cX9_beginsWrite 120 = .ok (.invokevirtual 46, 3) := by decide +kernel
theorem dX9_beginsWrite_123 : decode cX9_beginsWrite 123 = .ok (.ireturn, 1) := by decide +kernel
theorem dX9_eraseTicks_0 : decode cX9_eraseTicks 0 = .ok (.iconst 4, 1) := by decide +kernel
theorem dX9_eraseTicks_1 : decode cX9_eraseTicks 1 = .ok (.aload_n 0, 1) := by decide +kernel
theorem dX9_eraseTicks_2 : decode cX9_eraseTicks 2 = .ok (.getfield 7, 3) := by decide +kernel
theorem dX9_eraseTicks_5 : decode cX9_eraseTicks 5 = .ok (.sipush 557, 3) := by decide +kernel
theorem dX9_eraseTicks_8 : decode cX9_eraseTicks 8 = .ok (.iaload, 1) := by decide +kernel
theorem dX9_eraseTicks_9 : decode cX9_eraseTicks 9 = .ok (.iadd, 1) := by decide +kernel
theorem dX9_eraseTicks_10 : decode cX9_eraseTicks 10 = .ok (.aload_n 0, 1) := by decide +kernel
theorem dX9_eraseTicks_11 : decode cX9_eraseTicks 11 = .ok (.getfield 7, 3) := by decide +kernel
theorem dX9_eraseTicks_14 : decode cX9_eraseTicks 14 = .ok (.sipush 544, 3) := by decide +kernel
theorem dX9_eraseTicks_17 : decode cX9_eraseTicks 17 = .ok (.iload_n 1, 1) := by decide +kernel
theorem dX9_eraseTicks_18 : decode cX9_eraseTicks 18 = .ok (.iadd, 1) := by decide +kernel
theorem dX9_eraseTicks_19 : decode cX9_eraseTicks 19 = .ok (.iaload, 1) := by decide +kernel
theorem dX9_eraseTicks_20 : decode cX9_eraseTicks 20 = .ok (.iconst 4, 1) := by decide +kernel
theorem dX9_eraseTicks_21 : decode cX9_eraseTicks 21 = .ok (.idiv, 1) := by decide +kernel
theorem dX9_eraseTicks_22 : decode cX9_eraseTicks 22 = .ok (.iadd, 1) := by decide +kernel
theorem dX9_eraseTicks_23 : decode cX9_eraseTicks 23 = .ok (.ireturn, 1) := by decide +kernel
theorem dX9_beginsErase_0 : decode cX9_beginsErase 0 = .ok (.aload_n 0, 1) := by decide +kernel
theorem dX9_beginsErase_1 : decode cX9_beginsErase 1 = .ok (.iconst 0, 1) := by decide +kernel
theorem dX9_beginsErase_2 : decode cX9_beginsErase 2 = .ok (.invokevirtual 57, 3) := by decide +kernel
theorem dX9_beginsErase_5 : decode cX9_beginsErase 5 = .ok (.aload_n 0, 1) := by decide +kernel
theorem dX9_beginsErase_6 : decode cX9_beginsErase 6 = .ok (.iconst 0, 1) := by decide +kernel
theorem dX9_beginsErase_7 : decode cX9_beginsErase 7 = .ok (.iconst 2, 1) := by decide +kernel
theorem dX9_beginsErase_8 : decode cX9_beginsErase 8 = .ok (.invokevirtual 61, 3) := by decide +kernel
theorem dX9_beginsErase_11 : decode cX9_beginsErase 11 = .ok (.aload_n 0, 1) := by decide +kernel
theorem dX9_beginsErase_12 : decode cX9_beginsErase 12 = .ok (.iconst 1, 1) := by decide +kernel
theorem dX9_beginsErase_13 : decode cX9_beginsErase 13 = .ok (.iload_n 1, 1) := by decide +kernel
theorem dX9_beginsErase_14 : decode cX9_beginsErase 14 = .ok (.invokevirtual 61, 3) := by decide +kernel
theorem dX9_beginsErase_17 : decode cX9_beginsErase 17 = .ok (.aload_n 0, 1) := by decide +kernel
theorem dX9_beginsErase_18 : decode cX9_beginsErase 18 = .ok (.iconst 3, 1) := by decide +kernel
theorem dX9_beginsErase_19 : decode cX9_beginsErase 19 = .ok (.aload_n 0, 1) := by decide +kernel
theorem dX9_beginsErase_20 : decode cX9_beginsErase 20 = .ok (.iload_n 1, 1) := by decide +kernel
theorem dX9_beginsErase_21 : decode cX9_beginsErase 21 = .ok (.invokevirtual 65, 3) := by decide +kernel
theorem dX9_beginsErase_24 : decode cX9_beginsErase 24 = .ok (.invokevirtual 61, 3) := by decide +kernel
theorem dX9_beginsErase_27 : decode cX9_beginsErase 27 = .ok (.aload_n 0, 1) := by decide +kernel
theorem dX9_beginsErase_28 : decode cX9_beginsErase 28 = .ok (.iconst 5, 1) := by decide +kernel
theorem dX9_beginsErase_29 : decode cX9_beginsErase 29 = .ok (.iload_n 2, 1) := by decide +kernel
theorem dX9_beginsErase_30 : decode cX9_beginsErase 30 = .ok (.invokevirtual 61, 3) := by decide +kernel
theorem dX9_beginsErase_33 : decode cX9_beginsErase 33 = .ok (.aload_n 0, 1) := by decide +kernel
theorem dX9_beginsErase_34 : decode cX9_beginsErase 34 = .ok (.iconst 3, 1) := by decide +kernel
theorem dX9_beginsErase_35 : decode cX9_beginsErase 35 = .ok (.invokevirtual 46, 3) := by decide +kernel
theorem dX9_beginsErase_38 : decode cX9_beginsErase 38 = .ok (.ireturn, 1) := by decide +kernel
theorem dX9_beginsLock_0 : decode cX9_beginsLock 0 = .ok (.aload_n 0, 1) := by decide +kernel
theorem dX9_beginsLock_1 : decode cX9_beginsLock 1 = .ok (.iconst 0, 1) := by decide +kernel
theorem dX9_beginsLock_2 : decode cX9_beginsLock 2 = .ok (.invokevirtual 57, 3) := by decide +kernel
theorem dX9_beginsLock_5 : decode cX9_beginsLock 5 = .ok (.aload_n 0, 1) := by decide +kernel
theorem dX9_beginsLock_6 : decode cX9_beginsLock 6 = .ok (.iconst 0, 1) := by decide +kernel
theorem dX9_beginsLock_7 : decode cX9_beginsLock 7 = .ok (.iconst 3, 1) := by decide +kernel
theorem dX9_beginsLock_8 : decode cX9_beginsLock 8 = .ok (.invokevirtual 61, 3) := by decide +kernel
theorem dX9_beginsLock_11 : decode cX9_beginsLock 11 = .ok (.aload_n 0, 1) := by decide +kernel
theorem dX9_beginsLock_12 : decode cX9_beginsLock 12 = .ok (.iconst 1, 1) := by decide +kernel
theorem dX9_beginsLock_13 : decode cX9_beginsLock 13 = .ok (.iload_n 1, 1) := by decide +kernel
theorem dX9_beginsLock_14 : decode cX9_beginsLock 14 = .ok (.invokevirtual 61, 3) := by decide +kernel
theorem dX9_beginsLock_17 : decode cX9_beginsLock 17 = .ok (.aload_n 0, 1) := by decide +kernel
theorem dX9_beginsLock_18 : decode cX9_beginsLock 18 = .ok (.bipush 7, 2) := by decide +kernel
theorem dX9_beginsLock_20 : decode cX9_beginsLock 20 = .ok (.iload_n 2, 1) := by decide +kernel
theorem dX9_beginsLock_21 : decode cX9_beginsLock 21 = .ok (.invokevirtual 61, 3) := by decide +kernel
theorem dX9_beginsLock_24 : decode cX9_beginsLock 24 = .ok (.aload_n 0, 1) := by decide +kernel
theorem dX9_beginsLock_25 : decode cX9_beginsLock 25 = .ok (.iconst 3, 1) := by decide +kernel
theorem dX9_beginsLock_26 : decode cX9_beginsLock 26 = .ok (.aload_n 0, 1) := by decide +kernel
theorem dX9_beginsLock_27 : decode cX9_beginsLock 27 = .ok (.getfield 7, 3) := by decide +kernel
theorem dX9_beginsLock_30 : decode cX9_beginsLock 30 = .ok (.sipush 559, 3) := by decide +kernel
theorem dX9_beginsLock_33 : decode cX9_beginsLock 33 = .ok (.iaload, 1) := by decide +kernel
theorem dX9_beginsLock_34 : decode cX9_beginsLock 34 = .ok (.invokevirtual 61, 3) := by decide +kernel
theorem dX9_beginsLock_37 : decode cX9_beginsLock 37 = .ok (.aload_n 0, 1) := by decide +kernel
theorem dX9_beginsLock_38 : decode cX9_beginsLock 38 = .ok (.iconst 5, 1) := by decide +kernel
theorem dX9_beginsLock_39 : decode cX9_beginsLock 39 = .ok (.iconst (-1), 1) := by decide +kernel
theorem dX9_beginsLock_40 : decode cX9_beginsLock 40 = .ok (.invokevirtual 61, 3) := by decide +kernel
theorem dX9_beginsLock_43 : decode cX9_beginsLock 43 = .ok (.aload_n 0, 1) := by decide +kernel
theorem dX9_beginsLock_44 : decode cX9_beginsLock 44 = .ok (.iconst 3, 1) := by decide +kernel
theorem dX9_beginsLock_45 : decode cX9_beginsLock 45 = .ok (.invokevirtual 46, 3) := by decide +kernel
theorem dX9_beginsLock_48 : decode cX9_beginsLock 48 = .ok (.ireturn, 1) := by decide +kernel
theorem dX9_beginsOrder_0 : decode cX9_beginsOrder 0 = .ok (.aload_n 0, 1) := by decide +kernel
theorem dX9_beginsOrder_1 : decode cX9_beginsOrder 1 = .ok (.iload_n 1, 1) := by decide +kernel
theorem dX9_beginsOrder_2 : decode cX9_beginsOrder 2 = .ok (.iconst 1, 1) := by decide +kernel
theorem dX9_beginsOrder_3 : decode cX9_beginsOrder 3 = .ok (.invokevirtual 53, 3) := by decide +kernel
theorem dX9_beginsOrder_6 : decode cX9_beginsOrder 6 = .ok (.ifCond .ne 39, 3) := by decide +kernel
theorem dX9_beginsOrder_9 : decode cX9_beginsOrder 9 = .ok (.aload_n 0, 1) := by decide +kernel
theorem dX9_beginsOrder_10 : decode cX9_beginsOrder 10 = .ok (.aload_n 0, 1) := by decide +kernel
theorem dX9_beginsOrder_11 : decode cX9_beginsOrder 11 = .ok (.iload_n 1, 1) := by decide +kernel
theorem dX9_beginsOrder_12 : decode cX9_beginsOrder 12 = .ok (.iconst 2, 1) := by decide +kernel
theorem dX9_beginsOrder_13 : decode cX9_beginsOrder 13 = .ok (.invokevirtual 53, 3) := by decide +kernel
theorem dX9_beginsOrder_16 : decode cX9_beginsOrder 16 = .ok (.sipush 617, 3) := by decide +kernel
theorem dX9_beginsOrder_19 : decode cX9_beginsOrder 19 = .ok (.bipush 18, 2) := by decide +kernel
theorem dX9_beginsOrder_21 : decode cX9_beginsOrder 21 = .ok (.iload_n 1, 1) := by decide +kernel
theorem dX9_beginsOrder_22 : decode cX9_beginsOrder 22 = .ok (.imul, 1) := by decide +kernel
theorem dX9_beginsOrder_23 : decode cX9_beginsOrder 23 = .ok (.iadd, 1) := by decide +kernel
theorem dX9_beginsOrder_24 : decode cX9_beginsOrder 24 = .ok (.bipush 6, 2) := by decide +kernel
theorem dX9_beginsOrder_26 : decode cX9_beginsOrder 26 = .ok (.iadd, 1) := by decide +kernel
theorem dX9_beginsOrder_27 : decode cX9_beginsOrder 27 = .ok (.aload_n 0, 1) := by decide +kernel
theorem dX9_beginsOrder_28 : decode cX9_beginsOrder 28 = .ok (.iload_n 1, 1) := by decide +kernel
theorem dX9_beginsOrder_29 : decode cX9_beginsOrder 29 = .ok (.iconst 5, 1) := by decide +kernel
theorem dX9_beginsOrder_30 : decode cX9_beginsOrder 30 = .ok (.invokevirtual 53, 3) := by decide +kernel
theorem dX9_beginsOrder_33 : decode cX9_beginsOrder 33 = .ok (.aload_n 0, 1) := by decide +kernel
theorem dX9_beginsOrder_34 : decode cX9_beginsOrder 34 = .ok (.iload_n 1, 1) := by decide +kernel
theorem dX9_beginsOrder_35 : decode cX9_beginsOrder 35 = .ok (.iconst 3, 1) := by decide +kernel
theorem dX9_beginsOrder_36 : decode cX9_beginsOrder 36 = .ok (.invokevirtual 53, 3) := by decide +kernel
theorem dX9_beginsOrder_39 : decode cX9_beginsOrder 39 = .ok (.invokevirtual 68, 3) := by decide +kernel
theorem dX9_beginsOrder_42 : decode cX9_beginsOrder 42 = .ok (.goto 19, 3) := by decide +kernel
theorem dX9_beginsOrder_45 : decode cX9_beginsOrder 45 = .ok (.aload_n 0, 1) := by decide +kernel
theorem dX9_beginsOrder_46 : decode cX9_beginsOrder 46 = .ok (.aload_n 0, 1) := by decide +kernel
theorem dX9_beginsOrder_47 : decode cX9_beginsOrder 47 = .ok (.iload_n 1, 1) := by decide +kernel
theorem dX9_beginsOrder_48 : decode cX9_beginsOrder 48 = .ok (.iconst 2, 1) := by decide +kernel
theorem dX9_beginsOrder_49 : decode cX9_beginsOrder 49 = .ok (.invokevirtual 53, 3) := by decide +kernel
theorem dX9_beginsOrder_52 : decode cX9_beginsOrder 52 = .ok (.aload_n 0, 1) := by decide +kernel
theorem dX9_beginsOrder_53 : decode cX9_beginsOrder 53 = .ok (.iload_n 1, 1) := by decide +kernel
theorem dX9_beginsOrder_54 : decode cX9_beginsOrder 54 = .ok (.iconst 3, 1) := by decide +kernel
theorem dX9_beginsOrder_55 : decode cX9_beginsOrder 55 = .ok (.invokevirtual 53, 3) := by decide +kernel
theorem dX9_beginsOrder_58 : decode cX9_beginsOrder 58 = .ok (.invokevirtual 72, 3) := by decide +kernel
theorem dX9_beginsOrder_61 : decode cX9_beginsOrder 61 = .ok (.istore_n 2, 1) := by decide +kernel
theorem dX9_beginsOrder_62 : decode cX9_beginsOrder 62 = .ok (.aload_n 0, 1) := by decide +kernel
theorem dX9_beginsOrder_63 : decode cX9_beginsOrder 63 = .ok (.iload_n 1, 1) := by decide +kernel
theorem dX9_beginsOrder_64 : decode cX9_beginsOrder 64 = .ok (.invokevirtual 75, 3) := by decide +kernel
theorem dX9_beginsOrder_67 : decode cX9_beginsOrder 67 = .ok (.return_, 1) := by decide +kernel
theorem dX9_falls_0 : decode cX9_falls 0 = .ok (.aload_n 0, 1) := by decide +kernel
theorem dX9_falls_1 : decode cX9_falls 1 = .ok (.getfield 7, 3) := by decide +kernel
theorem dX9_falls_4 : decode cX9_falls 4 = .ok (.sipush 563, 3) := by decide +kernel
theorem dX9_falls_7 : decode cX9_falls 7 = .ok (.dup2, 1) := by decide +kernel
theorem dX9_falls_8 : decode cX9_falls 8 = .ok (.iaload, 1) := by decide +kernel
theorem dX9_falls_9 : decode cX9_falls 9 = .ok (.aload_n 0, 1) := by decide +kernel
theorem dX9_falls_10 : decode cX9_falls 10 = .ok (.getfield 7, 3) := by decide +kernel
theorem dX9_falls_13 : decode cX9_falls 13 = .ok (.iload_n 1, 1) := by decide +kernel
theorem dX9_falls_14 : decode cX9_falls 14 = .ok (.iaload, 1) := by decide +kernel
theorem dX9_falls_15 : decode cX9_falls 15 = .ok (.invokestatic 78, 3) := by decide +kernel
theorem dX9_falls_18 : decode cX9_falls 18 = .ok (.iload_n 2, 1) := by decide +kernel
theorem dX9_falls_19 : decode cX9_falls 19 = .ok (.invokestatic 78, 3) := by decide +kernel
theorem dX9_falls_22 : decode cX9_falls 22 = .ok (.isub, 1) := by decide +kernel
theorem dX9_falls_23 : decode cX9_falls 23 = .ok (.iadd, 1) := by decide +kernel
theorem dX9_falls_24 : decode cX9_falls 24 = .ok (.iastore, 1) := by decide +kernel
theorem dX9_falls_25 : decode cX9_falls 25 = .ok (.aload_n 0, 1) := by decide +kernel
theorem dX9_falls_26 : decode cX9_falls 26 = .ok (.getfield 7, 3) := by decide +kernel
theorem dX9_falls_29 : decode cX9_falls 29 = .ok (.iload_n 1, 1) := by decide +kernel
theorem dX9_falls_30 : decode cX9_falls 30 = .ok (.iload_n 2, 1) := by decide +kernel
theorem dX9_falls_31 : decode cX9_falls 31 = .ok (.iastore, 1) := by decide +kernel
theorem dX9_falls_32 : decode cX9_falls 32 = .ok (.return_, 1) := by decide +kernel
theorem dX9_writesOn_0 : decode cX9_writesOn 0 = .ok (.aload_n 0, 1) := by decide +kernel
theorem dX9_writesOn_1 : decode cX9_writesOn 1 = .ok (.iconst 2, 1) := by decide +kernel
theorem dX9_writesOn_2 : decode cX9_writesOn 2 = .ok (.invokevirtual 46, 3) := by decide +kernel
theorem dX9_writesOn_5 : decode cX9_writesOn 5 = .ok (.aload_n 0, 1) := by decide +kernel
theorem dX9_writesOn_6 : decode cX9_writesOn 6 = .ok (.iconst 4, 1) := by decide +kernel
theorem dX9_writesOn_7 : decode cX9_writesOn 7 = .ok (.invokevirtual 46, 3) := by decide +kernel
theorem dX9_writesOn_10 : decode cX9_writesOn 10 = .ok (.irem, 1) := by decide +kernel
theorem dX9_writesOn_11 : decode cX9_writesOn 11 = .ok (.ifCond .ne 60, 3) := by decide +kernel
theorem dX9_writesOn_14 : decode cX9_writesOn 14 = .ok (.aload_n 0, 1) := by decide +kernel
theorem dX9_writesOn_15 : decode cX9_writesOn 15 = .ok (.iconst 2, 1) := by decide +kernel
theorem dX9_writesOn_16 : decode cX9_writesOn 16 = .ok (.invokevirtual 46, 3) := by decide +kernel
theorem dX9_writesOn_19 : decode cX9_writesOn 19 = .ok (.aload_n 0, 1) := by decide +kernel
theorem dX9_writesOn_20 : decode cX9_writesOn 20 = .ok (.iconst 4, 1) := by decide +kernel
theorem dX9_writesOn_21 : decode cX9_writesOn 21 = .ok (.invokevirtual 46, 3) := by decide +kernel
theorem dX9_writesOn_24 : decode cX9_writesOn 24 = .ok (.idiv, 1) := by decide +kernel
theorem dX9_writesOn_25 : decode cX9_writesOn 25 = .ok (.iconst 1, 1) := by decide +kernel
theorem dX9_writesOn_26 : decode cX9_writesOn 26 = .ok (.isub, 1) := by decide +kernel
theorem dX9_writesOn_27 : decode cX9_writesOn 27 = .ok (.istore_n 1, 1) := by decide +kernel
theorem dX9_writesOn_28 : decode cX9_writesOn 28 = .ok (.aload_n 0, 1) := by decide +kernel
theorem dX9_writesOn_29 : decode cX9_writesOn 29 = .ok (.iconst 1, 1) := by decide +kernel
theorem dX9_writesOn_30 : decode cX9_writesOn 30 = .ok (.invokevirtual 46, 3) := by decide +kernel
theorem dX9_writesOn_33 : decode cX9_writesOn 33 = .ok (.bipush 8, 2) := by decide +kernel
theorem dX9_writesOn_35 : decode cX9_writesOn 35 = .ok (.idiv, 1) := by decide +kernel
theorem dX9_writesOn_36 : decode cX9_writesOn 36 = .ok (.bipush 8, 2) := by decide +kernel
theorem dX9_writesOn_38 : decode cX9_writesOn 38 = .ok (.imul, 1) := by decide +kernel
theorem dX9_writesOn_39 : decode cX9_writesOn 39 = .ok (.aload_n 0, 1) := by decide +kernel
theorem dX9_writesOn_40 : decode cX9_writesOn 40 = .ok (.iconst 1, 1) := by decide +kernel
theorem dX9_writesOn_41 : decode cX9_writesOn 41 = .ok (.invokevirtual 46, 3) := by decide +kernel
theorem dX9_writesOn_44 : decode cX9_writesOn 44 = .ok (.iload_n 1, 1) := by decide +kernel
theorem dX9_writesOn_45 : decode cX9_writesOn 45 = .ok (.iadd, 1) := by decide +kernel
theorem dX9_writesOn_46 : decode cX9_writesOn 46 = .ok (.bipush 8, 2) := by decide +kernel
theorem dX9_writesOn_48 : decode cX9_writesOn 48 = .ok (.irem, 1) := by decide +kernel
theorem dX9_writesOn_49 : decode cX9_writesOn 49 = .ok (.iadd, 1) := by decide +kernel
theorem dX9_writesOn_50 : decode cX9_writesOn 50 = .ok (.istore_n 2, 1) := by decide +kernel
theorem dX9_writesOn_51 : decode cX9_writesOn 51 = .ok (.aload_n 0, 1) := by decide +kernel
theorem dX9_writesOn_52 : decode cX9_writesOn 52 = .ok (.iload_n 2, 1) := by decide +kernel
theorem dX9_writesOn_53 : decode cX9_writesOn 53 = .ok (.aload_n 0, 1) := by decide +kernel
theorem dX9_writesOn_54 : decode cX9_writesOn 54 = .ok (.getfield 7, 3) := by decide +kernel
theorem dX9_writesOn_57 : decode cX9_writesOn 57 = .ok (.iload_n 2, 1) := by decide +kernel
theorem dX9_writesOn_58 : decode cX9_writesOn 58 = .ok (.iaload, 1) := by decide +kernel
theorem dX9_writesOn_59 : decode cX9_writesOn 59 = .ok (.aload_n 0, 1) := by decide +kernel
theorem dX9_writesOn_60 : decode cX9_writesOn 60 = .ok (.bipush 9, 2) := by decide +kernel
theorem dX9_writesOn_62 : decode cX9_writesOn 62 = .ok (.iload_n 1, 1) := by decide +kernel
theorem dX9_writesOn_63 : decode cX9_writesOn 63 = .ok (.iadd, 1) := by decide +kernel
theorem dX9_writesOn_64 : decode cX9_writesOn 64 = .ok (.invokevirtual 46, 3) := by decide +kernel
theorem dX9_writesOn_67 : decode cX9_writesOn 67 = .ok (.iand, 1) := by decide +kernel
theorem dX9_writesOn_68 : decode cX9_writesOn 68 = .ok (.invokevirtual 81, 3) := by decide +kernel
theorem dX9_writesOn_71 : decode cX9_writesOn 71 = .ok (.aload_n 0, 1) := by decide +kernel
theorem dX9_writesOn_72 : decode cX9_writesOn 72 = .ok (.getfield 7, 3) := by decide +kernel
theorem dX9_writesOn_75 : decode cX9_writesOn 75 = .ok (.sipush 562, 3) := by decide +kernel
theorem dX9_writesOn_78 : decode cX9_writesOn 78 = .ok (.dup2, 1) := by decide +kernel
theorem dX9_writesOn_79 : decode cX9_writesOn 79 = .ok (.iaload, 1) := by decide +kernel
theorem dX9_writesOn_80 : decode cX9_writesOn 80 = .ok (.aload_n 0, 1) := by decide +kernel
theorem dX9_writesOn_81 : decode cX9_writesOn 81 = .ok (.iconst 2, 1) := by decide +kernel
theorem dX9_writesOn_82 : decode cX9_writesOn 82 = .ok (.invokevirtual 46, 3) := by decide +kernel
theorem dX9_writesOn_85 : decode cX9_writesOn 85 = .ok (.aload_n 0, 1) := by decide +kernel
theorem dX9_writesOn_86 : decode cX9_writesOn 86 = .ok (.iconst 3, 1) := by decide +kernel
theorem dX9_writesOn_87 : decode cX9_writesOn 87 = .ok (.invokevirtual 46, 3) := by decide +kernel
theorem dX9_writesOn_90 : decode cX9_writesOn 90 = .ok (.if_icmp .ne 7, 3) := by decide +kernel
theorem dX9_writesOn_93 : decode cX9_writesOn 93 = .ok (.iconst 1, 1) := by decide +kernel
theorem dX9_writesOn_94 : decode cX9_writesOn 94 = .ok (.goto 4, 3) := by decide +kernel
theorem dX9_writesOn_97 : decode cX9_writesOn 97 = .ok (.iconst 0, 1) := by decide +kernel
theorem dX9_writesOn_98 : decode cX9_writesOn 98 = .ok (.iadd, 1) := by decide +kernel
theorem dX9_writesOn_99 : decode cX9_writesOn 99 = .ok (.iastore, 1) := by decide +kernel
theorem dX9_writesOn_100 : decode cX9_writesOn 100 = .ok (.return_, 1) := by decide +kernel
theorem dX9_endsErase_0 : decode cX9_endsErase 0 = .ok (.bipush 32, 2) := by decide +kernel
theorem dX9_endsErase_2 : decode cX9_endsErase 2 = .ok (.iload_n 1, 1) := by decide +kernel
theorem dX9_endsErase_3 : decode cX9_endsErase 3 = .ok (.imul, 1) := by decide +kernel
theorem dX9_endsErase_4 : decode cX9_endsErase 4 = .ok (.istore_n 2, 1) := by decide +kernel
theorem dX9_endsErase_5 : decode cX9_endsErase 5 = .ok (.iload_n 2, 1) := by decide +kernel
theorem dX9_endsErase_6 : decode cX9_endsErase 6 = .ok (.bipush 32, 2) := by decide +kernel
theorem dX9_endsErase_8 : decode cX9_endsErase 8 = .ok (.iload_n 1, 1) := by decide +kernel
theorem dX9_endsErase_9 : decode cX9_endsErase 9 = .ok (.imul, 1) := by decide +kernel
theorem dX9_endsErase_10 : decode cX9_endsErase 10 = .ok (.bipush 32, 2) := by decide +kernel
theorem dX9_endsErase_12 : decode cX9_endsErase 12 = .ok (.iadd, 1) := by decide +kernel
theorem dX9_endsErase_13 : decode cX9_endsErase 13 = .ok (.if_icmp .ge 45, 3) := by decide +kernel
theorem dX9_endsErase_16 : decode cX9_endsErase 16 = .ok (.aload_n 0, 1) := by decide +kernel
theorem dX9_endsErase_17 : decode cX9_endsErase 17 = .ok (.getfield 7, 3) := by decide +kernel
theorem dX9_endsErase_20 : decode cX9_endsErase 20 = .ok (.iload_n 2, 1) := by decide +kernel
theorem dX9_endsErase_21 : decode cX9_endsErase 21 = .ok (.sipush 255, 3) := by decide +kernel
theorem dX9_endsErase_24 : decode cX9_endsErase 24 = .ok (.aload_n 0, 1) := by decide +kernel
theorem dX9_endsErase_25 : decode cX9_endsErase 25 = .ok (.getfield 7, 3) := by decide +kernel
theorem dX9_endsErase_28 : decode cX9_endsErase 28 = .ok (.sipush 256, 3) := by decide +kernel
theorem dX9_endsErase_31 : decode cX9_endsErase 31 = .ok (.iload_n 2, 1) := by decide +kernel
theorem dX9_endsErase_32 : decode cX9_endsErase 32 = .ok (.iadd, 1) := by decide +kernel
theorem dX9_endsErase_33 : decode cX9_endsErase 33 = .ok (.iaload, 1) := by decide +kernel
theorem dX9_endsErase_34 : decode cX9_endsErase 34 = .ok (.iconst (-1), 1) := by decide +kernel
theorem dX9_endsErase_35 : decode cX9_endsErase 35 = .ok (.ixor, 1) := by decide +kernel
theorem dX9_endsErase_36 : decode cX9_endsErase 36 = .ok (.iand, 1) := by decide +kernel
theorem dX9_endsErase_37 : decode cX9_endsErase 37 = .ok (.iastore, 1) := by decide +kernel
theorem dX9_endsErase_38 : decode cX9_endsErase 38 = .ok (.aload_n 0, 1) := by decide +kernel
theorem dX9_endsErase_39 : decode cX9_endsErase 39 = .ok (.getfield 7, 3) := by decide +kernel
theorem dX9_endsErase_42 : decode cX9_endsErase 42 = .ok (.sipush 512, 3) := by decide +kernel
theorem dX9_endsErase_45 : decode cX9_endsErase 45 = .ok (.iload_n 2, 1) := by decide +kernel
theorem dX9_endsErase_46 : decode cX9_endsErase 46 = .ok (.bipush 8, 2) := by decide +kernel
theorem dX9_endsErase_48 : decode cX9_endsErase 48 = .ok (.idiv, 1) := by decide +kernel
theorem dX9_endsErase_49 : decode cX9_endsErase 49 = .ok (.iadd, 1) := by decide +kernel
theorem dX9_endsErase_50 : decode cX9_endsErase 50 = .ok (.iconst 0, 1) := by decide +kernel
theorem dX9_endsErase_51 : decode cX9_endsErase 51 = .ok (.iastore, 1) := by decide +kernel
theorem dX9_endsErase_52 : decode cX9_endsErase 52 = .ok (.iinc 2 1, 3) := by decide +kernel
theorem dX9_endsErase_55 : decode cX9_endsErase 55 = .ok (.goto (-50), 3) := by decide +kernel
theorem dX9_endsErase_58 : decode cX9_endsErase 58 = .ok (.aload_n 0, 1) := by decide +kernel
theorem dX9_endsErase_59 : decode cX9_endsErase 59 = .ok (.getfield 7, 3) := by decide +kernel
theorem dX9_endsErase_62 : decode cX9_endsErase 62 = .ok (.sipush 544, 3) := by decide +kernel
theorem dX9_endsErase_65 : decode cX9_endsErase 65 = .ok (.iload_n 1, 1) := by decide +kernel
theorem dX9_endsErase_66 : decode cX9_endsErase 66 = .ok (.iadd, 1) := by decide +kernel
theorem dX9_endsErase_67 : decode cX9_endsErase 67 = .ok (.dup2, 1) := by decide +kernel
theorem dX9_endsErase_68 : decode cX9_endsErase 68 = .ok (.iaload, 1) := by decide +kernel
theorem dX9_endsErase_69 : decode cX9_endsErase 69 = .ok (.iconst 1, 1) := by decide +kernel
theorem dX9_endsErase_70 : decode cX9_endsErase 70 = .ok (.iadd, 1) := by decide +kernel
theorem dX9_endsErase_71 : decode cX9_endsErase 71 = .ok (.iastore, 1) := by decide +kernel
theorem dX9_endsErase_72 : decode cX9_endsErase 72 = .ok (.aload_n 0, 1) := by decide +kernel
theorem dX9_endsErase_73 : decode cX9_endsErase 73 = .ok (.getfield 7, 3) := by decide +kernel
theorem dX9_endsErase_76 : decode cX9_endsErase 76 = .ok (.sipush 544, 3) := by decide +kernel
theorem dX9_endsErase_79 : decode cX9_endsErase 79 = .ok (.iload_n 1, 1) := by decide +kernel
theorem dX9_endsErase_80 : decode cX9_endsErase 80 = .ok (.iadd, 1) := by decide +kernel
theorem dX9_endsErase_81 : decode cX9_endsErase 81 = .ok (.iaload, 1) := by decide +kernel
theorem dX9_endsErase_82 : decode cX9_endsErase 82 = .ok (.istore_n 2, 1) := by decide +kernel
theorem dX9_endsErase_83 : decode cX9_endsErase 83 = .ok (.iload_n 2, 1) := by decide +kernel
theorem dX9_endsErase_84 : decode cX9_endsErase 84 = .ok (.aload_n 0, 1) := by decide +kernel
theorem dX9_endsErase_85 : decode cX9_endsErase 85 = .ok (.getfield 7, 3) := by decide +kernel
theorem dX9_endsErase_88 : decode cX9_endsErase 88 = .ok (.sipush 558, 3) := by decide +kernel
theorem dX9_endsErase_91 : decode cX9_endsErase 91 = .ok (.iaload, 1) := by decide +kernel
theorem dX9_endsErase_92 : decode cX9_endsErase 92 = .ok (.if_icmp .le 54, 3) := by decide +kernel
theorem dX9_endsErase_95 : decode cX9_endsErase 95 = .ok (.bipush 32, 2) := by decide +kernel
theorem dX9_endsErase_97 : decode cX9_endsErase 97 = .ok (.iload_n 1, 1) := by decide +kernel
theorem dX9_endsErase_98 : decode cX9_endsErase 98 = .ok (.imul, 1) := by decide +kernel
theorem dX9_endsErase_99 : decode cX9_endsErase 99 = .ok (.iload_n 2, 1) := by decide +kernel
theorem dX9_endsErase_100 : decode cX9_endsErase 100 = .ok (.bipush 32, 2) := by decide +kernel
theorem dX9_endsErase_102 : decode cX9_endsErase 102 = .ok (.irem, 1) := by decide +kernel
theorem dX9_endsErase_103 : decode cX9_endsErase 103 = .ok (.iadd, 1) := by decide +kernel
theorem dX9_endsErase_104 : decode cX9_endsErase 104 = .ok (.istore_n 3, 1) := by decide +kernel
theorem dX9_endsErase_105 : decode cX9_endsErase 105 = .ok (.aload_n 0, 1) := by decide +kernel
theorem dX9_endsErase_106 : decode cX9_endsErase 106 = .ok (.getfield 7, 3) := by decide +kernel
theorem dX9_endsErase_109 : decode cX9_endsErase 109 = .ok (.sipush 256, 3) := by decide +kernel
theorem dX9_endsErase_112 : decode cX9_endsErase 112 = .ok (.iload_n 3, 1) := by decide +kernel
theorem dX9_endsErase_113 : decode cX9_endsErase 113 = .ok (.iadd, 1) := by decide +kernel
theorem dX9_endsErase_114 : decode cX9_endsErase 114 = .ok (.dup2, 1) := by decide +kernel
theorem dX9_endsErase_115 : decode cX9_endsErase 115 = .ok (.iaload, 1) := by decide +kernel
theorem dX9_endsErase_116 : decode cX9_endsErase 116 = .ok (.iconst 1, 1) := by decide +kernel
theorem dX9_endsErase_117 : decode cX9_endsErase 117 = .ok (.iload_n 2, 1) := by decide +kernel
theorem dX9_endsErase_118 : decode cX9_endsErase 118 = .ok (.bipush 8, 2) := by decide +kernel
theorem dX9_endsErase_120 : decode cX9_endsErase 120 = .ok (.irem, 1) := by decide +kernel
theorem dX9_endsErase_121 : decode cX9_endsErase 121 = .ok (.ishl, 1) := by decide +kernel
theorem dX9_endsErase_122 : decode cX9_endsErase 122 = .ok (.ior, 1) := by decide +kernel
theorem dX9_endsErase_123 : decode cX9_endsErase 123 = .ok (.iastore, 1) := by decide +kernel
theorem dX9_endsErase_124 : decode cX9_endsErase 124 = .ok (.aload_n 0, 1) := by decide +kernel
theorem dX9_endsErase_125 : decode cX9_endsErase 125 = .ok (.getfield 7, 3) := by decide +kernel
theorem dX9_endsErase_128 : decode cX9_endsErase 128 = .ok (.iload_n 3, 1) := by decide +kernel
theorem dX9_endsErase_129 : decode cX9_endsErase 129 = .ok (.sipush 255, 3) := by decide +kernel
theorem dX9_endsErase_132 : decode cX9_endsErase 132 = .ok (.aload_n 0, 1) := by decide +kernel
theorem dX9_endsErase_133 : decode cX9_endsErase 133 = .ok (.getfield 7, 3) := by decide +kernel
theorem dX9_endsErase_136 : decode cX9_endsErase 136 = .ok (.sipush 256, 3) := by decide +kernel
theorem dX9_endsErase_139 : decode cX9_endsErase 139 = .ok (.iload_n 3, 1) := by decide +kernel
theorem dX9_endsErase_140 : decode cX9_endsErase 140 = .ok (.iadd, 1) := by decide +kernel
theorem dX9_endsErase_141 : decode cX9_endsErase 141 = .ok (.iaload, 1) := by decide +kernel
theorem dX9_endsErase_142 : decode cX9_endsErase 142 = .ok (.iconst (-1), 1) := by decide +kernel
theorem dX9_endsErase_143 : decode cX9_endsErase 143 = .ok (.ixor, 1) := by decide +kernel
theorem dX9_endsErase_144 : decode cX9_endsErase 144 = .ok (.iand, 1) := by decide +kernel
theorem dX9_endsErase_145 : decode cX9_endsErase 145 = .ok (.iastore, 1) := by decide +kernel
theorem dX9_endsErase_146 : decode cX9_endsErase 146 = .ok (.return_, 1) := by decide +kernel
theorem dX9_erasesOn_0 : decode cX9_erasesOn 0 = .ok (.aload_n 0, 1) := by decide +kernel
theorem dX9_erasesOn_1 : decode cX9_erasesOn 1 = .ok (.iconst 1, 1) := by decide +kernel
theorem dX9_erasesOn_2 : decode cX9_erasesOn 2 = .ok (.invokevirtual 46, 3) := by decide +kernel
theorem dX9_erasesOn_5 : decode cX9_erasesOn 5 = .ok (.istore_n 1, 1) := by decide +kernel
theorem dX9_erasesOn_6 : decode cX9_erasesOn 6 = .ok (.aload_n 0, 1) := by decide +kernel
theorem dX9_erasesOn_7 : decode cX9_erasesOn 7 = .ok (.iconst 2, 1) := by decide +kernel
theorem dX9_erasesOn_8 : decode cX9_erasesOn 8 = .ok (.invokevirtual 46, 3) := by decide +kernel
theorem dX9_erasesOn_11 : decode cX9_erasesOn 11 = .ok (.iconst 4, 1) := by decide +kernel
theorem dX9_erasesOn_12 : decode cX9_erasesOn 12 = .ok (.if_icmp .gt 41, 3) := by decide +kernel
theorem dX9_erasesOn_15 : decode cX9_erasesOn 15 = .ok (.bipush 32, 2) := by decide +kernel
theorem dX9_erasesOn_17 : decode cX9_erasesOn 17 = .ok (.iload_n 1, 1) := by decide +kernel
theorem dX9_erasesOn_18 : decode cX9_erasesOn 18 = .ok (.imul, 1) := by decide +kernel
theorem dX9_erasesOn_19 : decode cX9_erasesOn 19 = .ok (.bipush 8, 2) := by decide +kernel
theorem dX9_erasesOn_21 : decode cX9_erasesOn 21 = .ok (.aload_n 0, 1) := by decide +kernel
theorem dX9_erasesOn_22 : decode cX9_erasesOn 22 = .ok (.iconst 2, 1) := by decide +kernel
theorem dX9_erasesOn_23 : decode cX9_erasesOn 23 = .ok (.invokevirtual 46, 3) := by decide +kernel
theorem dX9_erasesOn_26 : decode cX9_erasesOn 26 = .ok (.iconst 1, 1) := by decide +kernel
theorem dX9_erasesOn_27 : decode cX9_erasesOn 27 = .ok (.isub, 1) := by decide +kernel
theorem dX9_erasesOn_28 : decode cX9_erasesOn 28 = .ok (.imul, 1) := by decide +kernel
theorem dX9_erasesOn_29 : decode cX9_erasesOn 29 = .ok (.iadd, 1) := by decide +kernel
theorem dX9_erasesOn_30 : decode cX9_erasesOn 30 = .ok (.istore_n 2, 1) := by decide +kernel
theorem dX9_erasesOn_31 : decode cX9_erasesOn 31 = .ok (.iload_n 2, 1) := by decide +kernel
theorem dX9_erasesOn_32 : decode cX9_erasesOn 32 = .ok (.istore_n 3, 1) := by decide +kernel
theorem dX9_erasesOn_33 : decode cX9_erasesOn 33 = .ok (.iload_n 3, 1) := by decide +kernel
theorem dX9_erasesOn_34 : decode cX9_erasesOn 34 = .ok (.iload_n 2, 1) := by decide +kernel
theorem dX9_erasesOn_35 : decode cX9_erasesOn 35 = .ok (.bipush 8, 2) := by decide +kernel
theorem dX9_erasesOn_37 : decode cX9_erasesOn 37 = .ok (.iadd, 1) := by decide +kernel
theorem dX9_erasesOn_38 : decode cX9_erasesOn 38 = .ok (.if_icmp .ge 15, 3) := by decide +kernel
theorem dX9_erasesOn_41 : decode cX9_erasesOn 41 = .ok (.aload_n 0, 1) := by decide +kernel
theorem dX9_erasesOn_42 : decode cX9_erasesOn 42 = .ok (.iload_n 3, 1) := by decide +kernel
theorem dX9_erasesOn_43 : decode cX9_erasesOn 43 = .ok (.iconst 0, 1) := by decide +kernel
theorem dX9_erasesOn_44 : decode cX9_erasesOn 44 = .ok (.invokevirtual 81, 3) := by decide +kernel
theorem dX9_erasesOn_47 : decode cX9_erasesOn 47 = .ok (.iinc 3 1, 3) := by decide +kernel
theorem dX9_erasesOn_50 : decode cX9_erasesOn 50 = .ok (.goto (-17), 3) := by decide +kernel
theorem dX9_erasesOn_53 : decode cX9_erasesOn 53 = .ok (.aload_n 0, 1) := by decide +kernel
theorem dX9_erasesOn_54 : decode cX9_erasesOn 54 = .ok (.iconst 2, 1) := by decide +kernel
theorem dX9_erasesOn_55 : decode cX9_erasesOn 55 = .ok (.invokevirtual 46, 3) := by decide +kernel
theorem dX9_erasesOn_58 : decode cX9_erasesOn 58 = .ok (.aload_n 0, 1) := by decide +kernel
theorem dX9_erasesOn_59 : decode cX9_erasesOn 59 = .ok (.iconst 3, 1) := by decide +kernel
theorem dX9_erasesOn_60 : decode cX9_erasesOn 60 = .ok (.invokevirtual 46, 3) := by decide +kernel
theorem dX9_erasesOn_63 : decode cX9_erasesOn 63 = .ok (.if_icmp .ne 8, 3) := by decide +kernel
theorem dX9_erasesOn_66 : decode cX9_erasesOn 66 = .ok (.aload_n 0, 1) := by decide +kernel
theorem dX9_erasesOn_67 : decode cX9_erasesOn 67 = .ok (.iload_n 1, 1) := by decide +kernel
theorem dX9_erasesOn_68 : decode cX9_erasesOn 68 = .ok (.invokevirtual 84, 3) := by decide +kernel
theorem dX9_erasesOn_71 : decode cX9_erasesOn 71 = .ok (.return_, 1) := by decide +kernel
theorem dX9_locksOn_0 : decode cX9_locksOn 0 = .ok (.aload_n 0, 1) := by decide +kernel
theorem dX9_locksOn_1 : decode cX9_locksOn 1 = .ok (.iconst 2, 1) := by decide +kernel
theorem dX9_locksOn_2 : decode cX9_locksOn 2 = .ok (.invokevirtual 46, 3) := by decide +kernel
theorem dX9_locksOn_5 : decode cX9_locksOn 5 = .ok (.aload_n 0, 1) := by decide +kernel
theorem dX9_locksOn_6 : decode cX9_locksOn 6 = .ok (.iconst 3, 1) := by decide +kernel
theorem dX9_locksOn_7 : decode cX9_locksOn 7 = .ok (.invokevirtual 46, 3) := by decide +kernel
theorem dX9_locksOn_10 : decode cX9_locksOn 10 = .ok (.if_icmp .ne 30, 3) := by decide +kernel
theorem dX9_locksOn_13 : decode cX9_locksOn 13 = .ok (.aload_n 0, 1) := by decide +kernel
theorem dX9_locksOn_14 : decode cX9_locksOn 14 = .ok (.getfield 7, 3) := by decide +kernel
theorem dX9_locksOn_17 : decode cX9_locksOn 17 = .ok (.sipush 554, 3) := by decide +kernel
theorem dX9_locksOn_20 : decode cX9_locksOn 20 = .ok (.aload_n 0, 1) := by decide +kernel
theorem dX9_locksOn_21 : decode cX9_locksOn 21 = .ok (.iconst 1, 1) := by decide +kernel
theorem dX9_locksOn_22 : decode cX9_locksOn 22 = .ok (.invokevirtual 46, 3) := by decide +kernel
theorem dX9_locksOn_25 : decode cX9_locksOn 25 = .ok (.iastore, 1) := by decide +kernel
theorem dX9_locksOn_26 : decode cX9_locksOn 26 = .ok (.aload_n 0, 1) := by decide +kernel
theorem dX9_locksOn_27 : decode cX9_locksOn 27 = .ok (.getfield 7, 3) := by decide +kernel
theorem dX9_locksOn_30 : decode cX9_locksOn 30 = .ok (.sipush 555, 3) := by decide +kernel
theorem dX9_locksOn_33 : decode cX9_locksOn 33 = .ok (.aload_n 0, 1) := by decide +kernel
theorem dX9_locksOn_34 : decode cX9_locksOn 34 = .ok (.bipush 7, 2) := by decide +kernel
theorem dX9_locksOn_36 : decode cX9_locksOn 36 = .ok (.invokevirtual 46, 3) := by decide +kernel
theorem dX9_locksOn_39 : decode cX9_locksOn 39 = .ok (.iastore, 1) := by decide +kernel
theorem dX9_locksOn_40 : decode cX9_locksOn 40 = .ok (.return_, 1) := by decide +kernel
theorem dX9_goesOn_0 : decode cX9_goesOn 0 = .ok (.aload_n 0, 1) := by decide +kernel
theorem dX9_goesOn_1 : decode cX9_goesOn 1 = .ok (.getfield 7, 3) := by decide +kernel
theorem dX9_goesOn_4 : decode cX9_goesOn 4 = .ok (.sipush 583, 3) := by decide +kernel
theorem dX9_goesOn_7 : decode cX9_goesOn 7 = .ok (.dup2, 1) := by decide +kernel
theorem dX9_goesOn_8 : decode cX9_goesOn 8 = .ok (.iaload, 1) := by decide +kernel
theorem dX9_goesOn_9 : decode cX9_goesOn 9 = .ok (.iconst 1, 1) := by decide +kernel
theorem dX9_goesOn_10 : decode cX9_goesOn 10 = .ok (.iadd, 1) := by decide +kernel
theorem dX9_goesOn_11 : decode cX9_goesOn 11 = .ok (.iastore, 1) := by decide +kernel
theorem dX9_goesOn_12 : decode cX9_goesOn 12 = .ok (.aload_n 0, 1) := by decide +kernel
theorem dX9_goesOn_13 : decode cX9_goesOn 13 = .ok (.iconst 0, 1) := by decide +kernel
theorem dX9_goesOn_14 : decode cX9_goesOn 14 = .ok (.invokevirtual 46, 3) := by decide +kernel
theorem dX9_goesOn_17 : decode cX9_goesOn 17 = .ok (.lookupswitch 41 #[(1, 27), (2, 34)], 27) := by decide +kernel
theorem dX9_goesOn_44 : decode cX9_goesOn 44 = .ok (.aload_n 0, 1) := by decide +kernel
theorem dX9_goesOn_45 : decode cX9_goesOn 45 = .ok (.invokevirtual 87, 3) := by decide +kernel
theorem dX9_goesOn_48 : decode cX9_goesOn 48 = .ok (.goto 14, 3) := by decide +kernel
theorem dX9_goesOn_51 : decode cX9_goesOn 51 = .ok (.aload_n 0, 1) := by decide +kernel
theorem dX9_goesOn_52 : decode cX9_goesOn 52 = .ok (.invokevirtual 90, 3) := by decide +kernel
theorem dX9_goesOn_55 : decode cX9_goesOn 55 = .ok (.goto 7, 3) := by decide +kernel
theorem dX9_goesOn_58 : decode cX9_goesOn 58 = .ok (.aload_n 0, 1) := by decide +kernel
theorem dX9_goesOn_59 : decode cX9_goesOn 59 = .ok (.invokevirtual 93, 3) := by decide +kernel
theorem dX9_goesOn_62 : decode cX9_goesOn 62 = .ok (.aload_n 0, 1) := by decide +kernel
theorem dX9_goesOn_63 : decode cX9_goesOn 63 = .ok (.iconst 2, 1) := by decide +kernel
theorem dX9_goesOn_64 : decode cX9_goesOn 64 = .ok (.invokevirtual 46, 3) := by decide +kernel
theorem dX9_goesOn_67 : decode cX9_goesOn 67 = .ok (.aload_n 0, 1) := by decide +kernel
theorem dX9_goesOn_68 : decode cX9_goesOn 68 = .ok (.iconst 3, 1) := by decide +kernel
theorem dX9_goesOn_69 : decode cX9_goesOn 69 = .ok (.invokevirtual 46, 3) := by decide +kernel
theorem dX9_goesOn_72 : decode cX9_goesOn 72 = .ok (.if_icmp .ne 8, 3) := by decide +kernel
theorem dX9_goesOn_75 : decode cX9_goesOn 75 = .ok (.aload_n 0, 1) := by decide +kernel
theorem dX9_goesOn_76 : decode cX9_goesOn 76 = .ok (.iconst 0, 1) := by decide +kernel
theorem dX9_goesOn_77 : decode cX9_goesOn 77 = .ok (.invokevirtual 57, 3) := by decide +kernel
theorem dX9_goesOn_80 : decode cX9_goesOn 80 = .ok (.return_, 1) := by decide +kernel
theorem dX9_setsAside_0 : decode cX9_setsAside 0 = .ok (.iconst 0, 1) := by decide +kernel
theorem dX9_setsAside_1 : decode cX9_setsAside 1 = .ok (.istore_n 2, 1) := by decide +kernel
theorem dX9_setsAside_2 : decode cX9_setsAside 2 = .ok (.iload_n 2, 1) := by decide +kernel
theorem dX9_setsAside_3 : decode cX9_setsAside 3 = .ok (.bipush 18, 2) := by decide +kernel
theorem dX9_setsAside_5 : decode cX9_setsAside 5 = .ok (.if_icmp .ge 29, 3) := by decide +kernel
theorem dX9_setsAside_8 : decode cX9_setsAside 8 = .ok (.aload_n 0, 1) := by decide +kernel
theorem dX9_setsAside_9 : decode cX9_setsAside 9 = .ok (.getfield 7, 3) := by decide +kernel
theorem dX9_setsAside_12 : decode cX9_setsAside 12 = .ok (.sipush 599, 3) := by decide +kernel
theorem dX9_setsAside_15 : decode cX9_setsAside 15 = .ok (.iload_n 2, 1) := by decide +kernel
theorem dX9_setsAside_16 : decode cX9_setsAside 16 = .ok (.iadd, 1) := by decide +kernel
theorem dX9_setsAside_17 : decode cX9_setsAside 17 = .ok (.aload_n 0, 1) := by decide +kernel
theorem dX9_setsAside_18 : decode cX9_setsAside 18 = .ok (.getfield 7, 3) := by decide +kernel
theorem dX9_setsAside_21 : decode cX9_setsAside 21 = .ok (.sipush 581, 3) := by decide +kernel
theorem dX9_setsAside_24 : decode cX9_setsAside 24 = .ok (.iload_n 2, 1) := by decide +kernel
theorem dX9_setsAside_25 : decode cX9_setsAside 25 = .ok (.iadd, 1) := by decide +kernel
theorem dX9_setsAside_26 : decode cX9_setsAside 26 = .ok (.iaload, 1) := by decide +kernel
theorem dX9_setsAside_27 : decode cX9_setsAside 27 = .ok (.iastore, 1) := by decide +kernel
theorem dX9_setsAside_28 : decode cX9_setsAside 28 = .ok (.iinc 2 1, 3) := by decide +kernel
theorem dX9_setsAside_31 : decode cX9_setsAside 31 = .ok (.goto (-29), 3) := by decide +kernel
theorem dX9_setsAside_34 : decode cX9_setsAside 34 = .ok (.aload_n 0, 1) := by decide +kernel
theorem dX9_setsAside_35 : decode cX9_setsAside 35 = .ok (.getfield 7, 3) := by decide +kernel
theorem dX9_setsAside_38 : decode cX9_setsAside 38 = .ok (.sipush 605, 3) := by decide +kernel
theorem dX9_setsAside_41 : decode cX9_setsAside 41 = .ok (.iload_n 1, 1) := by decide +kernel
theorem dX9_setsAside_42 : decode cX9_setsAside 42 = .ok (.iastore, 1) := by decide +kernel
theorem dX9_setsAside_43 : decode cX9_setsAside 43 = .ok (.aload_n 0, 1) := by decide +kernel
theorem dX9_setsAside_44 : decode cX9_setsAside 44 = .ok (.iconst 0, 1) := by decide +kernel
theorem dX9_setsAside_45 : decode cX9_setsAside 45 = .ok (.invokevirtual 57, 3) := by decide +kernel
theorem dX9_setsAside_48 : decode cX9_setsAside 48 = .ok (.aload_n 0, 1) := by decide +kernel
theorem dX9_setsAside_49 : decode cX9_setsAside 49 = .ok (.getfield 7, 3) := by decide +kernel
theorem dX9_setsAside_52 : decode cX9_setsAside 52 = .ok (.sipush 565, 3) := by decide +kernel
theorem dX9_setsAside_55 : decode cX9_setsAside 55 = .ok (.dup2, 1) := by decide +kernel
theorem dX9_setsAside_56 : decode cX9_setsAside 56 = .ok (.iaload, 1) := by decide +kernel
theorem dX9_setsAside_57 : decode cX9_setsAside 57 = .ok (.iconst 1, 1) := by decide +kernel
theorem dX9_setsAside_58 : decode cX9_setsAside 58 = .ok (.iadd, 1) := by decide +kernel
theorem dX9_setsAside_59 : decode cX9_setsAside 59 = .ok (.iastore, 1) := by decide +kernel
theorem dX9_setsAside_60 : decode cX9_setsAside 60 = .ok (.return_, 1) := by decide +kernel
theorem dX9_takesBack_0 : decode cX9_takesBack 0 = .ok (.iconst 0, 1) := by decide +kernel
theorem dX9_takesBack_1 : decode cX9_takesBack 1 = .ok (.istore_n 1, 1) := by decide +kernel
theorem dX9_takesBack_2 : decode cX9_takesBack 2 = .ok (.iload_n 1, 1) := by decide +kernel
theorem dX9_takesBack_3 : decode cX9_takesBack 3 = .ok (.bipush 18, 2) := by decide +kernel
theorem dX9_takesBack_5 : decode cX9_takesBack 5 = .ok (.if_icmp .ge 29, 3) := by decide +kernel
theorem dX9_takesBack_8 : decode cX9_takesBack 8 = .ok (.aload_n 0, 1) := by decide +kernel
theorem dX9_takesBack_9 : decode cX9_takesBack 9 = .ok (.getfield 7, 3) := by decide +kernel
theorem dX9_takesBack_12 : decode cX9_takesBack 12 = .ok (.sipush 581, 3) := by decide +kernel
theorem dX9_takesBack_15 : decode cX9_takesBack 15 = .ok (.iload_n 1, 1) := by decide +kernel
theorem dX9_takesBack_16 : decode cX9_takesBack 16 = .ok (.iadd, 1) := by decide +kernel
theorem dX9_takesBack_17 : decode cX9_takesBack 17 = .ok (.aload_n 0, 1) := by decide +kernel
theorem dX9_takesBack_18 : decode cX9_takesBack 18 = .ok (.getfield 7, 3) := by decide +kernel
theorem dX9_takesBack_21 : decode cX9_takesBack 21 = .ok (.sipush 599, 3) := by decide +kernel
theorem dX9_takesBack_24 : decode cX9_takesBack 24 = .ok (.iload_n 1, 1) := by decide +kernel
theorem dX9_takesBack_25 : decode cX9_takesBack 25 = .ok (.iadd, 1) := by decide +kernel
theorem dX9_takesBack_26 : decode cX9_takesBack 26 = .ok (.iaload, 1) := by decide +kernel
theorem dX9_takesBack_27 : decode cX9_takesBack 27 = .ok (.iastore, 1) := by decide +kernel
theorem dX9_takesBack_28 : decode cX9_takesBack 28 = .ok (.iinc 1 1, 3) := by decide +kernel
theorem dX9_takesBack_31 : decode cX9_takesBack 31 = .ok (.goto (-29), 3) := by decide +kernel
theorem dX9_takesBack_34 : decode cX9_takesBack 34 = .ok (.aload_n 0, 1) := by decide +kernel
theorem dX9_takesBack_35 : decode cX9_takesBack 35 = .ok (.bipush 6, 2) := by decide +kernel
theorem dX9_takesBack_37 : decode cX9_takesBack 37 = .ok (.iconst 0, 1) := by decide +kernel
theorem dX9_takesBack_38 : decode cX9_takesBack 38 = .ok (.invokevirtual 61, 3) := by decide +kernel
theorem dX9_takesBack_41 : decode cX9_takesBack 41 = .ok (.aload_n 0, 1) := by decide +kernel
theorem dX9_takesBack_42 : decode cX9_takesBack 42 = .ok (.iconst 1, 1) := by decide +kernel
theorem dX9_takesBack_43 : decode cX9_takesBack 43 = .ok (.invokevirtual 57, 3) := by decide +kernel
theorem dX9_takesBack_46 : decode cX9_takesBack 46 = .ok (.return_, 1) := by decide +kernel
theorem dX9_foremost_0 : decode cX9_foremost 0 = .ok (.iconst (-1), 1) := by decide +kernel
theorem dX9_foremost_1 : decode cX9_foremost 1 = .ok (.istore_n 1, 1) := by decide +kernel
theorem dX9_foremost_2 : decode cX9_foremost 2 = .ok (.aload_n 0, 1) := by decide +kernel
theorem dX9_foremost_3 : decode cX9_foremost 3 = .ok (.getfield 7, 3) := by decide +kernel
theorem dX9_foremost_6 : decode cX9_foremost 6 = .ok (.sipush 580, 3) := by decide +kernel
theorem dX9_foremost_9 : decode cX9_foremost 9 = .ok (.iaload, 1) := by decide +kernel
theorem dX9_foremost_10 : decode cX9_foremost 10 = .ok (.iconst 1, 1) := by decide +kernel
theorem dX9_foremost_11 : decode cX9_foremost 11 = .ok (.isub, 1) := by decide +kernel
theorem dX9_foremost_12 : decode cX9_foremost 12 = .ok (.istore_n 2, 1) := by decide +kernel
theorem dX9_foremost_13 : decode cX9_foremost 13 = .ok (.iload_n 2, 1) := by decide +kernel
theorem dX9_foremost_14 : decode cX9_foremost 14 = .ok (.ifCond .lt 27, 3) := by decide +kernel
theorem dX9_foremost_17 : decode cX9_foremost 17 = .ok (.aload_n 0, 1) := by decide +kernel
theorem dX9_foremost_18 : decode cX9_foremost 18 = .ok (.aload_n 0, 1) := by decide +kernel
theorem dX9_foremost_19 : decode cX9_foremost 19 = .ok (.iload_n 2, 1) := by decide +kernel
theorem dX9_foremost_20 : decode cX9_foremost 20 = .ok (.invokevirtual 96, 3) := by decide +kernel
theorem dX9_foremost_23 : decode cX9_foremost 23 = .ok (.invokevirtual 99, 3) := by decide +kernel
theorem dX9_foremost_26 : decode cX9_foremost 26 = .ok (.ifCond .eq 7, 3) := by decide +kernel
theorem dX9_foremost_29 : decode cX9_foremost 29 = .ok (.iload_n 1, 1) := by decide +kernel
theorem dX9_foremost_30 : decode cX9_foremost 30 = .ok (.goto 4, 3) := by decide +kernel
theorem dX9_foremost_33 : decode cX9_foremost 33 = .ok (.iload_n 2, 1) := by decide +kernel
theorem dX9_foremost_34 : decode cX9_foremost 34 = .ok (.istore_n 1, 1) := by decide +kernel
theorem dX9_foremost_35 : decode cX9_foremost 35 = .ok (.iinc 2 (-1), 3) := by decide +kernel
theorem dX9_foremost_38 : decode cX9_foremost 38 = .ok (.goto (-25), 3) := by decide +kernel
theorem dX9_foremost_41 : decode cX9_foremost 41 = .ok (.iload_n 1, 1) := by decide +kernel
theorem dX9_foremost_42 : decode cX9_foremost 42 = .ok (.ireturn, 1) := by decide +kernel
theorem dX9_presses_0 : decode cX9_presses 0 = .ok (.iconst (-1), 1) := by decide +kernel
theorem dX9_presses_1 : decode cX9_presses 1 = .ok (.istore_n 3, 1) := by decide +kernel
theorem dX9_presses_2 : decode cX9_presses 2 = .ok (.aload_n 0, 1) := by decide +kernel
theorem dX9_presses_3 : decode cX9_presses 3 = .ok (.getfield 7, 3) := by decide +kernel
theorem dX9_presses_6 : decode cX9_presses 6 = .ok (.sipush 580, 3) := by decide +kernel
theorem dX9_presses_9 : decode cX9_presses 9 = .ok (.iaload, 1) := by decide +kernel
theorem dX9_presses_10 : decode cX9_presses 10 = .ok (.iconst 1, 1) := by decide +kernel
theorem dX9_presses_11 : decode cX9_presses 11 = .ok (.isub, 1) := by decide +kernel
theorem dX9_presses_12 : decode cX9_presses 12 = .ok (.istore 4, 2) := by decide +kernel
theorem dX9_presses_14 : decode cX9_presses 14 = .ok (.iload 4, 2) := by decide +kernel
theorem dX9_presses_16 : decode cX9_presses 16 = .ok (.ifCond .lt 81, 3) := by decide +kernel
theorem dX9_presses_19 : decode cX9_presses 19 = .ok (.aload_n 0, 1) := by decide +kernel
theorem dX9_presses_20 : decode cX9_presses 20 = .ok (.iload 4, 2) := by decide +kernel
theorem dX9_presses_22 : decode cX9_presses 22 = .ok (.iconst 1, 1) := by decide +kernel
theorem dX9_presses_23 : decode cX9_presses 23 = .ok (.invokevirtual 53, 3) := by decide +kernel
theorem dX9_presses_26 : decode cX9_presses 26 = .ok (.ifCond .ne 50, 3) := by decide +kernel
theorem dX9_presses_29 : decode cX9_presses 29 = .ok (.aload_n 0, 1) := by decide +kernel
theorem dX9_presses_30 : decode cX9_presses 30 = .ok (.iload 4, 2) := by decide +kernel
theorem dX9_presses_32 : decode cX9_presses 32 = .ok (.invokevirtual 96, 3) := by decide +kernel
theorem dX9_presses_35 : decode cX9_presses 35 = .ok (.iload_n 1, 1) := by decide +kernel
theorem dX9_presses_36 : decode cX9_presses 36 = .ok (.if_icmp .eq 40, 3) := by decide +kernel
theorem dX9_presses_39 : decode cX9_presses 39 = .ok (.aload_n 0, 1) := by decide +kernel
theorem dX9_presses_40 : decode cX9_presses 40 = .ok (.iload 4, 2) := by decide +kernel
theorem dX9_presses_42 : decode cX9_presses 42 = .ok (.iconst 3, 1) := by decide +kernel
theorem dX9_presses_43 : decode cX9_presses 43 = .ok (.invokevirtual 53, 3) := by decide +kernel
theorem dX9_presses_46 : decode cX9_presses 46 = .ok (.iload_n 2, 1) := by decide +kernel
theorem dX9_presses_47 : decode cX9_presses 47 = .ok (.aload_n 0, 1) := by decide +kernel
theorem dX9_presses_48 : decode cX9_presses 48 = .ok (.getfield 7, 3) := by decide +kernel
theorem dX9_presses_51 : decode cX9_presses 51 = .ok (.sipush 560, 3) := by decide +kernel
theorem dX9_presses_54 : decode cX9_presses 54 = .ok (.iaload, 1) := by decide +kernel
theorem dX9_presses_55 : decode cX9_presses 55 = .ok (.iadd, 1) := by decide +kernel
theorem dX9_presses_56 : decode cX9_presses 56 = .ok (.if_icmp .lt 20, 3) := by decide +kernel
theorem dX9_presses_59 : decode cX9_presses 59 = .ok (.aload_n 0, 1) := by decide +kernel
theorem dX9_presses_60 : decode cX9_presses 60 = .ok (.aload_n 0, 1) := by decide +kernel
theorem dX9_presses_61 : decode cX9_presses 61 = .ok (.iload 4, 2) := by decide +kernel
theorem dX9_presses_63 : decode cX9_presses 63 = .ok (.invokevirtual 96, 3) := by decide +kernel
theorem dX9_presses_66 : decode cX9_presses 66 = .ok (.invokevirtual 99, 3) := by decide +kernel
theorem dX9_presses_69 : decode cX9_presses 69 = .ok (.ifCond .ne 7, 3) := by decide +kernel
theorem dX9_presses_72 : decode cX9_presses 72 = .ok (.iconst 1, 1) := by decide +kernel
theorem dX9_presses_73 : decode cX9_presses 73 = .ok (.goto 4, 3) := by decide +kernel
theorem dX9_presses_76 : decode cX9_presses 76 = .ok (.iconst 0, 1) := by decide +kernel
theorem dX9_presses_77 : decode cX9_presses 77 = .ok (.istore 5, 2) := by decide +kernel
theorem dX9_presses_79 : decode cX9_presses 79 = .ok (.iload 5, 2) := by decide +kernel
theorem dX9_presses_81 : decode cX9_presses 81 = .ok (.ifCond .eq 8, 3) := by decide +kernel
theorem dX9_presses_84 : decode cX9_presses 84 = .ok (.iload 4, 2) := by decide +kernel
theorem dX9_presses_86 : decode cX9_presses 86 = .ok (.goto 4, 3) := by decide +kernel
theorem dX9_presses_89 : decode cX9_presses 89 = .ok (.iload_n 3, 1) := by decide +kernel
theorem dX9_presses_90 : decode cX9_presses 90 = .ok (.istore_n 3, 1) := by decide +kernel
theorem dX9_presses_91 : decode cX9_presses 91 = .ok (.iinc 4 (-1), 3) := by decide +kernel
theorem dX9_presses_94 : decode cX9_presses 94 = .ok (.goto (-80), 3) := by decide +kernel
theorem dX9_presses_97 : decode cX9_presses 97 = .ok (.iload_n 3, 1) := by decide +kernel
theorem dX9_presses_98 : decode cX9_presses 98 = .ok (.ireturn, 1) := by decide +kernel
theorem dX9_acts_0 : decode cX9_acts 0 = .ok (.aload_n 0, 1) := by decide +kernel
theorem dX9_acts_1 : decode cX9_acts 1 = .ok (.iconst 0, 1) := by decide +kernel
theorem dX9_acts_2 : decode cX9_acts 2 = .ok (.invokevirtual 46, 3) := by decide +kernel
theorem dX9_acts_5 : decode cX9_acts 5 = .ok (.iconst 2, 1) := by decide +kernel
theorem dX9_acts_6 : decode cX9_acts 6 = .ok (.if_icmp .ne 23, 3) := by decide +kernel
theorem dX9_acts_9 : decode cX9_acts 9 = .ok (.aload_n 0, 1) := by decide +kernel
theorem dX9_acts_10 : decode cX9_acts 10 = .ok (.iconst 5, 1) := by decide +kernel
theorem dX9_acts_11 : decode cX9_acts 11 = .ok (.invokevirtual 46, 3) := by decide +kernel
theorem dX9_acts_14 : decode cX9_acts 14 = .ok (.iconst (-1), 1) := by decide +kernel
theorem dX9_acts_15 : decode cX9_acts 15 = .ok (.if_icmp .eq 14, 3) := by decide +kernel
theorem dX9_acts_18 : decode cX9_acts 18 = .ok (.aload_n 0, 1) := by decide +kernel
theorem dX9_acts_19 : decode cX9_acts 19 = .ok (.invokevirtual 103, 3) := by decide +kernel
theorem dX9_acts_22 : decode cX9_acts 22 = .ok (.ifCond .ne 7, 3) := by decide +kernel
theorem dX9_acts_25 : decode cX9_acts 25 = .ok (.iconst 1, 1) := by decide +kernel
theorem dX9_acts_26 : decode cX9_acts 26 = .ok (.goto 4, 3) := by decide +kernel
theorem dX9_acts_29 : decode cX9_acts 29 = .ok (.iconst 0, 1) := by decide +kernel
theorem dX9_acts_30 : decode cX9_acts 30 = .ok (.istore_n 1, 1) := by decide +kernel
theorem dX9_acts_31 : decode cX9_acts 31 = .ok (.iload_n 1, 1) := by decide +kernel
theorem dX9_acts_32 : decode cX9_acts 32 = .ok (.ifCond .eq 20, 3) := by decide +kernel
theorem dX9_acts_35 : decode cX9_acts 35 = .ok (.aload_n 0, 1) := by decide +kernel
theorem dX9_acts_36 : decode cX9_acts 36 = .ok (.aload_n 0, 1) := by decide +kernel
theorem dX9_acts_37 : decode cX9_acts 37 = .ok (.iconst 1, 1) := by decide +kernel
theorem dX9_acts_38 : decode cX9_acts 38 = .ok (.invokevirtual 46, 3) := by decide +kernel
theorem dX9_acts_41 : decode cX9_acts 41 = .ok (.aload_n 0, 1) := by decide +kernel
theorem dX9_acts_42 : decode cX9_acts 42 = .ok (.iconst 5, 1) := by decide +kernel
theorem dX9_acts_43 : decode cX9_acts 43 = .ok (.invokevirtual 46, 3) := by decide +kernel
theorem dX9_acts_46 : decode cX9_acts 46 = .ok (.invokevirtual 107, 3) := by decide +kernel
theorem dX9_acts_49 : decode cX9_acts 49 = .ok (.goto 4, 3) := by decide +kernel
theorem dX9_acts_52 : decode cX9_acts 52 = .ok (.iconst (-1), 1) := by decide +kernel
theorem dX9_acts_53 : decode cX9_acts 53 = .ok (.istore_n 2, 1) := by decide +kernel
theorem dX9_acts_54 : decode cX9_acts 54 = .ok (.iload_n 2, 1) := by decide +kernel
theorem dX9_acts_55 : decode cX9_acts 55 = .ok (.iconst (-1), 1) := by decide +kernel
theorem dX9_acts_56 : decode cX9_acts 56 = .ok (.if_icmp .eq 14, 3) := by decide +kernel
theorem dX9_acts_59 : decode cX9_acts 59 = .ok (.aload_n 0, 1) := by decide +kernel
theorem dX9_acts_60 : decode cX9_acts 60 = .ok (.iconst 1, 1) := by decide +kernel
theorem dX9_acts_61 : decode cX9_acts 61 = .ok (.invokevirtual 110, 3) := by decide +kernel
theorem dX9_acts_64 : decode cX9_acts 64 = .ok (.aload_n 0, 1) := by decide +kernel
theorem dX9_acts_65 : decode cX9_acts 65 = .ok (.iload_n 2, 1) := by decide +kernel
theorem dX9_acts_66 : decode cX9_acts 66 = .ok (.invokevirtual 113, 3) := by decide +kernel
theorem dX9_acts_69 : decode cX9_acts 69 = .ok (.return_, 1) := by decide +kernel
theorem dX9_acts_70 : decode cX9_acts 70 = .ok (.aload_n 0, 1) := by decide +kernel
theorem dX9_acts_71 : decode cX9_acts 71 = .ok (.invokevirtual 116, 3) := by decide +kernel
theorem dX9_acts_74 : decode cX9_acts 74 = .ok (.ifCond .ne 19, 3) := by decide +kernel
theorem dX9_acts_77 : decode cX9_acts 77 = .ok (.aload_n 0, 1) := by decide +kernel
theorem dX9_acts_78 : decode cX9_acts 78 = .ok (.invokevirtual 103, 3) := by decide +kernel
theorem dX9_acts_81 : decode cX9_acts 81 = .ok (.ifCond .eq 13, 3) := by decide +kernel
theorem dX9_acts_84 : decode cX9_acts 84 = .ok (.aload_n 0, 1) := by decide +kernel
theorem dX9_acts_85 : decode cX9_acts 85 = .ok (.bipush 6, 2) := by decide +kernel
theorem dX9_acts_87 : decode cX9_acts 87 = .ok (.invokevirtual 50, 3) := by decide +kernel
theorem dX9_acts_90 : decode cX9_acts 90 = .ok (.ifCond .ne 4, 3) := by decide +kernel
theorem dX9_acts_93 : decode cX9_acts 93 = .ok (.return_, 1) := by decide +kernel
theorem dX9_acts_94 : decode cX9_acts 94 = .ok (.aload_n 0, 1) := by decide +kernel
theorem dX9_acts_95 : decode cX9_acts 95 = .ok (.invokevirtual 103, 3) := by decide +kernel
theorem dX9_acts_98 : decode cX9_acts 98 = .ok (.ifCond .eq 36, 3) := by decide +kernel
theorem dX9_acts_101 : decode cX9_acts 101 = .ok (.aload_n 0, 1) := by decide +kernel
theorem dX9_acts_102 : decode cX9_acts 102 = .ok (.aload_n 0, 1) := by decide +kernel
theorem dX9_acts_103 : decode cX9_acts 103 = .ok (.iconst 1, 1) := by decide +kernel
theorem dX9_acts_104 : decode cX9_acts 104 = .ok (.invokevirtual 50, 3) := by decide +kernel
theorem dX9_acts_107 : decode cX9_acts 107 = .ok (.aload_n 0, 1) := by decide +kernel
theorem dX9_acts_108 : decode cX9_acts 108 = .ok (.iconst 5, 1) := by decide +kernel
theorem dX9_acts_109 : decode cX9_acts 109 = .ok (.invokevirtual 50, 3) := by decide +kernel
theorem dX9_acts_112 : decode cX9_acts 112 = .ok (.invokevirtual 107, 3) := by decide +kernel
theorem dX9_acts_115 : decode cX9_acts 115 = .ok (.istore_n 3, 1) := by decide +kernel
theorem dX9_acts_116 : decode cX9_acts 116 = .ok (.iload_n 3, 1) := by decide +kernel
theorem dX9_acts_117 : decode cX9_acts 117 = .ok (.iconst (-1), 1) := by decide +kernel
theorem dX9_acts_118 : decode cX9_acts 118 = .ok (.if_icmp .ne 10, 3) := by decide +kernel
theorem dX9_acts_121 : decode cX9_acts 121 = .ok (.aload_n 0, 1) := by decide +kernel
theorem dX9_acts_122 : decode cX9_acts 122 = .ok (.invokevirtual 119, 3) := by decide +kernel
theorem dX9_acts_125 : decode cX9_acts 125 = .ok (.goto 8, 3) := by decide +kernel
theorem dX9_acts_128 : decode cX9_acts 128 = .ok (.aload_n 0, 1) := by decide +kernel
theorem dX9_acts_129 : decode cX9_acts 129 = .ok (.iload_n 3, 1) := by decide +kernel
theorem dX9_acts_130 : decode cX9_acts 130 = .ok (.invokevirtual 113, 3) := by decide +kernel
theorem dX9_acts_133 : decode cX9_acts 133 = .ok (.return_, 1) := by decide +kernel
theorem dX9_acts_134 : decode cX9_acts 134 = .ok (.aload_n 0, 1) := by decide +kernel
theorem dX9_acts_135 : decode cX9_acts 135 = .ok (.invokevirtual 122, 3) := by decide +kernel
theorem dX9_acts_138 : decode cX9_acts 138 = .ok (.istore_n 3, 1) := by decide +kernel
theorem dX9_acts_139 : decode cX9_acts 139 = .ok (.iload_n 3, 1) := by decide +kernel
theorem dX9_acts_140 : decode cX9_acts 140 = .ok (.iconst (-1), 1) := by decide +kernel
theorem dX9_acts_141 : decode cX9_acts 141 = .ok (.if_icmp .eq 8, 3) := by decide +kernel
theorem dX9_acts_144 : decode cX9_acts 144 = .ok (.aload_n 0, 1) := by decide +kernel
theorem dX9_acts_145 : decode cX9_acts 145 = .ok (.iload_n 3, 1) := by decide +kernel
theorem dX9_acts_146 : decode cX9_acts 146 = .ok (.invokevirtual 113, 3) := by decide +kernel
theorem dX9_acts_149 : decode cX9_acts 149 = .ok (.return_, 1) := by decide +kernel
theorem dX9_ticks_0 : decode cX9_ticks 0 = .ok (.aload_n 0, 1) := by decide +kernel
theorem dX9_ticks_1 : decode cX9_ticks 1 = .ok (.invokevirtual 126, 3) := by decide +kernel
theorem dX9_ticks_4 : decode cX9_ticks 4 = .ok (.aload_n 0, 1) := by decide +kernel
theorem dX9_ticks_5 : decode cX9_ticks 5 = .ok (.invokevirtual 116, 3) := by decide +kernel
theorem dX9_ticks_8 : decode cX9_ticks 8 = .ok (.istore_n 1, 1) := by decide +kernel
theorem dX9_ticks_9 : decode cX9_ticks 9 = .ok (.iload_n 1, 1) := by decide +kernel
theorem dX9_ticks_10 : decode cX9_ticks 10 = .ok (.ifCond .eq 7, 3) := by decide +kernel
theorem dX9_ticks_13 : decode cX9_ticks 13 = .ok (.aload_n 0, 1) := by decide +kernel
theorem dX9_ticks_14 : decode cX9_ticks 14 = .ok (.invokevirtual 129, 3) := by decide +kernel
theorem dX9_ticks_17 : decode cX9_ticks 17 = .ok (.aload_n 0, 1) := by decide +kernel
theorem dX9_ticks_18 : decode cX9_ticks 18 = .ok (.getfield 7, 3) := by decide +kernel
theorem dX9_ticks_21 : decode cX9_ticks 21 = .ok (.sipush 561, 3) := by decide +kernel
theorem dX9_ticks_24 : decode cX9_ticks 24 = .ok (.dup2, 1) := by decide +kernel
theorem dX9_ticks_25 : decode cX9_ticks 25 = .ok (.iaload, 1) := by decide +kernel
theorem dX9_ticks_26 : decode cX9_ticks 26 = .ok (.iconst 1, 1) := by decide +kernel
theorem dX9_ticks_27 : decode cX9_ticks 27 = .ok (.iadd, 1) := by decide +kernel
theorem dX9_ticks_28 : decode cX9_ticks 28 = .ok (.iastore, 1) := by decide +kernel
theorem dX9_ticks_29 : decode cX9_ticks 29 = .ok (.iload_n 1, 1) := by decide +kernel
theorem dX9_ticks_30 : decode cX9_ticks 30 = .ok (.ireturn, 1) := by decide +kernel
theorem dX9_passes_0 : decode cX9_passes 0 = .ok (.iconst 0, 1) := by decide +kernel
theorem dX9_passes_1 : decode cX9_passes 1 = .ok (.istore_n 2, 1) := by decide +kernel
theorem dX9_passes_2 : decode cX9_passes 2 = .ok (.iconst 0, 1) := by decide +kernel
theorem dX9_passes_3 : decode cX9_passes 3 = .ok (.istore_n 3, 1) := by decide +kernel
theorem dX9_passes_4 : decode cX9_passes 4 = .ok (.iload_n 3, 1) := by decide +kernel
theorem dX9_passes_5 : decode cX9_passes 5 = .ok (.iload_n 1, 1) := by decide +kernel
theorem dX9_passes_6 : decode cX9_passes 6 = .ok (.if_icmp .ge 24, 3) := by decide +kernel
theorem dX9_passes_9 : decode cX9_passes 9 = .ok (.iload_n 2, 1) := by decide +kernel
theorem dX9_passes_10 : decode cX9_passes 10 = .ok (.aload_n 0, 1) := by decide +kernel
theorem dX9_passes_11 : decode cX9_passes 11 = .ok (.invokevirtual 132, 3) := by decide +kernel
theorem dX9_passes_14 : decode cX9_passes 14 = .ok (.ifCond .eq 7, 3) := by decide +kernel
theorem dX9_passes_17 : decode cX9_passes 17 = .ok (.iconst 1, 1) := by decide +kernel
theorem dX9_passes_18 : decode cX9_passes 18 = .ok (.goto 4, 3) := by decide +kernel
theorem dX9_passes_21 : decode cX9_passes 21 = .ok (.iconst 0, 1) := by decide +kernel
theorem dX9_passes_22 : decode cX9_passes 22 = .ok (.iadd, 1) := by decide +kernel
theorem dX9_passes_23 : decode cX9_passes 23 = .ok (.istore_n 2, 1) := by decide +kernel
theorem dX9_passes_24 : decode cX9_passes 24 = .ok (.iinc 3 1, 3) := by decide +kernel
theorem dX9_passes_27 : decode cX9_passes 27 = .ok (.goto (-23), 3) := by decide +kernel
theorem dX9_passes_30 : decode cX9_passes 30 = .ok (.iload_n 2, 1) := by decide +kernel
theorem dX9_passes_31 : decode cX9_passes 31 = .ok (.ireturn, 1) := by decide +kernel
theorem dX9_allows_0 : decode cX9_allows 0 = .ok (.aload_n 0, 1) := by decide +kernel
theorem dX9_allows_1 : decode cX9_allows 1 = .ok (.invokevirtual 103, 3) := by decide +kernel
theorem dX9_allows_4 : decode cX9_allows 4 = .ok (.ifCond .ne 5, 3) := by decide +kernel
theorem dX9_allows_7 : decode cX9_allows 7 = .ok (.iconst 1, 1) := by decide +kernel
theorem dX9_allows_8 : decode cX9_allows 8 = .ok (.ireturn, 1) := by decide +kernel
theorem dX9_allows_9 : decode cX9_allows 9 = .ok (.aload_n 0, 1) := by decide +kernel
theorem dX9_allows_10 : decode cX9_allows 10 = .ok (.iconst 0, 1) := by decide +kernel
theorem dX9_allows_11 : decode cX9_allows 11 = .ok (.invokevirtual 50, 3) := by decide +kernel
theorem dX9_allows_14 : decode cX9_allows 14 = .ok (.iconst 2, 1) := by decide +kernel
theorem dX9_allows_15 : decode cX9_allows 15 = .ok (.if_icmp .ne 24, 3) := by decide +kernel
theorem dX9_allows_18 : decode cX9_allows 18 = .ok (.iload_n 1, 1) := by decide +kernel
theorem dX9_allows_19 : decode cX9_allows 19 = .ok (.iconst 1, 1) := by decide +kernel
theorem dX9_allows_20 : decode cX9_allows 20 = .ok (.if_icmp .ne 19, 3) := by decide +kernel
theorem dX9_allows_23 : decode cX9_allows 23 = .ok (.iload_n 2, 1) := by decide +kernel
theorem dX9_allows_24 : decode cX9_allows 24 = .ok (.bipush 32, 2) := by decide +kernel
theorem dX9_allows_26 : decode cX9_allows 26 = .ok (.idiv, 1) := by decide +kernel
theorem dX9_allows_27 : decode cX9_allows 27 = .ok (.aload_n 0, 1) := by decide +kernel
theorem dX9_allows_28 : decode cX9_allows 28 = .ok (.iconst 1, 1) := by decide +kernel
theorem dX9_allows_29 : decode cX9_allows 29 = .ok (.invokevirtual 50, 3) := by decide +kernel
theorem dX9_allows_32 : decode cX9_allows 32 = .ok (.if_icmp .eq 7, 3) := by decide +kernel
theorem dX9_allows_35 : decode cX9_allows 35 = .ok (.iconst 1, 1) := by decide +kernel
theorem dX9_allows_36 : decode cX9_allows 36 = .ok (.goto 4, 3) := by decide +kernel
theorem dX9_allows_39 : decode cX9_allows 39 = .ok (.iconst 0, 1) := by decide +kernel
theorem dX9_allows_40 : decode cX9_allows 40 = .ok (.ireturn, 1) := by decide +kernel
theorem dX9_whyNot_0 : decode cX9_whyNot 0 = .ok (.aload_n 0, 1) := by decide +kernel
theorem dX9_whyNot_1 : decode cX9_whyNot 1 = .ok (.invokevirtual 116, 3) := by decide +kernel
theorem dX9_whyNot_4 : decode cX9_whyNot 4 = .ok (.ifCond .eq 5, 3) := by decide +kernel
theorem dX9_whyNot_7 : decode cX9_whyNot 7 = .ok (.iconst 1, 1) := by decide +kernel
theorem dX9_whyNot_8 : decode cX9_whyNot 8 = .ok (.ireturn, 1) := by decide +kernel
theorem dX9_whyNot_9 : decode cX9_whyNot 9 = .ok (.aload_n 0, 1) := by decide +kernel
theorem dX9_whyNot_10 : decode cX9_whyNot 10 = .ok (.getfield 7, 3) := by decide +kernel
theorem dX9_whyNot_13 : decode cX9_whyNot 13 = .ok (.sipush 552, 3) := by decide +kernel
theorem dX9_whyNot_16 : decode cX9_whyNot 16 = .ok (.iaload, 1) := by decide +kernel
theorem dX9_whyNot_17 : decode cX9_whyNot 17 = .ok (.ifCond .ne 5, 3) := by decide +kernel
theorem dX9_whyNot_20 : decode cX9_whyNot 20 = .ok (.iconst 2, 1) := by decide +kernel
theorem dX9_whyNot_21 : decode cX9_whyNot 21 = .ok (.ireturn, 1) := by decide +kernel
theorem dX9_whyNot_22 : decode cX9_whyNot 22 = .ok (.iload_n 1, 1) := by decide +kernel
theorem dX9_whyNot_23 : decode cX9_whyNot 23 = .ok (.iconst 3, 1) := by decide +kernel
theorem dX9_whyNot_24 : decode cX9_whyNot 24 = .ok (.if_icmp .ne 18, 3) := by decide +kernel
theorem dX9_whyNot_27 : decode cX9_whyNot 27 = .ok (.aload_n 0, 1) := by decide +kernel
theorem dX9_whyNot_28 : decode cX9_whyNot 28 = .ok (.getfield 7, 3) := by decide +kernel
theorem dX9_whyNot_31 : decode cX9_whyNot 31 = .ok (.sipush 553, 3) := by decide +kernel
theorem dX9_whyNot_34 : decode cX9_whyNot 34 = .ok (.iaload, 1) := by decide +kernel
theorem dX9_whyNot_35 : decode cX9_whyNot 35 = .ok (.iconst 1, 1) := by decide +kernel
theorem dX9_whyNot_36 : decode cX9_whyNot 36 = .ok (.if_icmp .ne 21, 3) := by decide +kernel
theorem dX9_whyNot_39 : decode cX9_whyNot 39 = .ok (.goto 16, 3) := by decide +kernel
theorem dX9_whyNot_42 : decode cX9_whyNot 42 = .ok (.aload_n 0, 1) := by decide +kernel
theorem dX9_whyNot_43 : decode cX9_whyNot 43 = .ok (.aload_n 0, 1) := by decide +kernel
theorem dX9_whyNot_44 : decode cX9_whyNot 44 = .ok (.iload_n 1, 1) := by decide +kernel
theorem dX9_whyNot_45 : decode cX9_whyNot 45 = .ok (.iload_n 2, 1) := by decide +kernel
theorem dX9_whyNot_46 : decode cX9_whyNot 46 = .ok (.invokevirtual 135, 3) := by decide +kernel
theorem dX9_whyNot_49 : decode cX9_whyNot 49 = .ok (.invokevirtual 99, 3) := by decide +kernel
theorem dX9_whyNot_52 : decode cX9_whyNot 52 = .ok (.ifCond .eq 5, 3) := by decide +kernel
theorem dX9_whyNot_55 : decode cX9_whyNot 55 = .ok (.iconst 3, 1) := by decide +kernel
theorem dX9_whyNot_56 : decode cX9_whyNot 56 = .ok (.ireturn, 1) := by decide +kernel
theorem dX9_whyNot_57 : decode cX9_whyNot 57 = .ok (.aload_n 0, 1) := by decide +kernel
theorem dX9_whyNot_58 : decode cX9_whyNot 58 = .ok (.iload_n 1, 1) := by decide +kernel
theorem dX9_whyNot_59 : decode cX9_whyNot 59 = .ok (.iload_n 2, 1) := by decide +kernel
theorem dX9_whyNot_60 : decode cX9_whyNot 60 = .ok (.invokevirtual 138, 3) := by decide +kernel
theorem dX9_whyNot_63 : decode cX9_whyNot 63 = .ok (.ifCond .ne 7, 3) := by decide +kernel
theorem dX9_whyNot_66 : decode cX9_whyNot 66 = .ok (.iconst 4, 1) := by decide +kernel
theorem dX9_whyNot_67 : decode cX9_whyNot 67 = .ok (.goto 24, 3) := by decide +kernel
theorem dX9_whyNot_70 : decode cX9_whyNot 70 = .ok (.iload_n 1, 1) := by decide +kernel
theorem dX9_whyNot_71 : decode cX9_whyNot 71 = .ok (.iconst 1, 1) := by decide +kernel
theorem dX9_whyNot_72 : decode cX9_whyNot 72 = .ok (.if_icmp .ne 18, 3) := by decide +kernel
theorem dX9_whyNot_75 : decode cX9_whyNot 75 = .ok (.aload_n 0, 1) := by decide +kernel
theorem dX9_whyNot_76 : decode cX9_whyNot 76 = .ok (.getfield 7, 3) := by decide +kernel
theorem dX9_whyNot_79 : decode cX9_whyNot 79 = .ok (.sipush 567, 3) := by decide +kernel
theorem dX9_whyNot_82 : decode cX9_whyNot 82 = .ok (.iaload, 1) := by decide +kernel
theorem dX9_whyNot_83 : decode cX9_whyNot 83 = .ok (.ifCond .ne 7, 3) := by decide +kernel
theorem dX9_whyNot_86 : decode cX9_whyNot 86 = .ok (.iconst 5, 1) := by decide +kernel
theorem dX9_whyNot_87 : decode cX9_whyNot 87 = .ok (.goto 4, 3) := by decide +kernel
theorem dX9_whyNot_90 : decode cX9_whyNot 90 = .ok (.iconst 0, 1) := by decide +kernel
theorem dX9_whyNot_91 : decode cX9_whyNot 91 = .ok (.ireturn, 1) := by decide +kernel
theorem dX9_arm_0 : decode cX9_arm 0 = .ok (.aload_n 0, 1) := by decide +kernel
theorem dX9_arm_1 : decode cX9_arm 1 = .ok (.iconst 0, 1) := by decide +kernel
theorem dX9_arm_2 : decode cX9_arm 2 = .ok (.putfield 31, 3) := by decide +kernel
theorem dX9_arm_5 : decode cX9_arm 5 = .ok (.aload_n 0, 1) := by decide +kernel
theorem dX9_arm_6 : decode cX9_arm 6 = .ok (.invokevirtual 116, 3) := by decide +kernel
theorem dX9_arm_9 : decode cX9_arm 9 = .ok (.ifCond .eq 9, 3) := by decide +kernel
theorem dX9_arm_12 : decode cX9_arm 12 = .ok (.aload_n 0, 1) := by decide +kernel
theorem dX9_arm_13 : decode cX9_arm 13 = .ok (.iconst 1, 1) := by decide +kernel
theorem dX9_arm_14 : decode cX9_arm 14 = .ok (.invokevirtual 142, 3) := by decide +kernel
theorem dX9_arm_17 : decode cX9_arm 17 = .ok (.ireturn, 1) := by decide +kernel
theorem dX9_arm_18 : decode cX9_arm 18 = .ok (.aload_n 0, 1) := by decide +kernel
theorem dX9_arm_19 : decode cX9_arm 19 = .ok (.invokevirtual 145, 3) := by decide +kernel
theorem dX9_arm_22 : decode cX9_arm 22 = .ok (.aload_n 0, 1) := by decide +kernel
theorem dX9_arm_23 : decode cX9_arm 23 = .ok (.getfield 7, 3) := by decide +kernel
theorem dX9_arm_26 : decode cX9_arm 26 = .ok (.sipush 552, 3) := by decide +kernel
theorem dX9_arm_29 : decode cX9_arm 29 = .ok (.iaload, 1) := by decide +kernel
theorem dX9_arm_30 : decode cX9_arm 30 = .ok (.istore_n 1, 1) := by decide +kernel
theorem dX9_arm_31 : decode cX9_arm 31 = .ok (.aload_n 0, 1) := by decide +kernel
theorem dX9_arm_32 : decode cX9_arm 32 = .ok (.getfield 7, 3) := by decide +kernel
theorem dX9_arm_35 : decode cX9_arm 35 = .ok (.sipush 552, 3) := by decide +kernel
theorem dX9_arm_38 : decode cX9_arm 38 = .ok (.iconst 1, 1) := by decide +kernel
theorem dX9_arm_39 : decode cX9_arm 39 = .ok (.iastore, 1) := by decide +kernel
theorem dX9_arm_40 : decode cX9_arm 40 = .ok (.iload_n 1, 1) := by decide +kernel
theorem dX9_arm_41 : decode cX9_arm 41 = .ok (.ireturn, 1) := by decide +kernel
theorem dX9_load_0 : decode cX9_load 0 = .ok (.aload_n 0, 1) := by decide +kernel
theorem dX9_load_1 : decode cX9_load 1 = .ok (.iconst 0, 1) := by decide +kernel
theorem dX9_load_2 : decode cX9_load 2 = .ok (.putfield 31, 3) := by decide +kernel
theorem dX9_load_5 : decode cX9_load 5 = .ok (.iload_n 1, 1) := by decide +kernel
theorem dX9_load_6 : decode cX9_load 6 = .ok (.iconst 0, 1) := by decide +kernel
theorem dX9_load_7 : decode cX9_load 7 = .ok (.sipush 255, 3) := by decide +kernel
theorem dX9_load_10 : decode cX9_load 10 = .ok (.invokestatic 42, 3) := by decide +kernel
theorem dX9_load_13 : decode cX9_load 13 = .ok (.ifCond .ne 9, 3) := by decide +kernel
theorem dX9_load_16 : decode cX9_load 16 = .ok (.aload_n 0, 1) := by decide +kernel
theorem dX9_load_17 : decode cX9_load 17 = .ok (.iconst 1, 1) := by decide +kernel
theorem dX9_load_18 : decode cX9_load 18 = .ok (.invokevirtual 142, 3) := by decide +kernel
theorem dX9_load_21 : decode cX9_load 21 = .ok (.ireturn, 1) := by decide +kernel
theorem dX9_load_22 : decode cX9_load 22 = .ok (.aload_n 0, 1) := by decide +kernel
theorem dX9_load_23 : decode cX9_load 23 = .ok (.getfield 7, 3) := by decide +kernel
theorem dX9_load_26 : decode cX9_load 26 = .ok (.sipush 567, 3) := by decide +kernel
theorem dX9_load_29 : decode cX9_load 29 = .ok (.iaload, 1) := by decide +kernel
theorem dX9_load_30 : decode cX9_load 30 = .ok (.bipush 12, 2) := by decide +kernel
theorem dX9_load_32 : decode cX9_load 32 = .ok (.if_icmp .ne 9, 3) := by decide +kernel
theorem dX9_load_35 : decode cX9_load 35 = .ok (.aload_n 0, 1) := by decide +kernel
theorem dX9_load_36 : decode cX9_load 36 = .ok (.iconst 2, 1) := by decide +kernel
theorem dX9_load_37 : decode cX9_load 37 = .ok (.invokevirtual 142, 3) := by decide +kernel
theorem dX9_load_40 : decode cX9_load 40 = .ok (.ireturn, 1) := by decide +kernel
theorem dX9_load_41 : decode cX9_load 41 = .ok (.aload_n 0, 1) := by decide +kernel
theorem dX9_load_42 : decode cX9_load 42 = .ok (.invokevirtual 145, 3) := by decide +kernel
theorem dX9_load_45 : decode cX9_load 45 = .ok (.aload_n 0, 1) := by decide +kernel
theorem dX9_load_46 : decode cX9_load 46 = .ok (.getfield 7, 3) := by decide +kernel
theorem dX9_load_49 : decode cX9_load 49 = .ok (.sipush 568, 3) := by decide +kernel
theorem dX9_load_52 : decode cX9_load 52 = .ok (.aload_n 0, 1) := by decide +kernel
theorem dX9_load_53 : decode cX9_load 53 = .ok (.getfield 7, 3) := by decide +kernel
theorem dX9_load_56 : decode cX9_load 56 = .ok (.sipush 567, 3) := by decide +kernel
theorem dX9_load_59 : decode cX9_load 59 = .ok (.iaload, 1) := by decide +kernel
theorem dX9_load_60 : decode cX9_load 60 = .ok (.iadd, 1) := by decide +kernel
theorem dX9_load_61 : decode cX9_load 61 = .ok (.iload_n 1, 1) := by decide +kernel
theorem dX9_load_62 : decode cX9_load 62 = .ok (.iastore, 1) := by decide +kernel
theorem dX9_load_63 : decode cX9_load 63 = .ok (.aload_n 0, 1) := by decide +kernel
theorem dX9_load_64 : decode cX9_load 64 = .ok (.getfield 7, 3) := by decide +kernel
theorem dX9_load_67 : decode cX9_load 67 = .ok (.sipush 567, 3) := by decide +kernel
theorem dX9_load_70 : decode cX9_load 70 = .ok (.dup2, 1) := by decide +kernel
theorem dX9_load_71 : decode cX9_load 71 = .ok (.iaload, 1) := by decide +kernel
theorem dX9_load_72 : decode cX9_load 72 = .ok (.iconst 1, 1) := by decide +kernel
theorem dX9_load_73 : decode cX9_load 73 = .ok (.iadd, 1) := by decide +kernel
theorem dX9_load_74 : decode cX9_load 74 = .ok (.iastore, 1) := by decide +kernel
theorem dX9_load_75 : decode cX9_load 75 = .ok (.aload_n 0, 1) := by decide +kernel
theorem dX9_load_76 : decode cX9_load 76 = .ok (.getfield 7, 3) := by decide +kernel
theorem dX9_load_79 : decode cX9_load 79 = .ok (.sipush 567, 3) := by decide +kernel
theorem dX9_load_82 : decode cX9_load 82 = .ok (.iaload, 1) := by decide +kernel
theorem dX9_load_83 : decode cX9_load 83 = .ok (.ireturn, 1) := by decide +kernel
theorem dX9_unloads_0 : decode cX9_unloads 0 = .ok (.iconst 0, 1) := by decide +kernel
theorem dX9_unloads_1 : decode cX9_unloads 1 = .ok (.istore_n 1, 1) := by decide +kernel
theorem dX9_unloads_2 : decode cX9_unloads 2 = .ok (.iload_n 1, 1) := by decide +kernel
theorem dX9_unloads_3 : decode cX9_unloads 3 = .ok (.bipush 12, 2) := by decide +kernel
theorem dX9_unloads_5 : decode cX9_unloads 5 = .ok (.if_icmp .ge 20, 3) := by decide +kernel
theorem dX9_unloads_8 : decode cX9_unloads 8 = .ok (.aload_n 0, 1) := by decide +kernel
theorem dX9_unloads_9 : decode cX9_unloads 9 = .ok (.getfield 7, 3) := by decide +kernel
theorem dX9_unloads_12 : decode cX9_unloads 12 = .ok (.sipush 568, 3) := by decide +kernel
theorem dX9_unloads_15 : decode cX9_unloads 15 = .ok (.iload_n 1, 1) := by decide +kernel
theorem dX9_unloads_16 : decode cX9_unloads 16 = .ok (.iadd, 1) := by decide +kernel
theorem dX9_unloads_17 : decode cX9_unloads 17 = .ok (.iconst 0, 1) := by decide +kernel
theorem dX9_unloads_18 : decode cX9_unloads 18 = .ok (.iastore, 1) := by decide +kernel
theorem dX9_unloads_19 : decode cX9_unloads 19 = .ok (.iinc 1 1, 3) := by decide +kernel
theorem dX9_unloads_22 : decode cX9_unloads 22 = .ok (.goto (-20), 3) := by decide +kernel
theorem dX9_unloads_25 : decode cX9_unloads 25 = .ok (.aload_n 0, 1) := by decide +kernel
theorem dX9_unloads_26 : decode cX9_unloads 26 = .ok (.getfield 7, 3) := by decide +kernel
theorem dX9_unloads_29 : decode cX9_unloads 29 = .ok (.sipush 567, 3) := by decide +kernel
theorem dX9_unloads_32 : decode cX9_unloads 32 = .ok (.iconst 0, 1) := by decide +kernel
theorem dX9_unloads_33 : decode cX9_unloads 33 = .ok (.iastore, 1) := by decide +kernel
theorem dX9_unloads_34 : decode cX9_unloads 34 = .ok (.return_, 1) := by decide +kernel
theorem dX9_unload_0 : decode cX9_unload 0 = .ok (.aload_n 0, 1) := by decide +kernel
theorem dX9_unload_1 : decode cX9_unload 1 = .ok (.iconst 0, 1) := by decide +kernel
theorem dX9_unload_2 : decode cX9_unload 2 = .ok (.putfield 31, 3) := by decide +kernel
theorem dX9_unload_5 : decode cX9_unload 5 = .ok (.aload_n 0, 1) := by decide +kernel
theorem dX9_unload_6 : decode cX9_unload 6 = .ok (.invokevirtual 145, 3) := by decide +kernel
theorem dX9_unload_9 : decode cX9_unload 9 = .ok (.aload_n 0, 1) := by decide +kernel
theorem dX9_unload_10 : decode cX9_unload 10 = .ok (.getfield 7, 3) := by decide +kernel
theorem dX9_unload_13 : decode cX9_unload 13 = .ok (.sipush 567, 3) := by decide +kernel
theorem dX9_unload_16 : decode cX9_unload 16 = .ok (.iaload, 1) := by decide +kernel
theorem dX9_unload_17 : decode cX9_unload 17 = .ok (.istore_n 1, 1) := by decide +kernel
theorem dX9_unload_18 : decode cX9_unload 18 = .ok (.aload_n 0, 1) := by decide +kernel
theorem dX9_unload_19 : decode cX9_unload 19 = .ok (.invokevirtual 148, 3) := by decide +kernel
theorem dX9_unload_22 : decode cX9_unload 22 = .ok (.iload_n 1, 1) := by decide +kernel
theorem dX9_unload_23 : decode cX9_unload 23 = .ok (.ireturn, 1) := by decide +kernel
theorem dX9_write_0 : decode cX9_write 0 = .ok (.aload_n 0, 1) := by decide +kernel
theorem dX9_write_1 : decode cX9_write 1 = .ok (.iconst 0, 1) := by decide +kernel
theorem dX9_write_2 : decode cX9_write 2 = .ok (.putfield 31, 3) := by decide +kernel
theorem dX9_write_5 : decode cX9_write 5 = .ok (.iload_n 1, 1) := by decide +kernel
theorem dX9_write_6 : decode cX9_write 6 = .ok (.invokestatic 151, 3) := by decide +kernel
theorem dX9_write_9 : decode cX9_write 9 = .ok (.ifCond .ne 9, 3) := by decide +kernel
theorem dX9_write_12 : decode cX9_write 12 = .ok (.aload_n 0, 1) := by decide +kernel
theorem dX9_write_13 : decode cX9_write 13 = .ok (.iconst 1, 1) := by decide +kernel
theorem dX9_write_14 : decode cX9_write 14 = .ok (.invokevirtual 142, 3) := by decide +kernel
theorem dX9_write_17 : decode cX9_write 17 = .ok (.ireturn, 1) := by decide +kernel
theorem dX9_write_18 : decode cX9_write 18 = .ok (.aload_n 0, 1) := by decide +kernel
theorem dX9_write_19 : decode cX9_write 19 = .ok (.iconst 1, 1) := by decide +kernel
theorem dX9_write_20 : decode cX9_write 20 = .ok (.iload_n 1, 1) := by decide +kernel
theorem dX9_write_21 : decode cX9_write 21 = .ok (.invokevirtual 154, 3) := by decide +kernel
theorem dX9_write_24 : decode cX9_write 24 = .ok (.ifCond .le 9, 3) := by decide +kernel
theorem dX9_write_27 : decode cX9_write 27 = .ok (.aload_n 0, 1) := by decide +kernel
theorem dX9_write_28 : decode cX9_write 28 = .ok (.iconst 2, 1) := by decide +kernel
theorem dX9_write_29 : decode cX9_write 29 = .ok (.invokevirtual 142, 3) := by decide +kernel
theorem dX9_write_32 : decode cX9_write 32 = .ok (.ireturn, 1) := by decide +kernel
theorem dX9_write_33 : decode cX9_write 33 = .ok (.aload_n 0, 1) := by decide +kernel
theorem dX9_write_34 : decode cX9_write 34 = .ok (.invokevirtual 145, 3) := by decide +kernel
theorem dX9_write_37 : decode cX9_write 37 = .ok (.aload_n 0, 1) := by decide +kernel
theorem dX9_write_38 : decode cX9_write 38 = .ok (.getfield 7, 3) := by decide +kernel
theorem dX9_write_41 : decode cX9_write 41 = .ok (.sipush 552, 3) := by decide +kernel
theorem dX9_write_44 : decode cX9_write 44 = .ok (.iconst 0, 1) := by decide +kernel
theorem dX9_write_45 : decode cX9_write 45 = .ok (.iastore, 1) := by decide +kernel
theorem dX9_write_46 : decode cX9_write 46 = .ok (.aload_n 0, 1) := by decide +kernel
theorem dX9_write_47 : decode cX9_write 47 = .ok (.iload_n 1, 1) := by decide +kernel
theorem dX9_write_48 : decode cX9_write 48 = .ok (.sipush 568, 3) := by decide +kernel
theorem dX9_write_51 : decode cX9_write 51 = .ok (.aload_n 0, 1) := by decide +kernel
theorem dX9_write_52 : decode cX9_write 52 = .ok (.getfield 7, 3) := by decide +kernel
theorem dX9_write_55 : decode cX9_write 55 = .ok (.sipush 567, 3) := by decide +kernel
theorem dX9_write_58 : decode cX9_write 58 = .ok (.iaload, 1) := by decide +kernel
theorem dX9_write_59 : decode cX9_write 59 = .ok (.iconst (-1), 1) := by decide +kernel
theorem dX9_write_60 : decode cX9_write 60 = .ok (.invokevirtual 68, 3) := by decide +kernel
theorem dX9_write_63 : decode cX9_write 63 = .ok (.istore_n 2, 1) := by decide +kernel
theorem dX9_write_64 : decode cX9_write 64 = .ok (.aload_n 0, 1) := by decide +kernel
theorem dX9_write_65 : decode cX9_write 65 = .ok (.invokevirtual 148, 3) := by decide +kernel
theorem dX9_write_68 : decode cX9_write 68 = .ok (.iload_n 2, 1) := by decide +kernel
theorem dX9_write_69 : decode cX9_write 69 = .ok (.ireturn, 1) := by decide +kernel
theorem dX9_erase_0 : decode cX9_erase 0 = .ok (.aload_n 0, 1) := by decide +kernel
theorem dX9_erase_1 : decode cX9_erase 1 = .ok (.iconst 0, 1) := by decide +kernel
theorem dX9_erase_2 : decode cX9_erase 2 = .ok (.putfield 31, 3) := by decide +kernel
theorem dX9_erase_5 : decode cX9_erase 5 = .ok (.iload_n 1, 1) := by decide +kernel
theorem dX9_erase_6 : decode cX9_erase 6 = .ok (.invokestatic 157, 3) := by decide +kernel
theorem dX9_erase_9 : decode cX9_erase 9 = .ok (.ifCond .ne 9, 3) := by decide +kernel
theorem dX9_erase_12 : decode cX9_erase 12 = .ok (.aload_n 0, 1) := by decide +kernel
theorem dX9_erase_13 : decode cX9_erase 13 = .ok (.iconst 1, 1) := by decide +kernel
theorem dX9_erase_14 : decode cX9_erase 14 = .ok (.invokevirtual 142, 3) := by decide +kernel
theorem dX9_erase_17 : decode cX9_erase 17 = .ok (.ireturn, 1) := by decide +kernel
theorem dX9_erase_18 : decode cX9_erase 18 = .ok (.aload_n 0, 1) := by decide +kernel
theorem dX9_erase_19 : decode cX9_erase 19 = .ok (.iconst 2, 1) := by decide +kernel
theorem dX9_erase_20 : decode cX9_erase 20 = .ok (.iload_n 1, 1) := by decide +kernel
theorem dX9_erase_21 : decode cX9_erase 21 = .ok (.invokevirtual 154, 3) := by decide +kernel
theorem dX9_erase_24 : decode cX9_erase 24 = .ok (.ifCond .le 9, 3) := by decide +kernel
theorem dX9_erase_27 : decode cX9_erase 27 = .ok (.aload_n 0, 1) := by decide +kernel
theorem dX9_erase_28 : decode cX9_erase 28 = .ok (.iconst 2, 1) := by decide +kernel
theorem dX9_erase_29 : decode cX9_erase 29 = .ok (.invokevirtual 142, 3) := by decide +kernel
theorem dX9_erase_32 : decode cX9_erase 32 = .ok (.ireturn, 1) := by decide +kernel
theorem dX9_erase_33 : decode cX9_erase 33 = .ok (.aload_n 0, 1) := by decide +kernel
theorem dX9_erase_34 : decode cX9_erase 34 = .ok (.invokevirtual 145, 3) := by decide +kernel
theorem dX9_erase_37 : decode cX9_erase 37 = .ok (.aload_n 0, 1) := by decide +kernel
theorem dX9_erase_38 : decode cX9_erase 38 = .ok (.getfield 7, 3) := by decide +kernel
theorem dX9_erase_41 : decode cX9_erase 41 = .ok (.sipush 552, 3) := by decide +kernel
theorem dX9_erase_44 : decode cX9_erase 44 = .ok (.iconst 0, 1) := by decide +kernel
theorem dX9_erase_45 : decode cX9_erase 45 = .ok (.iastore, 1) := by decide +kernel
theorem dX9_erase_46 : decode cX9_erase 46 = .ok (.aload_n 0, 1) := by decide +kernel
theorem dX9_erase_47 : decode cX9_erase 47 = .ok (.iload_n 1, 1) := by decide +kernel
theorem dX9_erase_48 : decode cX9_erase 48 = .ok (.iconst (-1), 1) := by decide +kernel
theorem dX9_erase_49 : decode cX9_erase 49 = .ok (.invokevirtual 72, 3) := by decide +kernel
theorem dX9_erase_52 : decode cX9_erase 52 = .ok (.ireturn, 1) := by decide +kernel
theorem dX9_lock_0 : decode cX9_lock 0 = .ok (.aload_n 0, 1) := by decide +kernel
theorem dX9_lock_1 : decode cX9_lock 1 = .ok (.iconst 0, 1) := by decide +kernel
theorem dX9_lock_2 : decode cX9_lock 2 = .ok (.putfield 31, 3) := by decide +kernel
theorem dX9_lock_5 : decode cX9_lock 5 = .ok (.iload_n 1, 1) := by decide +kernel
theorem dX9_lock_6 : decode cX9_lock 6 = .ok (.iconst 0, 1) := by decide +kernel
theorem dX9_lock_7 : decode cX9_lock 7 = .ok (.iconst 4, 1) := by decide +kernel
theorem dX9_lock_8 : decode cX9_lock 8 = .ok (.invokestatic 42, 3) := by decide +kernel
theorem dX9_lock_11 : decode cX9_lock 11 = .ok (.ifCond .eq 12, 3) := by decide +kernel
theorem dX9_lock_14 : decode cX9_lock 14 = .ok (.iload_n 2, 1) := by decide +kernel
theorem dX9_lock_15 : decode cX9_lock 15 = .ok (.iconst 0, 1) := by decide +kernel
theorem dX9_lock_16 : decode cX9_lock 16 = .ok (.iconst 1, 1) := by decide +kernel
theorem dX9_lock_17 : decode cX9_lock 17 = .ok (.invokestatic 42, 3) := by decide +kernel
theorem dX9_lock_20 : decode cX9_lock 20 = .ok (.ifCond .ne 9, 3) := by decide +kernel
theorem dX9_lock_23 : decode cX9_lock 23 = .ok (.aload_n 0, 1) := by decide +kernel
theorem dX9_lock_24 : decode cX9_lock 24 = .ok (.iconst 1, 1) := by decide +kernel
theorem dX9_lock_25 : decode cX9_lock 25 = .ok (.invokevirtual 142, 3) := by decide +kernel
theorem dX9_lock_28 : decode cX9_lock 28 = .ok (.ireturn, 1) := by decide +kernel
theorem dX9_lock_29 : decode cX9_lock 29 = .ok (.aload_n 0, 1) := by decide +kernel
theorem dX9_lock_30 : decode cX9_lock 30 = .ok (.iconst 3, 1) := by decide +kernel
theorem dX9_lock_31 : decode cX9_lock 31 = .ok (.iload_n 1, 1) := by decide +kernel
theorem dX9_lock_32 : decode cX9_lock 32 = .ok (.invokevirtual 154, 3) := by decide +kernel
theorem dX9_lock_35 : decode cX9_lock 35 = .ok (.ifCond .le 9, 3) := by decide +kernel
theorem dX9_lock_38 : decode cX9_lock 38 = .ok (.aload_n 0, 1) := by decide +kernel
theorem dX9_lock_39 : decode cX9_lock 39 = .ok (.iconst 2, 1) := by decide +kernel
theorem dX9_lock_40 : decode cX9_lock 40 = .ok (.invokevirtual 142, 3) := by decide +kernel
theorem dX9_lock_43 : decode cX9_lock 43 = .ok (.ireturn, 1) := by decide +kernel
theorem dX9_lock_44 : decode cX9_lock 44 = .ok (.aload_n 0, 1) := by decide +kernel
theorem dX9_lock_45 : decode cX9_lock 45 = .ok (.invokevirtual 145, 3) := by decide +kernel
theorem dX9_lock_48 : decode cX9_lock 48 = .ok (.aload_n 0, 1) := by decide +kernel
theorem dX9_lock_49 : decode cX9_lock 49 = .ok (.getfield 7, 3) := by decide +kernel
theorem dX9_lock_52 : decode cX9_lock 52 = .ok (.sipush 552, 3) := by decide +kernel
theorem dX9_lock_55 : decode cX9_lock 55 = .ok (.iconst 0, 1) := by decide +kernel
theorem dX9_lock_56 : decode cX9_lock 56 = .ok (.iastore, 1) := by decide +kernel
theorem dX9_lock_57 : decode cX9_lock 57 = .ok (.aload_n 0, 1) := by decide +kernel
theorem dX9_lock_58 : decode cX9_lock 58 = .ok (.iload_n 1, 1) := by decide +kernel
theorem dX9_lock_59 : decode cX9_lock 59 = .ok (.iload_n 2, 1) := by decide +kernel
theorem dX9_lock_60 : decode cX9_lock 60 = .ok (.invokevirtual 160, 3) := by decide +kernel
theorem dX9_lock_63 : decode cX9_lock 63 = .ok (.ireturn, 1) := by decide +kernel
theorem dX9_freeze_0 : decode cX9_freeze 0 = .ok (.aload_n 0, 1) := by decide +kernel
theorem dX9_freeze_1 : decode cX9_freeze 1 = .ok (.iconst 0, 1) := by decide +kernel
theorem dX9_freeze_2 : decode cX9_freeze 2 = .ok (.putfield 31, 3) := by decide +kernel
theorem dX9_freeze_5 : decode cX9_freeze 5 = .ok (.aload_n 0, 1) := by decide +kernel
theorem dX9_freeze_6 : decode cX9_freeze 6 = .ok (.invokevirtual 116, 3) := by decide +kernel
theorem dX9_freeze_9 : decode cX9_freeze 9 = .ok (.ifCond .eq 9, 3) := by decide +kernel
theorem dX9_freeze_12 : decode cX9_freeze 12 = .ok (.aload_n 0, 1) := by decide +kernel
theorem dX9_freeze_13 : decode cX9_freeze 13 = .ok (.iconst 1, 1) := by decide +kernel
theorem dX9_freeze_14 : decode cX9_freeze 14 = .ok (.invokevirtual 142, 3) := by decide +kernel
theorem dX9_freeze_17 : decode cX9_freeze 17 = .ok (.ireturn, 1) := by decide +kernel
theorem dX9_freeze_18 : decode cX9_freeze 18 = .ok (.aload_n 0, 1) := by decide +kernel
theorem dX9_freeze_19 : decode cX9_freeze 19 = .ok (.invokevirtual 145, 3) := by decide +kernel
theorem dX9_freeze_22 : decode cX9_freeze 22 = .ok (.aload_n 0, 1) := by decide +kernel
theorem dX9_freeze_23 : decode cX9_freeze 23 = .ok (.getfield 7, 3) := by decide +kernel
theorem dX9_freeze_26 : decode cX9_freeze 26 = .ok (.sipush 553, 3) := by decide +kernel
theorem dX9_freeze_29 : decode cX9_freeze 29 = .ok (.iaload, 1) := by decide +kernel
theorem dX9_freeze_30 : decode cX9_freeze 30 = .ok (.istore_n 1, 1) := by decide +kernel
theorem dX9_freeze_31 : decode cX9_freeze 31 = .ok (.aload_n 0, 1) := by decide +kernel
theorem dX9_freeze_32 : decode cX9_freeze 32 = .ok (.getfield 7, 3) := by decide +kernel
theorem dX9_freeze_35 : decode cX9_freeze 35 = .ok (.sipush 553, 3) := by decide +kernel
theorem dX9_freeze_38 : decode cX9_freeze 38 = .ok (.iconst 1, 1) := by decide +kernel
theorem dX9_freeze_39 : decode cX9_freeze 39 = .ok (.iastore, 1) := by decide +kernel
theorem dX9_freeze_40 : decode cX9_freeze 40 = .ok (.iload_n 1, 1) := by decide +kernel
theorem dX9_freeze_41 : decode cX9_freeze 41 = .ok (.ireturn, 1) := by decide +kernel
theorem dX9_suspend_0 : decode cX9_suspend 0 = .ok (.aload_n 0, 1) := by decide +kernel
theorem dX9_suspend_1 : decode cX9_suspend 1 = .ok (.iconst 0, 1) := by decide +kernel
theorem dX9_suspend_2 : decode cX9_suspend 2 = .ok (.putfield 31, 3) := by decide +kernel
theorem dX9_suspend_5 : decode cX9_suspend 5 = .ok (.aload_n 0, 1) := by decide +kernel
theorem dX9_suspend_6 : decode cX9_suspend 6 = .ok (.iconst 0, 1) := by decide +kernel
theorem dX9_suspend_7 : decode cX9_suspend 7 = .ok (.invokevirtual 46, 3) := by decide +kernel
theorem dX9_suspend_10 : decode cX9_suspend 10 = .ok (.iconst 1, 1) := by decide +kernel
theorem dX9_suspend_11 : decode cX9_suspend 11 = .ok (.if_icmp .eq 12, 3) := by decide +kernel
theorem dX9_suspend_14 : decode cX9_suspend 14 = .ok (.aload_n 0, 1) := by decide +kernel
theorem dX9_suspend_15 : decode cX9_suspend 15 = .ok (.iconst 0, 1) := by decide +kernel
theorem dX9_suspend_16 : decode cX9_suspend 16 = .ok (.invokevirtual 46, 3) := by decide +kernel
theorem dX9_suspend_19 : decode cX9_suspend 19 = .ok (.iconst 2, 1) := by decide +kernel
theorem dX9_suspend_20 : decode cX9_suspend 20 = .ok (.if_icmp .ne 10, 3) := by decide +kernel
theorem dX9_suspend_23 : decode cX9_suspend 23 = .ok (.aload_n 0, 1) := by decide +kernel
theorem dX9_suspend_24 : decode cX9_suspend 24 = .ok (.invokevirtual 103, 3) := by decide +kernel
theorem dX9_suspend_27 : decode cX9_suspend 27 = .ok (.ifCond .eq 9, 3) := by decide +kernel
theorem dX9_suspend_30 : decode cX9_suspend 30 = .ok (.aload_n 0, 1) := by decide +kernel
theorem dX9_suspend_31 : decode cX9_suspend 31 = .ok (.iconst 1, 1) := by decide +kernel
theorem dX9_suspend_32 : decode cX9_suspend 32 = .ok (.invokevirtual 142, 3) := by decide +kernel
theorem dX9_suspend_35 : decode cX9_suspend 35 = .ok (.ireturn, 1) := by decide +kernel
theorem dX9_suspend_36 : decode cX9_suspend 36 = .ok (.aload_n 0, 1) := by decide +kernel
theorem dX9_suspend_37 : decode cX9_suspend 37 = .ok (.invokevirtual 145, 3) := by decide +kernel
theorem dX9_suspend_40 : decode cX9_suspend 40 = .ok (.aload_n 0, 1) := by decide +kernel
theorem dX9_suspend_41 : decode cX9_suspend 41 = .ok (.iconst 0, 1) := by decide +kernel
theorem dX9_suspend_42 : decode cX9_suspend 42 = .ok (.invokevirtual 110, 3) := by decide +kernel
theorem dX9_suspend_45 : decode cX9_suspend 45 = .ok (.aload_n 0, 1) := by decide +kernel
theorem dX9_suspend_46 : decode cX9_suspend 46 = .ok (.iconst 3, 1) := by decide +kernel
theorem dX9_suspend_47 : decode cX9_suspend 47 = .ok (.invokevirtual 50, 3) := by decide +kernel
theorem dX9_suspend_50 : decode cX9_suspend 50 = .ok (.aload_n 0, 1) := by decide +kernel
theorem dX9_suspend_51 : decode cX9_suspend 51 = .ok (.iconst 2, 1) := by decide +kernel
theorem dX9_suspend_52 : decode cX9_suspend 52 = .ok (.invokevirtual 50, 3) := by decide +kernel
theorem dX9_suspend_55 : decode cX9_suspend 55 = .ok (.isub, 1) := by decide +kernel
theorem dX9_suspend_56 : decode cX9_suspend 56 = .ok (.ireturn, 1) := by decide +kernel
theorem dX9_resume_0 : decode cX9_resume 0 = .ok (.aload_n 0, 1) := by decide +kernel
theorem dX9_resume_1 : decode cX9_resume 1 = .ok (.iconst 0, 1) := by decide +kernel
theorem dX9_resume_2 : decode cX9_resume 2 = .ok (.putfield 31, 3) := by decide +kernel
theorem dX9_resume_5 : decode cX9_resume 5 = .ok (.aload_n 0, 1) := by decide +kernel
theorem dX9_resume_6 : decode cX9_resume 6 = .ok (.invokevirtual 103, 3) := by decide +kernel
theorem dX9_resume_9 : decode cX9_resume 9 = .ok (.ifCond .eq 10, 3) := by decide +kernel
theorem dX9_resume_12 : decode cX9_resume 12 = .ok (.aload_n 0, 1) := by decide +kernel
theorem dX9_resume_13 : decode cX9_resume 13 = .ok (.invokevirtual 116, 3) := by decide +kernel
theorem dX9_resume_16 : decode cX9_resume 16 = .ok (.ifCond .eq 9, 3) := by decide +kernel
theorem dX9_resume_19 : decode cX9_resume 19 = .ok (.aload_n 0, 1) := by decide +kernel
theorem dX9_resume_20 : decode cX9_resume 20 = .ok (.iconst 1, 1) := by decide +kernel
theorem dX9_resume_21 : decode cX9_resume 21 = .ok (.invokevirtual 142, 3) := by decide +kernel
theorem dX9_resume_24 : decode cX9_resume 24 = .ok (.ireturn, 1) := by decide +kernel
theorem dX9_resume_25 : decode cX9_resume 25 = .ok (.aload_n 0, 1) := by decide +kernel
theorem dX9_resume_26 : decode cX9_resume 26 = .ok (.invokevirtual 145, 3) := by decide +kernel
theorem dX9_resume_29 : decode cX9_resume 29 = .ok (.aload_n 0, 1) := by decide +kernel
theorem dX9_resume_30 : decode cX9_resume 30 = .ok (.invokevirtual 119, 3) := by decide +kernel
theorem dX9_resume_33 : decode cX9_resume 33 = .ok (.aload_n 0, 1) := by decide +kernel
theorem dX9_resume_34 : decode cX9_resume 34 = .ok (.iconst 3, 1) := by decide +kernel
theorem dX9_resume_35 : decode cX9_resume 35 = .ok (.invokevirtual 46, 3) := by decide +kernel
theorem dX9_resume_38 : decode cX9_resume 38 = .ok (.aload_n 0, 1) := by decide +kernel
theorem dX9_resume_39 : decode cX9_resume 39 = .ok (.iconst 2, 1) := by decide +kernel
theorem dX9_resume_40 : decode cX9_resume 40 = .ok (.invokevirtual 46, 3) := by decide +kernel
theorem dX9_resume_43 : decode cX9_resume 43 = .ok (.isub, 1) := by decide +kernel
theorem dX9_resume_44 : decode cX9_resume 44 = .ok (.ireturn, 1) := by decide +kernel
theorem dX9_loses_0 : decode cX9_loses 0 = .ok (.aload_n 0, 1) := by decide +kernel
theorem dX9_loses_1 : decode cX9_loses 1 = .ok (.getfield 7, 3) := by decide +kernel
theorem dX9_loses_4 : decode cX9_loses 4 = .ok (.sipush 581, 3) := by decide +kernel
theorem dX9_loses_7 : decode cX9_loses 7 = .ok (.bipush 18, 2) := by decide +kernel
theorem dX9_loses_9 : decode cX9_loses 9 = .ok (.iload_n 1, 1) := by decide +kernel
theorem dX9_loses_10 : decode cX9_loses 10 = .ok (.imul, 1) := by decide +kernel
theorem dX9_loses_11 : decode cX9_loses 11 = .ok (.iadd, 1) := by decide +kernel
theorem dX9_loses_12 : decode cX9_loses 12 = .ok (.iconst 0, 1) := by decide +kernel
theorem dX9_loses_13 : decode cX9_loses 13 = .ok (.iadd, 1) := by decide +kernel
theorem dX9_loses_14 : decode cX9_loses 14 = .ok (.iaload, 1) := by decide +kernel
theorem dX9_loses_15 : decode cX9_loses 15 = .ok (.istore_n 2, 1) := by decide +kernel
theorem dX9_loses_16 : decode cX9_loses 16 = .ok (.aload_n 0, 1) := by decide +kernel
theorem dX9_loses_17 : decode cX9_loses 17 = .ok (.getfield 7, 3) := by decide +kernel
theorem dX9_loses_20 : decode cX9_loses 20 = .ok (.sipush 581, 3) := by decide +kernel
theorem dX9_loses_23 : decode cX9_loses 23 = .ok (.bipush 18, 2) := by decide +kernel
theorem dX9_loses_25 : decode cX9_loses 25 = .ok (.iload_n 1, 1) := by decide +kernel
theorem dX9_loses_26 : decode cX9_loses 26 = .ok (.imul, 1) := by decide +kernel
theorem dX9_loses_27 : decode cX9_loses 27 = .ok (.iadd, 1) := by decide +kernel
theorem dX9_loses_28 : decode cX9_loses 28 = .ok (.iconst 1, 1) := by decide +kernel
theorem dX9_loses_29 : decode cX9_loses 29 = .ok (.iadd, 1) := by decide +kernel
theorem dX9_loses_30 : decode cX9_loses 30 = .ok (.iaload, 1) := by decide +kernel
theorem dX9_loses_31 : decode cX9_loses 31 = .ok (.istore_n 3, 1) := by decide +kernel
theorem dX9_loses_32 : decode cX9_loses 32 = .ok (.iload_n 2, 1) := by decide +kernel
theorem dX9_loses_33 : decode cX9_loses 33 = .ok (.iconst 1, 1) := by decide +kernel
theorem dX9_loses_34 : decode cX9_loses 34 = .ok (.if_icmp .ne 17, 3) := by decide +kernel
theorem dX9_loses_37 : decode cX9_loses 37 = .ok (.aload_n 0, 1) := by decide +kernel
theorem dX9_loses_38 : decode cX9_loses 38 = .ok (.getfield 7, 3) := by decide +kernel
theorem dX9_loses_41 : decode cX9_loses 41 = .ok (.sipush 512, 3) := by decide +kernel
theorem dX9_loses_44 : decode cX9_loses 44 = .ok (.iload_n 3, 1) := by decide +kernel
theorem dX9_loses_45 : decode cX9_loses 45 = .ok (.bipush 8, 2) := by decide +kernel
theorem dX9_loses_47 : decode cX9_loses 47 = .ok (.idiv, 1) := by decide +kernel
theorem dX9_loses_48 : decode cX9_loses 48 = .ok (.iadd, 1) := by decide +kernel
theorem dX9_loses_49 : decode cX9_loses 49 = .ok (.iconst 1, 1) := by decide +kernel
theorem dX9_loses_50 : decode cX9_loses 50 = .ok (.iastore, 1) := by decide +kernel
theorem dX9_loses_51 : decode cX9_loses 51 = .ok (.iconst 0, 1) := by decide +kernel
theorem dX9_loses_52 : decode cX9_loses 52 = .ok (.istore 4, 2) := by decide +kernel
theorem dX9_loses_54 : decode cX9_loses 54 = .ok (.iload 4, 2) := by decide +kernel
theorem dX9_loses_56 : decode cX9_loses 56 = .ok (.iconst 4, 1) := by decide +kernel
theorem dX9_loses_57 : decode cX9_loses 57 = .ok (.if_icmp .ge 30, 3) := by decide +kernel
theorem dX9_loses_60 : decode cX9_loses 60 = .ok (.iload_n 2, 1) := by decide +kernel
theorem dX9_loses_61 : decode cX9_loses 61 = .ok (.iconst 2, 1) := by decide +kernel
theorem dX9_loses_62 : decode cX9_loses 62 = .ok (.if_icmp .ne 25, 3) := by decide +kernel
theorem dX9_loses_65 : decode cX9_loses 65 = .ok (.aload_n 0, 1) := by decide +kernel
theorem dX9_loses_66 : decode cX9_loses 66 = .ok (.getfield 7, 3) := by decide +kernel
theorem dX9_loses_69 : decode cX9_loses 69 = .ok (.sipush 512, 3) := by decide +kernel
theorem dX9_loses_72 : decode cX9_loses 72 = .ok (.iconst 4, 1) := by decide +kernel
theorem dX9_loses_73 : decode cX9_loses 73 = .ok (.iload_n 3, 1) := by decide +kernel
theorem dX9_loses_74 : decode cX9_loses 74 = .ok (.imul, 1) := by decide +kernel
theorem dX9_loses_75 : decode cX9_loses 75 = .ok (.iadd, 1) := by decide +kernel
theorem dX9_loses_76 : decode cX9_loses 76 = .ok (.iload 4, 2) := by decide +kernel
theorem dX9_loses_78 : decode cX9_loses 78 = .ok (.iadd, 1) := by decide +kernel
theorem dX9_loses_79 : decode cX9_loses 79 = .ok (.iconst 1, 1) := by decide +kernel
theorem dX9_loses_80 : decode cX9_loses 80 = .ok (.iastore, 1) := by decide +kernel
theorem dX9_loses_81 : decode cX9_loses 81 = .ok (.iinc 4 1, 3) := by decide +kernel
theorem dX9_loses_84 : decode cX9_loses 84 = .ok (.goto (-30), 3) := by decide +kernel
theorem dX9_loses_87 : decode cX9_loses 87 = .ok (.aload_n 0, 1) := by decide +kernel
theorem dX9_loses_88 : decode cX9_loses 88 = .ok (.iload_n 1, 1) := by decide +kernel
theorem dX9_loses_89 : decode cX9_loses 89 = .ok (.invokevirtual 57, 3) := by decide +kernel
theorem dX9_loses_92 : decode cX9_loses 92 = .ok (.iload_n 2, 1) := by decide +kernel
theorem dX9_loses_93 : decode cX9_loses 93 = .ok (.ifCond .le 7, 3) := by decide +kernel
theorem dX9_loses_96 : decode cX9_loses 96 = .ok (.iconst 1, 1) := by decide +kernel
theorem dX9_loses_97 : decode cX9_loses 97 = .ok (.goto 4, 3) := by decide +kernel
theorem dX9_loses_100 : decode cX9_loses 100 = .ok (.iconst 0, 1) := by decide +kernel
theorem dX9_loses_101 : decode cX9_loses 101 = .ok (.ireturn, 1) := by decide +kernel
theorem dX9_cut_0 : decode cX9_cut 0 = .ok (.aload_n 0, 1) := by decide +kernel
theorem dX9_cut_1 : decode cX9_cut 1 = .ok (.iconst 0, 1) := by decide +kernel
theorem dX9_cut_2 : decode cX9_cut 2 = .ok (.putfield 31, 3) := by decide +kernel
theorem dX9_cut_5 : decode cX9_cut 5 = .ok (.aload_n 0, 1) := by decide +kernel
theorem dX9_cut_6 : decode cX9_cut 6 = .ok (.invokevirtual 145, 3) := by decide +kernel
theorem dX9_cut_9 : decode cX9_cut 9 = .ok (.aload_n 0, 1) := by decide +kernel
theorem dX9_cut_10 : decode cX9_cut 10 = .ok (.iconst 0, 1) := by decide +kernel
theorem dX9_cut_11 : decode cX9_cut 11 = .ok (.invokevirtual 163, 3) := by decide +kernel
theorem dX9_cut_14 : decode cX9_cut 14 = .ok (.aload_n 0, 1) := by decide +kernel
theorem dX9_cut_15 : decode cX9_cut 15 = .ok (.iconst 1, 1) := by decide +kernel
theorem dX9_cut_16 : decode cX9_cut 16 = .ok (.invokevirtual 163, 3) := by decide +kernel
theorem dX9_cut_19 : decode cX9_cut 19 = .ok (.iadd, 1) := by decide +kernel
theorem dX9_cut_20 : decode cX9_cut 20 = .ok (.istore_n 1, 1) := by decide +kernel
theorem dX9_cut_21 : decode cX9_cut 21 = .ok (.aload_n 0, 1) := by decide +kernel
theorem dX9_cut_22 : decode cX9_cut 22 = .ok (.getfield 7, 3) := by decide +kernel
theorem dX9_cut_25 : decode cX9_cut 25 = .ok (.sipush 564, 3) := by decide +kernel
theorem dX9_cut_28 : decode cX9_cut 28 = .ok (.dup2, 1) := by decide +kernel
theorem dX9_cut_29 : decode cX9_cut 29 = .ok (.iaload, 1) := by decide +kernel
theorem dX9_cut_30 : decode cX9_cut 30 = .ok (.iload_n 1, 1) := by decide +kernel
theorem dX9_cut_31 : decode cX9_cut 31 = .ok (.iadd, 1) := by decide +kernel
theorem dX9_cut_32 : decode cX9_cut 32 = .ok (.iastore, 1) := by decide +kernel
theorem dX9_cut_33 : decode cX9_cut 33 = .ok (.aload_n 0, 1) := by decide +kernel
theorem dX9_cut_34 : decode cX9_cut 34 = .ok (.getfield 7, 3) := by decide +kernel
theorem dX9_cut_37 : decode cX9_cut 37 = .ok (.sipush 552, 3) := by decide +kernel
theorem dX9_cut_40 : decode cX9_cut 40 = .ok (.iconst 0, 1) := by decide +kernel
theorem dX9_cut_41 : decode cX9_cut 41 = .ok (.iastore, 1) := by decide +kernel
theorem dX9_cut_42 : decode cX9_cut 42 = .ok (.aload_n 0, 1) := by decide +kernel
theorem dX9_cut_43 : decode cX9_cut 43 = .ok (.getfield 7, 3) := by decide +kernel
theorem dX9_cut_46 : decode cX9_cut 46 = .ok (.sipush 553, 3) := by decide +kernel
theorem dX9_cut_49 : decode cX9_cut 49 = .ok (.iconst 0, 1) := by decide +kernel
theorem dX9_cut_50 : decode cX9_cut 50 = .ok (.iastore, 1) := by decide +kernel
theorem dX9_cut_51 : decode cX9_cut 51 = .ok (.aload_n 0, 1) := by decide +kernel
theorem dX9_cut_52 : decode cX9_cut 52 = .ok (.invokevirtual 148, 3) := by decide +kernel
theorem dX9_cut_55 : decode cX9_cut 55 = .ok (.iload_n 1, 1) := by decide +kernel
theorem dX9_cut_56 : decode cX9_cut 56 = .ok (.ireturn, 1) := by decide +kernel
theorem dX9_posts_0 : decode cX9_posts 0 = .ok (.aload_n 0, 1) := by decide +kernel
theorem dX9_posts_1 : decode cX9_posts 1 = .ok (.getfield 7, 3) := by decide +kernel
theorem dX9_posts_4 : decode cX9_posts 4 = .ok (.sipush 580, 3) := by decide +kernel
theorem dX9_posts_7 : decode cX9_posts 7 = .ok (.iaload, 1) := by decide +kernel
theorem dX9_posts_8 : decode cX9_posts 8 = .ok (.istore 4, 2) := by decide +kernel
theorem dX9_posts_10 : decode cX9_posts 10 = .ok (.iload 4, 2) := by decide +kernel
theorem dX9_posts_12 : decode cX9_posts 12 = .ok (.ifCond .le 65, 3) := by decide +kernel
theorem dX9_posts_15 : decode cX9_posts 15 = .ok (.aload_n 0, 1) := by decide +kernel
theorem dX9_posts_16 : decode cX9_posts 16 = .ok (.iload 4, 2) := by decide +kernel
theorem dX9_posts_18 : decode cX9_posts 18 = .ok (.iconst 1, 1) := by decide +kernel
theorem dX9_posts_19 : decode cX9_posts 19 = .ok (.isub, 1) := by decide +kernel
theorem dX9_posts_20 : decode cX9_posts 20 = .ok (.iconst 3, 1) := by decide +kernel
theorem dX9_posts_21 : decode cX9_posts 21 = .ok (.invokevirtual 53, 3) := by decide +kernel
theorem dX9_posts_24 : decode cX9_posts 24 = .ok (.iload_n 3, 1) := by decide +kernel
theorem dX9_posts_25 : decode cX9_posts 25 = .ok (.if_icmp .ge 52, 3) := by decide +kernel
theorem dX9_posts_28 : decode cX9_posts 28 = .ok (.iconst 0, 1) := by decide +kernel
theorem dX9_posts_29 : decode cX9_posts 29 = .ok (.istore 5, 2) := by decide +kernel
theorem dX9_posts_31 : decode cX9_posts 31 = .ok (.iload 5, 2) := by decide +kernel
theorem dX9_posts_33 : decode cX9_posts 33 = .ok (.bipush 18, 2) := by decide +kernel
theorem dX9_posts_35 : decode cX9_posts 35 = .ok (.if_icmp .ge 36, 3) := by decide +kernel
theorem dX9_posts_38 : decode cX9_posts 38 = .ok (.aload_n 0, 1) := by decide +kernel
theorem dX9_posts_39 : decode cX9_posts 39 = .ok (.getfield 7, 3) := by decide +kernel
theorem dX9_posts_42 : decode cX9_posts 42 = .ok (.sipush 617, 3) := by decide +kernel
theorem dX9_posts_45 : decode cX9_posts 45 = .ok (.bipush 18, 2) := by decide +kernel
theorem dX9_posts_47 : decode cX9_posts 47 = .ok (.iload 4, 2) := by decide +kernel
theorem dX9_posts_49 : decode cX9_posts 49 = .ok (.imul, 1) := by decide +kernel
theorem dX9_posts_50 : decode cX9_posts 50 = .ok (.iadd, 1) := by decide +kernel
theorem dX9_posts_51 : decode cX9_posts 51 = .ok (.iload 5, 2) := by decide +kernel
theorem dX9_posts_53 : decode cX9_posts 53 = .ok (.iadd, 1) := by decide +kernel
theorem dX9_posts_54 : decode cX9_posts 54 = .ok (.aload_n 0, 1) := by decide +kernel
theorem dX9_posts_55 : decode cX9_posts 55 = .ok (.iload 4, 2) := by decide +kernel
theorem dX9_posts_57 : decode cX9_posts 57 = .ok (.iconst 1, 1) := by decide +kernel
theorem dX9_posts_58 : decode cX9_posts 58 = .ok (.isub, 1) := by decide +kernel
theorem dX9_posts_59 : decode cX9_posts 59 = .ok (.iload 5, 2) := by decide +kernel
theorem dX9_posts_61 : decode cX9_posts 61 = .ok (.invokevirtual 53, 3) := by decide +kernel
theorem dX9_posts_64 : decode cX9_posts 64 = .ok (.iastore, 1) := by decide +kernel
theorem dX9_posts_65 : decode cX9_posts 65 = .ok (.iinc 5 1, 3) := by decide +kernel
theorem dX9_posts_68 : decode cX9_posts 68 = .ok (.goto (-37), 3) := by decide +kernel
theorem dX9_posts_71 : decode cX9_posts 71 = .ok (.iinc 4 (-1), 3) := by decide +kernel
theorem dX9_posts_74 : decode cX9_posts 74 = .ok (.goto (-64), 3) := by decide +kernel
theorem dX9_posts_77 : decode cX9_posts 77 = .ok (.sipush 617, 3) := by decide +kernel
theorem dX9_posts_80 : decode cX9_posts 80 = .ok (.bipush 18, 2) := by decide +kernel
theorem dX9_posts_82 : decode cX9_posts 82 = .ok (.iload 4, 2) := by decide +kernel
theorem dX9_posts_84 : decode cX9_posts 84 = .ok (.imul, 1) := by decide +kernel
theorem dX9_posts_85 : decode cX9_posts 85 = .ok (.iadd, 1) := by decide +kernel
theorem dX9_posts_86 : decode cX9_posts 86 = .ok (.istore 5, 2) := by decide +kernel
theorem dX9_posts_88 : decode cX9_posts 88 = .ok (.aload_n 0, 1) := by decide +kernel
theorem dX9_posts_89 : decode cX9_posts 89 = .ok (.getfield 7, 3) := by decide +kernel
theorem dX9_posts_92 : decode cX9_posts 92 = .ok (.iload 5, 2) := by decide +kernel
theorem dX9_posts_94 : decode cX9_posts 94 = .ok (.iconst 0, 1) := by decide +kernel
theorem dX9_posts_95 : decode cX9_posts 95 = .ok (.iadd, 1) := by decide +kernel
theorem dX9_posts_96 : decode cX9_posts 96 = .ok (.aload_n 0, 1) := by decide +kernel
theorem dX9_posts_97 : decode cX9_posts 97 = .ok (.getfield 7, 3) := by decide +kernel
theorem dX9_posts_100 : decode cX9_posts 100 = .ok (.sipush 566, 3) := by decide +kernel
theorem dX9_posts_103 : decode cX9_posts 103 = .ok (.iaload, 1) := by decide +kernel
theorem dX9_posts_104 : decode cX9_posts 104 = .ok (.iastore, 1) := by decide +kernel
theorem dX9_posts_105 : decode cX9_posts 105 = .ok (.aload_n 0, 1) := by decide +kernel
theorem dX9_posts_106 : decode cX9_posts 106 = .ok (.getfield 7, 3) := by decide +kernel
theorem dX9_posts_109 : decode cX9_posts 109 = .ok (.iload 5, 2) := by decide +kernel
theorem dX9_posts_111 : decode cX9_posts 111 = .ok (.iconst 1, 1) := by decide +kernel
theorem dX9_posts_112 : decode cX9_posts 112 = .ok (.iadd, 1) := by decide +kernel
theorem dX9_posts_113 : decode cX9_posts 113 = .ok (.iload_n 1, 1) := by decide +kernel
theorem dX9_posts_114 : decode cX9_posts 114 = .ok (.iastore, 1) := by decide +kernel
theorem dX9_posts_115 : decode cX9_posts 115 = .ok (.aload_n 0, 1) := by decide +kernel
theorem dX9_posts_116 : decode cX9_posts 116 = .ok (.getfield 7, 3) := by decide +kernel
theorem dX9_posts_119 : decode cX9_posts 119 = .ok (.iload 5, 2) := by decide +kernel
theorem dX9_posts_121 : decode cX9_posts 121 = .ok (.iconst 2, 1) := by decide +kernel
theorem dX9_posts_122 : decode cX9_posts 122 = .ok (.iadd, 1) := by decide +kernel
theorem dX9_posts_123 : decode cX9_posts 123 = .ok (.iload_n 2, 1) := by decide +kernel
theorem dX9_posts_124 : decode cX9_posts 124 = .ok (.iastore, 1) := by decide +kernel
theorem dX9_posts_125 : decode cX9_posts 125 = .ok (.aload_n 0, 1) := by decide +kernel
theorem dX9_posts_126 : decode cX9_posts 126 = .ok (.getfield 7, 3) := by decide +kernel
theorem dX9_posts_129 : decode cX9_posts 129 = .ok (.iload 5, 2) := by decide +kernel
theorem dX9_posts_131 : decode cX9_posts 131 = .ok (.iconst 3, 1) := by decide +kernel
theorem dX9_posts_132 : decode cX9_posts 132 = .ok (.iadd, 1) := by decide +kernel
theorem dX9_posts_133 : decode cX9_posts 133 = .ok (.iload_n 3, 1) := by decide +kernel
theorem dX9_posts_134 : decode cX9_posts 134 = .ok (.iastore, 1) := by decide +kernel
theorem dX9_posts_135 : decode cX9_posts 135 = .ok (.aload_n 0, 1) := by decide +kernel
theorem dX9_posts_136 : decode cX9_posts 136 = .ok (.getfield 7, 3) := by decide +kernel
theorem dX9_posts_139 : decode cX9_posts 139 = .ok (.iload 5, 2) := by decide +kernel
theorem dX9_posts_141 : decode cX9_posts 141 = .ok (.iconst 4, 1) := by decide +kernel
theorem dX9_posts_142 : decode cX9_posts 142 = .ok (.iadd, 1) := by decide +kernel
theorem dX9_posts_143 : decode cX9_posts 143 = .ok (.aload_n 0, 1) := by decide +kernel
theorem dX9_posts_144 : decode cX9_posts 144 = .ok (.getfield 7, 3) := by decide +kernel
theorem dX9_posts_147 : decode cX9_posts 147 = .ok (.sipush 561, 3) := by decide +kernel
theorem dX9_posts_150 : decode cX9_posts 150 = .ok (.iaload, 1) := by decide +kernel
theorem dX9_posts_151 : decode cX9_posts 151 = .ok (.iastore, 1) := by decide +kernel
theorem dX9_posts_152 : decode cX9_posts 152 = .ok (.iconst 5, 1) := by decide +kernel
theorem dX9_posts_153 : decode cX9_posts 153 = .ok (.istore 6, 2) := by decide +kernel
theorem dX9_posts_155 : decode cX9_posts 155 = .ok (.iload 6, 2) := by decide +kernel
theorem dX9_posts_157 : decode cX9_posts 157 = .ok (.bipush 18, 2) := by decide +kernel
theorem dX9_posts_159 : decode cX9_posts 159 = .ok (.if_icmp .ge 20, 3) := by decide +kernel
theorem dX9_posts_162 : decode cX9_posts 162 = .ok (.aload_n 0, 1) := by decide +kernel
theorem dX9_posts_163 : decode cX9_posts 163 = .ok (.getfield 7, 3) := by decide +kernel
theorem dX9_posts_166 : decode cX9_posts 166 = .ok (.iload 5, 2) := by decide +kernel
theorem dX9_posts_168 : decode cX9_posts 168 = .ok (.iload 6, 2) := by decide +kernel
theorem dX9_posts_170 : decode cX9_posts 170 = .ok (.iadd, 1) := by decide +kernel
theorem dX9_posts_171 : decode cX9_posts 171 = .ok (.iconst 0, 1) := by decide +kernel
theorem dX9_posts_172 : decode cX9_posts 172 = .ok (.iastore, 1) := by decide +kernel
theorem dX9_posts_173 : decode cX9_posts 173 = .ok (.iinc 6 1, 3) := by decide +kernel
theorem dX9_posts_176 : decode cX9_posts 176 = .ok (.goto (-21), 3) := by decide +kernel
theorem dX9_posts_179 : decode cX9_posts 179 = .ok (.aload_n 0, 1) := by decide +kernel
theorem dX9_posts_180 : decode cX9_posts 180 = .ok (.getfield 7, 3) := by decide +kernel
theorem dX9_posts_183 : decode cX9_posts 183 = .ok (.sipush 580, 3) := by decide +kernel
theorem dX9_posts_186 : decode cX9_posts 186 = .ok (.dup2, 1) := by decide +kernel
theorem dX9_posts_187 : decode cX9_posts 187 = .ok (.iaload, 1) := by decide +kernel
theorem dX9_posts_188 : decode cX9_posts 188 = .ok (.iconst 1, 1) := by decide +kernel
theorem dX9_posts_189 : decode cX9_posts 189 = .ok (.iadd, 1) := by decide +kernel
theorem dX9_posts_190 : decode cX9_posts 190 = .ok (.iastore, 1) := by decide +kernel
theorem dX9_posts_191 : decode cX9_posts 191 = .ok (.aload_n 0, 1) := by decide +kernel
theorem dX9_posts_192 : decode cX9_posts 192 = .ok (.getfield 7, 3) := by decide +kernel
theorem dX9_posts_195 : decode cX9_posts 195 = .ok (.sipush 566, 3) := by decide +kernel
theorem dX9_posts_198 : decode cX9_posts 198 = .ok (.dup2, 1) := by decide +kernel
theorem dX9_posts_199 : decode cX9_posts 199 = .ok (.iaload, 1) := by decide +kernel
theorem dX9_posts_200 : decode cX9_posts 200 = .ok (.iconst 1, 1) := by decide +kernel
theorem dX9_posts_201 : decode cX9_posts 201 = .ok (.iadd, 1) := by decide +kernel
theorem dX9_posts_202 : decode cX9_posts 202 = .ok (.iastore, 1) := by decide +kernel
theorem dX9_posts_203 : decode cX9_posts 203 = .ok (.iload 5, 2) := by decide +kernel
theorem dX9_posts_205 : decode cX9_posts 205 = .ok (.ireturn, 1) := by decide +kernel
theorem dX9_post_0 : decode cX9_post 0 = .ok (.aload_n 0, 1) := by decide +kernel
theorem dX9_post_1 : decode cX9_post 1 = .ok (.iconst 0, 1) := by decide +kernel
theorem dX9_post_2 : decode cX9_post 2 = .ok (.putfield 31, 3) := by decide +kernel
theorem dX9_post_5 : decode cX9_post 5 = .ok (.iload_n 1, 1) := by decide +kernel
theorem dX9_post_6 : decode cX9_post 6 = .ok (.iconst 0, 1) := by decide +kernel
theorem dX9_post_7 : decode cX9_post 7 = .ok (.iconst 1, 1) := by decide +kernel
theorem dX9_post_8 : decode cX9_post 8 = .ok (.invokestatic 42, 3) := by decide +kernel
theorem dX9_post_11 : decode cX9_post 11 = .ok (.ifCond .eq 13, 3) := by decide +kernel
theorem dX9_post_14 : decode cX9_post 14 = .ok (.iload_n 3, 1) := by decide +kernel
theorem dX9_post_15 : decode cX9_post 15 = .ok (.iconst 0, 1) := by decide +kernel
theorem dX9_post_16 : decode cX9_post 16 = .ok (.bipush 9, 2) := by decide +kernel
theorem dX9_post_18 : decode cX9_post 18 = .ok (.invokestatic 42, 3) := by decide +kernel
theorem dX9_post_21 : decode cX9_post 21 = .ok (.ifCond .ne 9, 3) := by decide +kernel
theorem dX9_post_24 : decode cX9_post 24 = .ok (.aload_n 0, 1) := by decide +kernel
theorem dX9_post_25 : decode cX9_post 25 = .ok (.iconst 1, 1) := by decide +kernel
theorem dX9_post_26 : decode cX9_post 26 = .ok (.invokevirtual 142, 3) := by decide +kernel
theorem dX9_post_29 : decode cX9_post 29 = .ok (.ireturn, 1) := by decide +kernel
theorem dX9_post_30 : decode cX9_post 30 = .ok (.iload_n 1, 1) := by decide +kernel
theorem dX9_post_31 : decode cX9_post 31 = .ok (.ifCond .ne 13, 3) := by decide +kernel
theorem dX9_post_34 : decode cX9_post 34 = .ok (.iload_n 2, 1) := by decide +kernel
theorem dX9_post_35 : decode cX9_post 35 = .ok (.invokestatic 151, 3) := by decide +kernel
theorem dX9_post_38 : decode cX9_post 38 = .ok (.ifCond .ne 19, 3) := by decide +kernel
theorem dX9_post_41 : decode cX9_post 41 = .ok (.goto 10, 3) := by decide +kernel
theorem dX9_post_44 : decode cX9_post 44 = .ok (.iload_n 2, 1) := by decide +kernel
theorem dX9_post_45 : decode cX9_post 45 = .ok (.invokestatic 157, 3) := by decide +kernel
theorem dX9_post_48 : decode cX9_post 48 = .ok (.ifCond .ne 9, 3) := by decide +kernel
theorem dX9_post_51 : decode cX9_post 51 = .ok (.aload_n 0, 1) := by decide +kernel
theorem dX9_post_52 : decode cX9_post 52 = .ok (.iconst 2, 1) := by decide +kernel
theorem dX9_post_53 : decode cX9_post 53 = .ok (.invokevirtual 142, 3) := by decide +kernel
theorem dX9_post_56 : decode cX9_post 56 = .ok (.ireturn, 1) := by decide +kernel
theorem dX9_post_57 : decode cX9_post 57 = .ok (.aload_n 0, 1) := by decide +kernel
theorem dX9_post_58 : decode cX9_post 58 = .ok (.getfield 7, 3) := by decide +kernel
theorem dX9_post_61 : decode cX9_post 61 = .ok (.sipush 580, 3) := by decide +kernel
theorem dX9_post_64 : decode cX9_post 64 = .ok (.iaload, 1) := by decide +kernel
theorem dX9_post_65 : decode cX9_post 65 = .ok (.bipush 10, 2) := by decide +kernel
theorem dX9_post_67 : decode cX9_post 67 = .ok (.if_icmp .eq 18, 3) := by decide +kernel
theorem dX9_post_70 : decode cX9_post 70 = .ok (.iload_n 1, 1) := by decide +kernel
theorem dX9_post_71 : decode cX9_post 71 = .ok (.ifCond .ne 20, 3) := by decide +kernel
theorem dX9_post_74 : decode cX9_post 74 = .ok (.aload_n 0, 1) := by decide +kernel
theorem dX9_post_75 : decode cX9_post 75 = .ok (.getfield 7, 3) := by decide +kernel
theorem dX9_post_78 : decode cX9_post 78 = .ok (.sipush 567, 3) := by decide +kernel
theorem dX9_post_81 : decode cX9_post 81 = .ok (.iaload, 1) := by decide +kernel
theorem dX9_post_82 : decode cX9_post 82 = .ok (.ifCond .ne 9, 3) := by decide +kernel
theorem dX9_post_85 : decode cX9_post 85 = .ok (.aload_n 0, 1) := by decide +kernel
theorem dX9_post_86 : decode cX9_post 86 = .ok (.iconst 3, 1) := by decide +kernel
theorem dX9_post_87 : decode cX9_post 87 = .ok (.invokevirtual 142, 3) := by decide +kernel
theorem dX9_post_90 : decode cX9_post 90 = .ok (.ireturn, 1) := by decide +kernel
theorem dX9_post_91 : decode cX9_post 91 = .ok (.aload_n 0, 1) := by decide +kernel
theorem dX9_post_92 : decode cX9_post 92 = .ok (.invokevirtual 145, 3) := by decide +kernel
theorem dX9_post_95 : decode cX9_post 95 = .ok (.aload_n 0, 1) := by decide +kernel
theorem dX9_post_96 : decode cX9_post 96 = .ok (.iload_n 1, 1) := by decide +kernel
theorem dX9_post_97 : decode cX9_post 97 = .ok (.iload_n 2, 1) := by decide +kernel
theorem dX9_post_98 : decode cX9_post 98 = .ok (.iload_n 3, 1) := by decide +kernel
theorem dX9_post_99 : decode cX9_post 99 = .ok (.invokevirtual 166, 3) := by decide +kernel
theorem dX9_post_102 : decode cX9_post 102 = .ok (.istore 4, 2) := by decide +kernel
theorem dX9_post_104 : decode cX9_post 104 = .ok (.iload_n 1, 1) := by decide +kernel
theorem dX9_post_105 : decode cX9_post 105 = .ok (.ifCond .ne 64, 3) := by decide +kernel
theorem dX9_post_108 : decode cX9_post 108 = .ok (.aload_n 0, 1) := by decide +kernel
theorem dX9_post_109 : decode cX9_post 109 = .ok (.getfield 7, 3) := by decide +kernel
theorem dX9_post_112 : decode cX9_post 112 = .ok (.iload 4, 2) := by decide +kernel
theorem dX9_post_114 : decode cX9_post 114 = .ok (.iconst 5, 1) := by decide +kernel
theorem dX9_post_115 : decode cX9_post 115 = .ok (.iadd, 1) := by decide +kernel
theorem dX9_post_116 : decode cX9_post 116 = .ok (.aload_n 0, 1) := by decide +kernel
theorem dX9_post_117 : decode cX9_post 117 = .ok (.getfield 7, 3) := by decide +kernel
theorem dX9_post_120 : decode cX9_post 120 = .ok (.sipush 567, 3) := by decide +kernel
theorem dX9_post_123 : decode cX9_post 123 = .ok (.iaload, 1) := by decide +kernel
theorem dX9_post_124 : decode cX9_post 124 = .ok (.iastore, 1) := by decide +kernel
theorem dX9_post_125 : decode cX9_post 125 = .ok (.iconst 0, 1) := by decide +kernel
theorem dX9_post_126 : decode cX9_post 126 = .ok (.istore 5, 2) := by decide +kernel
theorem dX9_post_128 : decode cX9_post 128 = .ok (.iload 5, 2) := by decide +kernel
theorem dX9_post_130 : decode cX9_post 130 = .ok (.bipush 12, 2) := by decide +kernel
theorem dX9_post_132 : decode cX9_post 132 = .ok (.if_icmp .ge 33, 3) := by decide +kernel
theorem dX9_post_135 : decode cX9_post 135 = .ok (.aload_n 0, 1) := by decide +kernel
theorem dX9_post_136 : decode cX9_post 136 = .ok (.getfield 7, 3) := by decide +kernel
theorem dX9_post_139 : decode cX9_post 139 = .ok (.iload 4, 2) := by decide +kernel
theorem dX9_post_141 : decode cX9_post 141 = .ok (.bipush 6, 2) := by decide +kernel
theorem dX9_post_143 : decode cX9_post 143 = .ok (.iadd, 1) := by decide +kernel
theorem dX9_post_144 : decode cX9_post 144 = .ok (.iload 5, 2) := by decide +kernel
theorem dX9_post_146 : decode cX9_post 146 = .ok (.iadd, 1) := by decide +kernel
theorem dX9_post_147 : decode cX9_post 147 = .ok (.aload_n 0, 1) := by decide +kernel
theorem dX9_post_148 : decode cX9_post 148 = .ok (.getfield 7, 3) := by decide +kernel
theorem dX9_post_151 : decode cX9_post 151 = .ok (.sipush 568, 3) := by decide +kernel
theorem dX9_post_154 : decode cX9_post 154 = .ok (.iload 5, 2) := by decide +kernel
theorem dX9_post_156 : decode cX9_post 156 = .ok (.iadd, 1) := by decide +kernel
theorem dX9_post_157 : decode cX9_post 157 = .ok (.iaload, 1) := by decide +kernel
theorem dX9_post_158 : decode cX9_post 158 = .ok (.iastore, 1) := by decide +kernel
theorem dX9_post_159 : decode cX9_post 159 = .ok (.iinc 5 1, 3) := by decide +kernel
theorem dX9_post_162 : decode cX9_post 162 = .ok (.goto (-34), 3) := by decide +kernel
theorem dX9_post_165 : decode cX9_post 165 = .ok (.aload_n 0, 1) := by decide +kernel
theorem dX9_post_166 : decode cX9_post 166 = .ok (.invokevirtual 148, 3) := by decide +kernel
theorem dX9_post_169 : decode cX9_post 169 = .ok (.aload_n 0, 1) := by decide +kernel
theorem dX9_post_170 : decode cX9_post 170 = .ok (.getfield 7, 3) := by decide +kernel
theorem dX9_post_173 : decode cX9_post 173 = .ok (.sipush 566, 3) := by decide +kernel
theorem dX9_post_176 : decode cX9_post 176 = .ok (.iaload, 1) := by decide +kernel
theorem dX9_post_177 : decode cX9_post 177 = .ok (.iconst 1, 1) := by decide +kernel
theorem dX9_post_178 : decode cX9_post 178 = .ok (.isub, 1) := by decide +kernel
theorem dX9_post_179 : decode cX9_post 179 = .ok (.ireturn, 1) := by decide +kernel
theorem dX9_rankOf_0 : decode cX9_rankOf 0 = .ok (.iconst (-1), 1) := by decide +kernel
theorem dX9_rankOf_1 : decode cX9_rankOf 1 = .ok (.istore_n 2, 1) := by decide +kernel
theorem dX9_rankOf_2 : decode cX9_rankOf 2 = .ok (.iconst 0, 1) := by decide +kernel
theorem dX9_rankOf_3 : decode cX9_rankOf 3 = .ok (.istore_n 3, 1) := by decide +kernel
theorem dX9_rankOf_4 : decode cX9_rankOf 4 = .ok (.iload_n 3, 1) := by decide +kernel
theorem dX9_rankOf_5 : decode cX9_rankOf 5 = .ok (.aload_n 0, 1) := by decide +kernel
theorem dX9_rankOf_6 : decode cX9_rankOf 6 = .ok (.getfield 7, 3) := by decide +kernel
theorem dX9_rankOf_9 : decode cX9_rankOf 9 = .ok (.sipush 580, 3) := by decide +kernel
theorem dX9_rankOf_12 : decode cX9_rankOf 12 = .ok (.iaload, 1) := by decide +kernel
theorem dX9_rankOf_13 : decode cX9_rankOf 13 = .ok (.if_icmp .ge 25, 3) := by decide +kernel
theorem dX9_rankOf_16 : decode cX9_rankOf 16 = .ok (.aload_n 0, 1) := by decide +kernel
theorem dX9_rankOf_17 : decode cX9_rankOf 17 = .ok (.iload_n 3, 1) := by decide +kernel
theorem dX9_rankOf_18 : decode cX9_rankOf 18 = .ok (.iconst 0, 1) := by decide +kernel
theorem dX9_rankOf_19 : decode cX9_rankOf 19 = .ok (.invokevirtual 53, 3) := by decide +kernel
theorem dX9_rankOf_22 : decode cX9_rankOf 22 = .ok (.iload_n 1, 1) := by decide +kernel
theorem dX9_rankOf_23 : decode cX9_rankOf 23 = .ok (.if_icmp .ne 7, 3) := by decide +kernel
theorem dX9_rankOf_26 : decode cX9_rankOf 26 = .ok (.iload_n 3, 1) := by decide +kernel
theorem dX9_rankOf_27 : decode cX9_rankOf 27 = .ok (.goto 4, 3) := by decide +kernel
theorem dX9_rankOf_30 : decode cX9_rankOf 30 = .ok (.iload_n 2, 1) := by decide +kernel
theorem dX9_rankOf_31 : decode cX9_rankOf 31 = .ok (.istore_n 2, 1) := by decide +kernel
theorem dX9_rankOf_32 : decode cX9_rankOf 32 = .ok (.iinc 3 1, 3) := by decide +kernel
theorem dX9_rankOf_35 : decode cX9_rankOf 35 = .ok (.goto (-31), 3) := by decide +kernel
theorem dX9_rankOf_38 : decode cX9_rankOf 38 = .ok (.iload_n 2, 1) := by decide +kernel
theorem dX9_rankOf_39 : decode cX9_rankOf 39 = .ok (.ireturn, 1) := by decide +kernel
theorem dX9_withdraw_0 : decode cX9_withdraw 0 = .ok (.aload_n 0, 1) := by decide +kernel
theorem dX9_withdraw_1 : decode cX9_withdraw 1 = .ok (.iconst 0, 1) := by decide +kernel
theorem dX9_withdraw_2 : decode cX9_withdraw 2 = .ok (.putfield 31, 3) := by decide +kernel
theorem dX9_withdraw_5 : decode cX9_withdraw 5 = .ok (.aload_n 0, 1) := by decide +kernel
theorem dX9_withdraw_6 : decode cX9_withdraw 6 = .ok (.iload_n 1, 1) := by decide +kernel
theorem dX9_withdraw_7 : decode cX9_withdraw 7 = .ok (.invokevirtual 170, 3) := by decide +kernel
theorem dX9_withdraw_10 : decode cX9_withdraw 10 = .ok (.istore_n 2, 1) := by decide +kernel
theorem dX9_withdraw_11 : decode cX9_withdraw 11 = .ok (.iload_n 2, 1) := by decide +kernel
theorem dX9_withdraw_12 : decode cX9_withdraw 12 = .ok (.iconst (-1), 1) := by decide +kernel
theorem dX9_withdraw_13 : decode cX9_withdraw 13 = .ok (.if_icmp .ne 9, 3) := by decide +kernel
theorem dX9_withdraw_16 : decode cX9_withdraw 16 = .ok (.aload_n 0, 1) := by decide +kernel
theorem dX9_withdraw_17 : decode cX9_withdraw 17 = .ok (.iconst 1, 1) := by decide +kernel
theorem dX9_withdraw_18 : decode cX9_withdraw 18 = .ok (.invokevirtual 142, 3) := by decide +kernel
theorem dX9_withdraw_21 : decode cX9_withdraw 21 = .ok (.ireturn, 1) := by decide +kernel
theorem dX9_withdraw_22 : decode cX9_withdraw 22 = .ok (.aload_n 0, 1) := by decide +kernel
theorem dX9_withdraw_23 : decode cX9_withdraw 23 = .ok (.invokevirtual 145, 3) := by decide +kernel
theorem dX9_withdraw_26 : decode cX9_withdraw 26 = .ok (.aload_n 0, 1) := by decide +kernel
theorem dX9_withdraw_27 : decode cX9_withdraw 27 = .ok (.iload_n 2, 1) := by decide +kernel
theorem dX9_withdraw_28 : decode cX9_withdraw 28 = .ok (.invokevirtual 75, 3) := by decide +kernel
