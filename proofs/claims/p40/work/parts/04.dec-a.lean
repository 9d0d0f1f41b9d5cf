theorem dX0_init_0 : decode cX0_init 0 = .ok (.aload_n 0, 1) := by decide +kernel
theorem dX0_init_1 : decode cX0_init 1 = .ok (.invokespecial 3, 3) := by decide +kernel
theorem dX0_init_4 : decode cX0_init 4 = .ok (.aload_n 0, 1) := by decide +kernel
theorem dX0_init_5 : decode cX0_init 5 = .ok (.sipush 256, 3) := by decide +kernel
theorem dX0_init_8 : decode cX0_init 8 = .ok (.newarray .int, 2) := by decide +kernel
theorem dX0_init_10 : decode cX0_init 10 = .ok (.putfield 9, 3) := by decide +kernel
theorem dX0_init_13 : decode cX0_init 13 = .ok (.aload_n 0, 1) := by decide +kernel
theorem dX0_init_14 : decode cX0_init 14 = .ok (.sipush 256, 3) := by decide +kernel
theorem dX0_init_17 : decode cX0_init 17 = .ok (.newarray .int, 2) := by decide +kernel
theorem dX0_init_19 : decode cX0_init 19 = .ok (.putfield 15, 3) := by decide +kernel
theorem dX0_init_22 : decode cX0_init 22 = .ok (.aload_n 0, 1) := by decide +kernel
theorem dX0_init_23 : decode cX0_init 23 = .ok (.bipush 8, 2) := by decide +kernel
theorem dX0_init_25 : decode cX0_init 25 = .ok (.newarray .int, 2) := by decide +kernel
theorem dX0_init_27 : decode cX0_init 27 = .ok (.putfield 18, 3) := by decide +kernel
theorem dX0_init_30 : decode cX0_init 30 = .ok (.aload_n 0, 1) := by decide +kernel
theorem dX0_init_31 : decode cX0_init 31 = .ok (.iconst 0, 1) := by decide +kernel
theorem dX0_init_32 : decode cX0_init 32 = .ok (.putfield 21, 3) := by decide +kernel
theorem dX0_init_35 : decode cX0_init 35 = .ok (.aload_n 0, 1) := by decide +kernel
theorem dX0_init_36 : decode cX0_init 36 = .ok (.getfield 9, 3) := by decide +kernel
theorem dX0_init_39 : decode cX0_init 39 = .ok (.sipush 255, 3) := by decide +kernel
theorem dX0_init_42 : decode cX0_init 42 = .ok (.invokestatic 25, 3) := by decide +kernel
theorem dX0_init_45 : decode cX0_init 45 = .ok (.return_, 1) := by decide +kernel
theorem dX0_become_0 : decode cX0_become 0 = .ok (.aload_n 1, 1) := by decide +kernel
theorem dX0_become_1 : decode cX0_become 1 = .ok (.getfield 9, 3) := by decide +kernel
theorem dX0_become_4 : decode cX0_become 4 = .ok (.iconst 0, 1) := by decide +kernel
theorem dX0_become_5 : decode cX0_become 5 = .ok (.aload_n 0, 1) := by decide +kernel
theorem dX0_become_6 : decode cX0_become 6 = .ok (.getfield 9, 3) := by decide +kernel
theorem dX0_become_9 : decode cX0_become 9 = .ok (.iconst 0, 1) := by decide +kernel
theorem dX0_become_10 : decode cX0_become 10 = .ok (.aload_n 0, 1) := by decide +kernel
theorem dX0_become_11 : decode cX0_become 11 = .ok (.getfield 9, 3) := by decide +kernel
theorem dX0_become_14 : decode cX0_become 14 = .ok (.arraylength, 1) := by decide +kernel
theorem dX0_become_15 : decode cX0_become 15 = .ok (.aload_n 1, 1) := by decide +kernel
theorem dX0_become_16 : decode cX0_become 16 = .ok (.getfield 9, 3) := by decide +kernel
theorem dX0_become_19 : decode cX0_become 19 = .ok (.arraylength, 1) := by decide +kernel
theorem dX0_become_20 : decode cX0_become 20 = .ok (.invokestatic 31, 3) := by decide +kernel
theorem dX0_become_23 : decode cX0_become 23 = .ok (.invokestatic 37, 3) := by decide +kernel
theorem dX0_become_26 : decode cX0_become 26 = .ok (.aload_n 1, 1) := by decide +kernel
theorem dX0_become_27 : decode cX0_become 27 = .ok (.getfield 15, 3) := by decide +kernel
theorem dX0_become_30 : decode cX0_become 30 = .ok (.iconst 0, 1) := by decide +kernel
theorem dX0_become_31 : decode cX0_become 31 = .ok (.aload_n 0, 1) := by decide +kernel
theorem dX0_become_32 : decode cX0_become 32 = .ok (.getfield 15, 3) := by decide +kernel
theorem dX0_become_35 : decode cX0_become 35 = .ok (.iconst 0, 1) := by decide +kernel
theorem dX0_become_36 : decode cX0_become 36 = .ok (.aload_n 0, 1) := by decide +kernel
theorem dX0_become_37 : decode cX0_become 37 = .ok (.getfield 15, 3) := by decide +kernel
theorem dX0_become_40 : decode cX0_become 40 = .ok (.arraylength, 1) := by decide +kernel
theorem dX0_become_41 : decode cX0_become 41 = .ok (.aload_n 1, 1) := by decide +kernel
theorem dX0_become_42 : decode cX0_become 42 = .ok (.getfield 15, 3) := by decide +kernel
theorem dX0_become_45 : decode cX0_become 45 = .ok (.arraylength, 1) := by decide +kernel
theorem dX0_become_46 : decode cX0_become 46 = .ok (.invokestatic 31, 3) := by decide +kernel
theorem dX0_become_49 : decode cX0_become 49 = .ok (.invokestatic 37, 3) := by decide +kernel
theorem dX0_become_52 : decode cX0_become 52 = .ok (.aload_n 1, 1) := by decide +kernel
theorem dX0_become_53 : decode cX0_become 53 = .ok (.getfield 18, 3) := by decide +kernel
theorem dX0_become_56 : decode cX0_become 56 = .ok (.iconst 0, 1) := by decide +kernel
theorem dX0_become_57 : decode cX0_become 57 = .ok (.aload_n 0, 1) := by decide +kernel
theorem dX0_become_58 : decode cX0_become 58 = .ok (.getfield 18, 3) := by decide +kernel
theorem dX0_become_61 : decode cX0_become 61 = .ok (.iconst 0, 1) := by decide +kernel
theorem dX0_become_62 : decode cX0_become 62 = .ok (.aload_n 0, 1) := by decide +kernel
theorem dX0_become_63 : decode cX0_become 63 = .ok (.getfield 18, 3) := by decide +kernel
theorem dX0_become_66 : decode cX0_become 66 = .ok (.arraylength, 1) := by decide +kernel
theorem dX0_become_67 : decode cX0_become 67 = .ok (.aload_n 1, 1) := by decide +kernel
theorem dX0_become_68 : decode cX0_become 68 = .ok (.getfield 18, 3) := by decide +kernel
theorem dX0_become_71 : decode cX0_become 71 = .ok (.arraylength, 1) := by decide +kernel
theorem dX0_become_72 : decode cX0_become 72 = .ok (.invokestatic 31, 3) := by decide +kernel
theorem dX0_become_75 : decode cX0_become 75 = .ok (.invokestatic 37, 3) := by decide +kernel
theorem dX0_become_78 : decode cX0_become 78 = .ok (.aload_n 0, 1) := by decide +kernel
theorem dX0_become_79 : decode cX0_become 79 = .ok (.aload_n 1, 1) := by decide +kernel
theorem dX0_become_80 : decode cX0_become 80 = .ok (.getfield 21, 3) := by decide +kernel
theorem dX0_become_83 : decode cX0_become 83 = .ok (.putfield 21, 3) := by decide +kernel
theorem dX0_become_86 : decode cX0_become 86 = .ok (.return_, 1) := by decide +kernel
theorem dX0_fall_0 : decode cX0_fall 0 = .ok (.aload_n 0, 1) := by decide +kernel
theorem dX0_fall_1 : decode cX0_fall 1 = .ok (.getfield 9, 3) := by decide +kernel
theorem dX0_fall_4 : decode cX0_fall 4 = .ok (.iload_n 1, 1) := by decide +kernel
theorem dX0_fall_5 : decode cX0_fall 5 = .ok (.invokestatic 43, 3) := by decide +kernel
theorem dX0_fall_8 : decode cX0_fall 8 = .ok (.istore_n 3, 1) := by decide +kernel
theorem dX0_fall_9 : decode cX0_fall 9 = .ok (.iload_n 3, 1) := by decide +kernel
theorem dX0_fall_10 : decode cX0_fall 10 = .ok (.iload_n 2, 1) := by decide +kernel
theorem dX0_fall_11 : decode cX0_fall 11 = .ok (.iand, 1) := by decide +kernel
theorem dX0_fall_12 : decode cX0_fall 12 = .ok (.istore 4, 2) := by decide +kernel
theorem dX0_fall_14 : decode cX0_fall 14 = .ok (.aload_n 0, 1) := by decide +kernel
theorem dX0_fall_15 : decode cX0_fall 15 = .ok (.getfield 9, 3) := by decide +kernel
theorem dX0_fall_18 : decode cX0_fall 18 = .ok (.iload_n 1, 1) := by decide +kernel
theorem dX0_fall_19 : decode cX0_fall 19 = .ok (.iload 4, 2) := by decide +kernel
theorem dX0_fall_21 : decode cX0_fall 21 = .ok (.invokestatic 47, 3) := by decide +kernel
theorem dX0_fall_24 : decode cX0_fall 24 = .ok (.iload_n 3, 1) := by decide +kernel
theorem dX0_fall_25 : decode cX0_fall 25 = .ok (.invokestatic 51, 3) := by decide +kernel
theorem dX0_fall_28 : decode cX0_fall 28 = .ok (.iload 4, 2) := by decide +kernel
theorem dX0_fall_30 : decode cX0_fall 30 = .ok (.invokestatic 51, 3) := by decide +kernel
theorem dX0_fall_33 : decode cX0_fall 33 = .ok (.isub, 1) := by decide +kernel
theorem dX0_fall_34 : decode cX0_fall 34 = .ok (.ireturn, 1) := by decide +kernel
theorem dX0_fallWholly_0 : decode cX0_fallWholly 0 = .ok (.iconst 0, 1) := by decide +kernel
theorem dX0_fallWholly_1 : decode cX0_fallWholly 1 = .ok (.istore_n 2, 1) := by decide +kernel
theorem dX0_fallWholly_2 : decode cX0_fallWholly 2 = .ok (.iconst 0, 1) := by decide +kernel
theorem dX0_fallWholly_3 : decode cX0_fallWholly 3 = .ok (.istore_n 3, 1) := by decide +kernel
theorem dX0_fallWholly_4 : decode cX0_fallWholly 4 = .ok (.iload_n 3, 1) := by decide +kernel
theorem dX0_fallWholly_5 : decode cX0_fallWholly 5 = .ok (.bipush 8, 2) := by decide +kernel
theorem dX0_fallWholly_7 : decode cX0_fallWholly 7 = .ok (.if_icmp .ge 23, 3) := by decide +kernel
theorem dX0_fallWholly_10 : decode cX0_fallWholly 10 = .ok (.iload_n 2, 1) := by decide +kernel
theorem dX0_fallWholly_11 : decode cX0_fallWholly 11 = .ok (.aload_n 0, 1) := by decide +kernel
theorem dX0_fallWholly_12 : decode cX0_fallWholly 12 = .ok (.iload_n 1, 1) := by decide +kernel
theorem dX0_fallWholly_13 : decode cX0_fallWholly 13 = .ok (.bipush 8, 2) := by decide +kernel
theorem dX0_fallWholly_15 : decode cX0_fallWholly 15 = .ok (.imul, 1) := by decide +kernel
theorem dX0_fallWholly_16 : decode cX0_fallWholly 16 = .ok (.iload_n 3, 1) := by decide +kernel
theorem dX0_fallWholly_17 : decode cX0_fallWholly 17 = .ok (.iadd, 1) := by decide +kernel
theorem dX0_fallWholly_18 : decode cX0_fallWholly 18 = .ok (.iconst 0, 1) := by decide +kernel
theorem dX0_fallWholly_19 : decode cX0_fallWholly 19 = .ok (.invokevirtual 57, 3) := by decide +kernel
theorem dX0_fallWholly_22 : decode cX0_fallWholly 22 = .ok (.iadd, 1) := by decide +kernel
theorem dX0_fallWholly_23 : decode cX0_fallWholly 23 = .ok (.istore_n 2, 1) := by decide +kernel
theorem dX0_fallWholly_24 : decode cX0_fallWholly 24 = .ok (.iinc 3 1, 3) := by decide +kernel
theorem dX0_fallWholly_27 : decode cX0_fallWholly 27 = .ok (.goto (-23), 3) := by decide +kernel
theorem dX0_fallWholly_30 : decode cX0_fallWholly 30 = .ok (.iload_n 2, 1) := by decide +kernel
theorem dX0_fallWholly_31 : decode cX0_fallWholly 31 = .ok (.ireturn, 1) := by decide +kernel
theorem dX0_endErase_0 : decode cX0_endErase 0 = .ok (.iload_n 1, 1) := by decide +kernel
theorem dX0_endErase_1 : decode cX0_endErase 1 = .ok (.bipush 32, 2) := by decide +kernel
theorem dX0_endErase_3 : decode cX0_endErase 3 = .ok (.imul, 1) := by decide +kernel
theorem dX0_endErase_4 : decode cX0_endErase 4 = .ok (.istore_n 3, 1) := by decide +kernel
theorem dX0_endErase_5 : decode cX0_endErase 5 = .ok (.iload_n 3, 1) := by decide +kernel
theorem dX0_endErase_6 : decode cX0_endErase 6 = .ok (.istore 4, 2) := by decide +kernel
theorem dX0_endErase_8 : decode cX0_endErase 8 = .ok (.iload 4, 2) := by decide +kernel
theorem dX0_endErase_10 : decode cX0_endErase 10 = .ok (.iload_n 3, 1) := by decide +kernel
theorem dX0_endErase_11 : decode cX0_endErase 11 = .ok (.bipush 32, 2) := by decide +kernel
theorem dX0_endErase_13 : decode cX0_endErase 13 = .ok (.iadd, 1) := by decide +kernel
theorem dX0_endErase_14 : decode cX0_endErase 14 = .ok (.if_icmp .ge 33, 3) := by decide +kernel
theorem dX0_endErase_17 : decode cX0_endErase 17 = .ok (.aload_n 0, 1) := by decide +kernel
theorem dX0_endErase_18 : decode cX0_endErase 18 = .ok (.getfield 9, 3) := by decide +kernel
theorem dX0_endErase_21 : decode cX0_endErase 21 = .ok (.iload 4, 2) := by decide +kernel
theorem dX0_endErase_23 : decode cX0_endErase 23 = .ok (.sipush 255, 3) := by decide +kernel
theorem dX0_endErase_26 : decode cX0_endErase 26 = .ok (.aload_n 0, 1) := by decide +kernel
theorem dX0_endErase_27 : decode cX0_endErase 27 = .ok (.getfield 15, 3) := by decide +kernel
theorem dX0_endErase_30 : decode cX0_endErase 30 = .ok (.iload 4, 2) := by decide +kernel
theorem dX0_endErase_32 : decode cX0_endErase 32 = .ok (.invokestatic 43, 3) := by decide +kernel
theorem dX0_endErase_35 : decode cX0_endErase 35 = .ok (.iconst (-1), 1) := by decide +kernel
theorem dX0_endErase_36 : decode cX0_endErase 36 = .ok (.ixor, 1) := by decide +kernel
theorem dX0_endErase_37 : decode cX0_endErase 37 = .ok (.iand, 1) := by decide +kernel
theorem dX0_endErase_38 : decode cX0_endErase 38 = .ok (.invokestatic 47, 3) := by decide +kernel
theorem dX0_endErase_41 : decode cX0_endErase 41 = .ok (.iinc 4 1, 3) := by decide +kernel
theorem dX0_endErase_44 : decode cX0_endErase 44 = .ok (.goto (-36), 3) := by decide +kernel
theorem dX0_endErase_47 : decode cX0_endErase 47 = .ok (.aload_n 0, 1) := by decide +kernel
theorem dX0_endErase_48 : decode cX0_endErase 48 = .ok (.dup, 1) := by decide +kernel
theorem dX0_endErase_49 : decode cX0_endErase 49 = .ok (.getfield 21, 3) := by decide +kernel
theorem dX0_endErase_52 : decode cX0_endErase 52 = .ok (.iload_n 1, 1) := by decide +kernel
theorem dX0_endErase_53 : decode cX0_endErase 53 = .ok (.invokestatic 60, 3) := by decide +kernel
theorem dX0_endErase_56 : decode cX0_endErase 56 = .ok (.iconst (-1), 1) := by decide +kernel
theorem dX0_endErase_57 : decode cX0_endErase 57 = .ok (.ixor, 1) := by decide +kernel
theorem dX0_endErase_58 : decode cX0_endErase 58 = .ok (.iand, 1) := by decide +kernel
theorem dX0_endErase_59 : decode cX0_endErase 59 = .ok (.putfield 21, 3) := by decide +kernel
theorem dX0_endErase_62 : decode cX0_endErase 62 = .ok (.aload_n 0, 1) := by decide +kernel
theorem dX0_endErase_63 : decode cX0_endErase 63 = .ok (.getfield 18, 3) := by decide +kernel
theorem dX0_endErase_66 : decode cX0_endErase 66 = .ok (.iload_n 1, 1) := by decide +kernel
theorem dX0_endErase_67 : decode cX0_endErase 67 = .ok (.invokestatic 43, 3) := by decide +kernel
theorem dX0_endErase_70 : decode cX0_endErase 70 = .ok (.iconst 1, 1) := by decide +kernel
theorem dX0_endErase_71 : decode cX0_endErase 71 = .ok (.iadd, 1) := by decide +kernel
theorem dX0_endErase_72 : decode cX0_endErase 72 = .ok (.istore 4, 2) := by decide +kernel
theorem dX0_endErase_74 : decode cX0_endErase 74 = .ok (.aload_n 0, 1) := by decide +kernel
theorem dX0_endErase_75 : decode cX0_endErase 75 = .ok (.getfield 18, 3) := by decide +kernel
theorem dX0_endErase_78 : decode cX0_endErase 78 = .ok (.iload_n 1, 1) := by decide +kernel
theorem dX0_endErase_79 : decode cX0_endErase 79 = .ok (.iload 4, 2) := by decide +kernel
theorem dX0_endErase_81 : decode cX0_endErase 81 = .ok (.invokestatic 47, 3) := by decide +kernel
theorem dX0_endErase_84 : decode cX0_endErase 84 = .ok (.iload 4, 2) := by decide +kernel
theorem dX0_endErase_86 : decode cX0_endErase 86 = .ok (.iload_n 2, 1) := by decide +kernel
theorem dX0_endErase_87 : decode cX0_endErase 87 = .ok (.if_icmp .le 65, 3) := by decide +kernel
theorem dX0_endErase_90 : decode cX0_endErase 90 = .ok (.iload_n 3, 1) := by decide +kernel
theorem dX0_endErase_91 : decode cX0_endErase 91 = .ok (.iload 4, 2) := by decide +kernel
theorem dX0_endErase_93 : decode cX0_endErase 93 = .ok (.bipush 32, 2) := by decide +kernel
theorem dX0_endErase_95 : decode cX0_endErase 95 = .ok (.irem, 1) := by decide +kernel
theorem dX0_endErase_96 : decode cX0_endErase 96 = .ok (.iadd, 1) := by decide +kernel
theorem dX0_endErase_97 : decode cX0_endErase 97 = .ok (.istore 5, 2) := by decide +kernel
theorem dX0_endErase_99 : decode cX0_endErase 99 = .ok (.iconst 1, 1) := by decide +kernel
theorem dX0_endErase_100 : decode cX0_endErase 100 = .ok (.iload 4, 2) := by decide +kernel
theorem dX0_endErase_102 : decode cX0_endErase 102 = .ok (.bipush 8, 2) := by decide +kernel
theorem dX0_endErase_104 : decode cX0_endErase 104 = .ok (.irem, 1) := by decide +kernel
theorem dX0_endErase_105 : decode cX0_endErase 105 = .ok (.ishl, 1) := by decide +kernel
theorem dX0_endErase_106 : decode cX0_endErase 106 = .ok (.istore 6, 2) := by decide +kernel
theorem dX0_endErase_108 : decode cX0_endErase 108 = .ok (.aload_n 0, 1) := by decide +kernel
theorem dX0_endErase_109 : decode cX0_endErase 109 = .ok (.getfield 15, 3) := by decide +kernel
theorem dX0_endErase_112 : decode cX0_endErase 112 = .ok (.iload 5, 2) := by decide +kernel
theorem dX0_endErase_114 : decode cX0_endErase 114 = .ok (.aload_n 0, 1) := by decide +kernel
theorem dX0_endErase_115 : decode cX0_endErase 115 = .ok (.getfield 15, 3) := by decide +kernel
theorem dX0_endErase_118 : decode cX0_endErase 118 = .ok (.iload 5, 2) := by decide +kernel
theorem dX0_endErase_120 : decode cX0_endErase 120 = .ok (.invokestatic 43, 3) := by decide +kernel
theorem dX0_endErase_123 : decode cX0_endErase 123 = .ok (.iload 6, 2) := by decide +kernel
theorem dX0_endErase_125 : decode cX0_endErase 125 = .ok (.ior, 1) := by decide +kernel
theorem dX0_endErase_126 : decode cX0_endErase 126 = .ok (.invokestatic 47, 3) := by decide +kernel
theorem dX0_endErase_129 : decode cX0_endErase 129 = .ok (.aload_n 0, 1) := by decide +kernel
theorem dX0_endErase_130 : decode cX0_endErase 130 = .ok (.getfield 9, 3) := by decide +kernel
theorem dX0_endErase_133 : decode cX0_endErase 133 = .ok (.iload 5, 2) := by decide +kernel
theorem dX0_endErase_135 : decode cX0_endErase 135 = .ok (.aload_n 0, 1) := by decide +kernel
theorem dX0_endErase_136 : decode cX0_endErase 136 = .ok (.getfield 9, 3) := by decide +kernel
theorem dX0_endErase_139 : decode cX0_endErase 139 = .ok (.iload 5, 2) := by decide +kernel
theorem dX0_endErase_141 : decode cX0_endErase 141 = .ok (.invokestatic 43, 3) := by decide +kernel
theorem dX0_endErase_144 : decode cX0_endErase 144 = .ok (.iload 6, 2) := by decide +kernel
theorem dX0_endErase_146 : decode cX0_endErase 146 = .ok (.iconst (-1), 1) := by decide +kernel
theorem dX0_endErase_147 : decode cX0_endErase 147 = .ok (.ixor, 1) := by decide +kernel
theorem dX0_endErase_148 : decode cX0_endErase 148 = .ok (.iand, 1) := by decide +kernel
theorem dX0_endErase_149 : decode cX0_endErase 149 = .ok (.invokestatic 47, 3) := by decide +kernel
theorem dX0_endErase_152 : decode cX0_endErase 152 = .ok (.return_, 1) := by decide +kernel
theorem dX0_pagesOf_0 : decode cX0_pagesOf 0 = .ok (.bipush 15, 2) := by decide +kernel
theorem dX0_pagesOf_2 : decode cX0_pagesOf 2 = .ok (.iload_n 0, 1) := by decide +kernel
theorem dX0_pagesOf_3 : decode cX0_pagesOf 3 = .ok (.iconst 4, 1) := by decide +kernel
theorem dX0_pagesOf_4 : decode cX0_pagesOf 4 = .ok (.imul, 1) := by decide +kernel
theorem dX0_pagesOf_5 : decode cX0_pagesOf 5 = .ok (.ishl, 1) := by decide +kernel
theorem dX0_pagesOf_6 : decode cX0_pagesOf 6 = .ok (.ireturn, 1) := by decide +kernel
theorem dX0_doubtPage_0 : decode cX0_doubtPage 0 = .ok (.aload_n 0, 1) := by decide +kernel
theorem dX0_doubtPage_1 : decode cX0_doubtPage 1 = .ok (.dup, 1) := by decide +kernel
theorem dX0_doubtPage_2 : decode cX0_doubtPage 2 = .ok (.getfield 21, 3) := by decide +kernel
theorem dX0_doubtPage_5 : decode cX0_doubtPage 5 = .ok (.iconst 1, 1) := by decide +kernel
theorem dX0_doubtPage_6 : decode cX0_doubtPage 6 = .ok (.iload_n 1, 1) := by decide +kernel
theorem dX0_doubtPage_7 : decode cX0_doubtPage 7 = .ok (.ishl, 1) := by decide +kernel
theorem dX0_doubtPage_8 : decode cX0_doubtPage 8 = .ok (.ior, 1) := by decide +kernel
theorem dX0_doubtPage_9 : decode cX0_doubtPage 9 = .ok (.putfield 21, 3) := by decide +kernel
theorem dX0_doubtPage_12 : decode cX0_doubtPage 12 = .ok (.return_, 1) := by decide +kernel
theorem dX0_doubtSector_0 : decode cX0_doubtSector 0 = .ok (.aload_n 0, 1) := by decide +kernel
theorem dX0_doubtSector_1 : decode cX0_doubtSector 1 = .ok (.dup, 1) := by decide +kernel
theorem dX0_doubtSector_2 : decode cX0_doubtSector 2 = .ok (.getfield 21, 3) := by decide +kernel
theorem dX0_doubtSector_5 : decode cX0_doubtSector 5 = .ok (.iload_n 1, 1) := by decide +kernel
theorem dX0_doubtSector_6 : decode cX0_doubtSector 6 = .ok (.invokestatic 60, 3) := by decide +kernel
theorem dX0_doubtSector_9 : decode cX0_doubtSector 9 = .ok (.ior, 1) := by decide +kernel
theorem dX0_doubtSector_10 : decode cX0_doubtSector 10 = .ok (.putfield 21, 3) := by decide +kernel
theorem dX0_doubtSector_13 : decode cX0_doubtSector 13 = .ok (.return_, 1) := by decide +kernel
theorem dX0_isUnsure_0 : decode cX0_isUnsure 0 = .ok (.aload_n 0, 1) := by decide +kernel
theorem dX0_isUnsure_1 : decode cX0_isUnsure 1 = .ok (.getfield 21, 3) := by decide +kernel
theorem dX0_isUnsure_4 : decode cX0_isUnsure 4 = .ok (.iload_n 1, 1) := by decide +kernel
theorem dX0_isUnsure_5 : decode cX0_isUnsure 5 = .ok (.iushr, 1) := by decide +kernel
theorem dX0_isUnsure_6 : decode cX0_isUnsure 6 = .ok (.iconst 1, 1) := by decide +kernel
theorem dX0_isUnsure_7 : decode cX0_isUnsure 7 = .ok (.iand, 1) := by decide +kernel
theorem dX0_isUnsure_8 : decode cX0_isUnsure 8 = .ok (.iconst 1, 1) := by decide +kernel
theorem dX0_isUnsure_9 : decode cX0_isUnsure 9 = .ok (.if_icmp .ne 7, 3) := by decide +kernel
theorem dX0_isUnsure_12 : decode cX0_isUnsure 12 = .ok (.iconst 1, 1) := by decide +kernel
theorem dX0_isUnsure_13 : decode cX0_isUnsure 13 = .ok (.goto 4, 3) := by decide +kernel
theorem dX0_isUnsure_16 : decode cX0_isUnsure 16 = .ok (.iconst 0, 1) := by decide +kernel
theorem dX0_isUnsure_17 : decode cX0_isUnsure 17 = .ok (.ireturn, 1) := by decide +kernel
theorem dX0_unsurePages_0 : decode cX0_unsurePages 0 = .ok (.aload_n 0, 1) := by decide +kernel
theorem dX0_unsurePages_1 : decode cX0_unsurePages 1 = .ok (.getfield 21, 3) := by decide +kernel
theorem dX0_unsurePages_4 : decode cX0_unsurePages 4 = .ok (.iload_n 1, 1) := by decide +kernel
theorem dX0_unsurePages_5 : decode cX0_unsurePages 5 = .ok (.invokestatic 60, 3) := by decide +kernel
theorem dX0_unsurePages_8 : decode cX0_unsurePages 8 = .ok (.iand, 1) := by decide +kernel
theorem dX0_unsurePages_9 : decode cX0_unsurePages 9 = .ok (.invokestatic 51, 3) := by decide +kernel
theorem dX0_unsurePages_12 : decode cX0_unsurePages 12 = .ok (.ireturn, 1) := by decide +kernel
theorem dX0_ones_0 : decode cX0_ones 0 = .ok (.iconst 0, 1) := by decide +kernel
theorem dX0_ones_1 : decode cX0_ones 1 = .ok (.istore_n 3, 1) := by decide +kernel
theorem dX0_ones_2 : decode cX0_ones 2 = .ok (.iload_n 1, 1) := by decide +kernel
theorem dX0_ones_3 : decode cX0_ones 3 = .ok (.istore 4, 2) := by decide +kernel
theorem dX0_ones_5 : decode cX0_ones 5 = .ok (.iload 4, 2) := by decide +kernel
theorem dX0_ones_7 : decode cX0_ones 7 = .ok (.iload_n 1, 1) := by decide +kernel
theorem dX0_ones_8 : decode cX0_ones 8 = .ok (.iload_n 2, 1) := by decide +kernel
theorem dX0_ones_9 : decode cX0_ones 9 = .ok (.iadd, 1) := by decide +kernel
theorem dX0_ones_10 : decode cX0_ones 10 = .ok (.if_icmp .ge 24, 3) := by decide +kernel
theorem dX0_ones_13 : decode cX0_ones 13 = .ok (.iload_n 3, 1) := by decide +kernel
theorem dX0_ones_14 : decode cX0_ones 14 = .ok (.aload_n 0, 1) := by decide +kernel
theorem dX0_ones_15 : decode cX0_ones 15 = .ok (.getfield 9, 3) := by decide +kernel
theorem dX0_ones_18 : decode cX0_ones 18 = .ok (.iload 4, 2) := by decide +kernel
theorem dX0_ones_20 : decode cX0_ones 20 = .ok (.invokestatic 43, 3) := by decide +kernel
theorem dX0_ones_23 : decode cX0_ones 23 = .ok (.invokestatic 51, 3) := by decide +kernel
theorem dX0_ones_26 : decode cX0_ones 26 = .ok (.iadd, 1) := by decide +kernel
theorem dX0_ones_27 : decode cX0_ones 27 = .ok (.istore_n 3, 1) := by decide +kernel
theorem dX0_ones_28 : decode cX0_ones 28 = .ok (.iinc 4 1, 3) := by decide +kernel
theorem dX0_ones_31 : decode cX0_ones 31 = .ok (.goto (-26), 3) := by decide +kernel
theorem dX0_ones_34 : decode cX0_ones 34 = .ok (.iload_n 3, 1) := by decide +kernel
theorem dX0_ones_35 : decode cX0_ones 35 = .ok (.ireturn, 1) := by decide +kernel
theorem dX0_fallenPages_0 : decode cX0_fallenPages 0 = .ok (.iconst 0, 1) := by decide +kernel
theorem dX0_fallenPages_1 : decode cX0_fallenPages 1 = .ok (.istore_n 2, 1) := by decide +kernel
theorem dX0_fallenPages_2 : decode cX0_fallenPages 2 = .ok (.iload_n 1, 1) := by decide +kernel
theorem dX0_fallenPages_3 : decode cX0_fallenPages 3 = .ok (.iconst 4, 1) := by decide +kernel
theorem dX0_fallenPages_4 : decode cX0_fallenPages 4 = .ok (.imul, 1) := by decide +kernel
theorem dX0_fallenPages_5 : decode cX0_fallenPages 5 = .ok (.istore_n 3, 1) := by decide +kernel
theorem dX0_fallenPages_6 : decode cX0_fallenPages 6 = .ok (.iload_n 3, 1) := by decide +kernel
theorem dX0_fallenPages_7 : decode cX0_fallenPages 7 = .ok (.iload_n 1, 1) := by decide +kernel
theorem dX0_fallenPages_8 : decode cX0_fallenPages 8 = .ok (.iconst 1, 1) := by decide +kernel
theorem dX0_fallenPages_9 : decode cX0_fallenPages 9 = .ok (.iadd, 1) := by decide +kernel
theorem dX0_fallenPages_10 : decode cX0_fallenPages 10 = .ok (.iconst 4, 1) := by decide +kernel
theorem dX0_fallenPages_11 : decode cX0_fallenPages 11 = .ok (.imul, 1) := by decide +kernel
theorem dX0_fallenPages_12 : decode cX0_fallenPages 12 = .ok (.if_icmp .ge 27, 3) := by decide +kernel
theorem dX0_fallenPages_15 : decode cX0_fallenPages 15 = .ok (.aload_n 0, 1) := by decide +kernel
theorem dX0_fallenPages_16 : decode cX0_fallenPages 16 = .ok (.iload_n 3, 1) := by decide +kernel
theorem dX0_fallenPages_17 : decode cX0_fallenPages 17 = .ok (.bipush 8, 2) := by decide +kernel
theorem dX0_fallenPages_19 : decode cX0_fallenPages 19 = .ok (.imul, 1) := by decide +kernel
theorem dX0_fallenPages_20 : decode cX0_fallenPages 20 = .ok (.bipush 8, 2) := by decide +kernel
theorem dX0_fallenPages_22 : decode cX0_fallenPages 22 = .ok (.invokevirtual 63, 3) := by decide +kernel
theorem dX0_fallenPages_25 : decode cX0_fallenPages 25 = .ok (.bipush 64, 2) := by decide +kernel
theorem dX0_fallenPages_27 : decode cX0_fallenPages 27 = .ok (.if_icmp .ge 6, 3) := by decide +kernel
theorem dX0_fallenPages_30 : decode cX0_fallenPages 30 = .ok (.iinc 2 1, 3) := by decide +kernel
theorem dX0_fallenPages_33 : decode cX0_fallenPages 33 = .ok (.iinc 3 1, 3) := by decide +kernel
theorem dX0_fallenPages_36 : decode cX0_fallenPages 36 = .ok (.goto (-30), 3) := by decide +kernel
theorem dX0_fallenPages_39 : decode cX0_fallenPages 39 = .ok (.iload_n 2, 1) := by decide +kernel
theorem dX0_fallenPages_40 : decode cX0_fallenPages 40 = .ok (.ireturn, 1) := by decide +kernel
theorem dX0_stuckBits_0 : decode cX0_stuckBits 0 = .ok (.iconst 0, 1) := by decide +kernel
theorem dX0_stuckBits_1 : decode cX0_stuckBits 1 = .ok (.istore_n 1, 1) := by decide +kernel
theorem dX0_stuckBits_2 : decode cX0_stuckBits 2 = .ok (.iconst 0, 1) := by decide +kernel
theorem dX0_stuckBits_3 : decode cX0_stuckBits 3 = .ok (.istore_n 2, 1) := by decide +kernel
theorem dX0_stuckBits_4 : decode cX0_stuckBits 4 = .ok (.iload_n 2, 1) := by decide +kernel
theorem dX0_stuckBits_5 : decode cX0_stuckBits 5 = .ok (.aload_n 0, 1) := by decide +kernel
theorem dX0_stuckBits_6 : decode cX0_stuckBits 6 = .ok (.getfield 15, 3) := by decide +kernel
theorem dX0_stuckBits_9 : decode cX0_stuckBits 9 = .ok (.arraylength, 1) := by decide +kernel
theorem dX0_stuckBits_10 : decode cX0_stuckBits 10 = .ok (.if_icmp .ge 21, 3) := by decide +kernel
theorem dX0_stuckBits_13 : decode cX0_stuckBits 13 = .ok (.iload_n 1, 1) := by decide +kernel
theorem dX0_stuckBits_14 : decode cX0_stuckBits 14 = .ok (.aload_n 0, 1) := by decide +kernel
theorem dX0_stuckBits_15 : decode cX0_stuckBits 15 = .ok (.getfield 15, 3) := by decide +kernel
theorem dX0_stuckBits_18 : decode cX0_stuckBits 18 = .ok (.iload_n 2, 1) := by decide +kernel
theorem dX0_stuckBits_19 : decode cX0_stuckBits 19 = .ok (.iaload, 1) := by decide +kernel
theorem dX0_stuckBits_20 : decode cX0_stuckBits 20 = .ok (.invokestatic 51, 3) := by decide +kernel
theorem dX0_stuckBits_23 : decode cX0_stuckBits 23 = .ok (.iadd, 1) := by decide +kernel
theorem dX0_stuckBits_24 : decode cX0_stuckBits 24 = .ok (.istore_n 1, 1) := by decide +kernel
theorem dX0_stuckBits_25 : decode cX0_stuckBits 25 = .ok (.iinc 2 1, 3) := by decide +kernel
theorem dX0_stuckBits_28 : decode cX0_stuckBits 28 = .ok (.goto (-24), 3) := by decide +kernel
theorem dX0_stuckBits_31 : decode cX0_stuckBits 31 = .ok (.iload_n 1, 1) := by decide +kernel
theorem dX0_stuckBits_32 : decode cX0_stuckBits 32 = .ok (.ireturn, 1) := by decide +kernel
theorem dX0_allErasures_0 : decode cX0_allErasures 0 = .ok (.iconst 0, 1) := by decide +kernel
theorem dX0_allErasures_1 : decode cX0_allErasures 1 = .ok (.istore_n 1, 1) := by decide +kernel
theorem dX0_allErasures_2 : decode cX0_allErasures 2 = .ok (.iconst 0, 1) := by decide +kernel
theorem dX0_allErasures_3 : decode cX0_allErasures 3 = .ok (.istore_n 2, 1) := by decide +kernel
theorem dX0_allErasures_4 : decode cX0_allErasures 4 = .ok (.iload_n 2, 1) := by decide +kernel
theorem dX0_allErasures_5 : decode cX0_allErasures 5 = .ok (.aload_n 0, 1) := by decide +kernel
theorem dX0_allErasures_6 : decode cX0_allErasures 6 = .ok (.getfield 18, 3) := by decide +kernel
theorem dX0_allErasures_9 : decode cX0_allErasures 9 = .ok (.arraylength, 1) := by decide +kernel
theorem dX0_allErasures_10 : decode cX0_allErasures 10 = .ok (.if_icmp .ge 18, 3) := by decide +kernel
theorem dX0_allErasures_13 : decode cX0_allErasures 13 = .ok (.iload_n 1, 1) := by decide +kernel
theorem dX0_allErasures_14 : decode cX0_allErasures 14 = .ok (.aload_n 0, 1) := by decide +kernel
theorem dX0_allErasures_15 : decode cX0_allErasures 15 = .ok (.getfield 18, 3) := by decide +kernel
theorem dX0_allErasures_18 : decode cX0_allErasures 18 = .ok (.iload_n 2, 1) := by decide +kernel
theorem dX0_allErasures_19 : decode cX0_allErasures 19 = .ok (.iaload, 1) := by decide +kernel
theorem dX0_allErasures_20 : decode cX0_allErasures 20 = .ok (.iadd, 1) := by decide +kernel
theorem dX0_allErasures_21 : decode cX0_allErasures 21 = .ok (.istore_n 1, 1) := by decide +kernel
theorem dX0_allErasures_22 : decode cX0_allErasures 22 = .ok (.iinc 2 1, 3) := by decide +kernel
theorem dX0_allErasures_25 : decode cX0_allErasures 25 = .ok (.goto (-21), 3) := by decide +kernel
theorem dX0_allErasures_28 : decode cX0_allErasures 28 = .ok (.iload_n 1, 1) := by decide +kernel
theorem dX0_allErasures_29 : decode cX0_allErasures 29 = .ok (.ireturn, 1) := by decide +kernel
theorem dX1_init_0 : decode cX1_init 0 = .ok (.aload_n 0, 1) := by decide +kernel
theorem dX1_init_1 : decode cX1_init 1 = .ok (.invokespecial 3, 3) := by decide +kernel
theorem dX1_init_4 : decode cX1_init 4 = .ok (.aload_n 0, 1) := by decide +kernel
theorem dX1_init_5 : decode cX1_init 5 = .ok (.bipush 10, 2) := by decide +kernel
theorem dX1_init_7 : decode cX1_init 7 = .ok (.anewarray 9, 3) := by decide +kernel
theorem dX1_init_10 : decode cX1_init 10 = .ok (.putfield 11, 3) := by decide +kernel
theorem dX1_init_13 : decode cX1_init 13 = .ok (.aload_n 0, 1) := by decide +kernel
theorem dX1_init_14 : decode cX1_init 14 = .ok (.iconst 0, 1) := by decide +kernel
theorem dX1_init_15 : decode cX1_init 15 = .ok (.putfield 17, 3) := by decide +kernel
theorem dX1_init_18 : decode cX1_init 18 = .ok (.aload_n 0, 1) := by decide +kernel
theorem dX1_init_19 : decode cX1_init 19 = .ok (.iconst 0, 1) := by decide +kernel
theorem dX1_init_20 : decode cX1_init 20 = .ok (.putfield 21, 3) := by decide +kernel
theorem dX1_init_23 : decode cX1_init 23 = .ok (.iconst 0, 1) := by decide +kernel
theorem dX1_init_24 : decode cX1_init 24 = .ok (.istore_n 1, 1) := by decide +kernel
theorem dX1_init_25 : decode cX1_init 25 = .ok (.iload_n 1, 1) := by decide +kernel
theorem dX1_init_26 : decode cX1_init 26 = .ok (.aload_n 0, 1) := by decide +kernel
theorem dX1_init_27 : decode cX1_init 27 = .ok (.getfield 11, 3) := by decide +kernel
theorem dX1_init_30 : decode cX1_init 30 = .ok (.arraylength, 1) := by decide +kernel
theorem dX1_init_31 : decode cX1_init 31 = .ok (.if_icmp .ge 22, 3) := by decide +kernel
theorem dX1_init_34 : decode cX1_init 34 = .ok (.aload_n 0, 1) := by decide +kernel
theorem dX1_init_35 : decode cX1_init 35 = .ok (.getfield 11, 3) := by decide +kernel
theorem dX1_init_38 : decode cX1_init 38 = .ok (.iload_n 1, 1) := by decide +kernel
theorem dX1_init_39 : decode cX1_init 39 = .ok (.new 9, 3) := by decide +kernel
theorem dX1_init_42 : decode cX1_init 42 = .ok (.dup, 1) := by decide +kernel
theorem dX1_init_43 : decode cX1_init 43 = .ok (.invokespecial 24, 3) := by decide +kernel
theorem dX1_init_46 : decode cX1_init 46 = .ok (.aastore, 1) := by decide +kernel
theorem dX1_init_47 : decode cX1_init 47 = .ok (.iinc 1 1, 3) := by decide +kernel
theorem dX1_init_50 : decode cX1_init 50 = .ok (.goto (-25), 3) := by decide +kernel
theorem dX1_init_53 : decode cX1_init 53 = .ok (.return_, 1) := by decide +kernel
theorem dX1_isFull_0 : decode cX1_isFull 0 = .ok (.aload_n 0, 1) := by decide +kernel
theorem dX1_isFull_1 : decode cX1_isFull 1 = .ok (.getfield 17, 3) := by decide +kernel
theorem dX1_isFull_4 : decode cX1_isFull 4 = .ok (.aload_n 0, 1) := by decide +kernel
theorem dX1_isFull_5 : decode cX1_isFull 5 = .ok (.getfield 11, 3) := by decide +kernel
theorem dX1_isFull_8 : decode cX1_isFull 8 = .ok (.arraylength, 1) := by decide +kernel
theorem dX1_isFull_9 : decode cX1_isFull 9 = .ok (.if_icmp .lt 7, 3) := by decide +kernel
theorem dX1_isFull_12 : decode cX1_isFull 12 = .ok (.iconst 1, 1) := by decide +kernel
theorem dX1_isFull_13 : decode cX1_isFull 13 = .ok (.goto 4, 3) := by decide +kernel
theorem dX1_isFull_16 : decode cX1_isFull 16 = .ok (.iconst 0, 1) := by decide +kernel
theorem dX1_isFull_17 : decode cX1_isFull 17 = .ok (.ireturn, 1) := by decide +kernel
theorem dX1_orderAt_0 : decode cX1_orderAt 0 = .ok (.iload_n 1, 1) := by decide +kernel
theorem dX1_orderAt_1 : decode cX1_orderAt 1 = .ok (.ifCond .lt 29, 3) := by decide +kernel
theorem dX1_orderAt_4 : decode cX1_orderAt 4 = .ok (.iload_n 1, 1) := by decide +kernel
theorem dX1_orderAt_5 : decode cX1_orderAt 5 = .ok (.aload_n 0, 1) := by decide +kernel
theorem dX1_orderAt_6 : decode cX1_orderAt 6 = .ok (.getfield 17, 3) := by decide +kernel
theorem dX1_orderAt_9 : decode cX1_orderAt 9 = .ok (.if_icmp .ge 21, 3) := by decide +kernel
theorem dX1_orderAt_12 : decode cX1_orderAt 12 = .ok (.iload_n 1, 1) := by decide +kernel
theorem dX1_orderAt_13 : decode cX1_orderAt 13 = .ok (.aload_n 0, 1) := by decide +kernel
theorem dX1_orderAt_14 : decode cX1_orderAt 14 = .ok (.getfield 11, 3) := by decide +kernel
theorem dX1_orderAt_17 : decode cX1_orderAt 17 = .ok (.arraylength, 1) := by decide +kernel
theorem dX1_orderAt_18 : decode cX1_orderAt 18 = .ok (.if_icmp .ge 12, 3) := by decide +kernel
theorem dX1_orderAt_21 : decode cX1_orderAt 21 = .ok (.aload_n 0, 1) := by decide +kernel
theorem dX1_orderAt_22 : decode cX1_orderAt 22 = .ok (.getfield 11, 3) := by decide +kernel
theorem dX1_orderAt_25 : decode cX1_orderAt 25 = .ok (.iload_n 1, 1) := by decide +kernel
theorem dX1_orderAt_26 : decode cX1_orderAt 26 = .ok (.aaload, 1) := by decide +kernel
theorem dX1_orderAt_27 : decode cX1_orderAt 27 = .ok (.goto 4, 3) := by decide +kernel
theorem dX1_orderAt_30 : decode cX1_orderAt 30 = .ok (.aconst_null, 1) := by decide +kernel
theorem dX1_orderAt_31 : decode cX1_orderAt 31 = .ok (.areturn, 1) := by decide +kernel
theorem dX1_rankOf_0 : decode cX1_rankOf 0 = .ok (.iconst 0, 1) := by decide +kernel
theorem dX1_rankOf_1 : decode cX1_rankOf 1 = .ok (.istore_n 2, 1) := by decide +kernel
theorem dX1_rankOf_2 : decode cX1_rankOf 2 = .ok (.iload_n 2, 1) := by decide +kernel
theorem dX1_rankOf_3 : decode cX1_rankOf 3 = .ok (.aload_n 0, 1) := by decide +kernel
theorem dX1_rankOf_4 : decode cX1_rankOf 4 = .ok (.getfield 17, 3) := by decide +kernel
theorem dX1_rankOf_7 : decode cX1_rankOf 7 = .ok (.if_icmp .ge 29, 3) := by decide +kernel
theorem dX1_rankOf_10 : decode cX1_rankOf 10 = .ok (.aload_n 0, 1) := by decide +kernel
theorem dX1_rankOf_11 : decode cX1_rankOf 11 = .ok (.iload_n 2, 1) := by decide +kernel
theorem dX1_rankOf_12 : decode cX1_rankOf 12 = .ok (.invokevirtual 25, 3) := by decide +kernel
theorem dX1_rankOf_15 : decode cX1_rankOf 15 = .ok (.astore_n 3, 1) := by decide +kernel
theorem dX1_rankOf_16 : decode cX1_rankOf 16 = .ok (.aload_n 3, 1) := by decide +kernel
theorem dX1_rankOf_17 : decode cX1_rankOf 17 = .ok (.ifnull 13, 3) := by decide +kernel
theorem dX1_rankOf_20 : decode cX1_rankOf 20 = .ok (.aload_n 3, 1) := by decide +kernel
theorem dX1_rankOf_21 : decode cX1_rankOf 21 = .ok (.getfield 29, 3) := by decide +kernel
theorem dX1_rankOf_24 : decode cX1_rankOf 24 = .ok (.iload_n 1, 1) := by decide +kernel
theorem dX1_rankOf_25 : decode cX1_rankOf 25 = .ok (.if_icmp .ne 5, 3) := by decide +kernel
theorem dX1_rankOf_28 : decode cX1_rankOf 28 = .ok (.iload_n 2, 1) := by decide +kernel
theorem dX1_rankOf_29 : decode cX1_rankOf 29 = .ok (.ireturn, 1) := by decide +kernel
theorem dX1_rankOf_30 : decode cX1_rankOf 30 = .ok (.iinc 2 1, 3) := by decide +kernel
theorem dX1_rankOf_33 : decode cX1_rankOf 33 = .ok (.goto (-31), 3) := by decide +kernel
theorem dX1_rankOf_36 : decode cX1_rankOf 36 = .ok (.iconst (-1), 1) := by decide +kernel
theorem dX1_rankOf_37 : decode cX1_rankOf 37 = .ok (.ireturn, 1) := by decide +kernel
theorem dX1_ordersFor_0 : decode cX1_ordersFor 0 = .ok (.iconst 0, 1) := by decide +kernel
theorem dX1_ordersFor_1 : decode cX1_ordersFor 1 = .ok (.istore_n 2, 1) := by decide +kernel
theorem dX1_ordersFor_2 : decode cX1_ordersFor 2 = .ok (.iconst 0, 1) := by decide +kernel
theorem dX1_ordersFor_3 : decode cX1_ordersFor 3 = .ok (.istore_n 3, 1) := by decide +kernel
theorem dX1_ordersFor_4 : decode cX1_ordersFor 4 = .ok (.iload_n 3, 1) := by decide +kernel
theorem dX1_ordersFor_5 : decode cX1_ordersFor 5 = .ok (.aload_n 0, 1) := by decide +kernel
theorem dX1_ordersFor_6 : decode cX1_ordersFor 6 = .ok (.getfield 17, 3) := by decide +kernel
theorem dX1_ordersFor_9 : decode cX1_ordersFor 9 = .ok (.if_icmp .ge 41, 3) := by decide +kernel
theorem dX1_ordersFor_12 : decode cX1_ordersFor 12 = .ok (.aload_n 0, 1) := by decide +kernel
theorem dX1_ordersFor_13 : decode cX1_ordersFor 13 = .ok (.iload_n 3, 1) := by decide +kernel
theorem dX1_ordersFor_14 : decode cX1_ordersFor 14 = .ok (.invokevirtual 25, 3) := by decide +kernel
theorem dX1_ordersFor_17 : decode cX1_ordersFor 17 = .ok (.astore 4, 2) := by decide +kernel
theorem dX1_ordersFor_19 : decode cX1_ordersFor 19 = .ok (.aload 4, 2) := by decide +kernel
theorem dX1_ordersFor_21 : decode cX1_ordersFor 21 = .ok (.ifnull 23, 3) := by decide +kernel
theorem dX1_ordersFor_24 : decode cX1_ordersFor 24 = .ok (.aload 4, 2) := by decide +kernel
theorem dX1_ordersFor_26 : decode cX1_ordersFor 26 = .ok (.getfield 32, 3) := by decide +kernel
theorem dX1_ordersFor_29 : decode cX1_ordersFor 29 = .ok (.aload 4, 2) := by decide +kernel
theorem dX1_ordersFor_31 : decode cX1_ordersFor 31 = .ok (.getfield 35, 3) := by decide +kernel
theorem dX1_ordersFor_34 : decode cX1_ordersFor 34 = .ok (.invokestatic 38, 3) := by decide +kernel
theorem dX1_ordersFor_37 : decode cX1_ordersFor 37 = .ok (.iload_n 1, 1) := by decide +kernel
theorem dX1_ordersFor_38 : decode cX1_ordersFor 38 = .ok (.if_icmp .ne 6, 3) := by decide +kernel
theorem dX1_ordersFor_41 : decode cX1_ordersFor 41 = .ok (.iinc 2 1, 3) := by decide +kernel
theorem dX1_ordersFor_44 : decode cX1_ordersFor 44 = .ok (.iinc 3 1, 3) := by decide +kernel
theorem dX1_ordersFor_47 : decode cX1_ordersFor 47 = .ok (.goto (-43), 3) := by decide +kernel
theorem dX1_ordersFor_50 : decode cX1_ordersFor 50 = .ok (.iload_n 2, 1) := by decide +kernel
theorem dX1_ordersFor_51 : decode cX1_ordersFor 51 = .ok (.ireturn, 1) := by decide +kernel
theorem dX1_join_0 : decode cX1_join 0 = .ok (.aload_n 0, 1) := by decide +kernel
theorem dX1_join_1 : decode cX1_join 1 = .ok (.iload_n 3, 1) := by decide +kernel
theorem dX1_join_2 : decode cX1_join 2 = .ok (.invokevirtual 42, 3) := by decide +kernel
theorem dX1_join_5 : decode cX1_join 5 = .ok (.astore 5, 2) := by decide +kernel
theorem dX1_join_7 : decode cX1_join 7 = .ok (.aload 5, 2) := by decide +kernel
theorem dX1_join_9 : decode cX1_join 9 = .ok (.ifnonnull 5, 3) := by decide +kernel
theorem dX1_join_12 : decode cX1_join 12 = .ok (.iconst (-1), 1) := by decide +kernel
theorem dX1_join_13 : decode cX1_join 13 = .ok (.ireturn, 1) := by decide +kernel
theorem dX1_join_14 : decode cX1_join 14 = .ok (.aload 5, 2) := by decide +kernel
theorem dX1_join_16 : decode cX1_join 16 = .ok (.aload_n 0, 1) := by decide +kernel
theorem dX1_join_17 : decode cX1_join 17 = .ok (.getfield 21, 3) := by decide +kernel
theorem dX1_join_20 : decode cX1_join 20 = .ok (.putfield 29, 3) := by decide +kernel
theorem dX1_join_23 : decode cX1_join 23 = .ok (.aload 5, 2) := by decide +kernel
theorem dX1_join_25 : decode cX1_join 25 = .ok (.iload_n 1, 1) := by decide +kernel
theorem dX1_join_26 : decode cX1_join 26 = .ok (.putfield 32, 3) := by decide +kernel
theorem dX1_join_29 : decode cX1_join 29 = .ok (.aload 5, 2) := by decide +kernel
theorem dX1_join_31 : decode cX1_join 31 = .ok (.iload_n 2, 1) := by decide +kernel
theorem dX1_join_32 : decode cX1_join 32 = .ok (.putfield 35, 3) := by decide +kernel
theorem dX1_join_35 : decode cX1_join 35 = .ok (.aload 5, 2) := by decide +kernel
theorem dX1_join_37 : decode cX1_join 37 = .ok (.iload_n 3, 1) := by decide +kernel
theorem dX1_join_38 : decode cX1_join 38 = .ok (.putfield 45, 3) := by decide +kernel
theorem dX1_join_41 : decode cX1_join 41 = .ok (.aload 5, 2) := by decide +kernel
theorem dX1_join_43 : decode cX1_join 43 = .ok (.iload 4, 2) := by decide +kernel
theorem dX1_join_45 : decode cX1_join 45 = .ok (.putfield 48, 3) := by decide +kernel
theorem dX1_join_48 : decode cX1_join 48 = .ok (.aload 5, 2) := by decide +kernel
theorem dX1_join_50 : decode cX1_join 50 = .ok (.getfield 51, 3) := by decide +kernel
theorem dX1_join_53 : decode cX1_join 53 = .ok (.iconst 0, 1) := by decide +kernel
theorem dX1_join_54 : decode cX1_join 54 = .ok (.putfield 55, 3) := by decide +kernel
theorem dX1_join_57 : decode cX1_join 57 = .ok (.aload_n 0, 1) := by decide +kernel
theorem dX1_join_58 : decode cX1_join 58 = .ok (.dup, 1) := by decide +kernel
theorem dX1_join_59 : decode cX1_join 59 = .ok (.getfield 21, 3) := by decide +kernel
theorem dX1_join_62 : decode cX1_join 62 = .ok (.iconst 1, 1) := by decide +kernel
theorem dX1_join_63 : decode cX1_join 63 = .ok (.iadd, 1) := by decide +kernel
theorem dX1_join_64 : decode cX1_join 64 = .ok (.putfield 21, 3) := by decide +kernel
theorem dX1_join_67 : decode cX1_join 67 = .ok (.aload 5, 2) := by decide +kernel
theorem dX1_join_69 : decode cX1_join 69 = .ok (.getfield 29, 3) := by decide +kernel
theorem dX1_join_72 : decode cX1_join 72 = .ok (.ireturn, 1) := by decide +kernel
theorem dX1_joinWrite_0 : decode cX1_joinWrite 0 = .ok (.aload_n 0, 1) := by decide +kernel
theorem dX1_joinWrite_1 : decode cX1_joinWrite 1 = .ok (.iconst 1, 1) := by decide +kernel
theorem dX1_joinWrite_2 : decode cX1_joinWrite 2 = .ok (.iload_n 1, 1) := by decide +kernel
theorem dX1_joinWrite_3 : decode cX1_joinWrite 3 = .ok (.iload_n 2, 1) := by decide +kernel
theorem dX1_joinWrite_4 : decode cX1_joinWrite 4 = .ok (.iload_n 3, 1) := by decide +kernel
theorem dX1_joinWrite_5 : decode cX1_joinWrite 5 = .ok (.invokevirtual 58, 3) := by decide +kernel
theorem dX1_joinWrite_8 : decode cX1_joinWrite 8 = .ok (.istore 5, 2) := by decide +kernel
theorem dX1_joinWrite_10 : decode cX1_joinWrite 10 = .ok (.aload_n 0, 1) := by decide +kernel
theorem dX1_joinWrite_11 : decode cX1_joinWrite 11 = .ok (.aload_n 0, 1) := by decide +kernel
theorem dX1_joinWrite_12 : decode cX1_joinWrite 12 = .ok (.iload 5, 2) := by decide +kernel
theorem dX1_joinWrite_14 : decode cX1_joinWrite 14 = .ok (.invokevirtual 62, 3) := by decide +kernel
theorem dX1_joinWrite_17 : decode cX1_joinWrite 17 = .ok (.invokevirtual 25, 3) := by decide +kernel
theorem dX1_joinWrite_20 : decode cX1_joinWrite 20 = .ok (.astore 6, 2) := by decide +kernel
theorem dX1_joinWrite_22 : decode cX1_joinWrite 22 = .ok (.aload 6, 2) := by decide +kernel
theorem dX1_joinWrite_24 : decode cX1_joinWrite 24 = .ok (.ifnull 13, 3) := by decide +kernel
theorem dX1_joinWrite_27 : decode cX1_joinWrite 27 = .ok (.aload 6, 2) := by decide +kernel
theorem dX1_joinWrite_29 : decode cX1_joinWrite 29 = .ok (.getfield 51, 3) := by decide +kernel
theorem dX1_joinWrite_32 : decode cX1_joinWrite 32 = .ok (.aload 4, 2) := by decide +kernel
theorem dX1_joinWrite_34 : decode cX1_joinWrite 34 = .ok (.invokevirtual 66, 3) := by decide +kernel
theorem dX1_joinWrite_37 : decode cX1_joinWrite 37 = .ok (.iload 5, 2) := by decide +kernel
theorem dX1_joinWrite_39 : decode cX1_joinWrite 39 = .ok (.ireturn, 1) := by decide +kernel
theorem dX1_openPlace_0 : decode cX1_openPlace 0 = .ok (.aload_n 0, 1) := by decide +kernel
theorem dX1_openPlace_1 : decode cX1_openPlace 1 = .ok (.getfield 17, 3) := by decide +kernel
theorem dX1_openPlace_4 : decode cX1_openPlace 4 = .ok (.ifCond .lt 15, 3) := by decide +kernel
theorem dX1_openPlace_7 : decode cX1_openPlace 7 = .ok (.aload_n 0, 1) := by decide +kernel
theorem dX1_openPlace_8 : decode cX1_openPlace 8 = .ok (.getfield 17, 3) := by decide +kernel
theorem dX1_openPlace_11 : decode cX1_openPlace 11 = .ok (.aload_n 0, 1) := by decide +kernel
theorem dX1_openPlace_12 : decode cX1_openPlace 12 = .ok (.getfield 11, 3) := by decide +kernel
theorem dX1_openPlace_15 : decode cX1_openPlace 15 = .ok (.arraylength, 1) := by decide +kernel
theorem dX1_openPlace_16 : decode cX1_openPlace 16 = .ok (.if_icmp .lt 5, 3) := by decide +kernel
theorem dX1_openPlace_19 : decode cX1_openPlace 19 = .ok (.aconst_null, 1) := by decide +kernel
theorem dX1_openPlace_20 : decode cX1_openPlace 20 = .ok (.areturn, 1) := by decide +kernel
theorem dX1_openPlace_21 : decode cX1_openPlace 21 = .ok (.aload_n 0, 1) := by decide +kernel
theorem dX1_openPlace_22 : decode cX1_openPlace 22 = .ok (.getfield 11, 3) := by decide +kernel
theorem dX1_openPlace_25 : decode cX1_openPlace 25 = .ok (.aload_n 0, 1) := by decide +kernel
theorem dX1_openPlace_26 : decode cX1_openPlace 26 = .ok (.getfield 17, 3) := by decide +kernel
theorem dX1_openPlace_29 : decode cX1_openPlace 29 = .ok (.aaload, 1) := by decide +kernel
theorem dX1_openPlace_30 : decode cX1_openPlace 30 = .ok (.astore_n 2, 1) := by decide +kernel
theorem dX1_openPlace_31 : decode cX1_openPlace 31 = .ok (.aload_n 0, 1) := by decide +kernel
theorem dX1_openPlace_32 : decode cX1_openPlace 32 = .ok (.getfield 17, 3) := by decide +kernel
theorem dX1_openPlace_35 : decode cX1_openPlace 35 = .ok (.istore_n 3, 1) := by decide +kernel
theorem dX1_openPlace_36 : decode cX1_openPlace 36 = .ok (.iload_n 3, 1) := by decide +kernel
theorem dX1_openPlace_37 : decode cX1_openPlace 37 = .ok (.ifCond .le 49, 3) := by decide +kernel
theorem dX1_openPlace_40 : decode cX1_openPlace 40 = .ok (.aload_n 0, 1) := by decide +kernel
theorem dX1_openPlace_41 : decode cX1_openPlace 41 = .ok (.getfield 11, 3) := by decide +kernel
theorem dX1_openPlace_44 : decode cX1_openPlace 44 = .ok (.iload_n 3, 1) := by decide +kernel
theorem dX1_openPlace_45 : decode cX1_openPlace 45 = .ok (.iconst 1, 1) := by decide +kernel
theorem dX1_openPlace_46 : decode cX1_openPlace 46 = .ok (.isub, 1) := by decide +kernel
theorem dX1_openPlace_47 : decode cX1_openPlace 47 = .ok (.aaload, 1) := by decide +kernel
theorem dX1_openPlace_48 : decode cX1_openPlace 48 = .ok (.ifnull 38, 3) := by decide +kernel
theorem dX1_openPlace_51 : decode cX1_openPlace 51 = .ok (.aload_n 0, 1) := by decide +kernel
theorem dX1_openPlace_52 : decode cX1_openPlace 52 = .ok (.getfield 11, 3) := by decide +kernel
theorem dX1_openPlace_55 : decode cX1_openPlace 55 = .ok (.iload_n 3, 1) := by decide +kernel
theorem dX1_openPlace_56 : decode cX1_openPlace 56 = .ok (.iconst 1, 1) := by decide +kernel
theorem dX1_openPlace_57 : decode cX1_openPlace 57 = .ok (.isub, 1) := by decide +kernel
theorem dX1_openPlace_58 : decode cX1_openPlace 58 = .ok (.aaload, 1) := by decide +kernel
theorem dX1_openPlace_59 : decode cX1_openPlace 59 = .ok (.getfield 45, 3) := by decide +kernel
theorem dX1_openPlace_62 : decode cX1_openPlace 62 = .ok (.iload_n 1, 1) := by decide +kernel
theorem dX1_openPlace_63 : decode cX1_openPlace 63 = .ok (.if_icmp .ge 23, 3) := by decide +kernel
theorem dX1_openPlace_66 : decode cX1_openPlace 66 = .ok (.aload_n 0, 1) := by decide +kernel
theorem dX1_openPlace_67 : decode cX1_openPlace 67 = .ok (.getfield 11, 3) := by decide +kernel
theorem dX1_openPlace_70 : decode cX1_openPlace 70 = .ok (.iload_n 3, 1) := by decide +kernel
theorem dX1_openPlace_71 : decode cX1_openPlace 71 = .ok (.aload_n 0, 1) := by decide +kernel
theorem dX1_openPlace_72 : decode cX1_openPlace 72 = .ok (.getfield 11, 3) := by decide +kernel
theorem dX1_openPlace_75 : decode cX1_openPlace 75 = .ok (.iload_n 3, 1) := by decide +kernel
theorem dX1_openPlace_76 : decode cX1_openPlace 76 = .ok (.iconst 1, 1) := by decide +kernel
theorem dX1_openPlace_77 : decode cX1_openPlace 77 = .ok (.isub, 1) := by decide +kernel
theorem dX1_openPlace_78 : decode cX1_openPlace 78 = .ok (.aaload, 1) := by decide +kernel
theorem dX1_openPlace_79 : decode cX1_openPlace 79 = .ok (.aastore, 1) := by decide +kernel
theorem dX1_openPlace_80 : decode cX1_openPlace 80 = .ok (.iinc 3 (-1), 3) := by decide +kernel
theorem dX1_openPlace_83 : decode cX1_openPlace 83 = .ok (.goto (-47), 3) := by decide +kernel
theorem dX1_openPlace_86 : decode cX1_openPlace 86 = .ok (.aload_n 0, 1) := by decide +kernel
theorem dX1_openPlace_87 : decode cX1_openPlace 87 = .ok (.getfield 11, 3) := by decide +kernel
theorem dX1_openPlace_90 : decode cX1_openPlace 90 = .ok (.iload_n 3, 1) := by decide +kernel
theorem dX1_openPlace_91 : decode cX1_openPlace 91 = .ok (.aload_n 2, 1) := by decide +kernel
theorem dX1_openPlace_92 : decode cX1_openPlace 92 = .ok (.aastore, 1) := by decide +kernel
theorem dX1_openPlace_93 : decode cX1_openPlace 93 = .ok (.aload_n 0, 1) := by decide +kernel
theorem dX1_openPlace_94 : decode cX1_openPlace 94 = .ok (.dup, 1) := by decide +kernel
theorem dX1_openPlace_95 : decode cX1_openPlace 95 = .ok (.getfield 17, 3) := by decide +kernel
theorem dX1_openPlace_98 : decode cX1_openPlace 98 = .ok (.iconst 1, 1) := by decide +kernel
theorem dX1_openPlace_99 : decode cX1_openPlace 99 = .ok (.iadd, 1) := by decide +kernel
theorem dX1_openPlace_100 : decode cX1_openPlace 100 = .ok (.putfield 17, 3) := by decide +kernel
theorem dX1_openPlace_103 : decode cX1_openPlace 103 = .ok (.aload_n 2, 1) := by decide +kernel
theorem dX1_openPlace_104 : decode cX1_openPlace 104 = .ok (.areturn, 1) := by decide +kernel
theorem dX1_leave_0 : decode cX1_leave 0 = .ok (.aload_n 0, 1) := by decide +kernel
theorem dX1_leave_1 : decode cX1_leave 1 = .ok (.iload_n 1, 1) := by decide +kernel
theorem dX1_leave_2 : decode cX1_leave 2 = .ok (.invokevirtual 25, 3) := by decide +kernel
theorem dX1_leave_5 : decode cX1_leave 5 = .ok (.astore_n 2, 1) := by decide +kernel
theorem dX1_leave_6 : decode cX1_leave 6 = .ok (.aload_n 2, 1) := by decide +kernel
theorem dX1_leave_7 : decode cX1_leave 7 = .ok (.ifnonnull 4, 3) := by decide +kernel
theorem dX1_leave_10 : decode cX1_leave 10 = .ok (.return_, 1) := by decide +kernel
theorem dX1_leave_11 : decode cX1_leave 11 = .ok (.iload_n 1, 1) := by decide +kernel
theorem dX1_leave_12 : decode cX1_leave 12 = .ok (.iconst 1, 1) := by decide +kernel
theorem dX1_leave_13 : decode cX1_leave 13 = .ok (.iadd, 1) := by decide +kernel
theorem dX1_leave_14 : decode cX1_leave 14 = .ok (.istore_n 3, 1) := by decide +kernel
theorem dX1_leave_15 : decode cX1_leave 15 = .ok (.iload_n 3, 1) := by decide +kernel
theorem dX1_leave_16 : decode cX1_leave 16 = .ok (.aload_n 0, 1) := by decide +kernel
theorem dX1_leave_17 : decode cX1_leave 17 = .ok (.getfield 17, 3) := by decide +kernel
theorem dX1_leave_20 : decode cX1_leave 20 = .ok (.if_icmp .ge 32, 3) := by decide +kernel
theorem dX1_leave_23 : decode cX1_leave 23 = .ok (.iload_n 3, 1) := by decide +kernel
theorem dX1_leave_24 : decode cX1_leave 24 = .ok (.aload_n 0, 1) := by decide +kernel
theorem dX1_leave_25 : decode cX1_leave 25 = .ok (.getfield 11, 3) := by decide +kernel
theorem dX1_leave_28 : decode cX1_leave 28 = .ok (.arraylength, 1) := by decide +kernel
theorem dX1_leave_29 : decode cX1_leave 29 = .ok (.if_icmp .ge 23, 3) := by decide +kernel
theorem dX1_leave_32 : decode cX1_leave 32 = .ok (.aload_n 0, 1) := by decide +kernel
theorem dX1_leave_33 : decode cX1_leave 33 = .ok (.getfield 11, 3) := by decide +kernel
theorem dX1_leave_36 : decode cX1_leave 36 = .ok (.iload_n 3, 1) := by decide +kernel
theorem dX1_leave_37 : decode cX1_leave 37 = .ok (.iconst 1, 1) := by decide +kernel
theorem dX1_leave_38 : decode cX1_leave 38 = .ok (.isub, 1) := by decide +kernel
theorem dX1_leave_39 : decode cX1_leave 39 = .ok (.aload_n 0, 1) := by decide +kernel
theorem dX1_leave_40 : decode cX1_leave 40 = .ok (.getfield 11, 3) := by decide +kernel
theorem dX1_leave_43 : decode cX1_leave 43 = .ok (.iload_n 3, 1) := by decide +kernel
theorem dX1_leave_44 : decode cX1_leave 44 = .ok (.aaload, 1) := by decide +kernel
theorem dX1_leave_45 : decode cX1_leave 45 = .ok (.aastore, 1) := by decide +kernel
theorem dX1_leave_46 : decode cX1_leave 46 = .ok (.iinc 3 1, 3) := by decide +kernel
theorem dX1_leave_49 : decode cX1_leave 49 = .ok (.goto (-34), 3) := by decide +kernel
theorem dX1_leave_52 : decode cX1_leave 52 = .ok (.aload_n 0, 1) := by decide +kernel
theorem dX1_leave_53 : decode cX1_leave 53 = .ok (.dup, 1) := by decide +kernel
theorem dX1_leave_54 : decode cX1_leave 54 = .ok (.getfield 17, 3) := by decide +kernel
theorem dX1_leave_57 : decode cX1_leave 57 = .ok (.iconst 1, 1) := by decide +kernel
theorem dX1_leave_58 : decode cX1_leave 58 = .ok (.isub, 1) := by decide +kernel
theorem dX1_leave_59 : decode cX1_leave 59 = .ok (.putfield 17, 3) := by decide +kernel
theorem dX1_leave_62 : decode cX1_leave 62 = .ok (.aload_n 0, 1) := by decide +kernel
theorem dX1_leave_63 : decode cX1_leave 63 = .ok (.getfield 17, 3) := by decide +kernel
theorem dX1_leave_66 : decode cX1_leave 66 = .ok (.ifCond .lt 25, 3) := by decide +kernel
theorem dX1_leave_69 : decode cX1_leave 69 = .ok (.aload_n 0, 1) := by decide +kernel
theorem dX1_leave_70 : decode cX1_leave 70 = .ok (.getfield 17, 3) := by decide +kernel
theorem dX1_leave_73 : decode cX1_leave 73 = .ok (.aload_n 0, 1) := by decide +kernel
theorem dX1_leave_74 : decode cX1_leave 74 = .ok (.getfield 11, 3) := by decide +kernel
theorem dX1_leave_77 : decode cX1_leave 77 = .ok (.arraylength, 1) := by decide +kernel
theorem dX1_leave_78 : decode cX1_leave 78 = .ok (.if_icmp .ge 13, 3) := by decide +kernel
theorem dX1_leave_81 : decode cX1_leave 81 = .ok (.aload_n 0, 1) := by decide +kernel
theorem dX1_leave_82 : decode cX1_leave 82 = .ok (.getfield 11, 3) := by decide +kernel
theorem dX1_leave_85 : decode cX1_leave 85 = .ok (.aload_n 0, 1) := by decide +kernel
theorem dX1_leave_86 : decode cX1_leave 86 = .ok (.getfield 17, 3) := by decide +kernel
theorem dX1_leave_89 : decode cX1_leave 89 = .ok (.aload_n 2, 1) := by decide +kernel
theorem dX1_leave_90 : decode cX1_leave 90 = .ok (.aastore, 1) := by decide +kernel
theorem dX1_leave_91 : decode cX1_leave 91 = .ok (.return_, 1) := by decide +kernel
theorem dX1_become_0 : decode cX1_become 0 = .ok (.aload_n 0, 1) := by decide +kernel
theorem dX1_become_1 : decode cX1_become 1 = .ok (.aload_n 1, 1) := by decide +kernel
theorem dX1_become_2 : decode cX1_become 2 = .ok (.getfield 17, 3) := by decide +kernel
theorem dX1_become_5 : decode cX1_become 5 = .ok (.putfield 17, 3) := by decide +kernel
theorem dX1_become_8 : decode cX1_become 8 = .ok (.aload_n 0, 1) := by decide +kernel
theorem dX1_become_9 : decode cX1_become 9 = .ok (.aload_n 1, 1) := by decide +kernel
theorem dX1_become_10 : decode cX1_become 10 = .ok (.getfield 21, 3) := by decide +kernel
theorem dX1_become_13 : decode cX1_become 13 = .ok (.putfield 21, 3) := by decide +kernel
theorem dX1_become_16 : decode cX1_become 16 = .ok (.iconst 0, 1) := by decide +kernel
theorem dX1_become_17 : decode cX1_become 17 = .ok (.istore_n 2, 1) := by decide +kernel
theorem dX1_become_18 : decode cX1_become 18 = .ok (.iload_n 2, 1) := by decide +kernel
theorem dX1_become_19 : decode cX1_become 19 = .ok (.aload_n 0, 1) := by decide +kernel
theorem dX1_become_20 : decode cX1_become 20 = .ok (.getfield 17, 3) := by decide +kernel
theorem dX1_become_23 : decode cX1_become 23 = .ok (.if_icmp .ge 37, 3) := by decide +kernel
theorem dX1_become_26 : decode cX1_become 26 = .ok (.aload_n 0, 1) := by decide +kernel
theorem dX1_become_27 : decode cX1_become 27 = .ok (.iload_n 2, 1) := by decide +kernel
theorem dX1_become_28 : decode cX1_become 28 = .ok (.invokevirtual 25, 3) := by decide +kernel
theorem dX1_become_31 : decode cX1_become 31 = .ok (.astore_n 3, 1) := by decide +kernel
theorem dX1_become_32 : decode cX1_become 32 = .ok (.aload_n 1, 1) := by decide +kernel
theorem dX1_become_33 : decode cX1_become 33 = .ok (.iload_n 2, 1) := by decide +kernel
theorem dX1_become_34 : decode cX1_become 34 = .ok (.invokevirtual 25, 3) := by decide +kernel
theorem dX1_become_37 : decode cX1_become 37 = .ok (.astore 4, 2) := by decide +kernel
theorem dX1_become_39 : decode cX1_become 39 = .ok (.aload_n 3, 1) := by decide +kernel
theorem dX1_become_40 : decode cX1_become 40 = .ok (.ifnull 14, 3) := by decide +kernel
theorem dX1_become_43 : decode cX1_become 43 = .ok (.aload 4, 2) := by decide +kernel
theorem dX1_become_45 : decode cX1_become 45 = .ok (.ifnull 9, 3) := by decide +kernel
theorem dX1_become_48 : decode cX1_become 48 = .ok (.aload_n 3, 1) := by decide +kernel
theorem dX1_become_49 : decode cX1_become 49 = .ok (.aload 4, 2) := by decide +kernel
theorem dX1_become_51 : decode cX1_become 51 = .ok (.invokevirtual 70, 3) := by decide +kernel
theorem dX1_become_54 : decode cX1_become 54 = .ok (.iinc 2 1, 3) := by decide +kernel
theorem dX1_become_57 : decode cX1_become 57 = .ok (.goto (-39), 3) := by decide +kernel
theorem dX1_become_60 : decode cX1_become 60 = .ok (.return_, 1) := by decide +kernel
theorem dX2_init_0 : decode cX2_init 0 = .ok (.aload_n 0, 1) := by decide +kernel
theorem dX2_init_1 : decode cX2_init 1 = .ok (.invokespecial 3, 3) := by decide +kernel
theorem dX2_init_4 : decode cX2_init 4 = .ok (.aload_n 0, 1) := by decide +kernel
theorem dX2_init_5 : decode cX2_init 5 = .ok (.iconst 0, 1) := by decide +kernel
theorem dX2_init_6 : decode cX2_init 6 = .ok (.putfield 9, 3) := by decide +kernel
theorem dX2_init_9 : decode cX2_init 9 = .ok (.aload_n 0, 1) := by decide +kernel
theorem dX2_init_10 : decode cX2_init 10 = .ok (.iconst 1, 1) := by decide +kernel
theorem dX2_init_11 : decode cX2_init 11 = .ok (.putfield 15, 3) := by decide +kernel
theorem dX2_init_14 : decode cX2_init 14 = .ok (.aload_n 0, 1) := by decide +kernel
theorem dX2_init_15 : decode cX2_init 15 = .ok (.iconst 0, 1) := by decide +kernel
theorem dX2_init_16 : decode cX2_init 16 = .ok (.putfield 18, 3) := by decide +kernel
theorem dX2_init_19 : decode cX2_init 19 = .ok (.return_, 1) := by decide +kernel
theorem dX2_hold_0 : decode cX2_hold 0 = .ok (.aload_n 0, 1) := by decide +kernel
theorem dX2_hold_1 : decode cX2_hold 1 = .ok (.getfield 9, 3) := by decide +kernel
theorem dX2_hold_4 : decode cX2_hold 4 = .ok (.ifCond .le 14, 3) := by decide +kernel
theorem dX2_hold_7 : decode cX2_hold 7 = .ok (.iconst 1, 1) := by decide +kernel
theorem dX2_hold_8 : decode cX2_hold 8 = .ok (.aload_n 0, 1) := by decide +kernel
theorem dX2_hold_9 : decode cX2_hold 9 = .ok (.getfield 9, 3) := by decide +kernel
theorem dX2_hold_12 : decode cX2_hold 12 = .ok (.iconst 1, 1) := by decide +kernel
theorem dX2_hold_13 : decode cX2_hold 13 = .ok (.isub, 1) := by decide +kernel
theorem dX2_hold_14 : decode cX2_hold 14 = .ok (.ishl, 1) := by decide +kernel
theorem dX2_hold_15 : decode cX2_hold 15 = .ok (.goto 4, 3) := by decide +kernel
theorem dX2_hold_18 : decode cX2_hold 18 = .ok (.iconst 0, 1) := by decide +kernel
theorem dX2_hold_19 : decode cX2_hold 19 = .ok (.istore_n 2, 1) := by decide +kernel
theorem dX2_hold_20 : decode cX2_hold 20 = .ok (.aload_n 0, 1) := by decide +kernel
theorem dX2_hold_21 : decode cX2_hold 21 = .ok (.getfield 15, 3) := by decide +kernel
theorem dX2_hold_24 : decode cX2_hold 24 = .ok (.iconst 1, 1) := by decide +kernel
theorem dX2_hold_25 : decode cX2_hold 25 = .ok (.if_icmp .ne 19, 3) := by decide +kernel
theorem dX2_hold_28 : decode cX2_hold 28 = .ok (.iload_n 1, 1) := by decide +kernel
theorem dX2_hold_29 : decode cX2_hold 29 = .ok (.bipush 8, 2) := by decide +kernel
theorem dX2_hold_31 : decode cX2_hold 31 = .ok (.iload_n 2, 1) := by decide +kernel
theorem dX2_hold_32 : decode cX2_hold 32 = .ok (.isub, 1) := by decide +kernel
theorem dX2_hold_33 : decode cX2_hold 33 = .ok (.if_icmp .lt 7, 3) := by decide +kernel
theorem dX2_hold_36 : decode cX2_hold 36 = .ok (.iconst 1, 1) := by decide +kernel
theorem dX2_hold_37 : decode cX2_hold 37 = .ok (.goto 17, 3) := by decide +kernel
theorem dX2_hold_40 : decode cX2_hold 40 = .ok (.iconst 0, 1) := by decide +kernel
theorem dX2_hold_41 : decode cX2_hold 41 = .ok (.goto 13, 3) := by decide +kernel
theorem dX2_hold_44 : decode cX2_hold 44 = .ok (.iload_n 1, 1) := by decide +kernel
theorem dX2_hold_45 : decode cX2_hold 45 = .ok (.iload_n 2, 1) := by decide +kernel
theorem dX2_hold_46 : decode cX2_hold 46 = .ok (.if_icmp .ge 7, 3) := by decide +kernel
theorem dX2_hold_49 : decode cX2_hold 49 = .ok (.iconst 1, 1) := by decide +kernel
theorem dX2_hold_50 : decode cX2_hold 50 = .ok (.goto 4, 3) := by decide +kernel
theorem dX2_hold_53 : decode cX2_hold 53 = .ok (.iconst 0, 1) := by decide +kernel
theorem dX2_hold_54 : decode cX2_hold 54 = .ok (.ireturn, 1) := by decide +kernel
theorem dX2_become_0 : decode cX2_become 0 = .ok (.aload_n 0, 1) := by decide +kernel
theorem dX2_become_1 : decode cX2_become 1 = .ok (.aload_n 1, 1) := by decide +kernel
theorem dX2_become_2 : decode cX2_become 2 = .ok (.getfield 9, 3) := by decide +kernel
theorem dX2_become_5 : decode cX2_become 5 = .ok (.putfield 9, 3) := by decide +kernel
theorem dX2_become_8 : decode cX2_become 8 = .ok (.aload_n 0, 1) := by decide +kernel
theorem dX2_become_9 : decode cX2_become 9 = .ok (.aload_n 1, 1) := by decide +kernel
theorem dX2_become_10 : decode cX2_become 10 = .ok (.getfield 15, 3) := by decide +kernel
theorem dX2_become_13 : decode cX2_become 13 = .ok (.putfield 15, 3) := by decide +kernel
theorem dX2_become_16 : decode cX2_become 16 = .ok (.aload_n 0, 1) := by decide +kernel
theorem dX2_become_17 : decode cX2_become 17 = .ok (.aload_n 1, 1) := by decide +kernel
theorem dX2_become_18 : decode cX2_become 18 = .ok (.getfield 18, 3) := by decide +kernel
theorem dX2_become_21 : decode cX2_become 21 = .ok (.putfield 18, 3) := by decide +kernel
theorem dX2_become_24 : decode cX2_become 24 = .ok (.return_, 1) := by decide +kernel
theorem dX3_init_0 : decode cX3_init 0 = .ok (.aload_n 0, 1) := by decide +kernel
theorem dX3_init_1 : decode cX3_init 1 = .ok (.invokespecial 3, 3) := by decide +kernel
theorem dX3_init_4 : decode cX3_init 4 = .ok (.aload_n 0, 1) := by decide +kernel
theorem dX3_init_5 : decode cX3_init 5 = .ok (.iconst 0, 1) := by decide +kernel
theorem dX3_init_6 : decode cX3_init 6 = .ok (.putfield 9, 3) := by decide +kernel
theorem dX3_init_9 : decode cX3_init 9 = .ok (.aload_n 0, 1) := by decide +kernel
theorem dX3_init_10 : decode cX3_init 10 = .ok (.iconst 0, 1) := by decide +kernel
theorem dX3_init_11 : decode cX3_init 11 = .ok (.putfield 15, 3) := by decide +kernel
theorem dX3_init_14 : decode cX3_init 14 = .ok (.aload_n 0, 1) := by decide +kernel
theorem dX3_init_15 : decode cX3_init 15 = .ok (.iconst 0, 1) := by decide +kernel
theorem dX3_init_16 : decode cX3_init 16 = .ok (.putfield 18, 3) := by decide +kernel
theorem dX3_init_19 : decode cX3_init 19 = .ok (.aload_n 0, 1) := by decide +kernel
theorem dX3_init_20 : decode cX3_init 20 = .ok (.iconst 0, 1) := by decide +kernel
theorem dX3_init_21 : decode cX3_init 21 = .ok (.putfield 21, 3) := by decide +kernel
theorem dX3_init_24 : decode cX3_init 24 = .ok (.aload_n 0, 1) := by decide +kernel
theorem dX3_init_25 : decode cX3_init 25 = .ok (.iconst 0, 1) := by decide +kernel
theorem dX3_init_26 : decode cX3_init 26 = .ok (.putfield 24, 3) := by decide +kernel
theorem dX3_init_29 : decode cX3_init 29 = .ok (.aload_n 0, 1) := by decide +kernel
theorem dX3_init_30 : decode cX3_init 30 = .ok (.new 27, 3) := by decide +kernel
theorem dX3_init_33 : decode cX3_init 33 = .ok (.dup, 1) := by decide +kernel
theorem dX3_init_34 : decode cX3_init 34 = .ok (.invokespecial 29, 3) := by decide +kernel
theorem dX3_init_37 : decode cX3_init 37 = .ok (.putfield 30, 3) := by decide +kernel
theorem dX3_init_40 : decode cX3_init 40 = .ok (.return_, 1) := by decide +kernel
theorem dX3_become_0 : decode cX3_become 0 = .ok (.aload_n 0, 1) := by decide +kernel
theorem dX3_become_1 : decode cX3_become 1 = .ok (.aload_n 1, 1) := by decide +kernel
theorem dX3_become_2 : decode cX3_become 2 = .ok (.getfield 9, 3) := by decide +kernel
theorem dX3_become_5 : decode cX3_become 5 = .ok (.putfield 9, 3) := by decide +kernel
theorem dX3_become_8 : decode cX3_become 8 = .ok (.aload_n 0, 1) := by decide +kernel
theorem dX3_become_9 : decode cX3_become 9 = .ok (.aload_n 1, 1) := by decide +kernel
theorem dX3_become_10 : decode cX3_become 10 = .ok (.getfield 15, 3) := by decide +kernel
theorem dX3_become_13 : decode cX3_become 13 = .ok (.putfield 15, 3) := by decide +kernel
theorem dX3_become_16 : decode cX3_become 16 = .ok (.aload_n 0, 1) := by decide +kernel
theorem dX3_become_17 : decode cX3_become 17 = .ok (.aload_n 1, 1) := by decide +kernel
theorem dX3_become_18 : decode cX3_become 18 = .ok (.getfield 18, 3) := by decide +kernel
theorem dX3_become_21 : decode cX3_become 21 = .ok (.putfield 18, 3) := by decide +kernel
theorem dX3_become_24 : decode cX3_become 24 = .ok (.aload_n 0, 1) := by decide +kernel
theorem dX3_become_25 : decode cX3_become 25 = .ok (.aload_n 1, 1) := by decide +kernel
theorem dX3_become_26 : decode cX3_become 26 = .ok (.getfield 21, 3) := by decide +kernel
theorem dX3_become_29 : decode cX3_become 29 = .ok (.putfield 21, 3) := by decide +kernel
theorem dX3_become_32 : decode cX3_become 32 = .ok (.aload_n 0, 1) := by decide +kernel
theorem dX3_become_33 : decode cX3_become 33 = .ok (.aload_n 1, 1) := by decide +kernel
theorem dX3_become_34 : decode cX3_become 34 = .ok (.getfield 24, 3) := by decide +kernel
theorem dX3_become_37 : decode cX3_become 37 = .ok (.putfield 24, 3) := by decide +kernel
theorem dX3_become_40 : decode cX3_become 40 = .ok (.aload_n 0, 1) := by decide +kernel
theorem dX3_become_41 : decode cX3_become 41 = .ok (.getfield 30, 3) := by decide +kernel
theorem dX3_become_44 : decode cX3_become 44 = .ok (.aload_n 1, 1) := by decide +kernel
theorem dX3_become_45 : decode cX3_become 45 = .ok (.getfield 30, 3) := by decide +kernel
theorem dX3_become_48 : decode cX3_become 48 = .ok (.invokevirtual 34, 3) := by decide +kernel
theorem dX3_become_51 : decode cX3_become 51 = .ok (.return_, 1) := by decide +kernel
theorem dX4_init_0 : decode cX4_init 0 = .ok (.aload_n 0, 1) := by decide +kernel
theorem dX4_init_1 : decode cX4_init 1 = .ok (.invokespecial 3, 3) := by decide +kernel
theorem dX4_init_4 : decode cX4_init 4 = .ok (.aload_n 0, 1) := by decide +kernel
theorem dX4_init_5 : decode cX4_init 5 = .ok (.bipush 12, 2) := by decide +kernel
theorem dX4_init_7 : decode cX4_init 7 = .ok (.newarray .int, 2) := by decide +kernel
theorem dX4_init_9 : decode cX4_init 9 = .ok (.putfield 9, 3) := by decide +kernel
theorem dX4_init_12 : decode cX4_init 12 = .ok (.aload_n 0, 1) := by decide +kernel
theorem dX4_init_13 : decode cX4_init 13 = .ok (.iconst 0, 1) := by decide +kernel
theorem dX4_init_14 : decode cX4_init 14 = .ok (.putfield 15, 3) := by decide +kernel
theorem dX4_init_17 : decode cX4_init 17 = .ok (.return_, 1) := by decide +kernel
theorem dX4_add_0 : decode cX4_add 0 = .ok (.aload_n 0, 1) := by decide +kernel
theorem dX4_add_1 : decode cX4_add 1 = .ok (.getfield 15, 3) := by decide +kernel
theorem dX4_add_4 : decode cX4_add 4 = .ok (.ifCond .lt 35, 3) := by decide +kernel
theorem dX4_add_7 : decode cX4_add 7 = .ok (.aload_n 0, 1) := by decide +kernel
theorem dX4_add_8 : decode cX4_add 8 = .ok (.getfield 15, 3) := by decide +kernel
theorem dX4_add_11 : decode cX4_add 11 = .ok (.aload_n 0, 1) := by decide +kernel
theorem dX4_add_12 : decode cX4_add 12 = .ok (.getfield 9, 3) := by decide +kernel
theorem dX4_add_15 : decode cX4_add 15 = .ok (.arraylength, 1) := by decide +kernel
theorem dX4_add_16 : decode cX4_add 16 = .ok (.if_icmp .ge 23, 3) := by decide +kernel
theorem dX4_add_19 : decode cX4_add 19 = .ok (.aload_n 0, 1) := by decide +kernel
theorem dX4_add_20 : decode cX4_add 20 = .ok (.getfield 9, 3) := by decide +kernel
theorem dX4_add_23 : decode cX4_add 23 = .ok (.aload_n 0, 1) := by decide +kernel
theorem dX4_add_24 : decode cX4_add 24 = .ok (.getfield 15, 3) := by decide +kernel
theorem dX4_add_27 : decode cX4_add 27 = .ok (.iload_n 1, 1) := by decide +kernel
theorem dX4_add_28 : decode cX4_add 28 = .ok (.iastore, 1) := by decide +kernel
theorem dX4_add_29 : decode cX4_add 29 = .ok (.aload_n 0, 1) := by decide +kernel
theorem dX4_add_30 : decode cX4_add 30 = .ok (.dup, 1) := by decide +kernel
theorem dX4_add_31 : decode cX4_add 31 = .ok (.getfield 15, 3) := by decide +kernel
theorem dX4_add_34 : decode cX4_add 34 = .ok (.iconst 1, 1) := by decide +kernel
theorem dX4_add_35 : decode cX4_add 35 = .ok (.iadd, 1) := by decide +kernel
theorem dX4_add_36 : decode cX4_add 36 = .ok (.putfield 15, 3) := by decide +kernel
theorem dX4_add_39 : decode cX4_add 39 = .ok (.return_, 1) := by decide +kernel
theorem dX4_span_0 : decode cX4_span 0 = .ok (.aload_n 0, 1) := by decide +kernel
theorem dX4_span_1 : decode cX4_span 1 = .ok (.getfield 15, 3) := by decide +kernel
theorem dX4_span_4 : decode cX4_span 4 = .ok (.bipush 8, 2) := by decide +kernel
theorem dX4_span_6 : decode cX4_span 6 = .ok (.invokestatic 19, 3) := by decide +kernel
theorem dX4_span_9 : decode cX4_span 9 = .ok (.ireturn, 1) := by decide +kernel
theorem dX4_valueFor_0 : decode cX4_valueFor 0 = .ok (.iload_n 1, 1) := by decide +kernel
theorem dX4_valueFor_1 : decode cX4_valueFor 1 = .ok (.ifCond .lt 11, 3) := by decide +kernel
theorem dX4_valueFor_4 : decode cX4_valueFor 4 = .ok (.iload_n 1, 1) := by decide +kernel
theorem dX4_valueFor_5 : decode cX4_valueFor 5 = .ok (.aload_n 0, 1) := by decide +kernel
theorem dX4_valueFor_6 : decode cX4_valueFor 6 = .ok (.getfield 15, 3) := by decide +kernel
theorem dX4_valueFor_9 : decode cX4_valueFor 9 = .ok (.if_icmp .lt 5, 3) := by decide +kernel
theorem dX4_valueFor_12 : decode cX4_valueFor 12 = .ok (.iconst (-1), 1) := by decide +kernel
theorem dX4_valueFor_13 : decode cX4_valueFor 13 = .ok (.ireturn, 1) := by decide +kernel
theorem dX4_valueFor_14 : decode cX4_valueFor 14 = .ok (.aload_n 0, 1) := by decide +kernel
theorem dX4_valueFor_15 : decode cX4_valueFor 15 = .ok (.getfield 15, 3) := by decide +kernel
theorem dX4_valueFor_18 : decode cX4_valueFor 18 = .ok (.iconst 1, 1) := by decide +kernel
theorem dX4_valueFor_19 : decode cX4_valueFor 19 = .ok (.isub, 1) := by decide +kernel
theorem dX4_valueFor_20 : decode cX4_valueFor 20 = .ok (.iload_n 1, 1) := by decide +kernel
theorem dX4_valueFor_21 : decode cX4_valueFor 21 = .ok (.isub, 1) := by decide +kernel
theorem dX4_valueFor_22 : decode cX4_valueFor 22 = .ok (.bipush 8, 2) := by decide +kernel
theorem dX4_valueFor_24 : decode cX4_valueFor 24 = .ok (.idiv, 1) := by decide +kernel
theorem dX4_valueFor_25 : decode cX4_valueFor 25 = .ok (.istore_n 2, 1) := by decide +kernel
theorem dX4_valueFor_26 : decode cX4_valueFor 26 = .ok (.aload_n 0, 1) := by decide +kernel
theorem dX4_valueFor_27 : decode cX4_valueFor 27 = .ok (.getfield 9, 3) := by decide +kernel
theorem dX4_valueFor_30 : decode cX4_valueFor 30 = .ok (.iload_n 1, 1) := by decide +kernel
theorem dX4_valueFor_31 : decode cX4_valueFor 31 = .ok (.iload_n 2, 1) := by decide +kernel
theorem dX4_valueFor_32 : decode cX4_valueFor 32 = .ok (.bipush 8, 2) := by decide +kernel
theorem dX4_valueFor_34 : decode cX4_valueFor 34 = .ok (.imul, 1) := by decide +kernel
theorem dX4_valueFor_35 : decode cX4_valueFor 35 = .ok (.iadd, 1) := by decide +kernel
theorem dX4_valueFor_36 : decode cX4_valueFor 36 = .ok (.invokestatic 25, 3) := by decide +kernel
theorem dX4_valueFor_39 : decode cX4_valueFor 39 = .ok (.ireturn, 1) := by decide +kernel
theorem dX4_become_0 : decode cX4_become 0 = .ok (.aload_n 1, 1) := by decide +kernel
theorem dX4_become_1 : decode cX4_become 1 = .ok (.getfield 9, 3) := by decide +kernel
theorem dX4_become_4 : decode cX4_become 4 = .ok (.iconst 0, 1) := by decide +kernel
theorem dX4_become_5 : decode cX4_become 5 = .ok (.aload_n 0, 1) := by decide +kernel
theorem dX4_become_6 : decode cX4_become 6 = .ok (.getfield 9, 3) := by decide +kernel
theorem dX4_become_9 : decode cX4_become 9 = .ok (.iconst 0, 1) := by decide +kernel
theorem dX4_become_10 : decode cX4_become 10 = .ok (.aload_n 0, 1) := by decide +kernel
theorem dX4_become_11 : decode cX4_become 11 = .ok (.getfield 9, 3) := by decide +kernel
theorem dX4_become_14 : decode cX4_become 14 = .ok (.arraylength, 1) := by decide +kernel
theorem dX4_become_15 : decode cX4_become 15 = .ok (.aload_n 1, 1) := by decide +kernel
theorem dX4_become_16 : decode cX4_become 16 = .ok (.getfield 9, 3) := by decide +kernel
theorem dX4_become_19 : decode cX4_become 19 = .ok (.arraylength, 1) := by decide +kernel
theorem dX4_become_20 : decode cX4_become 20 = .ok (.invokestatic 19, 3) := by decide +kernel
theorem dX4_become_23 : decode cX4_become 23 = .ok (.invokestatic 29, 3) := by decide +kernel
theorem dX4_become_26 : decode cX4_become 26 = .ok (.aload_n 0, 1) := by decide +kernel
theorem dX4_become_27 : decode cX4_become 27 = .ok (.aload_n 1, 1) := by decide +kernel
theorem dX4_become_28 : decode cX4_become 28 = .ok (.getfield 15, 3) := by decide +kernel
theorem dX4_become_31 : decode cX4_become 31 = .ok (.putfield 15, 3) := by decide +kernel
theorem dX4_become_34 : decode cX4_become 34 = .ok (.return_, 1) := by decide +kernel
theorem dX5_init_0 : decode cX5_init 0 = .ok (.aload_n 0, 1) := by decide +kernel
theorem dX5_init_1 : decode cX5_init 1 = .ok (.invokespecial 3, 3) := by decide +kernel
theorem dX5_init_4 : decode cX5_init 4 = .ok (.aload_n 0, 1) := by decide +kernel
theorem dX5_init_5 : decode cX5_init 5 = .ok (.iconst 0, 1) := by decide +kernel
theorem dX5_init_6 : decode cX5_init 6 = .ok (.putfield 11, 3) := by decide +kernel
theorem dX5_init_9 : decode cX5_init 9 = .ok (.aload_n 0, 1) := by decide +kernel
theorem dX5_init_10 : decode cX5_init 10 = .ok (.bipush 116, 2) := by decide +kernel
theorem dX5_init_12 : decode cX5_init 12 = .ok (.putfield 15, 3) := by decide +kernel
theorem dX5_init_15 : decode cX5_init 15 = .ok (.aload_n 0, 1) := by decide +kernel
theorem dX5_init_16 : decode cX5_init 16 = .ok (.iconst 0, 1) := by decide +kernel
theorem dX5_init_17 : decode cX5_init 17 = .ok (.putfield 19, 3) := by decide +kernel
theorem dX5_init_20 : decode cX5_init 20 = .ok (.aload_n 0, 1) := by decide +kernel
theorem dX5_init_21 : decode cX5_init 21 = .ok (.iconst 5, 1) := by decide +kernel
theorem dX5_init_22 : decode cX5_init 22 = .ok (.putfield 22, 3) := by decide +kernel
theorem dX5_init_25 : decode cX5_init 25 = .ok (.aload_n 0, 1) := by decide +kernel
theorem dX5_init_26 : decode cX5_init 26 = .ok (.new 25, 3) := by decide +kernel
theorem dX5_init_29 : decode cX5_init 29 = .ok (.dup, 1) := by decide +kernel
theorem dX5_init_30 : decode cX5_init 30 = .ok (.invokespecial 27, 3) := by decide +kernel
theorem dX5_init_33 : decode cX5_init 33 = .ok (.putfield 28, 3) := by decide +kernel
theorem dX5_init_36 : decode cX5_init 36 = .ok (.aload_n 0, 1) := by decide +kernel
theorem dX5_init_37 : decode cX5_init 37 = .ok (.iconst 0, 1) := by decide +kernel
theorem dX5_init_38 : decode cX5_init 38 = .ok (.putfield 32, 3) := by decide +kernel
theorem dX5_init_41 : decode cX5_init 41 = .ok (.return_, 1) := by decide +kernel
theorem dX5_start_0 : decode cX5_start 0 = .ok (.aload_n 0, 1) := by decide +kernel
theorem dX5_start_1 : decode cX5_start 1 = .ok (.iconst 0, 1) := by decide +kernel
theorem dX5_start_2 : decode cX5_start 2 = .ok (.putfield 11, 3) := by decide +kernel
theorem dX5_start_5 : decode cX5_start 5 = .ok (.return_, 1) := by decide +kernel
theorem dX5_isComplete_0 : decode cX5_isComplete 0 = .ok (.aload_n 0, 1) := by decide +kernel
theorem dX5_isComplete_1 : decode cX5_isComplete 1 = .ok (.getfield 11, 3) := by decide +kernel
theorem dX5_isComplete_4 : decode cX5_isComplete 4 = .ok (.iconst 5, 1) := by decide +kernel
theorem dX5_isComplete_5 : decode cX5_isComplete 5 = .ok (.if_icmp .eq 29, 3) := by decide +kernel
theorem dX5_isComplete_8 : decode cX5_isComplete 8 = .ok (.aload_n 0, 1) := by decide +kernel
theorem dX5_isComplete_9 : decode cX5_isComplete 9 = .ok (.getfield 11, 3) := by decide +kernel
theorem dX5_isComplete_12 : decode cX5_isComplete 12 = .ok (.bipush 7, 2) := by decide +kernel
theorem dX5_isComplete_14 : decode cX5_isComplete 14 = .ok (.if_icmp .eq 20, 3) := by decide +kernel
theorem dX5_isComplete_17 : decode cX5_isComplete 17 = .ok (.aload_n 0, 1) := by decide +kernel
theorem dX5_isComplete_18 : decode cX5_isComplete 18 = .ok (.getfield 11, 3) := by decide +kernel
theorem dX5_isComplete_21 : decode cX5_isComplete 21 = .ok (.iconst 2, 1) := by decide +kernel
theorem dX5_isComplete_22 : decode cX5_isComplete 22 = .ok (.if_icmp .ne 16, 3) := by decide +kernel
theorem dX5_isComplete_25 : decode cX5_isComplete 25 = .ok (.aload_n 0, 1) := by decide +kernel
theorem dX5_isComplete_26 : decode cX5_isComplete 26 = .ok (.getfield 15, 3) := by decide +kernel
theorem dX5_isComplete_29 : decode cX5_isComplete 29 = .ok (.bipush 119, 2) := by decide +kernel
theorem dX5_isComplete_31 : decode cX5_isComplete 31 = .ok (.if_icmp .eq 7, 3) := by decide +kernel
theorem dX5_isComplete_34 : decode cX5_isComplete 34 = .ok (.iconst 1, 1) := by decide +kernel
theorem dX5_isComplete_35 : decode cX5_isComplete 35 = .ok (.goto 4, 3) := by decide +kernel
theorem dX5_isComplete_38 : decode cX5_isComplete 38 = .ok (.iconst 0, 1) := by decide +kernel
theorem dX5_isComplete_39 : decode cX5_isComplete 39 = .ok (.ireturn, 1) := by decide +kernel
theorem dX5_goesOnWith_0 : decode cX5_goesOnWith 0 = .ok (.aload_n 0, 1) := by decide +kernel
theorem dX5_goesOnWith_1 : decode cX5_goesOnWith 1 = .ok (.getfield 11, 3) := by decide +kernel
theorem dX5_goesOnWith_4 : decode cX5_goesOnWith 4 = .ok (.tableswitch 86 0 6 #[44, 50, 56, 62, 68, 74, 80], 44) := by decide +kernel
theorem dX5_goesOnWith_48 : decode cX5_goesOnWith 48 = .ok (.aload_n 0, 1) := by decide +kernel
theorem dX5_goesOnWith_49 : decode cX5_goesOnWith 49 = .ok (.iload_n 1, 1) := by decide +kernel
theorem dX5_goesOnWith_50 : decode cX5_goesOnWith 50 = .ok (.invokevirtual 35, 3) := by decide +kernel
theorem dX5_goesOnWith_53 : decode cX5_goesOnWith 53 = .ok (.ireturn, 1) := by decide +kernel
theorem dX5_goesOnWith_54 : decode cX5_goesOnWith 54 = .ok (.aload_n 0, 1) := by decide +kernel
theorem dX5_goesOnWith_55 : decode cX5_goesOnWith 55 = .ok (.iload_n 1, 1) := by decide +kernel
theorem dX5_goesOnWith_56 : decode cX5_goesOnWith 56 = .ok (.invokevirtual 39, 3) := by decide +kernel
theorem dX5_goesOnWith_59 : decode cX5_goesOnWith 59 = .ok (.ireturn, 1) := by decide +kernel
theorem dX5_goesOnWith_60 : decode cX5_goesOnWith 60 = .ok (.aload_n 0, 1) := by decide +kernel
theorem dX5_goesOnWith_61 : decode cX5_goesOnWith 61 = .ok (.iload_n 1, 1) := by decide +kernel
theorem dX5_goesOnWith_62 : decode cX5_goesOnWith 62 = .ok (.invokevirtual 42, 3) := by decide +kernel
theorem dX5_goesOnWith_65 : decode cX5_goesOnWith 65 = .ok (.ireturn, 1) := by decide +kernel
theorem dX5_goesOnWith_66 : decode cX5_goesOnWith 66 = .ok (.aload_n 0, 1) := by decide +kernel
theorem dX5_goesOnWith_67 : decode cX5_goesOnWith 67 = .ok (.iload_n 1, 1) := by decide +kernel
theorem dX5_goesOnWith_68 : decode cX5_goesOnWith 68 = .ok (.invokevirtual 45, 3) := by decide +kernel
theorem dX5_goesOnWith_71 : decode cX5_goesOnWith 71 = .ok (.ireturn, 1) := by decide +kernel
theorem dX5_goesOnWith_72 : decode cX5_goesOnWith 72 = .ok (.aload_n 0, 1) := by decide +kernel
theorem dX5_goesOnWith_73 : decode cX5_goesOnWith 73 = .ok (.iload_n 1, 1) := by decide +kernel
theorem dX5_goesOnWith_74 : decode cX5_goesOnWith 74 = .ok (.invokevirtual 48, 3) := by decide +kernel
theorem dX5_goesOnWith_77 : decode cX5_goesOnWith 77 = .ok (.ireturn, 1) := by decide +kernel
theorem dX5_goesOnWith_78 : decode cX5_goesOnWith 78 = .ok (.aload_n 0, 1) := by decide +kernel
theorem dX5_goesOnWith_79 : decode cX5_goesOnWith 79 = .ok (.iload_n 1, 1) := by decide +kernel
theorem dX5_goesOnWith_80 : decode cX5_goesOnWith 80 = .ok (.invokevirtual 51, 3) := by decide +kernel
theorem dX5_goesOnWith_83 : decode cX5_goesOnWith 83 = .ok (.ireturn, 1) := by decide +kernel
theorem dX5_goesOnWith_84 : decode cX5_goesOnWith 84 = .ok (.aload_n 0, 1) := by decide +kernel
theorem dX5_goesOnWith_85 : decode cX5_goesOnWith 85 = .ok (.iload_n 1, 1) := by decide +kernel
theorem dX5_goesOnWith_86 : decode cX5_goesOnWith 86 = .ok (.invokevirtual 54, 3) := by decide +kernel
theorem dX5_goesOnWith_89 : decode cX5_goesOnWith 89 = .ok (.ireturn, 1) := by decide +kernel
theorem dX5_goesOnWith_90 : decode cX5_goesOnWith 90 = .ok (.aload_n 0, 1) := by decide +kernel
theorem dX5_goesOnWith_91 : decode cX5_goesOnWith 91 = .ok (.iload_n 1, 1) := by decide +kernel
theorem dX5_goesOnWith_92 : decode cX5_goesOnWith 92 = .ok (.iconst 0, 1) := by decide +kernel
theorem dX5_goesOnWith_93 : decode cX5_goesOnWith 93 = .ok (.invokevirtual 57, 3) := by decide +kernel
theorem dX5_goesOnWith_96 : decode cX5_goesOnWith 96 = .ok (.ireturn, 1) := by decide +kernel
theorem dX5_opensPart_0 : decode cX5_opensPart 0 = .ok (.iload_n 1, 1) := by decide +kernel
theorem dX5_opensPart_1 : decode cX5_opensPart 1 = .ok (.bipush 119, 2) := by decide +kernel
theorem dX5_opensPart_3 : decode cX5_opensPart 3 = .ok (.if_icmp .eq 17, 3) := by decide +kernel
theorem dX5_opensPart_6 : decode cX5_opensPart 6 = .ok (.iload_n 1, 1) := by decide +kernel
theorem dX5_opensPart_7 : decode cX5_opensPart 7 = .ok (.bipush 101, 2) := by decide +kernel
theorem dX5_opensPart_9 : decode cX5_opensPart 9 = .ok (.if_icmp .eq 11, 3) := by decide +kernel
theorem dX5_opensPart_12 : decode cX5_opensPart 12 = .ok (.iload_n 1, 1) := by decide +kernel
theorem dX5_opensPart_13 : decode cX5_opensPart 13 = .ok (.bipush 116, 2) := by decide +kernel
theorem dX5_opensPart_15 : decode cX5_opensPart 15 = .ok (.if_icmp .eq 5, 3) := by decide +kernel
theorem dX5_opensPart_18 : decode cX5_opensPart 18 = .ok (.iconst 0, 1) := by decide +kernel
theorem dX5_opensPart_19 : decode cX5_opensPart 19 = .ok (.ireturn, 1) := by decide +kernel
theorem dX5_opensPart_20 : decode cX5_opensPart 20 = .ok (.aload_n 0, 1) := by decide +kernel
theorem dX5_opensPart_21 : decode cX5_opensPart 21 = .ok (.iload_n 1, 1) := by decide +kernel
theorem dX5_opensPart_22 : decode cX5_opensPart 22 = .ok (.putfield 15, 3) := by decide +kernel
theorem dX5_opensPart_25 : decode cX5_opensPart 25 = .ok (.aload_n 0, 1) := by decide +kernel
theorem dX5_opensPart_26 : decode cX5_opensPart 26 = .ok (.iconst 0, 1) := by decide +kernel
theorem dX5_opensPart_27 : decode cX5_opensPart 27 = .ok (.putfield 19, 3) := by decide +kernel
theorem dX5_opensPart_30 : decode cX5_opensPart 30 = .ok (.aload_n 0, 1) := by decide +kernel
theorem dX5_opensPart_31 : decode cX5_opensPart 31 = .ok (.iconst 5, 1) := by decide +kernel
theorem dX5_opensPart_32 : decode cX5_opensPart 32 = .ok (.putfield 22, 3) := by decide +kernel
theorem dX5_opensPart_35 : decode cX5_opensPart 35 = .ok (.aload_n 0, 1) := by decide +kernel
theorem dX5_opensPart_36 : decode cX5_opensPart 36 = .ok (.getfield 28, 3) := by decide +kernel
theorem dX5_opensPart_39 : decode cX5_opensPart 39 = .ok (.iconst 0, 1) := by decide +kernel
theorem dX5_opensPart_40 : decode cX5_opensPart 40 = .ok (.putfield 61, 3) := by decide +kernel
theorem dX5_opensPart_43 : decode cX5_opensPart 43 = .ok (.aload_n 0, 1) := by decide +kernel
theorem dX5_opensPart_44 : decode cX5_opensPart 44 = .ok (.iconst 1, 1) := by decide +kernel
theorem dX5_opensPart_45 : decode cX5_opensPart 45 = .ok (.putfield 11, 3) := by decide +kernel
theorem dX5_opensPart_48 : decode cX5_opensPart 48 = .ok (.iconst 1, 1) := by decide +kernel
theorem dX5_opensPart_49 : decode cX5_opensPart 49 = .ok (.ireturn, 1) := by decide +kernel
theorem dX5_opensNumber_0 : decode cX5_opensNumber 0 = .ok (.iload_n 1, 1) := by decide +kernel
theorem dX5_opensNumber_1 : decode cX5_opensNumber 1 = .ok (.bipush 10, 2) := by decide +kernel
theorem dX5_opensNumber_3 : decode cX5_opensNumber 3 = .ok (.invokestatic 64, 3) := by decide +kernel
theorem dX5_opensNumber_6 : decode cX5_opensNumber 6 = .ok (.istore_n 2, 1) := by decide +kernel
theorem dX5_opensNumber_7 : decode cX5_opensNumber 7 = .ok (.aload_n 0, 1) := by decide +kernel
theorem dX5_opensNumber_8 : decode cX5_opensNumber 8 = .ok (.getfield 15, 3) := by decide +kernel
theorem dX5_opensNumber_11 : decode cX5_opensNumber 11 = .ok (.bipush 116, 2) := by decide +kernel
theorem dX5_opensNumber_13 : decode cX5_opensNumber 13 = .ok (.if_icmp .ne 7, 3) := by decide +kernel
theorem dX5_opensNumber_16 : decode cX5_opensNumber 16 = .ok (.iconst 1, 1) := by decide +kernel
theorem dX5_opensNumber_17 : decode cX5_opensNumber 17 = .ok (.goto 4, 3) := by decide +kernel
theorem dX5_opensNumber_20 : decode cX5_opensNumber 20 = .ok (.iconst 0, 1) := by decide +kernel
theorem dX5_opensNumber_21 : decode cX5_opensNumber 21 = .ok (.istore_n 3, 1) := by decide +kernel
theorem dX5_opensNumber_22 : decode cX5_opensNumber 22 = .ok (.iload_n 2, 1) := by decide +kernel
theorem dX5_opensNumber_23 : decode cX5_opensNumber 23 = .ok (.iload_n 3, 1) := by decide +kernel
theorem dX5_opensNumber_24 : decode cX5_opensNumber 24 = .ok (.if_icmp .lt 11, 3) := by decide +kernel
theorem dX5_opensNumber_27 : decode cX5_opensNumber 27 = .ok (.iload_n 2, 1) := by decide +kernel
theorem dX5_opensNumber_28 : decode cX5_opensNumber 28 = .ok (.aload_n 0, 1) := by decide +kernel
theorem dX5_opensNumber_29 : decode cX5_opensNumber 29 = .ok (.invokevirtual 68, 3) := by decide +kernel
theorem dX5_opensNumber_32 : decode cX5_opensNumber 32 = .ok (.if_icmp .le 5, 3) := by decide +kernel
theorem dX5_opensNumber_35 : decode cX5_opensNumber 35 = .ok (.iconst 0, 1) := by decide +kernel
theorem dX5_opensNumber_36 : decode cX5_opensNumber 36 = .ok (.ireturn, 1) := by decide +kernel
theorem dX5_opensNumber_37 : decode cX5_opensNumber 37 = .ok (.aload_n 0, 1) := by decide +kernel
theorem dX5_opensNumber_38 : decode cX5_opensNumber 38 = .ok (.iload_n 2, 1) := by decide +kernel
theorem dX5_opensNumber_39 : decode cX5_opensNumber 39 = .ok (.putfield 19, 3) := by decide +kernel
theorem dX5_opensNumber_42 : decode cX5_opensNumber 42 = .ok (.aload_n 0, 1) := by decide +kernel
theorem dX5_opensNumber_43 : decode cX5_opensNumber 43 = .ok (.iconst 2, 1) := by decide +kernel
theorem dX5_opensNumber_44 : decode cX5_opensNumber 44 = .ok (.putfield 11, 3) := by decide +kernel
theorem dX5_opensNumber_47 : decode cX5_opensNumber 47 = .ok (.iconst 1, 1) := by decide +kernel
theorem dX5_opensNumber_48 : decode cX5_opensNumber 48 = .ok (.ireturn, 1) := by decide +kernel
theorem dX5_mostNumber_0 : decode cX5_mostNumber 0 = .ok (.aload_n 0, 1) := by decide +kernel
theorem dX5_mostNumber_1 : decode cX5_mostNumber 1 = .ok (.getfield 15, 3) := by decide +kernel
theorem dX5_mostNumber_4 : decode cX5_mostNumber 4 = .ok (.bipush 119, 2) := by decide +kernel
theorem dX5_mostNumber_6 : decode cX5_mostNumber 6 = .ok (.if_icmp .ne 7, 3) := by decide +kernel
theorem dX5_mostNumber_9 : decode cX5_mostNumber 9 = .ok (.sipush 255, 3) := by decide +kernel
theorem dX5_mostNumber_12 : decode cX5_mostNumber 12 = .ok (.ireturn, 1) := by decide +kernel
theorem dX5_mostNumber_13 : decode cX5_mostNumber 13 = .ok (.aload_n 0, 1) := by decide +kernel
theorem dX5_mostNumber_14 : decode cX5_mostNumber 14 = .ok (.getfield 15, 3) := by decide +kernel
theorem dX5_mostNumber_17 : decode cX5_mostNumber 17 = .ok (.bipush 101, 2) := by decide +kernel
theorem dX5_mostNumber_19 : decode cX5_mostNumber 19 = .ok (.if_icmp .ne 8, 3) := by decide +kernel
theorem dX5_mostNumber_22 : decode cX5_mostNumber 22 = .ok (.bipush 7, 2) := by decide +kernel
theorem dX5_mostNumber_24 : decode cX5_mostNumber 24 = .ok (.goto 5, 3) := by decide +kernel
theorem dX5_mostNumber_27 : decode cX5_mostNumber 27 = .ok (.bipush 99, 2) := by decide +kernel
theorem dX5_mostNumber_29 : decode cX5_mostNumber 29 = .ok (.ireturn, 1) := by decide +kernel
theorem dX5_goesOnBehindDigit_0 : decode cX5_goesOnBehindDigit 0 = .ok (.iload_n 1, 1) := by decide +kernel
theorem dX5_goesOnBehindDigit_1 : decode cX5_goesOnBehindDigit 1 = .ok (.bipush 10, 2) := by decide +kernel
theorem dX5_goesOnBehindDigit_3 : decode cX5_goesOnBehindDigit 3 = .ok (.invokestatic 64, 3) := by decide +kernel
theorem dX5_goesOnBehindDigit_6 : decode cX5_goesOnBehindDigit 6 = .ok (.istore_n 2, 1) := by decide +kernel
theorem dX5_goesOnBehindDigit_7 : decode cX5_goesOnBehindDigit 7 = .ok (.iload_n 2, 1) := by decide +kernel
theorem dX5_goesOnBehindDigit_8 : decode cX5_goesOnBehindDigit 8 = .ok (.iconst (-1), 1) := by decide +kernel
theorem dX5_goesOnBehindDigit_9 : decode cX5_goesOnBehindDigit 9 = .ok (.if_icmp .eq 9, 3) := by decide +kernel
theorem dX5_goesOnBehindDigit_12 : decode cX5_goesOnBehindDigit 12 = .ok (.aload_n 0, 1) := by decide +kernel
theorem dX5_goesOnBehindDigit_13 : decode cX5_goesOnBehindDigit 13 = .ok (.iload_n 2, 1) := by decide +kernel
theorem dX5_goesOnBehindDigit_14 : decode cX5_goesOnBehindDigit 14 = .ok (.invokevirtual 72, 3) := by decide +kernel
theorem dX5_goesOnBehindDigit_17 : decode cX5_goesOnBehindDigit 17 = .ok (.ireturn, 1) := by decide +kernel
theorem dX5_goesOnBehindDigit_18 : decode cX5_goesOnBehindDigit 18 = .ok (.aload_n 0, 1) := by decide +kernel
theorem dX5_goesOnBehindDigit_19 : decode cX5_goesOnBehindDigit 19 = .ok (.getfield 15, 3) := by decide +kernel
theorem dX5_goesOnBehindDigit_22 : decode cX5_goesOnBehindDigit 22 = .ok (.bipush 119, 2) := by decide +kernel
theorem dX5_goesOnBehindDigit_24 : decode cX5_goesOnBehindDigit 24 = .ok (.if_icmp .eq 23, 3) := by decide +kernel
theorem dX5_goesOnBehindDigit_27 : decode cX5_goesOnBehindDigit 27 = .ok (.aload_n 0, 1) := by decide +kernel
theorem dX5_goesOnBehindDigit_28 : decode cX5_goesOnBehindDigit 28 = .ok (.iload_n 1, 1) := by decide +kernel
theorem dX5_goesOnBehindDigit_29 : decode cX5_goesOnBehindDigit 29 = .ok (.aload_n 0, 1) := by decide +kernel
theorem dX5_goesOnBehindDigit_30 : decode cX5_goesOnBehindDigit 30 = .ok (.getfield 15, 3) := by decide +kernel
theorem dX5_goesOnBehindDigit_33 : decode cX5_goesOnBehindDigit 33 = .ok (.bipush 101, 2) := by decide +kernel
theorem dX5_goesOnBehindDigit_35 : decode cX5_goesOnBehindDigit 35 = .ok (.if_icmp .ne 7, 3) := by decide +kernel
theorem dX5_goesOnBehindDigit_38 : decode cX5_goesOnBehindDigit 38 = .ok (.iconst 1, 1) := by decide +kernel
theorem dX5_goesOnBehindDigit_39 : decode cX5_goesOnBehindDigit 39 = .ok (.goto 4, 3) := by decide +kernel
theorem dX5_goesOnBehindDigit_42 : decode cX5_goesOnBehindDigit 42 = .ok (.iconst 0, 1) := by decide +kernel
theorem dX5_goesOnBehindDigit_43 : decode cX5_goesOnBehindDigit 43 = .ok (.invokevirtual 57, 3) := by decide +kernel
theorem dX5_goesOnBehindDigit_46 : decode cX5_goesOnBehindDigit 46 = .ok (.ireturn, 1) := by decide +kernel
theorem dX5_goesOnBehindDigit_47 : decode cX5_goesOnBehindDigit 47 = .ok (.aload_n 0, 1) := by decide +kernel
theorem dX5_goesOnBehindDigit_48 : decode cX5_goesOnBehindDigit 48 = .ok (.iconst 3, 1) := by decide +kernel
theorem dX5_goesOnBehindDigit_49 : decode cX5_goesOnBehindDigit 49 = .ok (.putfield 11, 3) := by decide +kernel
theorem dX5_goesOnBehindDigit_52 : decode cX5_goesOnBehindDigit 52 = .ok (.iload_n 1, 1) := by decide +kernel
theorem dX5_goesOnBehindDigit_53 : decode cX5_goesOnBehindDigit 53 = .ok (.bipush 58, 2) := by decide +kernel
theorem dX5_goesOnBehindDigit_55 : decode cX5_goesOnBehindDigit 55 = .ok (.if_icmp .ne 7, 3) := by decide +kernel
theorem dX5_goesOnBehindDigit_58 : decode cX5_goesOnBehindDigit 58 = .ok (.iconst 1, 1) := by decide +kernel
theorem dX5_goesOnBehindDigit_59 : decode cX5_goesOnBehindDigit 59 = .ok (.goto 4, 3) := by decide +kernel
theorem dX5_goesOnBehindDigit_62 : decode cX5_goesOnBehindDigit 62 = .ok (.iconst 0, 1) := by decide +kernel
theorem dX5_goesOnBehindDigit_63 : decode cX5_goesOnBehindDigit 63 = .ok (.ireturn, 1) := by decide +kernel
theorem dX5_lengthensNumber_0 : decode cX5_lengthensNumber 0 = .ok (.aload_n 0, 1) := by decide +kernel
theorem dX5_lengthensNumber_1 : decode cX5_lengthensNumber 1 = .ok (.getfield 19, 3) := by decide +kernel
theorem dX5_lengthensNumber_4 : decode cX5_lengthensNumber 4 = .ok (.bipush 10, 2) := by decide +kernel
theorem dX5_lengthensNumber_6 : decode cX5_lengthensNumber 6 = .ok (.imul, 1) := by decide +kernel
theorem dX5_lengthensNumber_7 : decode cX5_lengthensNumber 7 = .ok (.iload_n 1, 1) := by decide +kernel
theorem dX5_lengthensNumber_8 : decode cX5_lengthensNumber 8 = .ok (.iadd, 1) := by decide +kernel
theorem dX5_lengthensNumber_9 : decode cX5_lengthensNumber 9 = .ok (.istore_n 2, 1) := by decide +kernel
theorem dX5_lengthensNumber_10 : decode cX5_lengthensNumber 10 = .ok (.aload_n 0, 1) := by decide +kernel
theorem dX5_lengthensNumber_11 : decode cX5_lengthensNumber 11 = .ok (.getfield 19, 3) := by decide +kernel
theorem dX5_lengthensNumber_14 : decode cX5_lengthensNumber 14 = .ok (.ifCond .eq 11, 3) := by decide +kernel
theorem dX5_lengthensNumber_17 : decode cX5_lengthensNumber 17 = .ok (.iload_n 2, 1) := by decide +kernel
theorem dX5_lengthensNumber_18 : decode cX5_lengthensNumber 18 = .ok (.aload_n 0, 1) := by decide +kernel
theorem dX5_lengthensNumber_19 : decode cX5_lengthensNumber 19 = .ok (.invokevirtual 68, 3) := by decide +kernel
theorem dX5_lengthensNumber_22 : decode cX5_lengthensNumber 22 = .ok (.if_icmp .le 5, 3) := by decide +kernel
theorem dX5_lengthensNumber_25 : decode cX5_lengthensNumber 25 = .ok (.iconst 0, 1) := by decide +kernel
theorem dX5_lengthensNumber_26 : decode cX5_lengthensNumber 26 = .ok (.ireturn, 1) := by decide +kernel
theorem dX5_lengthensNumber_27 : decode cX5_lengthensNumber 27 = .ok (.aload_n 0, 1) := by decide +kernel
theorem dX5_lengthensNumber_28 : decode cX5_lengthensNumber 28 = .ok (.iload_n 2, 1) := by decide +kernel
theorem dX5_lengthensNumber_29 : decode cX5_lengthensNumber 29 = .ok (.putfield 19, 3) := by decide +kernel
theorem dX5_lengthensNumber_32 : decode cX5_lengthensNumber 32 = .ok (.iconst 1, 1) := by decide +kernel
theorem dX5_lengthensNumber_33 : decode cX5_lengthensNumber 33 = .ok (.ireturn, 1) := by decide +kernel
theorem dX5_opensValue_0 : decode cX5_opensValue 0 = .ok (.aload_n 0, 1) := by decide +kernel
theorem dX5_opensValue_1 : decode cX5_opensValue 1 = .ok (.iload_n 1, 1) := by decide +kernel
theorem dX5_opensValue_2 : decode cX5_opensValue 2 = .ok (.bipush 16, 2) := by decide +kernel
theorem dX5_opensValue_4 : decode cX5_opensValue 4 = .ok (.invokestatic 64, 3) := by decide +kernel
theorem dX5_opensValue_7 : decode cX5_opensValue 7 = .ok (.putfield 32, 3) := by decide +kernel
theorem dX5_opensValue_10 : decode cX5_opensValue 10 = .ok (.aload_n 0, 1) := by decide +kernel
theorem dX5_opensValue_11 : decode cX5_opensValue 11 = .ok (.iconst 4, 1) := by decide +kernel
theorem dX5_opensValue_12 : decode cX5_opensValue 12 = .ok (.putfield 11, 3) := by decide +kernel
theorem dX5_opensValue_15 : decode cX5_opensValue 15 = .ok (.aload_n 0, 1) := by decide +kernel
theorem dX5_opensValue_16 : decode cX5_opensValue 16 = .ok (.getfield 32, 3) := by decide +kernel
theorem dX5_opensValue_19 : decode cX5_opensValue 19 = .ok (.iconst (-1), 1) := by decide +kernel
theorem dX5_opensValue_20 : decode cX5_opensValue 20 = .ok (.if_icmp .eq 7, 3) := by decide +kernel
theorem dX5_opensValue_23 : decode cX5_opensValue 23 = .ok (.iconst 1, 1) := by decide +kernel
theorem dX5_opensValue_24 : decode cX5_opensValue 24 = .ok (.goto 4, 3) := by decide +kernel
theorem dX5_opensValue_27 : decode cX5_opensValue 27 = .ok (.iconst 0, 1) := by decide +kernel
theorem dX5_opensValue_28 : decode cX5_opensValue 28 = .ok (.ireturn, 1) := by decide +kernel
theorem dX5_endsValue_0 : decode cX5_endsValue 0 = .ok (.iload_n 1, 1) := by decide +kernel
theorem dX5_endsValue_1 : decode cX5_endsValue 1 = .ok (.bipush 16, 2) := by decide +kernel
theorem dX5_endsValue_3 : decode cX5_endsValue 3 = .ok (.invokestatic 64, 3) := by decide +kernel
theorem dX5_endsValue_6 : decode cX5_endsValue 6 = .ok (.istore_n 2, 1) := by decide +kernel
theorem dX5_endsValue_7 : decode cX5_endsValue 7 = .ok (.iload_n 2, 1) := by decide +kernel
theorem dX5_endsValue_8 : decode cX5_endsValue 8 = .ok (.iconst (-1), 1) := by decide +kernel
theorem dX5_endsValue_9 : decode cX5_endsValue 9 = .ok (.if_icmp .ne 5, 3) := by decide +kernel
theorem dX5_endsValue_12 : decode cX5_endsValue 12 = .ok (.iconst 0, 1) := by decide +kernel
theorem dX5_endsValue_13 : decode cX5_endsValue 13 = .ok (.ireturn, 1) := by decide +kernel
theorem dX5_endsValue_14 : decode cX5_endsValue 14 = .ok (.aload_n 0, 1) := by decide +kernel
theorem dX5_endsValue_15 : decode cX5_endsValue 15 = .ok (.getfield 28, 3) := by decide +kernel
theorem dX5_endsValue_18 : decode cX5_endsValue 18 = .ok (.aload_n 0, 1) := by decide +kernel
theorem dX5_endsValue_19 : decode cX5_endsValue 19 = .ok (.getfield 32, 3) := by decide +kernel
theorem dX5_endsValue_22 : decode cX5_endsValue 22 = .ok (.bipush 16, 2) := by decide +kernel
theorem dX5_endsValue_24 : decode cX5_endsValue 24 = .ok (.imul, 1) := by decide +kernel
theorem dX5_endsValue_25 : decode cX5_endsValue 25 = .ok (.iload_n 2, 1) := by decide +kernel
theorem dX5_endsValue_26 : decode cX5_endsValue 26 = .ok (.iadd, 1) := by decide +kernel
theorem dX5_endsValue_27 : decode cX5_endsValue 27 = .ok (.invokevirtual 76, 3) := by decide +kernel
theorem dX5_endsValue_30 : decode cX5_endsValue 30 = .ok (.aload_n 0, 1) := by decide +kernel
theorem dX5_endsValue_31 : decode cX5_endsValue 31 = .ok (.iconst 5, 1) := by decide +kernel
theorem dX5_endsValue_32 : decode cX5_endsValue 32 = .ok (.putfield 11, 3) := by decide +kernel
theorem dX5_endsValue_35 : decode cX5_endsValue 35 = .ok (.iconst 1, 1) := by decide +kernel
theorem dX5_endsValue_36 : decode cX5_endsValue 36 = .ok (.ireturn, 1) := by decide +kernel
theorem dX5_goesOnBehindValue_0 : decode cX5_goesOnBehindValue 0 = .ok (.aload_n 0, 1) := by decide +kernel
theorem dX5_goesOnBehindValue_1 : decode cX5_goesOnBehindValue 1 = .ok (.getfield 28, 3) := by decide +kernel
theorem dX5_goesOnBehindValue_4 : decode cX5_goesOnBehindValue 4 = .ok (.getfield 61, 3) := by decide +kernel
theorem dX5_goesOnBehindValue_7 : decode cX5_goesOnBehindValue 7 = .ok (.bipush 8, 2) := by decide +kernel
theorem dX5_goesOnBehindValue_9 : decode cX5_goesOnBehindValue 9 = .ok (.if_icmp .ge 21, 3) := by decide +kernel
theorem dX5_goesOnBehindValue_12 : decode cX5_goesOnBehindValue 12 = .ok (.iload_n 1, 1) := by decide +kernel
theorem dX5_goesOnBehindValue_13 : decode cX5_goesOnBehindValue 13 = .ok (.bipush 16, 2) := by decide +kernel
theorem dX5_goesOnBehindValue_15 : decode cX5_goesOnBehindValue 15 = .ok (.invokestatic 64, 3) := by decide +kernel
theorem dX5_goesOnBehindValue_18 : decode cX5_goesOnBehindValue 18 = .ok (.iconst (-1), 1) := by decide +kernel
theorem dX5_goesOnBehindValue_19 : decode cX5_goesOnBehindValue 19 = .ok (.if_icmp .eq 11, 3) := by decide +kernel
theorem dX5_goesOnBehindValue_22 : decode cX5_goesOnBehindValue 22 = .ok (.aload_n 0, 1) := by decide +kernel
theorem dX5_goesOnBehindValue_23 : decode cX5_goesOnBehindValue 23 = .ok (.iload_n 1, 1) := by decide +kernel
theorem dX5_goesOnBehindValue_24 : decode cX5_goesOnBehindValue 24 = .ok (.invokevirtual 45, 3) := by decide +kernel
theorem dX5_goesOnBehindValue_27 : decode cX5_goesOnBehindValue 27 = .ok (.goto 9, 3) := by decide +kernel
theorem dX5_goesOnBehindValue_30 : decode cX5_goesOnBehindValue 30 = .ok (.aload_n 0, 1) := by decide +kernel
theorem dX5_goesOnBehindValue_31 : decode cX5_goesOnBehindValue 31 = .ok (.iload_n 1, 1) := by decide +kernel
theorem dX5_goesOnBehindValue_32 : decode cX5_goesOnBehindValue 32 = .ok (.iconst 1, 1) := by decide +kernel
theorem dX5_goesOnBehindValue_33 : decode cX5_goesOnBehindValue 33 = .ok (.invokevirtual 57, 3) := by decide +kernel
theorem dX5_goesOnBehindValue_36 : decode cX5_goesOnBehindValue 36 = .ok (.ireturn, 1) := by decide +kernel
theorem dX5_endsPart_0 : decode cX5_endsPart 0 = .ok (.iload_n 1, 1) := by decide +kernel
theorem dX5_endsPart_1 : decode cX5_endsPart 1 = .ok (.bipush 33, 2) := by decide +kernel
theorem dX5_endsPart_3 : decode cX5_endsPart 3 = .ok (.if_icmp .ne 15, 3) := by decide +kernel
theorem dX5_endsPart_6 : decode cX5_endsPart 6 = .ok (.iload_n 2, 1) := by decide +kernel
theorem dX5_endsPart_7 : decode cX5_endsPart 7 = .ok (.ifCond .eq 11, 3) := by decide +kernel
theorem dX5_endsPart_10 : decode cX5_endsPart 10 = .ok (.aload_n 0, 1) := by decide +kernel
theorem dX5_endsPart_11 : decode cX5_endsPart 11 = .ok (.bipush 6, 2) := by decide +kernel
theorem dX5_endsPart_13 : decode cX5_endsPart 13 = .ok (.putfield 11, 3) := by decide +kernel
theorem dX5_endsPart_16 : decode cX5_endsPart 16 = .ok (.iconst 1, 1) := by decide +kernel
theorem dX5_endsPart_17 : decode cX5_endsPart 17 = .ok (.ireturn, 1) := by decide +kernel
theorem dX5_endsPart_18 : decode cX5_endsPart 18 = .ok (.aload_n 0, 1) := by decide +kernel
theorem dX5_endsPart_19 : decode cX5_endsPart 19 = .ok (.iconst 0, 1) := by decide +kernel
theorem dX5_endsPart_20 : decode cX5_endsPart 20 = .ok (.putfield 11, 3) := by decide +kernel
theorem dX5_endsPart_23 : decode cX5_endsPart 23 = .ok (.iload_n 1, 1) := by decide +kernel
theorem dX5_endsPart_24 : decode cX5_endsPart 24 = .ok (.bipush 59, 2) := by decide +kernel
theorem dX5_endsPart_26 : decode cX5_endsPart 26 = .ok (.if_icmp .ne 7, 3) := by decide +kernel
theorem dX5_endsPart_29 : decode cX5_endsPart 29 = .ok (.iconst 1, 1) := by decide +kernel
theorem dX5_endsPart_30 : decode cX5_endsPart 30 = .ok (.goto 4, 3) := by decide +kernel
theorem dX5_endsPart_33 : decode cX5_endsPart 33 = .ok (.iconst 0, 1) := by decide +kernel
theorem dX5_endsPart_34 : decode cX5_endsPart 34 = .ok (.ireturn, 1) := by decide +kernel
theorem dX5_tellsUrgency_0 : decode cX5_tellsUrgency 0 = .ok (.aload_n 0, 1) := by decide +kernel
theorem dX5_tellsUrgency_1 : decode cX5_tellsUrgency 1 = .ok (.iload_n 1, 1) := by decide +kernel
theorem dX5_tellsUrgency_2 : decode cX5_tellsUrgency 2 = .ok (.bipush 10, 2) := by decide +kernel
theorem dX5_tellsUrgency_4 : decode cX5_tellsUrgency 4 = .ok (.invokestatic 64, 3) := by decide +kernel
theorem dX5_tellsUrgency_7 : decode cX5_tellsUrgency 7 = .ok (.putfield 22, 3) := by decide +kernel
theorem dX5_tellsUrgency_10 : decode cX5_tellsUrgency 10 = .ok (.aload_n 0, 1) := by decide +kernel
theorem dX5_tellsUrgency_11 : decode cX5_tellsUrgency 11 = .ok (.bipush 7, 2) := by decide +kernel
theorem dX5_tellsUrgency_13 : decode cX5_tellsUrgency 13 = .ok (.putfield 11, 3) := by decide +kernel
theorem dX5_tellsUrgency_16 : decode cX5_tellsUrgency 16 = .ok (.aload_n 0, 1) := by decide +kernel
theorem dX5_tellsUrgency_17 : decode cX5_tellsUrgency 17 = .ok (.getfield 22, 3) := by decide +kernel
theorem dX5_tellsUrgency_20 : decode cX5_tellsUrgency 20 = .ok (.iconst (-1), 1) := by decide +kernel
theorem dX5_tellsUrgency_21 : decode cX5_tellsUrgency 21 = .ok (.if_icmp .eq 7, 3) := by decide +kernel
theorem dX5_tellsUrgency_24 : decode cX5_tellsUrgency 24 = .ok (.iconst 1, 1) := by decide +kernel
theorem dX5_tellsUrgency_25 : decode cX5_tellsUrgency 25 = .ok (.goto 4, 3) := by decide +kernel
theorem dX5_tellsUrgency_28 : decode cX5_tellsUrgency 28 = .ok (.iconst 0, 1) := by decide +kernel
theorem dX5_tellsUrgency_29 : decode cX5_tellsUrgency 29 = .ok (.ireturn, 1) := by decide +kernel
theorem dX5_figure_0 : decode cX5_figure 0 = .ok (.iload_n 0, 1) := by decide +kernel
theorem dX5_figure_1 : decode cX5_figure 1 = .ok (.bipush 48, 2) := by decide +kernel
theorem dX5_figure_3 : decode cX5_figure 3 = .ok (.if_icmp .lt 14, 3) := by decide +kernel
theorem dX5_figure_6 : decode cX5_figure 6 = .ok (.iload_n 0, 1) := by decide +kernel
theorem dX5_figure_7 : decode cX5_figure 7 = .ok (.bipush 57, 2) := by decide +kernel
theorem dX5_figure_9 : decode cX5_figure 9 = .ok (.if_icmp .gt 8, 3) := by decide +kernel
theorem dX5_figure_12 : decode cX5_figure 12 = .ok (.iload_n 0, 1) := by decide +kernel
theorem dX5_figure_13 : decode cX5_figure 13 = .ok (.bipush 48, 2) := by decide +kernel
theorem dX5_figure_15 : decode cX5_figure 15 = .ok (.isub, 1) := by decide +kernel
theorem dX5_figure_16 : decode cX5_figure 16 = .ok (.ireturn, 1) := by decide +kernel
theorem dX5_figure_17 : decode cX5_figure 17 = .ok (.iload_n 1, 1) := by decide +kernel
theorem dX5_figure_18 : decode cX5_figure 18 = .ok (.bipush 16, 2) := by decide +kernel
theorem dX5_figure_20 : decode cX5_figure 20 = .ok (.if_icmp .ne 25, 3) := by decide +kernel
theorem dX5_figure_23 : decode cX5_figure 23 = .ok (.iload_n 0, 1) := by decide +kernel
theorem dX5_figure_24 : decode cX5_figure 24 = .ok (.bipush 97, 2) := by decide +kernel
theorem dX5_figure_26 : decode cX5_figure 26 = .ok (.if_icmp .lt 19, 3) := by decide +kernel
theorem dX5_figure_29 : decode cX5_figure 29 = .ok (.iload_n 0, 1) := by decide +kernel
theorem dX5_figure_30 : decode cX5_figure 30 = .ok (.bipush 102, 2) := by decide +kernel
theorem dX5_figure_32 : decode cX5_figure 32 = .ok (.if_icmp .gt 13, 3) := by decide +kernel
theorem dX5_figure_35 : decode cX5_figure 35 = .ok (.iload_n 0, 1) := by decide +kernel
theorem dX5_figure_36 : decode cX5_figure 36 = .ok (.bipush 97, 2) := by decide +kernel
theorem dX5_figure_38 : decode cX5_figure 38 = .ok (.isub, 1) := by decide +kernel
theorem dX5_figure_39 : decode cX5_figure 39 = .ok (.bipush 10, 2) := by decide +kernel
theorem dX5_figure_41 : decode cX5_figure 41 = .ok (.iadd, 1) := by decide +kernel
theorem dX5_figure_42 : decode cX5_figure 42 = .ok (.goto 4, 3) := by decide +kernel
theorem dX5_figure_45 : decode cX5_figure 45 = .ok (.iconst (-1), 1) := by decide +kernel
theorem dX5_figure_46 : decode cX5_figure 46 = .ok (.ireturn, 1) := by decide +kernel
theorem dX6_init_0 : decode cX6_init 0 = .ok (.aload_n 0, 1) := by decide +kernel
theorem dX6_init_1 : decode cX6_init 1 = .ok (.invokespecial 3, 3) := by decide +kernel
theorem dX6_init_4 : decode cX6_init 4 = .ok (.aload_n 0, 1) := by decide +kernel
theorem dX6_init_5 : decode cX6_init 5 = .ok (.new 9, 3) := by decide +kernel
theorem dX6_init_8 : decode cX6_init 8 = .ok (.dup, 1) := by decide +kernel
theorem dX6_init_9 : decode cX6_init 9 = .ok (.invokespecial 11, 3) := by decide +kernel
theorem dX6_init_12 : decode cX6_init 12 = .ok (.putfield 12, 3) := by decide +kernel
theorem dX6_init_15 : decode cX6_init 15 = .ok (.aload_n 0, 1) := by decide +kernel
theorem dX6_init_16 : decode cX6_init 16 = .ok (.new 18, 3) := by decide +kernel
theorem dX6_init_19 : decode cX6_init 19 = .ok (.dup, 1) := by decide +kernel
theorem dX6_init_20 : decode cX6_init 20 = .ok (.invokespecial 20, 3) := by decide +kernel
theorem dX6_init_23 : decode cX6_init 23 = .ok (.putfield 21, 3) := by decide +kernel
theorem dX6_init_26 : decode cX6_init 26 = .ok (.aload_n 0, 1) := by decide +kernel
theorem dX6_init_27 : decode cX6_init 27 = .ok (.new 25, 3) := by decide +kernel
theorem dX6_init_30 : decode cX6_init 30 = .ok (.dup, 1) := by decide +kernel
theorem dX6_init_31 : decode cX6_init 31 = .ok (.invokespecial 27, 3) := by decide +kernel
theorem dX6_init_34 : decode cX6_init 34 = .ok (.putfield 28, 3) := by decide +kernel
theorem dX6_init_37 : decode cX6_init 37 = .ok (.aload_n 0, 1) := by decide +kernel
theorem dX6_init_38 : decode cX6_init 38 = .ok (.new 32, 3) := by decide +kernel
theorem dX6_init_41 : decode cX6_init 41 = .ok (.dup, 1) := by decide +kernel
theorem dX6_init_42 : decode cX6_init 42 = .ok (.invokespecial 34, 3) := by decide +kernel
theorem dX6_init_45 : decode cX6_init 45 = .ok (.putfield 35, 3) := by decide +kernel
theorem dX6_init_48 : decode cX6_init 48 = .ok (.aload_n 0, 1) := by decide +kernel
theorem dX6_init_49 : decode cX6_init 49 = .ok (.new 32, 3) := by decide +kernel
theorem dX6_init_52 : decode cX6_init 52 = .ok (.dup, 1) := by decide +kernel
theorem dX6_init_53 : decode cX6_init 53 = .ok (.invokespecial 34, 3) := by decide +kernel
theorem dX6_init_56 : decode cX6_init 56 = .ok (.putfield 39, 3) := by decide +kernel
theorem dX6_init_59 : decode cX6_init 59 = .ok (.aload_n 0, 1) := by decide +kernel
theorem dX6_init_60 : decode cX6_init 60 = .ok (.new 42, 3) := by decide +kernel
theorem dX6_init_63 : decode cX6_init 63 = .ok (.dup, 1) := by decide +kernel
theorem dX6_init_64 : decode cX6_init 64 = .ok (.invokespecial 44, 3) := by decide +kernel
theorem dX6_init_67 : decode cX6_init 67 = .ok (.putfield 45, 3) := by decide +kernel
theorem dX6_init_70 : decode cX6_init 70 = .ok (.aload_n 0, 1) := by decide +kernel
theorem dX6_init_71 : decode cX6_init 71 = .ok (.getstatic 49, 3) := by decide +kernel
theorem dX6_init_74 : decode cX6_init 74 = .ok (.invokevirtual 53, 3) := by decide +kernel
theorem dX6_init_77 : decode cX6_init 77 = .ok (.checkcast 54, 3) := by decide +kernel
theorem dX6_init_80 : decode cX6_init 80 = .ok (.putfield 58, 3) := by decide +kernel
theorem dX6_init_83 : decode cX6_init 83 = .ok (.aload_n 0, 1) := by decide +kernel
theorem dX6_init_84 : decode cX6_init 84 = .ok (.iconst 0, 1) := by decide +kernel
theorem dX6_init_85 : decode cX6_init 85 = .ok (.putfield 61, 3) := by decide +kernel
theorem dX6_init_88 : decode cX6_init 88 = .ok (.aload_n 0, 1) := by decide +kernel
theorem dX6_init_89 : decode cX6_init 89 = .ok (.iconst 0, 1) := by decide +kernel
theorem dX6_init_90 : decode cX6_init 90 = .ok (.putfield 65, 3) := by decide +kernel
theorem dX6_init_93 : decode cX6_init 93 = .ok (.aload_n 0, 1) := by decide +kernel
theorem dX6_init_94 : decode cX6_init 94 = .ok (.iconst 0, 1) := by decide +kernel
theorem dX6_init_95 : decode cX6_init 95 = .ok (.putfield 69, 3) := by decide +kernel
theorem dX6_init_98 : decode cX6_init 98 = .ok (.aload_n 0, 1) := by decide +kernel
theorem dX6_init_99 : decode cX6_init 99 = .ok (.iconst 0, 1) := by decide +kernel
theorem dX6_init_100 : decode cX6_init 100 = .ok (.putfield 72, 3) := by decide +kernel
theorem dX6_init_103 : decode cX6_init 103 = .ok (.aload_n 0, 1) := by decide +kernel
theorem dX6_init_104 : decode cX6_init 104 = .ok (.iconst 0, 1) := by decide +kernel
theorem dX6_init_105 : decode cX6_init 105 = .ok (.putfield 75, 3) := by decide +kernel
theorem dX6_init_108 : decode cX6_init 108 = .ok (.aload_n 0, 1) := by decide +kernel
theorem dX6_init_109 : decode cX6_init 109 = .ok (.iconst 0, 1) := by decide +kernel
theorem dX6_init_110 : decode cX6_init 110 = .ok (.putfield 78, 3) := by decide +kernel
theorem dX6_init_113 : decode cX6_init 113 = .ok (.return_, 1) := by decide +kernel
theorem dX6_become_0 : decode cX6_become 0 = .ok (.aload_n 0, 1) := by decide +kernel
theorem dX6_become_1 : decode cX6_become 1 = .ok (.getfield 12, 3) := by decide +kernel
theorem dX6_become_4 : decode cX6_become 4 = .ok (.aload_n 1, 1) := by decide +kernel
theorem dX6_become_5 : decode cX6_become 5 = .ok (.getfield 12, 3) := by decide +kernel
theorem dX6_become_8 : decode cX6_become 8 = .ok (.invokevirtual 81, 3) := by decide +kernel
theorem dX6_become_11 : decode cX6_become 11 = .ok (.aload_n 0, 1) := by decide +kernel
theorem dX6_become_12 : decode cX6_become 12 = .ok (.getfield 21, 3) := by decide +kernel
theorem dX6_become_15 : decode cX6_become 15 = .ok (.aload_n 1, 1) := by decide +kernel
theorem dX6_become_16 : decode cX6_become 16 = .ok (.getfield 21, 3) := by decide +kernel
theorem dX6_become_19 : decode cX6_become 19 = .ok (.invokevirtual 85, 3) := by decide +kernel
theorem dX6_become_22 : decode cX6_become 22 = .ok (.aload_n 0, 1) := by decide +kernel
theorem dX6_become_23 : decode cX6_become 23 = .ok (.getfield 28, 3) := by decide +kernel
theorem dX6_become_26 : decode cX6_become 26 = .ok (.aload_n 1, 1) := by decide +kernel
theorem dX6_become_27 : decode cX6_become 27 = .ok (.getfield 28, 3) := by decide +kernel
theorem dX6_become_30 : decode cX6_become 30 = .ok (.invokevirtual 88, 3) := by decide +kernel
theorem dX6_become_33 : decode cX6_become 33 = .ok (.aload_n 0, 1) := by decide +kernel
theorem dX6_become_34 : decode cX6_become 34 = .ok (.getfield 35, 3) := by decide +kernel
theorem dX6_become_37 : decode cX6_become 37 = .ok (.aload_n 1, 1) := by decide +kernel
theorem dX6_become_38 : decode cX6_become 38 = .ok (.getfield 35, 3) := by decide +kernel
theorem dX6_become_41 : decode cX6_become 41 = .ok (.invokevirtual 91, 3) := by decide +kernel
theorem dX6_become_44 : decode cX6_become 44 = .ok (.aload_n 0, 1) := by decide +kernel
theorem dX6_become_45 : decode cX6_become 45 = .ok (.getfield 39, 3) := by decide +kernel
theorem dX6_become_48 : decode cX6_become 48 = .ok (.aload_n 1, 1) := by decide +kernel
theorem dX6_become_49 : decode cX6_become 49 = .ok (.getfield 39, 3) := by decide +kernel
theorem dX6_become_52 : decode cX6_become 52 = .ok (.invokevirtual 91, 3) := by decide +kernel
theorem dX6_become_55 : decode cX6_become 55 = .ok (.aload_n 0, 1) := by decide +kernel
theorem dX6_become_56 : decode cX6_become 56 = .ok (.getfield 45, 3) := by decide +kernel
theorem dX6_become_59 : decode cX6_become 59 = .ok (.aload_n 1, 1) := by decide +kernel
theorem dX6_become_60 : decode cX6_become 60 = .ok (.getfield 45, 3) := by decide +kernel
theorem dX6_become_63 : decode cX6_become 63 = .ok (.invokevirtual 94, 3) := by decide +kernel
theorem dX6_become_66 : decode cX6_become 66 = .ok (.aload_n 1, 1) := by decide +kernel
theorem dX6_become_67 : decode cX6_become 67 = .ok (.getfield 58, 3) := by decide +kernel
theorem dX6_become_70 : decode cX6_become 70 = .ok (.iconst 0, 1) := by decide +kernel
theorem dX6_become_71 : decode cX6_become 71 = .ok (.aload_n 0, 1) := by decide +kernel
theorem dX6_become_72 : decode cX6_become 72 = .ok (.getfield 58, 3) := by decide +kernel
theorem dX6_become_75 : decode cX6_become 75 = .ok (.iconst 0, 1) := by decide +kernel
theorem dX6_become_76 : decode cX6_become 76 = .ok (.aload_n 0, 1) := by decide +kernel
theorem dX6_become_77 : decode cX6_become 77 = .ok (.getfield 58, 3) := by decide +kernel
theorem dX6_become_80 : decode cX6_become 80 = .ok (.arraylength, 1) := by decide +kernel
theorem dX6_become_81 : decode cX6_become 81 = .ok (.aload_n 1, 1) := by decide +kernel
theorem dX6_become_82 : decode cX6_become 82 = .ok (.getfield 58, 3) := by decide +kernel
theorem dX6_become_85 : decode cX6_become 85 = .ok (.arraylength, 1) := by decide +kernel
theorem dX6_become_86 : decode cX6_become 86 = .ok (.invokestatic 97, 3) := by decide +kernel
theorem dX6_become_89 : decode cX6_become 89 = .ok (.invokestatic 103, 3) := by decide +kernel
theorem dX6_become_92 : decode cX6_become 92 = .ok (.aload_n 0, 1) := by decide +kernel
theorem dX6_become_93 : decode cX6_become 93 = .ok (.aload_n 1, 1) := by decide +kernel
theorem dX6_become_94 : decode cX6_become 94 = .ok (.getfield 61, 3) := by decide +kernel
theorem dX6_become_97 : decode cX6_become 97 = .ok (.putfield 61, 3) := by decide +kernel
theorem dX6_become_100 : decode cX6_become 100 = .ok (.aload_n 0, 1) := by decide +kernel
theorem dX6_become_101 : decode cX6_become 101 = .ok (.aload_n 1, 1) := by decide +kernel
theorem dX6_become_102 : decode cX6_become 102 = .ok (.getfield 65, 3) := by decide +kernel
theorem dX6_become_105 : decode cX6_become 105 = .ok (.putfield 65, 3) := by decide +kernel
theorem dX6_become_108 : decode cX6_become 108 = .ok (.aload_n 0, 1) := by decide +kernel
theorem dX6_become_109 : decode cX6_become 109 = .ok (.aload_n 1, 1) := by decide +kernel
theorem dX6_become_110 : decode cX6_become 110 = .ok (.getfield 69, 3) := by decide +kernel
theorem dX6_become_113 : decode cX6_become 113 = .ok (.putfield 69, 3) := by decide +kernel
theorem dX6_become_116 : decode cX6_become 116 = .ok (.aload_n 0, 1) := by decide +kernel
theorem dX6_become_117 : decode cX6_become 117 = .ok (.aload_n 1, 1) := by decide +kernel
theorem dX6_become_118 : decode cX6_become 118 = .ok (.getfield 72, 3) := by decide +kernel
theorem dX6_become_121 : decode cX6_become 121 = .ok (.putfield 72, 3) := by decide +kernel
theorem dX6_become_124 : decode cX6_become 124 = .ok (.aload_n 0, 1) := by decide +kernel
theorem dX6_become_125 : decode cX6_become 125 = .ok (.aload_n 1, 1) := by decide +kernel
theorem dX6_become_126 : decode cX6_become 126 = .ok (.getfield 75, 3) := by decide +kernel
theorem dX6_become_129 : decode cX6_become 129 = .ok (.putfield 75, 3) := by decide +kernel
theorem dX6_become_132 : decode cX6_become 132 = .ok (.aload_n 0, 1) := by decide +kernel
theorem dX6_become_133 : decode cX6_become 133 = .ok (.aload_n 1, 1) := by decide +kernel
theorem dX6_become_134 : decode cX6_become 134 = .ok (.getfield 78, 3) := by decide +kernel
theorem dX6_become_137 : decode cX6_become 137 = .ok (.putfield 78, 3) := by decide +kernel
theorem dX6_become_140 : decode cX6_become 140 = .ok (.return_, 1) := by decide +kernel
theorem dX6_isBusy_0 : decode cX6_isBusy 0 = .ok (.aload_n 0, 1) := by decide +kernel
theorem dX6_isBusy_1 : decode cX6_isBusy 1 = .ok (.getfield 35, 3) := by decide +kernel
theorem dX6_isBusy_4 : decode cX6_isBusy 4 = .ok (.getfield 109, 3) := by decide +kernel
theorem dX6_isBusy_7 : decode cX6_isBusy 7 = .ok (.ifCond .eq 7, 3) := by decide +kernel
theorem dX6_isBusy_10 : decode cX6_isBusy 10 = .ok (.iconst 1, 1) := by decide +kernel
theorem dX6_isBusy_11 : decode cX6_isBusy 11 = .ok (.goto 4, 3) := by decide +kernel
theorem dX6_isBusy_14 : decode cX6_isBusy 14 = .ok (.iconst 0, 1) := by decide +kernel
theorem dX6_isBusy_15 : decode cX6_isBusy 15 = .ok (.ireturn, 1) := by decide +kernel
theorem dX6_settingOf_0 : decode cX6_settingOf 0 = .ok (.aload_n 0, 1) := by decide +kernel
theorem dX6_settingOf_1 : decode cX6_settingOf 1 = .ok (.getfield 58, 3) := by decide +kernel
theorem dX6_settingOf_4 : decode cX6_settingOf 4 = .ok (.iload_n 1, 1) := by decide +kernel
theorem dX6_settingOf_5 : decode cX6_settingOf 5 = .ok (.invokestatic 112, 3) := by decide +kernel
theorem dX6_settingOf_8 : decode cX6_settingOf 8 = .ok (.ireturn, 1) := by decide +kernel
theorem dX6_eraseTicks_0 : decode cX6_eraseTicks 0 = .ok (.iconst 4, 1) := by decide +kernel
theorem dX6_eraseTicks_1 : decode cX6_eraseTicks 1 = .ok (.aload_n 0, 1) := by decide +kernel
theorem dX6_eraseTicks_2 : decode cX6_eraseTicks 2 = .ok (.iconst 1, 1) := by decide +kernel
theorem dX6_eraseTicks_3 : decode cX6_eraseTicks 3 = .ok (.invokevirtual 116, 3) := by decide +kernel
theorem dX6_eraseTicks_6 : decode cX6_eraseTicks 6 = .ok (.iadd, 1) := by decide +kernel
theorem dX6_eraseTicks_7 : decode cX6_eraseTicks 7 = .ok (.aload_n 0, 1) := by decide +kernel
theorem dX6_eraseTicks_8 : decode cX6_eraseTicks 8 = .ok (.getfield 12, 3) := by decide +kernel
theorem dX6_eraseTicks_11 : decode cX6_eraseTicks 11 = .ok (.getfield 120, 3) := by decide +kernel
theorem dX6_eraseTicks_14 : decode cX6_eraseTicks 14 = .ok (.iload_n 1, 1) := by decide +kernel
theorem dX6_eraseTicks_15 : decode cX6_eraseTicks 15 = .ok (.invokestatic 112, 3) := by decide +kernel
theorem dX6_eraseTicks_18 : decode cX6_eraseTicks 18 = .ok (.iconst 4, 1) := by decide +kernel
theorem dX6_eraseTicks_19 : decode cX6_eraseTicks 19 = .ok (.idiv, 1) := by decide +kernel
theorem dX6_eraseTicks_20 : decode cX6_eraseTicks 20 = .ok (.iadd, 1) := by decide +kernel
theorem dX6_eraseTicks_21 : decode cX6_eraseTicks 21 = .ok (.ireturn, 1) := by decide +kernel
theorem dX6_hindrance_0 : decode cX6_hindrance 0 = .ok (.aload_n 0, 1) := by decide +kernel
theorem dX6_hindrance_1 : decode cX6_hindrance 1 = .ok (.invokevirtual 123, 3) := by decide +kernel
theorem dX6_hindrance_4 : decode cX6_hindrance 4 = .ok (.ifCond .eq 5, 3) := by decide +kernel
theorem dX6_hindrance_7 : decode cX6_hindrance 7 = .ok (.iconst 1, 1) := by decide +kernel
theorem dX6_hindrance_8 : decode cX6_hindrance 8 = .ok (.ireturn, 1) := by decide +kernel
theorem dX6_hindrance_9 : decode cX6_hindrance 9 = .ok (.aload_n 0, 1) := by decide +kernel
theorem dX6_hindrance_10 : decode cX6_hindrance 10 = .ok (.getfield 61, 3) := by decide +kernel
theorem dX6_hindrance_13 : decode cX6_hindrance 13 = .ok (.ifCond .ne 5, 3) := by decide +kernel
theorem dX6_hindrance_16 : decode cX6_hindrance 16 = .ok (.iconst 2, 1) := by decide +kernel
theorem dX6_hindrance_17 : decode cX6_hindrance 17 = .ok (.ireturn, 1) := by decide +kernel
theorem dX6_hindrance_18 : decode cX6_hindrance 18 = .ok (.iload_n 1, 1) := by decide +kernel
theorem dX6_hindrance_19 : decode cX6_hindrance 19 = .ok (.iconst 3, 1) := by decide +kernel
theorem dX6_hindrance_20 : decode cX6_hindrance 20 = .ok (.if_icmp .ne 16, 3) := by decide +kernel
theorem dX6_hindrance_23 : decode cX6_hindrance 23 = .ok (.aload_n 0, 1) := by decide +kernel
theorem dX6_hindrance_24 : decode cX6_hindrance 24 = .ok (.getfield 21, 3) := by decide +kernel
theorem dX6_hindrance_27 : decode cX6_hindrance 27 = .ok (.getfield 127, 3) := by decide +kernel
theorem dX6_hindrance_30 : decode cX6_hindrance 30 = .ok (.ifCond .eq 23, 3) := by decide +kernel
theorem dX6_hindrance_33 : decode cX6_hindrance 33 = .ok (.goto 18, 3) := by decide +kernel
theorem dX6_hindrance_36 : decode cX6_hindrance 36 = .ok (.aload_n 0, 1) := by decide +kernel
theorem dX6_hindrance_37 : decode cX6_hindrance 37 = .ok (.getfield 21, 3) := by decide +kernel
theorem dX6_hindrance_40 : decode cX6_hindrance 40 = .ok (.iload_n 1, 1) := by decide +kernel
theorem dX6_hindrance_41 : decode cX6_hindrance 41 = .ok (.iload_n 2, 1) := by decide +kernel
theorem dX6_hindrance_42 : decode cX6_hindrance 42 = .ok (.invokestatic 130, 3) := by decide +kernel
theorem dX6_hindrance_45 : decode cX6_hindrance 45 = .ok (.invokevirtual 133, 3) := by decide +kernel
theorem dX6_hindrance_48 : decode cX6_hindrance 48 = .ok (.ifCond .eq 5, 3) := by decide +kernel
theorem dX6_hindrance_51 : decode cX6_hindrance 51 = .ok (.iconst 3, 1) := by decide +kernel
theorem dX6_hindrance_52 : decode cX6_hindrance 52 = .ok (.ireturn, 1) := by decide +kernel
theorem dX6_hindrance_53 : decode cX6_hindrance 53 = .ok (.aload_n 0, 1) := by decide +kernel
theorem dX6_hindrance_54 : decode cX6_hindrance 54 = .ok (.iload_n 1, 1) := by decide +kernel
theorem dX6_hindrance_55 : decode cX6_hindrance 55 = .ok (.iload_n 2, 1) := by decide +kernel
theorem dX6_hindrance_56 : decode cX6_hindrance 56 = .ok (.invokevirtual 137, 3) := by decide +kernel
theorem dX6_hindrance_59 : decode cX6_hindrance 59 = .ok (.ifCond .ne 5, 3) := by decide +kernel
theorem dX6_hindrance_62 : decode cX6_hindrance 62 = .ok (.iconst 4, 1) := by decide +kernel
theorem dX6_hindrance_63 : decode cX6_hindrance 63 = .ok (.ireturn, 1) := by decide +kernel
theorem dX6_hindrance_64 : decode cX6_hindrance 64 = .ok (.iload_n 1, 1) := by decide +kernel
theorem dX6_hindrance_65 : decode cX6_hindrance 65 = .ok (.iconst 1, 1) := by decide +kernel
theorem dX6_hindrance_66 : decode cX6_hindrance 66 = .ok (.if_icmp .ne 17, 3) := by decide +kernel
theorem dX6_hindrance_69 : decode cX6_hindrance 69 = .ok (.aload_n 0, 1) := by decide +kernel
theorem dX6_hindrance_70 : decode cX6_hindrance 70 = .ok (.getfield 28, 3) := by decide +kernel
theorem dX6_hindrance_73 : decode cX6_hindrance 73 = .ok (.getfield 141, 3) := by decide +kernel
theorem dX6_hindrance_76 : decode cX6_hindrance 76 = .ok (.ifCond .ne 7, 3) := by decide +kernel
theorem dX6_hindrance_79 : decode cX6_hindrance 79 = .ok (.iconst 5, 1) := by decide +kernel
theorem dX6_hindrance_80 : decode cX6_hindrance 80 = .ok (.goto 4, 3) := by decide +kernel
theorem dX6_hindrance_83 : decode cX6_hindrance 83 = .ok (.iconst 0, 1) := by decide +kernel
theorem dX6_hindrance_84 : decode cX6_hindrance 84 = .ok (.ireturn, 1) := by decide +kernel
theorem dX6_asideAllows_0 : decode cX6_asideAllows 0 = .ok (.aload_n 0, 1) := by decide +kernel
theorem dX6_asideAllows_1 : decode cX6_asideAllows 1 = .ok (.getfield 39, 3) := by decide +kernel
theorem dX6_asideAllows_4 : decode cX6_asideAllows 4 = .ok (.getfield 109, 3) := by decide +kernel
theorem dX6_asideAllows_7 : decode cX6_asideAllows 7 = .ok (.ifCond .ne 5, 3) := by decide +kernel
theorem dX6_asideAllows_10 : decode cX6_asideAllows 10 = .ok (.iconst 1, 1) := by decide +kernel
theorem dX6_asideAllows_11 : decode cX6_asideAllows 11 = .ok (.ireturn, 1) := by decide +kernel
theorem dX6_asideAllows_12 : decode cX6_asideAllows 12 = .ok (.aload_n 0, 1) := by decide +kernel
theorem dX6_asideAllows_13 : decode cX6_asideAllows 13 = .ok (.getfield 39, 3) := by decide +kernel
theorem dX6_asideAllows_16 : decode cX6_asideAllows 16 = .ok (.getfield 109, 3) := by decide +kernel
theorem dX6_asideAllows_19 : decode cX6_asideAllows 19 = .ok (.iconst 2, 1) := by decide +kernel
theorem dX6_asideAllows_20 : decode cX6_asideAllows 20 = .ok (.if_icmp .ne 27, 3) := by decide +kernel
theorem dX6_asideAllows_23 : decode cX6_asideAllows 23 = .ok (.iload_n 1, 1) := by decide +kernel
theorem dX6_asideAllows_24 : decode cX6_asideAllows 24 = .ok (.iconst 1, 1) := by decide +kernel
theorem dX6_asideAllows_25 : decode cX6_asideAllows 25 = .ok (.if_icmp .ne 22, 3) := by decide +kernel
theorem dX6_asideAllows_28 : decode cX6_asideAllows 28 = .ok (.iload_n 1, 1) := by decide +kernel
theorem dX6_asideAllows_29 : decode cX6_asideAllows 29 = .ok (.iload_n 2, 1) := by decide +kernel
theorem dX6_asideAllows_30 : decode cX6_asideAllows 30 = .ok (.invokestatic 130, 3) := by decide +kernel
theorem dX6_asideAllows_33 : decode cX6_asideAllows 33 = .ok (.aload_n 0, 1) := by decide +kernel
theorem dX6_asideAllows_34 : decode cX6_asideAllows 34 = .ok (.getfield 39, 3) := by decide +kernel
theorem dX6_asideAllows_37 : decode cX6_asideAllows 37 = .ok (.getfield 144, 3) := by decide +kernel
theorem dX6_asideAllows_40 : decode cX6_asideAllows 40 = .ok (.if_icmp .eq 7, 3) := by decide +kernel
theorem dX6_asideAllows_43 : decode cX6_asideAllows 43 = .ok (.iconst 1, 1) := by decide +kernel
theorem dX6_asideAllows_44 : decode cX6_asideAllows 44 = .ok (.goto 4, 3) := by decide +kernel
theorem dX6_asideAllows_47 : decode cX6_asideAllows 47 = .ok (.iconst 0, 1) := by decide +kernel
theorem dX6_asideAllows_48 : decode cX6_asideAllows 48 = .ok (.ireturn, 1) := by decide +kernel
theorem dX6_setAside_0 : decode cX6_setAside 0 = .ok (.aload_n 0, 1) := by decide +kernel
theorem dX6_setAside_1 : decode cX6_setAside 1 = .ok (.getfield 39, 3) := by decide +kernel
theorem dX6_setAside_4 : decode cX6_setAside 4 = .ok (.aload_n 0, 1) := by decide +kernel
theorem dX6_setAside_5 : decode cX6_setAside 5 = .ok (.getfield 35, 3) := by decide +kernel
theorem dX6_setAside_8 : decode cX6_setAside 8 = .ok (.invokevirtual 91, 3) := by decide +kernel
theorem dX6_setAside_11 : decode cX6_setAside 11 = .ok (.aload_n 0, 1) := by decide +kernel
theorem dX6_setAside_12 : decode cX6_setAside 12 = .ok (.getfield 39, 3) := by decide +kernel
theorem dX6_setAside_15 : decode cX6_setAside 15 = .ok (.iload_n 1, 1) := by decide +kernel
theorem dX6_setAside_16 : decode cX6_setAside 16 = .ok (.putfield 147, 3) := by decide +kernel
theorem dX6_setAside_19 : decode cX6_setAside 19 = .ok (.aload_n 0, 1) := by decide +kernel
theorem dX6_setAside_20 : decode cX6_setAside 20 = .ok (.getfield 35, 3) := by decide +kernel
theorem dX6_setAside_23 : decode cX6_setAside 23 = .ok (.invokevirtual 150, 3) := by decide +kernel
theorem dX6_setAside_26 : decode cX6_setAside 26 = .ok (.aload_n 0, 1) := by decide +kernel
theorem dX6_setAside_27 : decode cX6_setAside 27 = .ok (.dup, 1) := by decide +kernel
theorem dX6_setAside_28 : decode cX6_setAside 28 = .ok (.getfield 78, 3) := by decide +kernel
theorem dX6_setAside_31 : decode cX6_setAside 31 = .ok (.iconst 1, 1) := by decide +kernel
theorem dX6_setAside_32 : decode cX6_setAside 32 = .ok (.iadd, 1) := by decide +kernel
theorem dX6_setAside_33 : decode cX6_setAside 33 = .ok (.putfield 78, 3) := by decide +kernel
theorem dX6_setAside_36 : decode cX6_setAside 36 = .ok (.return_, 1) := by decide +kernel
theorem dX6_letGoOn_0 : decode cX6_letGoOn 0 = .ok (.aload_n 0, 1) := by decide +kernel
theorem dX6_letGoOn_1 : decode cX6_letGoOn 1 = .ok (.getfield 35, 3) := by decide +kernel
theorem dX6_letGoOn_4 : decode cX6_letGoOn 4 = .ok (.aload_n 0, 1) := by decide +kernel
theorem dX6_letGoOn_5 : decode cX6_letGoOn 5 = .ok (.getfield 39, 3) := by decide +kernel
theorem dX6_letGoOn_8 : decode cX6_letGoOn 8 = .ok (.invokevirtual 91, 3) := by decide +kernel
theorem dX6_letGoOn_11 : decode cX6_letGoOn 11 = .ok (.aload_n 0, 1) := by decide +kernel
theorem dX6_letGoOn_12 : decode cX6_letGoOn 12 = .ok (.getfield 35, 3) := by decide +kernel
theorem dX6_letGoOn_15 : decode cX6_letGoOn 15 = .ok (.iconst 0, 1) := by decide +kernel
theorem dX6_letGoOn_16 : decode cX6_letGoOn 16 = .ok (.putfield 147, 3) := by decide +kernel
theorem dX6_letGoOn_19 : decode cX6_letGoOn 19 = .ok (.aload_n 0, 1) := by decide +kernel
theorem dX6_letGoOn_20 : decode cX6_letGoOn 20 = .ok (.getfield 39, 3) := by decide +kernel
theorem dX6_letGoOn_23 : decode cX6_letGoOn 23 = .ok (.invokevirtual 150, 3) := by decide +kernel
theorem dX6_letGoOn_26 : decode cX6_letGoOn 26 = .ok (.return_, 1) := by decide +kernel
theorem dX6_losePower_0 : decode cX6_losePower 0 = .ok (.aload_n 0, 1) := by decide +kernel
theorem dX6_losePower_1 : decode cX6_losePower 1 = .ok (.aload_n 0, 1) := by decide +kernel
theorem dX6_losePower_2 : decode cX6_losePower 2 = .ok (.getfield 35, 3) := by decide +kernel
theorem dX6_losePower_5 : decode cX6_losePower 5 = .ok (.invokevirtual 153, 3) := by decide +kernel
theorem dX6_losePower_8 : decode cX6_losePower 8 = .ok (.aload_n 0, 1) := by decide +kernel
theorem dX6_losePower_9 : decode cX6_losePower 9 = .ok (.aload_n 0, 1) := by decide +kernel
theorem dX6_losePower_10 : decode cX6_losePower 10 = .ok (.getfield 39, 3) := by decide +kernel
theorem dX6_losePower_13 : decode cX6_losePower 13 = .ok (.invokevirtual 153, 3) := by decide +kernel
theorem dX6_losePower_16 : decode cX6_losePower 16 = .ok (.iadd, 1) := by decide +kernel
theorem dX6_losePower_17 : decode cX6_losePower 17 = .ok (.istore_n 1, 1) := by decide +kernel
theorem dX6_losePower_18 : decode cX6_losePower 18 = .ok (.aload_n 0, 1) := by decide +kernel
theorem dX6_losePower_19 : decode cX6_losePower 19 = .ok (.dup, 1) := by decide +kernel
theorem dX6_losePower_20 : decode cX6_losePower 20 = .ok (.getfield 75, 3) := by decide +kernel
theorem dX6_losePower_23 : decode cX6_losePower 23 = .ok (.iload_n 1, 1) := by decide +kernel
theorem dX6_losePower_24 : decode cX6_losePower 24 = .ok (.iadd, 1) := by decide +kernel
theorem dX6_losePower_25 : decode cX6_losePower 25 = .ok (.putfield 75, 3) := by decide +kernel
theorem dX6_losePower_28 : decode cX6_losePower 28 = .ok (.aload_n 0, 1) := by decide +kernel
theorem dX6_losePower_29 : decode cX6_losePower 29 = .ok (.iconst 0, 1) := by decide +kernel
theorem dX6_losePower_30 : decode cX6_losePower 30 = .ok (.putfield 61, 3) := by decide +kernel
theorem dX6_losePower_33 : decode cX6_losePower 33 = .ok (.aload_n 0, 1) := by decide +kernel
theorem dX6_losePower_34 : decode cX6_losePower 34 = .ok (.getfield 21, 3) := by decide +kernel
theorem dX6_losePower_37 : decode cX6_losePower 37 = .ok (.iconst 0, 1) := by decide +kernel
theorem dX6_losePower_38 : decode cX6_losePower 38 = .ok (.putfield 127, 3) := by decide +kernel
theorem dX6_losePower_41 : decode cX6_losePower 41 = .ok (.aload_n 0, 1) := by decide +kernel
theorem dX6_losePower_42 : decode cX6_losePower 42 = .ok (.getfield 28, 3) := by decide +kernel
theorem dX6_losePower_45 : decode cX6_losePower 45 = .ok (.iconst 0, 1) := by decide +kernel
theorem dX6_losePower_46 : decode cX6_losePower 46 = .ok (.putfield 141, 3) := by decide +kernel
theorem dX6_losePower_49 : decode cX6_losePower 49 = .ok (.iload_n 1, 1) := by decide +kernel
theorem dX6_losePower_50 : decode cX6_losePower 50 = .ok (.ireturn, 1) := by decide +kernel
theorem dX6_lose_0 : decode cX6_lose 0 = .ok (.aload_n 1, 1) := by decide +kernel
theorem dX6_lose_1 : decode cX6_lose 1 = .ok (.getfield 109, 3) := by decide +kernel
theorem dX6_lose_4 : decode cX6_lose 4 = .ok (.ifCond .ne 5, 3) := by decide +kernel
theorem dX6_lose_7 : decode cX6_lose 7 = .ok (.iconst 0, 1) := by decide +kernel
theorem dX6_lose_8 : decode cX6_lose 8 = .ok (.ireturn, 1) := by decide +kernel
theorem dX6_lose_9 : decode cX6_lose 9 = .ok (.aload_n 1, 1) := by decide +kernel
theorem dX6_lose_10 : decode cX6_lose 10 = .ok (.getfield 109, 3) := by decide +kernel
theorem dX6_lose_13 : decode cX6_lose 13 = .ok (.iconst 1, 1) := by decide +kernel
theorem dX6_lose_14 : decode cX6_lose 14 = .ok (.if_icmp .ne 20, 3) := by decide +kernel
theorem dX6_lose_17 : decode cX6_lose 17 = .ok (.aload_n 0, 1) := by decide +kernel
theorem dX6_lose_18 : decode cX6_lose 18 = .ok (.getfield 12, 3) := by decide +kernel
theorem dX6_lose_21 : decode cX6_lose 21 = .ok (.aload_n 1, 1) := by decide +kernel
theorem dX6_lose_22 : decode cX6_lose 22 = .ok (.getfield 144, 3) := by decide +kernel
theorem dX6_lose_25 : decode cX6_lose 25 = .ok (.bipush 8, 2) := by decide +kernel
theorem dX6_lose_27 : decode cX6_lose 27 = .ok (.idiv, 1) := by decide +kernel
theorem dX6_lose_28 : decode cX6_lose 28 = .ok (.invokevirtual 157, 3) := by decide +kernel
theorem dX6_lose_31 : decode cX6_lose 31 = .ok (.goto 22, 3) := by decide +kernel
theorem dX6_lose_34 : decode cX6_lose 34 = .ok (.aload_n 1, 1) := by decide +kernel
theorem dX6_lose_35 : decode cX6_lose 35 = .ok (.getfield 109, 3) := by decide +kernel
theorem dX6_lose_38 : decode cX6_lose 38 = .ok (.iconst 2, 1) := by decide +kernel
theorem dX6_lose_39 : decode cX6_lose 39 = .ok (.if_icmp .ne 14, 3) := by decide +kernel
theorem dX6_lose_42 : decode cX6_lose 42 = .ok (.aload_n 0, 1) := by decide +kernel
theorem dX6_lose_43 : decode cX6_lose 43 = .ok (.getfield 12, 3) := by decide +kernel
theorem dX6_lose_46 : decode cX6_lose 46 = .ok (.aload_n 1, 1) := by decide +kernel
theorem dX6_lose_47 : decode cX6_lose 47 = .ok (.getfield 144, 3) := by decide +kernel
theorem dX6_lose_50 : decode cX6_lose 50 = .ok (.invokevirtual 161, 3) := by decide +kernel
theorem dX6_lose_53 : decode cX6_lose 53 = .ok (.aload_n 1, 1) := by decide +kernel
theorem dX6_lose_54 : decode cX6_lose 54 = .ok (.invokevirtual 150, 3) := by decide +kernel
theorem dX6_lose_57 : decode cX6_lose 57 = .ok (.iconst 1, 1) := by decide +kernel
theorem dX6_lose_58 : decode cX6_lose 58 = .ok (.ireturn, 1) := by decide +kernel
theorem dX6_tick_0 : decode cX6_tick 0 = .ok (.aload_n 0, 1) := by decide +kernel
theorem dX6_tick_1 : decode cX6_tick 1 = .ok (.invokevirtual 164, 3) := by decide +kernel
theorem dX6_tick_4 : decode cX6_tick 4 = .ok (.istore_n 1, 1) := by decide +kernel
theorem dX6_tick_5 : decode cX6_tick 5 = .ok (.iload_n 1, 1) := by decide +kernel
theorem dX6_tick_6 : decode cX6_tick 6 = .ok (.iconst (-1), 1) := by decide +kernel
theorem dX6_tick_7 : decode cX6_tick 7 = .ok (.if_icmp .eq 8, 3) := by decide +kernel
theorem dX6_tick_10 : decode cX6_tick 10 = .ok (.aload_n 0, 1) := by decide +kernel
theorem dX6_tick_11 : decode cX6_tick 11 = .ok (.iload_n 1, 1) := by decide +kernel
theorem dX6_tick_12 : decode cX6_tick 12 = .ok (.invokevirtual 168, 3) := by decide +kernel
theorem dX6_tick_15 : decode cX6_tick 15 = .ok (.aload_n 0, 1) := by decide +kernel
theorem dX6_tick_16 : decode cX6_tick 16 = .ok (.dup, 1) := by decide +kernel
theorem dX6_tick_17 : decode cX6_tick 17 = .ok (.getfield 65, 3) := by decide +kernel
theorem dX6_tick_20 : decode cX6_tick 20 = .ok (.iconst 1, 1) := by decide +kernel
theorem dX6_tick_21 : decode cX6_tick 21 = .ok (.iadd, 1) := by decide +kernel
theorem dX6_tick_22 : decode cX6_tick 22 = .ok (.putfield 65, 3) := by decide +kernel
theorem dX6_tick_25 : decode cX6_tick 25 = .ok (.aload_n 0, 1) := by decide +kernel
theorem dX6_tick_26 : decode cX6_tick 26 = .ok (.invokevirtual 123, 3) := by decide +kernel
theorem dX6_tick_29 : decode cX6_tick 29 = .ok (.ifCond .ne 5, 3) := by decide +kernel
theorem dX6_tick_32 : decode cX6_tick 32 = .ok (.iconst 0, 1) := by decide +kernel
theorem dX6_tick_33 : decode cX6_tick 33 = .ok (.ireturn, 1) := by decide +kernel
theorem dX6_tick_34 : decode cX6_tick 34 = .ok (.aload_n 0, 1) := by decide +kernel
theorem dX6_tick_35 : decode cX6_tick 35 = .ok (.getfield 35, 3) := by decide +kernel
theorem dX6_tick_38 : decode cX6_tick 38 = .ok (.dup, 1) := by decide +kernel
theorem dX6_tick_39 : decode cX6_tick 39 = .ok (.getfield 171, 3) := by decide +kernel
theorem dX6_tick_42 : decode cX6_tick 42 = .ok (.iconst 1, 1) := by decide +kernel
theorem dX6_tick_43 : decode cX6_tick 43 = .ok (.iadd, 1) := by decide +kernel
theorem dX6_tick_44 : decode cX6_tick 44 = .ok (.putfield 171, 3) := by decide +kernel
theorem dX6_tick_47 : decode cX6_tick 47 = .ok (.aload_n 0, 1) := by decide +kernel
theorem dX6_tick_48 : decode cX6_tick 48 = .ok (.getfield 35, 3) := by decide +kernel
theorem dX6_tick_51 : decode cX6_tick 51 = .ok (.getfield 109, 3) := by decide +kernel
theorem dX6_tick_54 : decode cX6_tick 54 = .ok (.iconst 1, 1) := by decide +kernel
theorem dX6_tick_55 : decode cX6_tick 55 = .ok (.if_icmp .ne 10, 3) := by decide +kernel
theorem dX6_tick_58 : decode cX6_tick 58 = .ok (.aload_n 0, 1) := by decide +kernel
theorem dX6_tick_59 : decode cX6_tick 59 = .ok (.invokevirtual 174, 3) := by decide +kernel
theorem dX6_tick_62 : decode cX6_tick 62 = .ok (.goto 60, 3) := by decide +kernel
theorem dX6_tick_65 : decode cX6_tick 65 = .ok (.aload_n 0, 1) := by decide +kernel
theorem dX6_tick_66 : decode cX6_tick 66 = .ok (.getfield 35, 3) := by decide +kernel
theorem dX6_tick_69 : decode cX6_tick 69 = .ok (.getfield 109, 3) := by decide +kernel
theorem dX6_tick_72 : decode cX6_tick 72 = .ok (.iconst 2, 1) := by decide +kernel
theorem dX6_tick_73 : decode cX6_tick 73 = .ok (.if_icmp .ne 49, 3) := by decide +kernel
theorem dX6_tick_76 : decode cX6_tick 76 = .ok (.aload_n 0, 1) := by decide +kernel
theorem dX6_tick_77 : decode cX6_tick 77 = .ok (.getfield 35, 3) := by decide +kernel
theorem dX6_tick_80 : decode cX6_tick 80 = .ok (.getfield 171, 3) := by decide +kernel
theorem dX6_tick_83 : decode cX6_tick 83 = .ok (.iconst 4, 1) := by decide +kernel
theorem dX6_tick_84 : decode cX6_tick 84 = .ok (.if_icmp .gt 38, 3) := by decide +kernel
theorem dX6_tick_87 : decode cX6_tick 87 = .ok (.aload_n 0, 1) := by decide +kernel
theorem dX6_tick_88 : decode cX6_tick 88 = .ok (.dup, 1) := by decide +kernel
theorem dX6_tick_89 : decode cX6_tick 89 = .ok (.getfield 72, 3) := by decide +kernel
theorem dX6_tick_92 : decode cX6_tick 92 = .ok (.aload_n 0, 1) := by decide +kernel
theorem dX6_tick_93 : decode cX6_tick 93 = .ok (.getfield 12, 3) := by decide +kernel
theorem dX6_tick_96 : decode cX6_tick 96 = .ok (.aload_n 0, 1) := by decide +kernel
theorem dX6_tick_97 : decode cX6_tick 97 = .ok (.getfield 35, 3) := by decide +kernel
theorem dX6_tick_100 : decode cX6_tick 100 = .ok (.getfield 144, 3) := by decide +kernel
theorem dX6_tick_103 : decode cX6_tick 103 = .ok (.iconst 4, 1) := by decide +kernel
theorem dX6_tick_104 : decode cX6_tick 104 = .ok (.imul, 1) := by decide +kernel
theorem dX6_tick_105 : decode cX6_tick 105 = .ok (.aload_n 0, 1) := by decide +kernel
theorem dX6_tick_106 : decode cX6_tick 106 = .ok (.getfield 35, 3) := by decide +kernel
theorem dX6_tick_109 : decode cX6_tick 109 = .ok (.getfield 171, 3) := by decide +kernel
theorem dX6_tick_112 : decode cX6_tick 112 = .ok (.iadd, 1) := by decide +kernel
theorem dX6_tick_113 : decode cX6_tick 113 = .ok (.iconst 1, 1) := by decide +kernel
theorem dX6_tick_114 : decode cX6_tick 114 = .ok (.isub, 1) := by decide +kernel
theorem dX6_tick_115 : decode cX6_tick 115 = .ok (.invokevirtual 177, 3) := by decide +kernel
theorem dX6_tick_118 : decode cX6_tick 118 = .ok (.iadd, 1) := by decide +kernel
theorem dX6_tick_119 : decode cX6_tick 119 = .ok (.putfield 72, 3) := by decide +kernel
theorem dX6_tick_122 : decode cX6_tick 122 = .ok (.aload_n 0, 1) := by decide +kernel
theorem dX6_tick_123 : decode cX6_tick 123 = .ok (.getfield 35, 3) := by decide +kernel
theorem dX6_tick_126 : decode cX6_tick 126 = .ok (.invokevirtual 180, 3) := by decide +kernel
theorem dX6_tick_129 : decode cX6_tick 129 = .ok (.ifCond .gt 7, 3) := by decide +kernel
theorem dX6_tick_132 : decode cX6_tick 132 = .ok (.aload_n 0, 1) := by decide +kernel
theorem dX6_tick_133 : decode cX6_tick 133 = .ok (.invokevirtual 183, 3) := by decide +kernel
theorem dX6_tick_136 : decode cX6_tick 136 = .ok (.iconst 1, 1) := by decide +kernel
theorem dX6_tick_137 : decode cX6_tick 137 = .ok (.ireturn, 1) := by decide +kernel
theorem dX6_clerkChooses_0 : decode cX6_clerkChooses 0 = .ok (.aload_n 0, 1) := by decide +kernel
theorem dX6_clerkChooses_1 : decode cX6_clerkChooses 1 = .ok (.invokevirtual 123, 3) := by decide +kernel
theorem dX6_clerkChooses_4 : decode cX6_clerkChooses 4 = .ok (.ifCond .eq 70, 3) := by decide +kernel
theorem dX6_clerkChooses_7 : decode cX6_clerkChooses 7 = .ok (.aload_n 0, 1) := by decide +kernel
theorem dX6_clerkChooses_8 : decode cX6_clerkChooses 8 = .ok (.getfield 35, 3) := by decide +kernel
theorem dX6_clerkChooses_11 : decode cX6_clerkChooses 11 = .ok (.getfield 109, 3) := by decide +kernel
theorem dX6_clerkChooses_14 : decode cX6_clerkChooses 14 = .ok (.iconst 2, 1) := by decide +kernel
theorem dX6_clerkChooses_15 : decode cX6_clerkChooses 15 = .ok (.if_icmp .ne 28, 3) := by decide +kernel
theorem dX6_clerkChooses_18 : decode cX6_clerkChooses 18 = .ok (.aload_n 0, 1) := by decide +kernel
theorem dX6_clerkChooses_19 : decode cX6_clerkChooses 19 = .ok (.getfield 35, 3) := by decide +kernel
theorem dX6_clerkChooses_22 : decode cX6_clerkChooses 22 = .ok (.getfield 186, 3) := by decide +kernel
theorem dX6_clerkChooses_25 : decode cX6_clerkChooses 25 = .ok (.iconst (-1), 1) := by decide +kernel
theorem dX6_clerkChooses_26 : decode cX6_clerkChooses 26 = .ok (.if_icmp .eq 17, 3) := by decide +kernel
theorem dX6_clerkChooses_29 : decode cX6_clerkChooses 29 = .ok (.aload_n 0, 1) := by decide +kernel
theorem dX6_clerkChooses_30 : decode cX6_clerkChooses 30 = .ok (.getfield 39, 3) := by decide +kernel
theorem dX6_clerkChooses_33 : decode cX6_clerkChooses 33 = .ok (.getfield 109, 3) := by decide +kernel
theorem dX6_clerkChooses_36 : decode cX6_clerkChooses 36 = .ok (.ifCond .ne 7, 3) := by decide +kernel
theorem dX6_clerkChooses_39 : decode cX6_clerkChooses 39 = .ok (.iconst 1, 1) := by decide +kernel
theorem dX6_clerkChooses_40 : decode cX6_clerkChooses 40 = .ok (.goto 4, 3) := by decide +kernel
theorem dX6_clerkChooses_43 : decode cX6_clerkChooses 43 = .ok (.iconst 0, 1) := by decide +kernel
theorem dX6_clerkChooses_44 : decode cX6_clerkChooses 44 = .ok (.istore_n 1, 1) := by decide +kernel
theorem dX6_clerkChooses_45 : decode cX6_clerkChooses 45 = .ok (.iload_n 1, 1) := by decide +kernel
theorem dX6_clerkChooses_46 : decode cX6_clerkChooses 46 = .ok (.ifCond .eq 14, 3) := by decide +kernel
theorem dX6_clerkChooses_49 : decode cX6_clerkChooses 49 = .ok (.aload_n 0, 1) := by decide +kernel
theorem dX6_clerkChooses_50 : decode cX6_clerkChooses 50 = .ok (.aload_n 0, 1) := by decide +kernel
theorem dX6_clerkChooses_51 : decode cX6_clerkChooses 51 = .ok (.getfield 35, 3) := by decide +kernel
theorem dX6_clerkChooses_54 : decode cX6_clerkChooses 54 = .ok (.invokevirtual 189, 3) := by decide +kernel
theorem dX6_clerkChooses_57 : decode cX6_clerkChooses 57 = .ok (.goto 4, 3) := by decide +kernel
theorem dX6_clerkChooses_60 : decode cX6_clerkChooses 60 = .ok (.iconst (-1), 1) := by decide +kernel
theorem dX6_clerkChooses_61 : decode cX6_clerkChooses 61 = .ok (.istore_n 2, 1) := by decide +kernel
theorem dX6_clerkChooses_62 : decode cX6_clerkChooses 62 = .ok (.iload_n 2, 1) := by decide +kernel
theorem dX6_clerkChooses_63 : decode cX6_clerkChooses 63 = .ok (.iconst (-1), 1) := by decide +kernel
theorem dX6_clerkChooses_64 : decode cX6_clerkChooses 64 = .ok (.if_icmp .eq 8, 3) := by decide +kernel
theorem dX6_clerkChooses_67 : decode cX6_clerkChooses 67 = .ok (.aload_n 0, 1) := by decide +kernel
theorem dX6_clerkChooses_68 : decode cX6_clerkChooses 68 = .ok (.iconst 1, 1) := by decide +kernel
theorem dX6_clerkChooses_69 : decode cX6_clerkChooses 69 = .ok (.invokevirtual 192, 3) := by decide +kernel
theorem dX6_clerkChooses_72 : decode cX6_clerkChooses 72 = .ok (.iload_n 2, 1) := by decide +kernel
theorem dX6_clerkChooses_73 : decode cX6_clerkChooses 73 = .ok (.ireturn, 1) := by decide +kernel
theorem dX6_clerkChooses_74 : decode cX6_clerkChooses 74 = .ok (.aload_n 0, 1) := by decide +kernel
theorem dX6_clerkChooses_75 : decode cX6_clerkChooses 75 = .ok (.getfield 39, 3) := by decide +kernel
theorem dX6_clerkChooses_78 : decode cX6_clerkChooses 78 = .ok (.getfield 109, 3) := by decide +kernel
theorem dX6_clerkChooses_81 : decode cX6_clerkChooses 81 = .ok (.ifCond .ne 8, 3) := by decide +kernel
theorem dX6_clerkChooses_84 : decode cX6_clerkChooses 84 = .ok (.aload_n 0, 1) := by decide +kernel
theorem dX6_clerkChooses_85 : decode cX6_clerkChooses 85 = .ok (.invokevirtual 196, 3) := by decide +kernel
theorem dX6_clerkChooses_88 : decode cX6_clerkChooses 88 = .ok (.ireturn, 1) := by decide +kernel
theorem dX6_clerkChooses_89 : decode cX6_clerkChooses 89 = .ok (.aload_n 0, 1) := by decide +kernel
theorem dX6_clerkChooses_90 : decode cX6_clerkChooses 90 = .ok (.getfield 39, 3) := by decide +kernel
theorem dX6_clerkChooses_93 : decode cX6_clerkChooses 93 = .ok (.getfield 147, 3) := by decide +kernel
theorem dX6_clerkChooses_96 : decode cX6_clerkChooses 96 = .ok (.ifCond .eq 14, 3) := by decide +kernel
theorem dX6_clerkChooses_99 : decode cX6_clerkChooses 99 = .ok (.aload_n 0, 1) := by decide +kernel
theorem dX6_clerkChooses_100 : decode cX6_clerkChooses 100 = .ok (.aload_n 0, 1) := by decide +kernel
theorem dX6_clerkChooses_101 : decode cX6_clerkChooses 101 = .ok (.getfield 39, 3) := by decide +kernel
theorem dX6_clerkChooses_104 : decode cX6_clerkChooses 104 = .ok (.invokevirtual 189, 3) := by decide +kernel
theorem dX6_clerkChooses_107 : decode cX6_clerkChooses 107 = .ok (.goto 4, 3) := by decide +kernel
theorem dX6_clerkChooses_110 : decode cX6_clerkChooses 110 = .ok (.iconst (-1), 1) := by decide +kernel
theorem dX6_clerkChooses_111 : decode cX6_clerkChooses 111 = .ok (.istore_n 1, 1) := by decide +kernel
theorem dX6_clerkChooses_112 : decode cX6_clerkChooses 112 = .ok (.aload_n 0, 1) := by decide +kernel
theorem dX6_clerkChooses_113 : decode cX6_clerkChooses 113 = .ok (.getfield 39, 3) := by decide +kernel
theorem dX6_clerkChooses_116 : decode cX6_clerkChooses 116 = .ok (.getfield 147, 3) := by decide +kernel
theorem dX6_clerkChooses_119 : decode cX6_clerkChooses 119 = .ok (.ifCond .eq 12, 3) := by decide +kernel
theorem dX6_clerkChooses_122 : decode cX6_clerkChooses 122 = .ok (.iload_n 1, 1) := by decide +kernel
theorem dX6_clerkChooses_123 : decode cX6_clerkChooses 123 = .ok (.iconst (-1), 1) := by decide +kernel
theorem dX6_clerkChooses_124 : decode cX6_clerkChooses 124 = .ok (.if_icmp .ne 7, 3) := by decide +kernel
theorem dX6_clerkChooses_127 : decode cX6_clerkChooses 127 = .ok (.aload_n 0, 1) := by decide +kernel
theorem dX6_clerkChooses_128 : decode cX6_clerkChooses 128 = .ok (.invokevirtual 199, 3) := by decide +kernel
theorem dX6_clerkChooses_131 : decode cX6_clerkChooses 131 = .ok (.iload_n 1, 1) := by decide +kernel
theorem dX6_clerkChooses_132 : decode cX6_clerkChooses 132 = .ok (.ireturn, 1) := by decide +kernel
theorem dX6_foremost_0 : decode cX6_foremost 0 = .ok (.iconst 0, 1) := by decide +kernel
theorem dX6_foremost_1 : decode cX6_foremost 1 = .ok (.istore_n 1, 1) := by decide +kernel
theorem dX6_foremost_2 : decode cX6_foremost 2 = .ok (.iload_n 1, 1) := by decide +kernel
theorem dX6_foremost_3 : decode cX6_foremost 3 = .ok (.aload_n 0, 1) := by decide +kernel
theorem dX6_foremost_4 : decode cX6_foremost 4 = .ok (.getfield 45, 3) := by decide +kernel
theorem dX6_foremost_7 : decode cX6_foremost 7 = .ok (.getfield 202, 3) := by decide +kernel
theorem dX6_foremost_10 : decode cX6_foremost 10 = .ok (.if_icmp .ge 26, 3) := by decide +kernel
theorem dX6_foremost_13 : decode cX6_foremost 13 = .ok (.aload_n 0, 1) := by decide +kernel
theorem dX6_foremost_14 : decode cX6_foremost 14 = .ok (.aload_n 0, 1) := by decide +kernel
theorem dX6_foremost_15 : decode cX6_foremost 15 = .ok (.getfield 45, 3) := by decide +kernel
theorem dX6_foremost_18 : decode cX6_foremost 18 = .ok (.iload_n 1, 1) := by decide +kernel
theorem dX6_foremost_19 : decode cX6_foremost 19 = .ok (.invokevirtual 203, 3) := by decide +kernel
theorem dX6_foremost_22 : decode cX6_foremost 22 = .ok (.invokevirtual 207, 3) := by decide +kernel
theorem dX6_foremost_25 : decode cX6_foremost 25 = .ok (.ifCond .eq 5, 3) := by decide +kernel
theorem dX6_foremost_28 : decode cX6_foremost 28 = .ok (.iload_n 1, 1) := by decide +kernel
theorem dX6_foremost_29 : decode cX6_foremost 29 = .ok (.ireturn, 1) := by decide +kernel
theorem dX6_foremost_30 : decode cX6_foremost 30 = .ok (.iinc 1 1, 3) := by decide +kernel
theorem dX6_foremost_33 : decode cX6_foremost 33 = .ok (.goto (-31), 3) := by decide +kernel
theorem dX6_foremost_36 : decode cX6_foremost 36 = .ok (.iconst (-1), 1) := by decide +kernel
theorem dX6_foremost_37 : decode cX6_foremost 37 = .ok (.ireturn, 1) := by decide +kernel
theorem dX6_foremostPressing_0 : decode cX6_foremostPressing 0 = .ok (.aload_n 1, 1) := by decide +kernel
theorem dX6_foremostPressing_1 : decode cX6_foremostPressing 1 = .ok (.getfield 186, 3) := by decide +kernel
theorem dX6_foremostPressing_4 : decode cX6_foremostPressing 4 = .ok (.aload_n 0, 1) := by decide +kernel
theorem dX6_foremostPressing_5 : decode cX6_foremostPressing 5 = .ok (.iconst 4, 1) := by decide +kernel
theorem dX6_foremostPressing_6 : decode cX6_foremostPressing 6 = .ok (.invokevirtual 116, 3) := by decide +kernel
theorem dX6_foremostPressing_9 : decode cX6_foremostPressing 9 = .ok (.iadd, 1) := by decide +kernel
theorem dX6_foremostPressing_10 : decode cX6_foremostPressing 10 = .ok (.istore_n 2, 1) := by decide +kernel
theorem dX6_foremostPressing_11 : decode cX6_foremostPressing 11 = .ok (.iconst 0, 1) := by decide +kernel
theorem dX6_foremostPressing_12 : decode cX6_foremostPressing 12 = .ok (.istore_n 3, 1) := by decide +kernel
theorem dX6_foremostPressing_13 : decode cX6_foremostPressing 13 = .ok (.iload_n 3, 1) := by decide +kernel
theorem dX6_foremostPressing_14 : decode cX6_foremostPressing 14 = .ok (.aload_n 0, 1) := by decide +kernel
theorem dX6_foremostPressing_15 : decode cX6_foremostPressing 15 = .ok (.getfield 45, 3) := by decide +kernel
theorem dX6_foremostPressing_18 : decode cX6_foremostPressing 18 = .ok (.getfield 202, 3) := by decide +kernel
theorem dX6_foremostPressing_21 : decode cX6_foremostPressing 21 = .ok (.if_icmp .ge 69, 3) := by decide +kernel
theorem dX6_foremostPressing_24 : decode cX6_foremostPressing 24 = .ok (.aload_n 0, 1) := by decide +kernel
theorem dX6_foremostPressing_25 : decode cX6_foremostPressing 25 = .ok (.getfield 45, 3) := by decide +kernel
theorem dX6_foremostPressing_28 : decode cX6_foremostPressing 28 = .ok (.iload_n 3, 1) := by decide +kernel
theorem dX6_foremostPressing_29 : decode cX6_foremostPressing 29 = .ok (.invokevirtual 203, 3) := by decide +kernel
theorem dX6_foremostPressing_32 : decode cX6_foremostPressing 32 = .ok (.astore 4, 2) := by decide +kernel
theorem dX6_foremostPressing_34 : decode cX6_foremostPressing 34 = .ok (.aload 4, 2) := by decide +kernel
theorem dX6_foremostPressing_36 : decode cX6_foremostPressing 36 = .ok (.ifnull 48, 3) := by decide +kernel
theorem dX6_foremostPressing_39 : decode cX6_foremostPressing 39 = .ok (.aload 4, 2) := by decide +kernel
theorem dX6_foremostPressing_41 : decode cX6_foremostPressing 41 = .ok (.getfield 211, 3) := by decide +kernel
theorem dX6_foremostPressing_44 : decode cX6_foremostPressing 44 = .ok (.iload_n 2, 1) := by decide +kernel
theorem dX6_foremostPressing_45 : decode cX6_foremostPressing 45 = .ok (.if_icmp .lt 39, 3) := by decide +kernel
theorem dX6_foremostPressing_48 : decode cX6_foremostPressing 48 = .ok (.aload 4, 2) := by decide +kernel
theorem dX6_foremostPressing_50 : decode cX6_foremostPressing 50 = .ok (.getfield 214, 3) := by decide +kernel
theorem dX6_foremostPressing_53 : decode cX6_foremostPressing 53 = .ok (.iconst 1, 1) := by decide +kernel
theorem dX6_foremostPressing_54 : decode cX6_foremostPressing 54 = .ok (.if_icmp .ne 30, 3) := by decide +kernel
theorem dX6_foremostPressing_57 : decode cX6_foremostPressing 57 = .ok (.iconst 1, 1) := by decide +kernel
theorem dX6_foremostPressing_58 : decode cX6_foremostPressing 58 = .ok (.aload 4, 2) := by decide +kernel
theorem dX6_foremostPressing_60 : decode cX6_foremostPressing 60 = .ok (.getfield 215, 3) := by decide +kernel
theorem dX6_foremostPressing_63 : decode cX6_foremostPressing 63 = .ok (.invokestatic 130, 3) := by decide +kernel
theorem dX6_foremostPressing_66 : decode cX6_foremostPressing 66 = .ok (.aload_n 1, 1) := by decide +kernel
theorem dX6_foremostPressing_67 : decode cX6_foremostPressing 67 = .ok (.getfield 144, 3) := by decide +kernel
theorem dX6_foremostPressing_70 : decode cX6_foremostPressing 70 = .ok (.if_icmp .eq 14, 3) := by decide +kernel
theorem dX6_foremostPressing_73 : decode cX6_foremostPressing 73 = .ok (.aload_n 0, 1) := by decide +kernel
theorem dX6_foremostPressing_74 : decode cX6_foremostPressing 74 = .ok (.aload 4, 2) := by decide +kernel
theorem dX6_foremostPressing_76 : decode cX6_foremostPressing 76 = .ok (.invokevirtual 207, 3) := by decide +kernel
theorem dX6_foremostPressing_79 : decode cX6_foremostPressing 79 = .ok (.ifCond .eq 5, 3) := by decide +kernel
theorem dX6_foremostPressing_82 : decode cX6_foremostPressing 82 = .ok (.iload_n 3, 1) := by decide +kernel
theorem dX6_foremostPressing_83 : decode cX6_foremostPressing 83 = .ok (.ireturn, 1) := by decide +kernel
theorem dX6_foremostPressing_84 : decode cX6_foremostPressing 84 = .ok (.iinc 3 1, 3) := by decide +kernel
theorem dX6_foremostPressing_87 : decode cX6_foremostPressing 87 = .ok (.goto (-74), 3) := by decide +kernel
theorem dX6_foremostPressing_90 : decode cX6_foremostPressing 90 = .ok (.iconst (-1), 1) := by decide +kernel
theorem dX6_foremostPressing_91 : decode cX6_foremostPressing 91 = .ok (.ireturn, 1) := by decide +kernel
theorem dX6_isOpen_0 : decode cX6_isOpen 0 = .ok (.aload_n 1, 1) := by decide +kernel
theorem dX6_isOpen_1 : decode cX6_isOpen 1 = .ok (.ifnull 28, 3) := by decide +kernel
theorem dX6_isOpen_4 : decode cX6_isOpen 4 = .ok (.aload_n 0, 1) := by decide +kernel
theorem dX6_isOpen_5 : decode cX6_isOpen 5 = .ok (.getfield 21, 3) := by decide +kernel
theorem dX6_isOpen_8 : decode cX6_isOpen 8 = .ok (.aload_n 1, 1) := by decide +kernel
theorem dX6_isOpen_9 : decode cX6_isOpen 9 = .ok (.getfield 214, 3) := by decide +kernel
theorem dX6_isOpen_12 : decode cX6_isOpen 12 = .ok (.aload_n 1, 1) := by decide +kernel
theorem dX6_isOpen_13 : decode cX6_isOpen 13 = .ok (.getfield 215, 3) := by decide +kernel
theorem dX6_isOpen_16 : decode cX6_isOpen 16 = .ok (.invokestatic 130, 3) := by decide +kernel
theorem dX6_isOpen_19 : decode cX6_isOpen 19 = .ok (.invokevirtual 133, 3) := by decide +kernel
theorem dX6_isOpen_22 : decode cX6_isOpen 22 = .ok (.ifCond .ne 7, 3) := by decide +kernel
theorem dX6_isOpen_25 : decode cX6_isOpen 25 = .ok (.iconst 1, 1) := by decide +kernel
theorem dX6_isOpen_26 : decode cX6_isOpen 26 = .ok (.goto 4, 3) := by decide +kernel
theorem dX6_isOpen_29 : decode cX6_isOpen 29 = .ok (.iconst 0, 1) := by decide +kernel
theorem dX6_isOpen_30 : decode cX6_isOpen 30 = .ok (.ireturn, 1) := by decide +kernel
theorem dX6_beginOrder_0 : decode cX6_beginOrder 0 = .ok (.aload_n 0, 1) := by decide +kernel
theorem dX6_beginOrder_1 : decode cX6_beginOrder 1 = .ok (.getfield 45, 3) := by decide +kernel
theorem dX6_beginOrder_4 : decode cX6_beginOrder 4 = .ok (.iload_n 1, 1) := by decide +kernel
theorem dX6_beginOrder_5 : decode cX6_beginOrder 5 = .ok (.invokevirtual 203, 3) := by decide +kernel
theorem dX6_beginOrder_8 : decode cX6_beginOrder 8 = .ok (.astore_n 2, 1) := by decide +kernel
theorem dX6_beginOrder_9 : decode cX6_beginOrder 9 = .ok (.aload_n 2, 1) := by decide +kernel
theorem dX6_beginOrder_10 : decode cX6_beginOrder 10 = .ok (.ifnonnull 4, 3) := by decide +kernel
theorem dX6_beginOrder_13 : decode cX6_beginOrder 13 = .ok (.return_, 1) := by decide +kernel
theorem dX6_beginOrder_14 : decode cX6_beginOrder 14 = .ok (.aload_n 2, 1) := by decide +kernel
theorem dX6_beginOrder_15 : decode cX6_beginOrder 15 = .ok (.getfield 214, 3) := by decide +kernel
theorem dX6_beginOrder_18 : decode cX6_beginOrder 18 = .ok (.iconst 1, 1) := by decide +kernel
theorem dX6_beginOrder_19 : decode cX6_beginOrder 19 = .ok (.if_icmp .ne 30, 3) := by decide +kernel
theorem dX6_beginOrder_22 : decode cX6_beginOrder 22 = .ok (.aload_n 0, 1) := by decide +kernel
theorem dX6_beginOrder_23 : decode cX6_beginOrder 23 = .ok (.getfield 35, 3) := by decide +kernel
theorem dX6_beginOrder_26 : decode cX6_beginOrder 26 = .ok (.aload_n 2, 1) := by decide +kernel
theorem dX6_beginOrder_27 : decode cX6_beginOrder 27 = .ok (.getfield 215, 3) := by decide +kernel
theorem dX6_beginOrder_30 : decode cX6_beginOrder 30 = .ok (.aload_n 2, 1) := by decide +kernel
theorem dX6_beginOrder_31 : decode cX6_beginOrder 31 = .ok (.getfield 216, 3) := by decide +kernel
theorem dX6_beginOrder_34 : decode cX6_beginOrder 34 = .ok (.aload_n 0, 1) := by decide +kernel
theorem dX6_beginOrder_35 : decode cX6_beginOrder 35 = .ok (.iconst 0, 1) := by decide +kernel
theorem dX6_beginOrder_36 : decode cX6_beginOrder 36 = .ok (.invokevirtual 116, 3) := by decide +kernel
theorem dX6_beginOrder_39 : decode cX6_beginOrder 39 = .ok (.aload_n 2, 1) := by decide +kernel
theorem dX6_beginOrder_40 : decode cX6_beginOrder 40 = .ok (.getfield 211, 3) := by decide +kernel
theorem dX6_beginOrder_43 : decode cX6_beginOrder 43 = .ok (.invokevirtual 219, 3) := by decide +kernel
theorem dX6_beginOrder_46 : decode cX6_beginOrder 46 = .ok (.goto 27, 3) := by decide +kernel
theorem dX6_beginOrder_49 : decode cX6_beginOrder 49 = .ok (.aload_n 0, 1) := by decide +kernel
theorem dX6_beginOrder_50 : decode cX6_beginOrder 50 = .ok (.getfield 35, 3) := by decide +kernel
theorem dX6_beginOrder_53 : decode cX6_beginOrder 53 = .ok (.iconst 2, 1) := by decide +kernel
theorem dX6_beginOrder_54 : decode cX6_beginOrder 54 = .ok (.aload_n 2, 1) := by decide +kernel
theorem dX6_beginOrder_55 : decode cX6_beginOrder 55 = .ok (.getfield 215, 3) := by decide +kernel
theorem dX6_beginOrder_58 : decode cX6_beginOrder 58 = .ok (.aload_n 0, 1) := by decide +kernel
theorem dX6_beginOrder_59 : decode cX6_beginOrder 59 = .ok (.aload_n 2, 1) := by decide +kernel
theorem dX6_beginOrder_60 : decode cX6_beginOrder 60 = .ok (.getfield 215, 3) := by decide +kernel
theorem dX6_beginOrder_63 : decode cX6_beginOrder 63 = .ok (.invokevirtual 223, 3) := by decide +kernel
theorem dX6_beginOrder_66 : decode cX6_beginOrder 66 = .ok (.aload_n 2, 1) := by decide +kernel
theorem dX6_beginOrder_67 : decode cX6_beginOrder 67 = .ok (.getfield 211, 3) := by decide +kernel
theorem dX6_beginOrder_70 : decode cX6_beginOrder 70 = .ok (.invokevirtual 226, 3) := by decide +kernel
theorem dX6_beginOrder_73 : decode cX6_beginOrder 73 = .ok (.aload_n 0, 1) := by decide +kernel
theorem dX6_beginOrder_74 : decode cX6_beginOrder 74 = .ok (.getfield 45, 3) := by decide +kernel
theorem dX6_beginOrder_77 : decode cX6_beginOrder 77 = .ok (.iload_n 1, 1) := by decide +kernel
theorem dX6_beginOrder_78 : decode cX6_beginOrder 78 = .ok (.invokevirtual 230, 3) := by decide +kernel
theorem dX6_beginOrder_81 : decode cX6_beginOrder 81 = .ok (.return_, 1) := by decide +kernel
theorem dX6_goOnWriting_0 : decode cX6_goOnWriting 0 = .ok (.aload_n 0, 1) := by decide +kernel
theorem dX6_goOnWriting_1 : decode cX6_goOnWriting 1 = .ok (.getfield 35, 3) := by decide +kernel
theorem dX6_goOnWriting_4 : decode cX6_goOnWriting 4 = .ok (.getfield 233, 3) := by decide +kernel
theorem dX6_goOnWriting_7 : decode cX6_goOnWriting 7 = .ok (.istore_n 1, 1) := by decide +kernel
theorem dX6_goOnWriting_8 : decode cX6_goOnWriting 8 = .ok (.iload_n 1, 1) := by decide +kernel
theorem dX6_goOnWriting_9 : decode cX6_goOnWriting 9 = .ok (.ifCond .le 65, 3) := by decide +kernel
theorem dX6_goOnWriting_12 : decode cX6_goOnWriting 12 = .ok (.aload_n 0, 1) := by decide +kernel
theorem dX6_goOnWriting_13 : decode cX6_goOnWriting 13 = .ok (.getfield 35, 3) := by decide +kernel
theorem dX6_goOnWriting_16 : decode cX6_goOnWriting 16 = .ok (.getfield 171, 3) := by decide +kernel
theorem dX6_goOnWriting_19 : decode cX6_goOnWriting 19 = .ok (.iload_n 1, 1) := by decide +kernel
theorem dX6_goOnWriting_20 : decode cX6_goOnWriting 20 = .ok (.irem, 1) := by decide +kernel
theorem dX6_goOnWriting_21 : decode cX6_goOnWriting 21 = .ok (.ifCond .ne 53, 3) := by decide +kernel
theorem dX6_goOnWriting_24 : decode cX6_goOnWriting 24 = .ok (.aload_n 0, 1) := by decide +kernel
theorem dX6_goOnWriting_25 : decode cX6_goOnWriting 25 = .ok (.getfield 35, 3) := by decide +kernel
theorem dX6_goOnWriting_28 : decode cX6_goOnWriting 28 = .ok (.getfield 171, 3) := by decide +kernel
theorem dX6_goOnWriting_31 : decode cX6_goOnWriting 31 = .ok (.iload_n 1, 1) := by decide +kernel
theorem dX6_goOnWriting_32 : decode cX6_goOnWriting 32 = .ok (.idiv, 1) := by decide +kernel
theorem dX6_goOnWriting_33 : decode cX6_goOnWriting 33 = .ok (.iconst 1, 1) := by decide +kernel
theorem dX6_goOnWriting_34 : decode cX6_goOnWriting 34 = .ok (.isub, 1) := by decide +kernel
theorem dX6_goOnWriting_35 : decode cX6_goOnWriting 35 = .ok (.istore_n 2, 1) := by decide +kernel
theorem dX6_goOnWriting_36 : decode cX6_goOnWriting 36 = .ok (.aload_n 0, 1) := by decide +kernel
theorem dX6_goOnWriting_37 : decode cX6_goOnWriting 37 = .ok (.dup, 1) := by decide +kernel
theorem dX6_goOnWriting_38 : decode cX6_goOnWriting 38 = .ok (.getfield 72, 3) := by decide +kernel
theorem dX6_goOnWriting_41 : decode cX6_goOnWriting 41 = .ok (.aload_n 0, 1) := by decide +kernel
theorem dX6_goOnWriting_42 : decode cX6_goOnWriting 42 = .ok (.getfield 12, 3) := by decide +kernel
theorem dX6_goOnWriting_45 : decode cX6_goOnWriting 45 = .ok (.aload_n 0, 1) := by decide +kernel
theorem dX6_goOnWriting_46 : decode cX6_goOnWriting 46 = .ok (.getfield 35, 3) := by decide +kernel
theorem dX6_goOnWriting_49 : decode cX6_goOnWriting 49 = .ok (.getfield 144, 3) := by decide +kernel
theorem dX6_goOnWriting_52 : decode cX6_goOnWriting 52 = .ok (.iload_n 2, 1) := by decide +kernel
theorem dX6_goOnWriting_53 : decode cX6_goOnWriting 53 = .ok (.invokestatic 236, 3) := by decide +kernel
theorem dX6_goOnWriting_56 : decode cX6_goOnWriting 56 = .ok (.aload_n 0, 1) := by decide +kernel
theorem dX6_goOnWriting_57 : decode cX6_goOnWriting 57 = .ok (.getfield 35, 3) := by decide +kernel
theorem dX6_goOnWriting_60 : decode cX6_goOnWriting 60 = .ok (.getfield 239, 3) := by decide +kernel
theorem dX6_goOnWriting_63 : decode cX6_goOnWriting 63 = .ok (.iload_n 2, 1) := by decide +kernel
theorem dX6_goOnWriting_64 : decode cX6_goOnWriting 64 = .ok (.invokevirtual 240, 3) := by decide +kernel
theorem dX6_goOnWriting_67 : decode cX6_goOnWriting 67 = .ok (.invokevirtual 243, 3) := by decide +kernel
theorem dX6_goOnWriting_70 : decode cX6_goOnWriting 70 = .ok (.iadd, 1) := by decide +kernel
theorem dX6_goOnWriting_71 : decode cX6_goOnWriting 71 = .ok (.putfield 72, 3) := by decide +kernel
theorem dX6_goOnWriting_74 : decode cX6_goOnWriting 74 = .ok (.return_, 1) := by decide +kernel
theorem dX6_endWork_0 : decode cX6_endWork 0 = .ok (.aload_n 0, 1) := by decide +kernel
theorem dX6_endWork_1 : decode cX6_endWork 1 = .ok (.getfield 35, 3) := by decide +kernel
theorem dX6_endWork_4 : decode cX6_endWork 4 = .ok (.getfield 109, 3) := by decide +kernel
theorem dX6_endWork_7 : decode cX6_endWork 7 = .ok (.iconst 1, 1) := by decide +kernel
theorem dX6_endWork_8 : decode cX6_endWork 8 = .ok (.if_icmp .ne 16, 3) := by decide +kernel
theorem dX6_endWork_11 : decode cX6_endWork 11 = .ok (.aload_n 0, 1) := by decide +kernel
theorem dX6_endWork_12 : decode cX6_endWork 12 = .ok (.dup, 1) := by decide +kernel
theorem dX6_endWork_13 : decode cX6_endWork 13 = .ok (.getfield 69, 3) := by decide +kernel
theorem dX6_endWork_16 : decode cX6_endWork 16 = .ok (.iconst 1, 1) := by decide +kernel
theorem dX6_endWork_17 : decode cX6_endWork 17 = .ok (.iadd, 1) := by decide +kernel
theorem dX6_endWork_18 : decode cX6_endWork 18 = .ok (.putfield 69, 3) := by decide +kernel
theorem dX6_endWork_21 : decode cX6_endWork 21 = .ok (.goto 64, 3) := by decide +kernel
theorem dX6_endWork_24 : decode cX6_endWork 24 = .ok (.aload_n 0, 1) := by decide +kernel
theorem dX6_endWork_25 : decode cX6_endWork 25 = .ok (.getfield 35, 3) := by decide +kernel
theorem dX6_endWork_28 : decode cX6_endWork 28 = .ok (.getfield 109, 3) := by decide +kernel
theorem dX6_endWork_31 : decode cX6_endWork 31 = .ok (.iconst 2, 1) := by decide +kernel
theorem dX6_endWork_32 : decode cX6_endWork 32 = .ok (.if_icmp .ne 25, 3) := by decide +kernel
theorem dX6_endWork_35 : decode cX6_endWork 35 = .ok (.aload_n 0, 1) := by decide +kernel
theorem dX6_endWork_36 : decode cX6_endWork 36 = .ok (.getfield 12, 3) := by decide +kernel
theorem dX6_endWork_39 : decode cX6_endWork 39 = .ok (.aload_n 0, 1) := by decide +kernel
theorem dX6_endWork_40 : decode cX6_endWork 40 = .ok (.getfield 35, 3) := by decide +kernel
theorem dX6_endWork_43 : decode cX6_endWork 43 = .ok (.getfield 144, 3) := by decide +kernel
theorem dX6_endWork_46 : decode cX6_endWork 46 = .ok (.aload_n 0, 1) := by decide +kernel
theorem dX6_endWork_47 : decode cX6_endWork 47 = .ok (.iconst 2, 1) := by decide +kernel
theorem dX6_endWork_48 : decode cX6_endWork 48 = .ok (.invokevirtual 116, 3) := by decide +kernel
theorem dX6_endWork_51 : decode cX6_endWork 51 = .ok (.invokevirtual 246, 3) := by decide +kernel
theorem dX6_endWork_54 : decode cX6_endWork 54 = .ok (.goto 31, 3) := by decide +kernel
theorem dX6_endWork_57 : decode cX6_endWork 57 = .ok (.aload_n 0, 1) := by decide +kernel
theorem dX6_endWork_58 : decode cX6_endWork 58 = .ok (.getfield 21, 3) := by decide +kernel
theorem dX6_endWork_61 : decode cX6_endWork 61 = .ok (.aload_n 0, 1) := by decide +kernel
theorem dX6_endWork_62 : decode cX6_endWork 62 = .ok (.getfield 35, 3) := by decide +kernel
theorem dX6_endWork_65 : decode cX6_endWork 65 = .ok (.getfield 144, 3) := by decide +kernel
theorem dX6_endWork_68 : decode cX6_endWork 68 = .ok (.putfield 250, 3) := by decide +kernel
theorem dX6_endWork_71 : decode cX6_endWork 71 = .ok (.aload_n 0, 1) := by decide +kernel
theorem dX6_endWork_72 : decode cX6_endWork 72 = .ok (.getfield 21, 3) := by decide +kernel
theorem dX6_endWork_75 : decode cX6_endWork 75 = .ok (.aload_n 0, 1) := by decide +kernel
theorem dX6_endWork_76 : decode cX6_endWork 76 = .ok (.getfield 35, 3) := by decide +kernel
theorem dX6_endWork_79 : decode cX6_endWork 79 = .ok (.getfield 253, 3) := by decide +kernel
theorem dX6_endWork_82 : decode cX6_endWork 82 = .ok (.putfield 256, 3) := by decide +kernel
theorem dX6_endWork_85 : decode cX6_endWork 85 = .ok (.aload_n 0, 1) := by decide +kernel
theorem dX6_endWork_86 : decode cX6_endWork 86 = .ok (.getfield 35, 3) := by decide +kernel
theorem dX6_endWork_89 : decode cX6_endWork 89 = .ok (.invokevirtual 150, 3) := by decide +kernel
theorem dX6_endWork_92 : decode cX6_endWork 92 = .ok (.return_, 1) := by decide +kernel
theorem dX6_isFree_0 : decode cX6_isFree 0 = .ok (.aload_n 0, 1) := by decide +kernel
theorem dX6_isFree_1 : decode cX6_isFree 1 = .ok (.getfield 39, 3) := by decide +kernel
theorem dX6_isFree_4 : decode cX6_isFree 4 = .ok (.getfield 109, 3) := by decide +kernel
theorem dX6_isFree_7 : decode cX6_isFree 7 = .ok (.ifCond .eq 17, 3) := by decide +kernel
theorem dX6_isFree_10 : decode cX6_isFree 10 = .ok (.aload_n 0, 1) := by decide +kernel
theorem dX6_isFree_11 : decode cX6_isFree 11 = .ok (.getfield 39, 3) := by decide +kernel
theorem dX6_isFree_14 : decode cX6_isFree 14 = .ok (.getfield 147, 3) := by decide +kernel
theorem dX6_isFree_17 : decode cX6_isFree 17 = .ok (.ifCond .eq 7, 3) := by decide +kernel
theorem dX6_isFree_20 : decode cX6_isFree 20 = .ok (.iconst 1, 1) := by decide +kernel
theorem dX6_isFree_21 : decode cX6_isFree 21 = .ok (.goto 4, 3) := by decide +kernel
theorem dX6_isFree_24 : decode cX6_isFree 24 = .ok (.iconst 0, 1) := by decide +kernel
theorem dX6_isFree_25 : decode cX6_isFree 25 = .ok (.istore_n 1, 1) := by decide +kernel
theorem dX6_isFree_26 : decode cX6_isFree 26 = .ok (.aload_n 0, 1) := by decide +kernel
theorem dX6_isFree_27 : decode cX6_isFree 27 = .ok (.invokevirtual 123, 3) := by decide +kernel
theorem dX6_isFree_30 : decode cX6_isFree 30 = .ok (.ifCond .ne 19, 3) := by decide +kernel
theorem dX6_isFree_33 : decode cX6_isFree 33 = .ok (.iload_n 1, 1) := by decide +kernel
theorem dX6_isFree_34 : decode cX6_isFree 34 = .ok (.ifCond .ne 15, 3) := by decide +kernel
theorem dX6_isFree_37 : decode cX6_isFree 37 = .ok (.aload_n 0, 1) := by decide +kernel
theorem dX6_isFree_38 : decode cX6_isFree 38 = .ok (.invokevirtual 196, 3) := by decide +kernel
theorem dX6_isFree_41 : decode cX6_isFree 41 = .ok (.iconst (-1), 1) := by decide +kernel
theorem dX6_isFree_42 : decode cX6_isFree 42 = .ok (.if_icmp .ne 7, 3) := by decide +kernel
theorem dX6_isFree_45 : decode cX6_isFree 45 = .ok (.iconst 1, 1) := by decide +kernel
theorem dX6_isFree_46 : decode cX6_isFree 46 = .ok (.goto 4, 3) := by decide +kernel
theorem dX6_isFree_49 : decode cX6_isFree 49 = .ok (.iconst 0, 1) := by decide +kernel
theorem dX6_isFree_50 : decode cX6_isFree 50 = .ok (.ireturn, 1) := by decide +kernel
theorem dX6_missesAt_0 : decode cX6_missesAt 0 = .ok (.iconst 0, 1) := by decide +kernel
theorem dX6_missesAt_1 : decode cX6_missesAt 1 = .ok (.istore_n 2, 1) := by decide +kernel
theorem dX6_missesAt_2 : decode cX6_missesAt 2 = .ok (.aload_n 0, 1) := by decide +kernel
theorem dX6_missesAt_3 : decode cX6_missesAt 3 = .ok (.getfield 28, 3) := by decide +kernel
theorem dX6_missesAt_6 : decode cX6_missesAt 6 = .ok (.invokevirtual 257, 3) := by decide +kernel
theorem dX6_missesAt_9 : decode cX6_missesAt 9 = .ok (.istore_n 3, 1) := by decide +kernel
theorem dX6_missesAt_10 : decode cX6_missesAt 10 = .ok (.iconst 0, 1) := by decide +kernel
theorem dX6_missesAt_11 : decode cX6_missesAt 11 = .ok (.istore 4, 2) := by decide +kernel
theorem dX6_missesAt_13 : decode cX6_missesAt 13 = .ok (.iload 4, 2) := by decide +kernel
theorem dX6_missesAt_15 : decode cX6_missesAt 15 = .ok (.iload_n 3, 1) := by decide +kernel
theorem dX6_missesAt_16 : decode cX6_missesAt 16 = .ok (.if_icmp .ge 47, 3) := by decide +kernel
theorem dX6_missesAt_19 : decode cX6_missesAt 19 = .ok (.aload_n 0, 1) := by decide +kernel
theorem dX6_missesAt_20 : decode cX6_missesAt 20 = .ok (.getfield 28, 3) := by decide +kernel
theorem dX6_missesAt_23 : decode cX6_missesAt 23 = .ok (.iload 4, 2) := by decide +kernel
theorem dX6_missesAt_25 : decode cX6_missesAt 25 = .ok (.invokevirtual 240, 3) := by decide +kernel
theorem dX6_missesAt_28 : decode cX6_missesAt 28 = .ok (.istore 5, 2) := by decide +kernel
theorem dX6_missesAt_30 : decode cX6_missesAt 30 = .ok (.aload_n 0, 1) := by decide +kernel
theorem dX6_missesAt_31 : decode cX6_missesAt 31 = .ok (.getfield 12, 3) := by decide +kernel
theorem dX6_missesAt_34 : decode cX6_missesAt 34 = .ok (.getfield 260, 3) := by decide +kernel
theorem dX6_missesAt_37 : decode cX6_missesAt 37 = .ok (.iload_n 1, 1) := by decide +kernel
theorem dX6_missesAt_38 : decode cX6_missesAt 38 = .ok (.iload 4, 2) := by decide +kernel
theorem dX6_missesAt_40 : decode cX6_missesAt 40 = .ok (.invokestatic 236, 3) := by decide +kernel
theorem dX6_missesAt_43 : decode cX6_missesAt 43 = .ok (.invokestatic 112, 3) := by decide +kernel
theorem dX6_missesAt_46 : decode cX6_missesAt 46 = .ok (.iload 5, 2) := by decide +kernel
theorem dX6_missesAt_48 : decode cX6_missesAt 48 = .ok (.iand, 1) := by decide +kernel
theorem dX6_missesAt_49 : decode cX6_missesAt 49 = .ok (.iload 5, 2) := by decide +kernel
theorem dX6_missesAt_51 : decode cX6_missesAt 51 = .ok (.if_icmp .eq 6, 3) := by decide +kernel
theorem dX6_missesAt_54 : decode cX6_missesAt 54 = .ok (.iinc 2 1, 3) := by decide +kernel
theorem dX6_missesAt_57 : decode cX6_missesAt 57 = .ok (.iinc 4 1, 3) := by decide +kernel
theorem dX6_missesAt_60 : decode cX6_missesAt 60 = .ok (.goto (-47), 3) := by decide +kernel
theorem dX6_missesAt_63 : decode cX6_missesAt 63 = .ok (.iload_n 2, 1) := by decide +kernel
theorem dX6_missesAt_64 : decode cX6_missesAt 64 = .ok (.ireturn, 1) := by decide +kernel
theorem dX7_init_0 : decode cX7_init 0 = .ok (.aload_n 0, 1) := by decide +kernel
theorem dX7_init_1 : decode cX7_init 1 = .ok (.invokespecial 3, 3) := by decide +kernel
theorem dX7_init_4 : decode cX7_init 4 = .ok (.aload_n 0, 1) := by decide +kernel
theorem dX7_init_5 : decode cX7_init 5 = .ok (.iconst 0, 1) := by decide +kernel
theorem dX7_init_6 : decode cX7_init 6 = .ok (.putfield 9, 3) := by decide +kernel
theorem dX7_init_9 : decode cX7_init 9 = .ok (.aload_n 0, 1) := by decide +kernel
theorem dX7_init_10 : decode cX7_init 10 = .ok (.iconst (-1), 1) := by decide +kernel
theorem dX7_init_11 : decode cX7_init 11 = .ok (.putfield 15, 3) := by decide +kernel
theorem dX7_init_14 : decode cX7_init 14 = .ok (.aload_n 0, 1) := by decide +kernel
theorem dX7_init_15 : decode cX7_init 15 = .ok (.iconst 1, 1) := by decide +kernel
theorem dX7_init_16 : decode cX7_init 16 = .ok (.putfield 18, 3) := by decide +kernel
theorem dX7_init_19 : decode cX7_init 19 = .ok (.aload_n 0, 1) := by decide +kernel
theorem dX7_init_20 : decode cX7_init 20 = .ok (.iconst 1, 1) := by decide +kernel
theorem dX7_init_21 : decode cX7_init 21 = .ok (.putfield 21, 3) := by decide +kernel
theorem dX7_init_24 : decode cX7_init 24 = .ok (.aload_n 0, 1) := by decide +kernel
theorem dX7_init_25 : decode cX7_init 25 = .ok (.iconst 0, 1) := by decide +kernel
theorem dX7_init_26 : decode cX7_init 26 = .ok (.putfield 24, 3) := by decide +kernel
theorem dX7_init_29 : decode cX7_init 29 = .ok (.aload_n 0, 1) := by decide +kernel
theorem dX7_init_30 : decode cX7_init 30 = .ok (.iconst 0, 1) := by decide +kernel
theorem dX7_init_31 : decode cX7_init 31 = .ok (.putfield 27, 3) := by decide +kernel
theorem dX7_init_34 : decode cX7_init 34 = .ok (.aload_n 0, 1) := by decide +kernel
theorem dX7_init_35 : decode cX7_init 35 = .ok (.iconst (-1), 1) := by decide +kernel
theorem dX7_init_36 : decode cX7_init 36 = .ok (.putfield 30, 3) := by decide +kernel
theorem dX7_init_39 : decode cX7_init 39 = .ok (.aload_n 0, 1) := by decide +kernel
theorem dX7_init_40 : decode cX7_init 40 = .ok (.iconst 0, 1) := by decide +kernel
theorem dX7_init_41 : decode cX7_init 41 = .ok (.putfield 33, 3) := by decide +kernel
theorem dX7_init_44 : decode cX7_init 44 = .ok (.aload_n 0, 1) := by decide +kernel
theorem dX7_init_45 : decode cX7_init 45 = .ok (.new 37, 3) := by decide +kernel
theorem dX7_init_48 : decode cX7_init 48 = .ok (.dup, 1) := by decide +kernel
theorem dX7_init_49 : decode cX7_init 49 = .ok (.invokespecial 39, 3) := by decide +kernel
theorem dX7_init_52 : decode cX7_init 52 = .ok (.putfield 40, 3) := by decide +kernel
theorem dX7_init_55 : decode cX7_init 55 = .ok (.return_, 1) := by decide +kernel
theorem dX7_start_0 : decode cX7_start 0 = .ok (.aload_n 0, 1) := by decide +kernel
theorem dX7_start_1 : decode cX7_start 1 = .ok (.iload_n 1, 1) := by decide +kernel
theorem dX7_start_2 : decode cX7_start 2 = .ok (.putfield 9, 3) := by decide +kernel
theorem dX7_start_5 : decode cX7_start 5 = .ok (.aload_n 0, 1) := by decide +kernel
theorem dX7_start_6 : decode cX7_start 6 = .ok (.iload_n 2, 1) := by decide +kernel
theorem dX7_start_7 : decode cX7_start 7 = .ok (.putfield 15, 3) := by decide +kernel
theorem dX7_start_10 : decode cX7_start 10 = .ok (.aload_n 0, 1) := by decide +kernel
theorem dX7_start_11 : decode cX7_start 11 = .ok (.iload_n 3, 1) := by decide +kernel
theorem dX7_start_12 : decode cX7_start 12 = .ok (.putfield 24, 3) := by decide +kernel
theorem dX7_start_15 : decode cX7_start 15 = .ok (.aload_n 0, 1) := by decide +kernel
theorem dX7_start_16 : decode cX7_start 16 = .ok (.iconst 0, 1) := by decide +kernel
theorem dX7_start_17 : decode cX7_start 17 = .ok (.putfield 27, 3) := by decide +kernel
theorem dX7_start_20 : decode cX7_start 20 = .ok (.aload_n 0, 1) := by decide +kernel
theorem dX7_start_21 : decode cX7_start 21 = .ok (.iload 4, 2) := by decide +kernel
theorem dX7_start_23 : decode cX7_start 23 = .ok (.putfield 30, 3) := by decide +kernel
theorem dX7_start_26 : decode cX7_start 26 = .ok (.aload_n 0, 1) := by decide +kernel
theorem dX7_start_27 : decode cX7_start 27 = .ok (.iconst 0, 1) := by decide +kernel
theorem dX7_start_28 : decode cX7_start 28 = .ok (.putfield 33, 3) := by decide +kernel
theorem dX7_start_31 : decode cX7_start 31 = .ok (.return_, 1) := by decide +kernel
theorem dX7_startWrite_0 : decode cX7_startWrite 0 = .ok (.aload_n 0, 1) := by decide +kernel
theorem dX7_startWrite_1 : decode cX7_startWrite 1 = .ok (.iconst 1, 1) := by decide +kernel
theorem dX7_startWrite_2 : decode cX7_startWrite 2 = .ok (.iload_n 1, 1) := by decide +kernel
theorem dX7_startWrite_3 : decode cX7_startWrite 3 = .ok (.aload_n 2, 1) := by decide +kernel
theorem dX7_startWrite_4 : decode cX7_startWrite 4 = .ok (.invokevirtual 44, 3) := by decide +kernel
theorem dX7_startWrite_7 : decode cX7_startWrite 7 = .ok (.iload_n 3, 1) := by decide +kernel
theorem dX7_startWrite_8 : decode cX7_startWrite 8 = .ok (.imul, 1) := by decide +kernel
theorem dX7_startWrite_9 : decode cX7_startWrite 9 = .ok (.iload 4, 2) := by decide +kernel
theorem dX7_startWrite_11 : decode cX7_startWrite 11 = .ok (.invokevirtual 48, 3) := by decide +kernel
theorem dX7_startWrite_14 : decode cX7_startWrite 14 = .ok (.aload_n 0, 1) := by decide +kernel
theorem dX7_startWrite_15 : decode cX7_startWrite 15 = .ok (.iload_n 3, 1) := by decide +kernel
theorem dX7_startWrite_16 : decode cX7_startWrite 16 = .ok (.putfield 21, 3) := by decide +kernel
theorem dX7_startWrite_19 : decode cX7_startWrite 19 = .ok (.aload_n 0, 1) := by decide +kernel
theorem dX7_startWrite_20 : decode cX7_startWrite 20 = .ok (.getfield 40, 3) := by decide +kernel
theorem dX7_startWrite_23 : decode cX7_startWrite 23 = .ok (.aload_n 2, 1) := by decide +kernel
theorem dX7_startWrite_24 : decode cX7_startWrite 24 = .ok (.invokevirtual 52, 3) := by decide +kernel
theorem dX7_startWrite_27 : decode cX7_startWrite 27 = .ok (.return_, 1) := by decide +kernel
theorem dX7_end_0 : decode cX7_end 0 = .ok (.aload_n 0, 1) := by decide +kernel
theorem dX7_end_1 : decode cX7_end 1 = .ok (.iconst 0, 1) := by decide +kernel
theorem dX7_end_2 : decode cX7_end 2 = .ok (.iconst (-1), 1) := by decide +kernel
theorem dX7_end_3 : decode cX7_end 3 = .ok (.iconst 0, 1) := by decide +kernel
theorem dX7_end_4 : decode cX7_end 4 = .ok (.iconst (-1), 1) := by decide +kernel
theorem dX7_end_5 : decode cX7_end 5 = .ok (.invokevirtual 48, 3) := by decide +kernel
theorem dX7_end_8 : decode cX7_end 8 = .ok (.return_, 1) := by decide +kernel
theorem dX7_left_0 : decode cX7_left 0 = .ok (.aload_n 0, 1) := by decide +kernel
theorem dX7_left_1 : decode cX7_left 1 = .ok (.getfield 24, 3) := by decide +kernel
theorem dX7_left_4 : decode cX7_left 4 = .ok (.aload_n 0, 1) := by decide +kernel
theorem dX7_left_5 : decode cX7_left 5 = .ok (.getfield 27, 3) := by decide +kernel
theorem dX7_left_8 : decode cX7_left 8 = .ok (.isub, 1) := by decide +kernel
theorem dX7_left_9 : decode cX7_left 9 = .ok (.ireturn, 1) := by decide +kernel
theorem dX7_concerns_0 : decode cX7_concerns 0 = .ok (.aload_n 0, 1) := by decide +kernel
theorem dX7_concerns_1 : decode cX7_concerns 1 = .ok (.getfield 9, 3) := by decide +kernel
theorem dX7_concerns_4 : decode cX7_concerns 4 = .ok (.iconst 1, 1) := by decide +kernel
theorem dX7_concerns_5 : decode cX7_concerns 5 = .ok (.if_icmp .ne 23, 3) := by decide +kernel
theorem dX7_concerns_8 : decode cX7_concerns 8 = .ok (.iload_n 1, 1) := by decide +kernel
theorem dX7_concerns_9 : decode cX7_concerns 9 = .ok (.bipush 8, 2) := by decide +kernel
theorem dX7_concerns_11 : decode cX7_concerns 11 = .ok (.idiv, 1) := by decide +kernel
theorem dX7_concerns_12 : decode cX7_concerns 12 = .ok (.aload_n 0, 1) := by decide +kernel
theorem dX7_concerns_13 : decode cX7_concerns 13 = .ok (.getfield 15, 3) := by decide +kernel
theorem dX7_concerns_16 : decode cX7_concerns 16 = .ok (.bipush 8, 2) := by decide +kernel
theorem dX7_concerns_18 : decode cX7_concerns 18 = .ok (.idiv, 1) := by decide +kernel
theorem dX7_concerns_19 : decode cX7_concerns 19 = .ok (.if_icmp .ne 7, 3) := by decide +kernel
theorem dX7_concerns_22 : decode cX7_concerns 22 = .ok (.iconst 1, 1) := by decide +kernel
theorem dX7_concerns_23 : decode cX7_concerns 23 = .ok (.goto 4, 3) := by decide +kernel
theorem dX7_concerns_26 : decode cX7_concerns 26 = .ok (.iconst 0, 1) := by decide +kernel
theorem dX7_concerns_27 : decode cX7_concerns 27 = .ok (.ireturn, 1) := by decide +kernel
theorem dX7_concerns_28 : decode cX7_concerns 28 = .ok (.aload_n 0, 1) := by decide +kernel
theorem dX7_concerns_29 : decode cX7_concerns 29 = .ok (.getfield 9, 3) := by decide +kernel
theorem dX7_concerns_32 : decode cX7_concerns 32 = .ok (.iconst 2, 1) := by decide +kernel
theorem dX7_concerns_33 : decode cX7_concerns 33 = .ok (.if_icmp .ne 18, 3) := by decide +kernel
theorem dX7_concerns_36 : decode cX7_concerns 36 = .ok (.iload_n 1, 1) := by decide +kernel
theorem dX7_concerns_37 : decode cX7_concerns 37 = .ok (.bipush 32, 2) := by decide +kernel
theorem dX7_concerns_39 : decode cX7_concerns 39 = .ok (.idiv, 1) := by decide +kernel
theorem dX7_concerns_40 : decode cX7_concerns 40 = .ok (.aload_n 0, 1) := by decide +kernel
theorem dX7_concerns_41 : decode cX7_concerns 41 = .ok (.getfield 15, 3) := by decide +kernel
theorem dX7_concerns_44 : decode cX7_concerns 44 = .ok (.if_icmp .ne 7, 3) := by decide +kernel
theorem dX7_concerns_47 : decode cX7_concerns 47 = .ok (.iconst 1, 1) := by decide +kernel
theorem dX7_concerns_48 : decode cX7_concerns 48 = .ok (.goto 4, 3) := by decide +kernel
theorem dX7_concerns_51 : decode cX7_concerns 51 = .ok (.iconst 0, 1) := by decide +kernel
theorem dX7_concerns_52 : decode cX7_concerns 52 = .ok (.ireturn, 1) := by decide +kernel
theorem dX7_become_0 : decode cX7_become 0 = .ok (.aload_n 0, 1) := by decide +kernel
theorem dX7_become_1 : decode cX7_become 1 = .ok (.aload_n 1, 1) := by decide +kernel
theorem dX7_become_2 : decode cX7_become 2 = .ok (.getfield 9, 3) := by decide +kernel
theorem dX7_become_5 : decode cX7_become 5 = .ok (.putfield 9, 3) := by decide +kernel
theorem dX7_become_8 : decode cX7_become 8 = .ok (.aload_n 0, 1) := by decide +kernel
theorem dX7_become_9 : decode cX7_become 9 = .ok (.aload_n 1, 1) := by decide +kernel
theorem dX7_become_10 : decode cX7_become 10 = .ok (.getfield 15, 3) := by decide +kernel
theorem dX7_become_13 : decode cX7_become 13 = .ok (.putfield 15, 3) := by decide +kernel
theorem dX7_become_16 : decode cX7_become 16 = .ok (.aload_n 0, 1) := by decide +kernel
theorem dX7_become_17 : decode cX7_become 17 = .ok (.aload_n 1, 1) := by decide +kernel
theorem dX7_become_18 : decode cX7_become 18 = .ok (.getfield 18, 3) := by decide +kernel
theorem dX7_become_21 : decode cX7_become 21 = .ok (.putfield 18, 3) := by decide +kernel
theorem dX7_become_24 : decode cX7_become 24 = .ok (.aload_n 0, 1) := by decide +kernel
theorem dX7_become_25 : decode cX7_become 25 = .ok (.aload_n 1, 1) := by decide +kernel
theorem dX7_become_26 : decode cX7_become 26 = .ok (.getfield 21, 3) := by decide +kernel
theorem dX7_become_29 : decode cX7_become 29 = .ok (.putfield 21, 3) := by decide +kernel
theorem dX7_become_32 : decode cX7_become 32 = .ok (.aload_n 0, 1) := by decide +kernel
theorem dX7_become_33 : decode cX7_become 33 = .ok (.aload_n 1, 1) := by decide +kernel
theorem dX7_become_34 : decode cX7_become 34 = .ok (.getfield 24, 3) := by decide +kernel
theorem dX7_become_37 : decode cX7_become 37 = .ok (.putfield 24, 3) := by decide +kernel
theorem dX7_become_40 : decode cX7_become 40 = .ok (.aload_n 0, 1) := by decide +kernel
theorem dX7_become_41 : decode cX7_become 41 = .ok (.aload_n 1, 1) := by decide +kernel
theorem dX7_become_42 : decode cX7_become 42 = .ok (.getfield 27, 3) := by decide +kernel
theorem dX7_become_45 : decode cX7_become 45 = .ok (.putfield 27, 3) := by decide +kernel
theorem dX7_become_48 : decode cX7_become 48 = .ok (.aload_n 0, 1) := by decide +kernel
theorem dX7_become_49 : decode cX7_become 49 = .ok (.aload_n 1, 1) := by decide +kernel
theorem dX7_become_50 : decode cX7_become 50 = .ok (.getfield 30, 3) := by decide +kernel
theorem dX7_become_53 : decode cX7_become 53 = .ok (.putfield 30, 3) := by decide +kernel
theorem dX7_become_56 : decode cX7_become 56 = .ok (.aload_n 0, 1) := by decide +kernel
theorem dX7_become_57 : decode cX7_become 57 = .ok (.aload_n 1, 1) := by decide +kernel
theorem dX7_become_58 : decode cX7_become 58 = .ok (.getfield 33, 3) := by decide +kernel
theorem dX7_become_61 : decode cX7_become 61 = .ok (.putfield 33, 3) := by decide +kernel
theorem dX7_become_64 : decode cX7_become 64 = .ok (.aload_n 0, 1) := by decide +kernel
theorem dX7_become_65 : decode cX7_become 65 = .ok (.getfield 40, 3) := by decide +kernel
theorem dX7_become_68 : decode cX7_become 68 = .ok (.aload_n 1, 1) := by decide +kernel
theorem dX7_become_69 : decode cX7_become 69 = .ok (.getfield 40, 3) := by decide +kernel
theorem dX7_become_72 : decode cX7_become 72 = .ok (.invokevirtual 52, 3) := by decide +kernel
theorem dX7_become_75 : decode cX7_become 75 = .ok (.return_, 1) := by decide +kernel
theorem dJ6_bitCount_0f7a4_0 : decode cJ6_bitCount_0f7a4 0 = .ok (.iload_n 0, 1) := by decide +kernel
theorem dJ6_bitCount_0f7a4_1 : decode cJ6_bitCount_0f7a4 1 = .ok (.iload_n 0, 1) := by decide +kernel
theorem dJ6_bitCount_0f7a4_2 : decode cJ6_bitCount_0f7a4 2 = .ok (.iconst 1, 1) := by decide +kernel
theorem dJ6_bitCount_0f7a4_3 : decode cJ6_bitCount_0f7a4 3 = .ok (.iushr, 1) := by decide +kernel
theorem dJ6_bitCount_0f7a4_4 : decode cJ6_bitCount_0f7a4 4 = .ok (.ldc_w 265, 3) := by decide +kernel
theorem dJ6_bitCount_0f7a4_7 : decode cJ6_bitCount_0f7a4 7 = .ok (.iand, 1) := by decide +kernel
theorem dJ6_bitCount_0f7a4_8 : decode cJ6_bitCount_0f7a4 8 = .ok (.isub, 1) := by decide +kernel
theorem dJ6_bitCount_0f7a4_9 : decode cJ6_bitCount_0f7a4 9 = .ok (.istore_n 0, 1) := by decide +kernel
theorem dJ6_bitCount_0f7a4_10 : decode cJ6_bitCount_0f7a4 10 = .ok (.iload_n 0, 1) := by decide +kernel
theorem dJ6_bitCount_0f7a4_11 : decode cJ6_bitCount_0f7a4 11 = .ok (.ldc_w 266, 3) := by decide +kernel
theorem dJ6_bitCount_0f7a4_14 : decode cJ6_bitCount_0f7a4 14 = .ok (.iand, 1) := by decide +kernel
theorem dJ6_bitCount_0f7a4_15 : decode cJ6_bitCount_0f7a4 15 = .ok (.iload_n 0, 1) := by decide +kernel
theorem dJ6_bitCount_0f7a4_16 : decode cJ6_bitCount_0f7a4 16 = .ok (.iconst 2, 1) := by decide +kernel
theorem dJ6_bitCount_0f7a4_17 : decode cJ6_bitCount_0f7a4 17 = .ok (.iushr, 1) := by decide +kernel
theorem dJ6_bitCount_0f7a4_18 : decode cJ6_bitCount_0f7a4 18 = .ok (.ldc_w 266, 3) := by decide +kernel
theorem dJ6_bitCount_0f7a4_21 : decode cJ6_bitCount_0f7a4 21 = .ok (.iand, 1) := by decide +kernel
theorem dJ6_bitCount_0f7a4_22 : decode cJ6_bitCount_0f7a4 22 = .ok (.iadd, 1) := by decide +kernel
theorem dJ6_bitCount_0f7a4_23 : decode cJ6_bitCount_0f7a4 23 = .ok (.istore_n 0, 1) := by decide +kernel
theorem dJ6_bitCount_0f7a4_24 : decode cJ6_bitCount_0f7a4 24 = .ok (.iload_n 0, 1) := by decide +kernel
theorem dJ6_bitCount_0f7a4_25 : decode cJ6_bitCount_0f7a4 25 = .ok (.iload_n 0, 1) := by decide +kernel
theorem dJ6_bitCount_0f7a4_26 : decode cJ6_bitCount_0f7a4 26 = .ok (.iconst 4, 1) := by decide +kernel
theorem dJ6_bitCount_0f7a4_27 : decode cJ6_bitCount_0f7a4 27 = .ok (.iushr, 1) := by decide +kernel
theorem dJ6_bitCount_0f7a4_28 : decode cJ6_bitCount_0f7a4 28 = .ok (.iadd, 1) := by decide +kernel
theorem dJ6_bitCount_0f7a4_29 : decode cJ6_bitCount_0f7a4 29 = .ok (.ldc_w 267, 3) := by decide +kernel
theorem dJ6_bitCount_0f7a4_32 : decode cJ6_bitCount_0f7a4 32 = .ok (.iand, 1) := by decide +kernel
theorem dJ6_bitCount_0f7a4_33 : decode cJ6_bitCount_0f7a4 33 = .ok (.istore_n 0, 1) := by decide +kernel
theorem dJ6_bitCount_0f7a4_34 : decode cJ6_bitCount_0f7a4 34 = .ok (.iload_n 0, 1) := by decide +kernel
theorem dJ6_bitCount_0f7a4_35 : decode cJ6_bitCount_0f7a4 35 = .ok (.iload_n 0, 1) := by decide +kernel
theorem dJ6_bitCount_0f7a4_36 : decode cJ6_bitCount_0f7a4 36 = .ok (.bipush 8, 2) := by decide +kernel
theorem dJ6_bitCount_0f7a4_38 : decode cJ6_bitCount_0f7a4 38 = .ok (.iushr, 1) := by decide +kernel
theorem dJ6_bitCount_0f7a4_39 : decode cJ6_bitCount_0f7a4 39 = .ok (.iadd, 1) := by decide +kernel
theorem dJ6_bitCount_0f7a4_40 : decode cJ6_bitCount_0f7a4 40 = .ok (.istore_n 0, 1) := by decide +kernel
theorem dJ6_bitCount_0f7a4_41 : decode cJ6_bitCount_0f7a4 41 = .ok (.iload_n 0, 1) := by decide +kernel
theorem dJ6_bitCount_0f7a4_42 : decode cJ6_bitCount_0f7a4 42 = .ok (.iload_n 0, 1) := by decide +kernel
theorem dJ6_bitCount_0f7a4_43 : decode cJ6_bitCount_0f7a4 43 = .ok (.bipush 16, 2) := by decide +kernel
theorem dJ6_bitCount_0f7a4_45 : decode cJ6_bitCount_0f7a4 45 = .ok (.iushr, 1) := by decide +kernel
theorem dJ6_bitCount_0f7a4_46 : decode cJ6_bitCount_0f7a4 46 = .ok (.iadd, 1) := by decide +kernel
theorem dJ6_bitCount_0f7a4_47 : decode cJ6_bitCount_0f7a4 47 = .ok (.istore_n 0, 1) := by decide +kernel
theorem dJ6_bitCount_0f7a4_48 : decode cJ6_bitCount_0f7a4 48 = .ok (.iload_n 0, 1) := by decide +kernel
theorem dJ6_bitCount_0f7a4_49 : decode cJ6_bitCount_0f7a4 49 = .ok (.bipush 63, 2) := by decide +kernel
theorem dJ6_bitCount_0f7a4_51 : decode cJ6_bitCount_0f7a4 51 = .ok (.iand, 1) := by decide +kernel
theorem dJ6_bitCount_0f7a4_52 : decode cJ6_bitCount_0f7a4 52 = .ok (.ireturn, 1) := by decide +kernel
theorem dJ9_min_7cf53_0 : decode cJ9_min_7cf53 0 = .ok (.iload_n 0, 1) := by decide +kernel
theorem dJ9_min_7cf53_1 : decode cJ9_min_7cf53 1 = .ok (.iload_n 1, 1) := by decide +kernel
theorem dJ9_min_7cf53_2 : decode cJ9_min_7cf53 2 = .ok (.if_icmp .gt 7, 3) := by decide +kernel
theorem dJ9_min_7cf53_5 : decode cJ9_min_7cf53 5 = .ok (.iload_n 0, 1) := by decide +kernel
theorem dJ9_min_7cf53_6 : decode cJ9_min_7cf53 6 = .ok (.goto 4, 3) := by decide +kernel
theorem dJ9_min_7cf53_9 : decode cJ9_min_7cf53 9 = .ok (.iload_n 1, 1) := by decide +kernel
theorem dJ9_min_7cf53_10 : decode cJ9_min_7cf53 10 = .ok (.ireturn, 1) := by decide +kernel
theorem dJ7_fill_53178_0 : decode cJ7_fill_53178 0 = .ok (.iconst 0, 1) := by decide +kernel
theorem dJ7_fill_53178_1 : decode cJ7_fill_53178 1 = .ok (.istore_n 2, 1) := by decide +kernel
theorem dJ7_fill_53178_2 : decode cJ7_fill_53178 2 = .ok (.aload_n 0, 1) := by decide +kernel
theorem dJ7_fill_53178_3 : decode cJ7_fill_53178 3 = .ok (.arraylength, 1) := by decide +kernel
theorem dJ7_fill_53178_4 : decode cJ7_fill_53178 4 = .ok (.istore_n 3, 1) := by decide +kernel
theorem dJ7_fill_53178_5 : decode cJ7_fill_53178 5 = .ok (.iload_n 2, 1) := by decide +kernel
theorem dJ7_fill_53178_6 : decode cJ7_fill_53178 6 = .ok (.iload_n 3, 1) := by decide +kernel
theorem dJ7_fill_53178_7 : decode cJ7_fill_53178 7 = .ok (.if_icmp .ge 13, 3) := by decide +kernel
theorem dJ7_fill_53178_10 : decode cJ7_fill_53178 10 = .ok (.aload_n 0, 1) := by decide +kernel
theorem dJ7_fill_53178_11 : decode cJ7_fill_53178 11 = .ok (.iload_n 2, 1) := by decide +kernel
theorem dJ7_fill_53178_12 : decode cJ7_fill_53178 12 = .ok (.iload_n 1, 1) := by decide +kernel
theorem dJ7_fill_53178_13 : decode cJ7_fill_53178 13 = .ok (.iastore, 1) := by decide +kernel
theorem dJ7_fill_53178_14 : decode cJ7_fill_53178 14 = .ok (.iinc 2 1, 3) := by decide +kernel
theorem dJ7_fill_53178_17 : decode cJ7_fill_53178 17 = .ok (.goto (-12), 3) := by decide +kernel
theorem dJ7_fill_53178_20 : decode cJ7_fill_53178 20 = .ok (.return_, 1) := by decide +kernel
