theorem dX8_init_0 : decode cX8_init 0 = .ok (.aload_n 0, 1) := by decide +kernel
theorem dX8_init_1 : decode cX8_init 1 = .ok (.invokespecial 1, 3) := by decide +kernel
theorem dX8_init_4 : decode cX8_init 4 = .ok (.aload_n 0, 1) := by decide +kernel
theorem dX8_init_5 : decode cX8_init 5 = .ok (.new 7, 3) := by decide +kernel
theorem dX8_init_8 : decode cX8_init 8 = .ok (.dup, 1) := by decide +kernel
theorem dX8_init_9 : decode cX8_init 9 = .ok (.invokespecial 9, 3) := by decide +kernel
theorem dX8_init_12 : decode cX8_init 12 = .ok (.putfield 10, 3) := by decide +kernel
theorem dX8_init_15 : decode cX8_init 15 = .ok (.aload_n 0, 1) := by decide +kernel
theorem dX8_init_16 : decode cX8_init 16 = .ok (.new 7, 3) := by decide +kernel
theorem dX8_init_19 : decode cX8_init 19 = .ok (.dup, 1) := by decide +kernel
theorem dX8_init_20 : decode cX8_init 20 = .ok (.invokespecial 9, 3) := by decide +kernel
theorem dX8_init_23 : decode cX8_init 23 = .ok (.putfield 16, 3) := by decide +kernel
theorem dX8_init_26 : decode cX8_init 26 = .ok (.aload_n 0, 1) := by decide +kernel
theorem dX8_init_27 : decode cX8_init 27 = .ok (.new 7, 3) := by decide +kernel
theorem dX8_init_30 : decode cX8_init 30 = .ok (.dup, 1) := by decide +kernel
theorem dX8_init_31 : decode cX8_init 31 = .ok (.invokespecial 9, 3) := by decide +kernel
theorem dX8_init_34 : decode cX8_init 34 = .ok (.putfield 19, 3) := by decide +kernel
theorem dX8_init_37 : decode cX8_init 37 = .ok (.aload_n 0, 1) := by decide +kernel
theorem dX8_init_38 : decode cX8_init 38 = .ok (.iconst 0, 1) := by decide +kernel
theorem dX8_init_39 : decode cX8_init 39 = .ok (.putfield 22, 3) := by decide +kernel
theorem dX8_init_42 : decode cX8_init 42 = .ok (.aload_n 0, 1) := by decide +kernel
theorem dX8_init_43 : decode cX8_init 43 = .ok (.bipush 6, 2) := by decide +kernel
theorem dX8_init_45 : decode cX8_init 45 = .ok (.anewarray 7, 3) := by decide +kernel
theorem dX8_init_48 : decode cX8_init 48 = .ok (.putfield 26, 3) := by decide +kernel
theorem dX8_init_51 : decode cX8_init 51 = .ok (.aload_n 0, 1) := by decide +kernel
theorem dX8_init_52 : decode cX8_init 52 = .ok (.iconst 0, 1) := by decide +kernel
theorem dX8_init_53 : decode cX8_init 53 = .ok (.putfield 30, 3) := by decide +kernel
theorem dX8_init_56 : decode cX8_init 56 = .ok (.aload_n 0, 1) := by decide +kernel
theorem dX8_init_57 : decode cX8_init 57 = .ok (.bipush 60, 2) := by decide +kernel
theorem dX8_init_59 : decode cX8_init 59 = .ok (.newarray .char, 2) := by decide +kernel
theorem dX8_init_61 : decode cX8_init 61 = .ok (.putfield 34, 3) := by decide +kernel
theorem dX8_init_64 : decode cX8_init 64 = .ok (.aload_n 0, 1) := by decide +kernel
theorem dX8_init_65 : decode cX8_init 65 = .ok (.iconst 0, 1) := by decide +kernel
theorem dX8_init_66 : decode cX8_init 66 = .ok (.putfield 38, 3) := by decide +kernel
theorem dX8_init_69 : decode cX8_init 69 = .ok (.aload_n 0, 1) := by decide +kernel
theorem dX8_init_70 : decode cX8_init 70 = .ok (.new 41, 3) := by decide +kernel
theorem dX8_init_73 : decode cX8_init 73 = .ok (.dup, 1) := by decide +kernel
theorem dX8_init_74 : decode cX8_init 74 = .ok (.invokespecial 43, 3) := by decide +kernel
theorem dX8_init_77 : decode cX8_init 77 = .ok (.putfield 44, 3) := by decide +kernel
theorem dX8_init_80 : decode cX8_init 80 = .ok (.aload_n 0, 1) := by decide +kernel
theorem dX8_init_81 : decode cX8_init 81 = .ok (.sipush 256, 3) := by decide +kernel
theorem dX8_init_84 : decode cX8_init 84 = .ok (.newarray .int, 2) := by decide +kernel
theorem dX8_init_86 : decode cX8_init 86 = .ok (.putfield 48, 3) := by decide +kernel
theorem dX8_init_89 : decode cX8_init 89 = .ok (.iconst 0, 1) := by decide +kernel
theorem dX8_init_90 : decode cX8_init 90 = .ok (.istore_n 1, 1) := by decide +kernel
theorem dX8_init_91 : decode cX8_init 91 = .ok (.iload_n 1, 1) := by decide +kernel
theorem dX8_init_92 : decode cX8_init 92 = .ok (.aload_n 0, 1) := by decide +kernel
theorem dX8_init_93 : decode cX8_init 93 = .ok (.getfield 26, 3) := by decide +kernel
theorem dX8_init_96 : decode cX8_init 96 = .ok (.arraylength, 1) := by decide +kernel
theorem dX8_init_97 : decode cX8_init 97 = .ok (.if_icmp .ge 22, 3) := by decide +kernel
theorem dX8_init_100 : decode cX8_init 100 = .ok (.aload_n 0, 1) := by decide +kernel
theorem dX8_init_101 : decode cX8_init 101 = .ok (.getfield 26, 3) := by decide +kernel
theorem dX8_init_104 : decode cX8_init 104 = .ok (.iload_n 1, 1) := by decide +kernel
theorem dX8_init_105 : decode cX8_init 105 = .ok (.new 7, 3) := by decide +kernel
theorem dX8_init_108 : decode cX8_init 108 = .ok (.dup, 1) := by decide +kernel
theorem dX8_init_109 : decode cX8_init 109 = .ok (.invokespecial 9, 3) := by decide +kernel
theorem dX8_init_112 : decode cX8_init 112 = .ok (.aastore, 1) := by decide +kernel
theorem dX8_init_113 : decode cX8_init 113 = .ok (.iinc 1 1, 3) := by decide +kernel
theorem dX8_init_116 : decode cX8_init 116 = .ok (.goto (-25), 3) := by decide +kernel
theorem dX8_init_119 : decode cX8_init 119 = .ok (.return_, 1) := by decide +kernel
theorem dX8_arm_0 : decode cX8_arm 0 = .ok (.aload_n 0, 1) := by decide +kernel
theorem dX8_arm_1 : decode cX8_arm 1 = .ok (.getfield 10, 3) := by decide +kernel
theorem dX8_arm_4 : decode cX8_arm 4 = .ok (.invokevirtual 52, 3) := by decide +kernel
theorem dX8_arm_7 : decode cX8_arm 7 = .ok (.ifCond .eq 13, 3) := by decide +kernel
theorem dX8_arm_10 : decode cX8_arm 10 = .ok (.new 56, 3) := by decide +kernel
theorem dX8_arm_13 : decode cX8_arm 13 = .ok (.dup, 1) := by decide +kernel
theorem dX8_arm_14 : decode cX8_arm 14 = .ok (.ldc 58, 2) := by decide +kernel
theorem dX8_arm_16 : decode cX8_arm 16 = .ok (.invokespecial 60, 3) := by decide +kernel
theorem dX8_arm_19 : decode cX8_arm 19 = .ok (.athrow, 1) := by decide +kernel
theorem dX8_arm_20 : decode cX8_arm 20 = .ok (.aload_n 0, 1) := by decide +kernel
theorem dX8_arm_21 : decode cX8_arm 21 = .ok (.invokevirtual 63, 3) := by decide +kernel
theorem dX8_arm_24 : decode cX8_arm 24 = .ok (.aload_n 0, 1) := by decide +kernel
theorem dX8_arm_25 : decode cX8_arm 25 = .ok (.getfield 10, 3) := by decide +kernel
theorem dX8_arm_28 : decode cX8_arm 28 = .ok (.getfield 66, 3) := by decide +kernel
theorem dX8_arm_31 : decode cX8_arm 31 = .ok (.ifCond .eq 7, 3) := by decide +kernel
theorem dX8_arm_34 : decode cX8_arm 34 = .ok (.iconst 1, 1) := by decide +kernel
theorem dX8_arm_35 : decode cX8_arm 35 = .ok (.goto 4, 3) := by decide +kernel
theorem dX8_arm_38 : decode cX8_arm 38 = .ok (.iconst 0, 1) := by decide +kernel
theorem dX8_arm_39 : decode cX8_arm 39 = .ok (.istore_n 1, 1) := by decide +kernel
theorem dX8_arm_40 : decode cX8_arm 40 = .ok (.aload_n 0, 1) := by decide +kernel
theorem dX8_arm_41 : decode cX8_arm 41 = .ok (.getfield 10, 3) := by decide +kernel
theorem dX8_arm_44 : decode cX8_arm 44 = .ok (.iconst 1, 1) := by decide +kernel
theorem dX8_arm_45 : decode cX8_arm 45 = .ok (.putfield 66, 3) := by decide +kernel
theorem dX8_arm_48 : decode cX8_arm 48 = .ok (.iload_n 1, 1) := by decide +kernel
theorem dX8_arm_49 : decode cX8_arm 49 = .ok (.ireturn, 1) := by decide +kernel
theorem dX8_load_0 : decode cX8_load 0 = .ok (.iload_n 1, 1) := by decide +kernel
theorem dX8_load_1 : decode cX8_load 1 = .ok (.iconst 0, 1) := by decide +kernel
theorem dX8_load_2 : decode cX8_load 2 = .ok (.sipush 255, 3) := by decide +kernel
theorem dX8_load_5 : decode cX8_load 5 = .ok (.invokestatic 69, 3) := by decide +kernel
theorem dX8_load_8 : decode cX8_load 8 = .ok (.ifCond .ne 13, 3) := by decide +kernel
theorem dX8_load_11 : decode cX8_load 11 = .ok (.new 73, 3) := by decide +kernel
theorem dX8_load_14 : decode cX8_load 14 = .ok (.dup, 1) := by decide +kernel
theorem dX8_load_15 : decode cX8_load 15 = .ok (.ldc 75, 2) := by decide +kernel
theorem dX8_load_17 : decode cX8_load 17 = .ok (.invokespecial 77, 3) := by decide +kernel
theorem dX8_load_20 : decode cX8_load 20 = .ok (.athrow, 1) := by decide +kernel
theorem dX8_load_21 : decode cX8_load 21 = .ok (.aload_n 0, 1) := by decide +kernel
theorem dX8_load_22 : decode cX8_load 22 = .ok (.getfield 10, 3) := by decide +kernel
theorem dX8_load_25 : decode cX8_load 25 = .ok (.getfield 78, 3) := by decide +kernel
theorem dX8_load_28 : decode cX8_load 28 = .ok (.getfield 82, 3) := by decide +kernel
theorem dX8_load_31 : decode cX8_load 31 = .ok (.bipush 12, 2) := by decide +kernel
theorem dX8_load_33 : decode cX8_load 33 = .ok (.if_icmp .lt 13, 3) := by decide +kernel
theorem dX8_load_36 : decode cX8_load 36 = .ok (.new 56, 3) := by decide +kernel
theorem dX8_load_39 : decode cX8_load 39 = .ok (.dup, 1) := by decide +kernel
theorem dX8_load_40 : decode cX8_load 40 = .ok (.ldc 87, 2) := by decide +kernel
theorem dX8_load_42 : decode cX8_load 42 = .ok (.invokespecial 60, 3) := by decide +kernel
theorem dX8_load_45 : decode cX8_load 45 = .ok (.athrow, 1) := by decide +kernel
theorem dX8_load_46 : decode cX8_load 46 = .ok (.aload_n 0, 1) := by decide +kernel
theorem dX8_load_47 : decode cX8_load 47 = .ok (.invokevirtual 63, 3) := by decide +kernel
theorem dX8_load_50 : decode cX8_load 50 = .ok (.aload_n 0, 1) := by decide +kernel
theorem dX8_load_51 : decode cX8_load 51 = .ok (.getfield 10, 3) := by decide +kernel
theorem dX8_load_54 : decode cX8_load 54 = .ok (.getfield 78, 3) := by decide +kernel
theorem dX8_load_57 : decode cX8_load 57 = .ok (.iload_n 1, 1) := by decide +kernel
theorem dX8_load_58 : decode cX8_load 58 = .ok (.invokevirtual 89, 3) := by decide +kernel
theorem dX8_load_61 : decode cX8_load 61 = .ok (.aload_n 0, 1) := by decide +kernel
theorem dX8_load_62 : decode cX8_load 62 = .ok (.getfield 10, 3) := by decide +kernel
theorem dX8_load_65 : decode cX8_load 65 = .ok (.getfield 78, 3) := by decide +kernel
theorem dX8_load_68 : decode cX8_load 68 = .ok (.getfield 82, 3) := by decide +kernel
theorem dX8_load_71 : decode cX8_load 71 = .ok (.ireturn, 1) := by decide +kernel
theorem dX8_write_0 : decode cX8_write 0 = .ok (.iload_n 1, 1) := by decide +kernel
theorem dX8_write_1 : decode cX8_write 1 = .ok (.invokestatic 93, 3) := by decide +kernel
theorem dX8_write_4 : decode cX8_write 4 = .ok (.ifCond .ne 13, 3) := by decide +kernel
theorem dX8_write_7 : decode cX8_write 7 = .ok (.new 97, 3) := by decide +kernel
theorem dX8_write_10 : decode cX8_write 10 = .ok (.dup, 1) := by decide +kernel
theorem dX8_write_11 : decode cX8_write 11 = .ok (.ldc 99, 2) := by decide +kernel
theorem dX8_write_13 : decode cX8_write 13 = .ok (.invokespecial 101, 3) := by decide +kernel
theorem dX8_write_16 : decode cX8_write 16 = .ok (.athrow, 1) := by decide +kernel
theorem dX8_write_17 : decode cX8_write 17 = .ok (.aload_n 0, 1) := by decide +kernel
theorem dX8_write_18 : decode cX8_write 18 = .ok (.getfield 10, 3) := by decide +kernel
theorem dX8_write_21 : decode cX8_write 21 = .ok (.iconst 1, 1) := by decide +kernel
theorem dX8_write_22 : decode cX8_write 22 = .ok (.iload_n 1, 1) := by decide +kernel
theorem dX8_write_23 : decode cX8_write 23 = .ok (.invokevirtual 102, 3) := by decide +kernel
theorem dX8_write_26 : decode cX8_write 26 = .ok (.ifCond .eq 13, 3) := by decide +kernel
theorem dX8_write_29 : decode cX8_write 29 = .ok (.new 56, 3) := by decide +kernel
theorem dX8_write_32 : decode cX8_write 32 = .ok (.dup, 1) := by decide +kernel
theorem dX8_write_33 : decode cX8_write 33 = .ok (.ldc 106, 2) := by decide +kernel
theorem dX8_write_35 : decode cX8_write 35 = .ok (.invokespecial 60, 3) := by decide +kernel
theorem dX8_write_38 : decode cX8_write 38 = .ok (.athrow, 1) := by decide +kernel
theorem dX8_write_39 : decode cX8_write 39 = .ok (.aload_n 0, 1) := by decide +kernel
theorem dX8_write_40 : decode cX8_write 40 = .ok (.invokevirtual 63, 3) := by decide +kernel
theorem dX8_write_43 : decode cX8_write 43 = .ok (.aload_n 0, 1) := by decide +kernel
theorem dX8_write_44 : decode cX8_write 44 = .ok (.getfield 10, 3) := by decide +kernel
theorem dX8_write_47 : decode cX8_write 47 = .ok (.getfield 108, 3) := by decide +kernel
theorem dX8_write_50 : decode cX8_write 50 = .ok (.iload_n 1, 1) := by decide +kernel
theorem dX8_write_51 : decode cX8_write 51 = .ok (.aload_n 0, 1) := by decide +kernel
theorem dX8_write_52 : decode cX8_write 52 = .ok (.getfield 10, 3) := by decide +kernel
theorem dX8_write_55 : decode cX8_write 55 = .ok (.getfield 78, 3) := by decide +kernel
theorem dX8_write_58 : decode cX8_write 58 = .ok (.aload_n 0, 1) := by decide +kernel
theorem dX8_write_59 : decode cX8_write 59 = .ok (.getfield 10, 3) := by decide +kernel
theorem dX8_write_62 : decode cX8_write 62 = .ok (.iconst 0, 1) := by decide +kernel
theorem dX8_write_63 : decode cX8_write 63 = .ok (.invokevirtual 112, 3) := by decide +kernel
theorem dX8_write_66 : decode cX8_write 66 = .ok (.iconst (-1), 1) := by decide +kernel
theorem dX8_write_67 : decode cX8_write 67 = .ok (.invokevirtual 116, 3) := by decide +kernel
theorem dX8_write_70 : decode cX8_write 70 = .ok (.aload_n 0, 1) := by decide +kernel
theorem dX8_write_71 : decode cX8_write 71 = .ok (.getfield 10, 3) := by decide +kernel
theorem dX8_write_74 : decode cX8_write 74 = .ok (.getfield 78, 3) := by decide +kernel
theorem dX8_write_77 : decode cX8_write 77 = .ok (.iconst 0, 1) := by decide +kernel
theorem dX8_write_78 : decode cX8_write 78 = .ok (.putfield 82, 3) := by decide +kernel
theorem dX8_write_81 : decode cX8_write 81 = .ok (.aload_n 0, 1) := by decide +kernel
theorem dX8_write_82 : decode cX8_write 82 = .ok (.getfield 10, 3) := by decide +kernel
theorem dX8_write_85 : decode cX8_write 85 = .ok (.iconst 0, 1) := by decide +kernel
theorem dX8_write_86 : decode cX8_write 86 = .ok (.putfield 66, 3) := by decide +kernel
theorem dX8_write_89 : decode cX8_write 89 = .ok (.aload_n 0, 1) := by decide +kernel
theorem dX8_write_90 : decode cX8_write 90 = .ok (.getfield 10, 3) := by decide +kernel
theorem dX8_write_93 : decode cX8_write 93 = .ok (.getfield 108, 3) := by decide +kernel
theorem dX8_write_96 : decode cX8_write 96 = .ok (.invokevirtual 122, 3) := by decide +kernel
theorem dX8_write_99 : decode cX8_write 99 = .ok (.ireturn, 1) := by decide +kernel
theorem dX8_erase_0 : decode cX8_erase 0 = .ok (.iload_n 1, 1) := by decide +kernel
theorem dX8_erase_1 : decode cX8_erase 1 = .ok (.invokestatic 126, 3) := by decide +kernel
theorem dX8_erase_4 : decode cX8_erase 4 = .ok (.ifCond .ne 13, 3) := by decide +kernel
theorem dX8_erase_7 : decode cX8_erase 7 = .ok (.new 97, 3) := by decide +kernel
theorem dX8_erase_10 : decode cX8_erase 10 = .ok (.dup, 1) := by decide +kernel
theorem dX8_erase_11 : decode cX8_erase 11 = .ok (.ldc 129, 2) := by decide +kernel
theorem dX8_erase_13 : decode cX8_erase 13 = .ok (.invokespecial 101, 3) := by decide +kernel
theorem dX8_erase_16 : decode cX8_erase 16 = .ok (.athrow, 1) := by decide +kernel
theorem dX8_erase_17 : decode cX8_erase 17 = .ok (.aload_n 0, 1) := by decide +kernel
theorem dX8_erase_18 : decode cX8_erase 18 = .ok (.getfield 10, 3) := by decide +kernel
theorem dX8_erase_21 : decode cX8_erase 21 = .ok (.iconst 2, 1) := by decide +kernel
theorem dX8_erase_22 : decode cX8_erase 22 = .ok (.iload_n 1, 1) := by decide +kernel
theorem dX8_erase_23 : decode cX8_erase 23 = .ok (.invokevirtual 102, 3) := by decide +kernel
theorem dX8_erase_26 : decode cX8_erase 26 = .ok (.ifCond .eq 13, 3) := by decide +kernel
theorem dX8_erase_29 : decode cX8_erase 29 = .ok (.new 56, 3) := by decide +kernel
theorem dX8_erase_32 : decode cX8_erase 32 = .ok (.dup, 1) := by decide +kernel
theorem dX8_erase_33 : decode cX8_erase 33 = .ok (.ldc 131, 2) := by decide +kernel
theorem dX8_erase_35 : decode cX8_erase 35 = .ok (.invokespecial 60, 3) := by decide +kernel
theorem dX8_erase_38 : decode cX8_erase 38 = .ok (.athrow, 1) := by decide +kernel
theorem dX8_erase_39 : decode cX8_erase 39 = .ok (.aload_n 0, 1) := by decide +kernel
theorem dX8_erase_40 : decode cX8_erase 40 = .ok (.invokevirtual 63, 3) := by decide +kernel
theorem dX8_erase_43 : decode cX8_erase 43 = .ok (.aload_n 0, 1) := by decide +kernel
theorem dX8_erase_44 : decode cX8_erase 44 = .ok (.getfield 10, 3) := by decide +kernel
theorem dX8_erase_47 : decode cX8_erase 47 = .ok (.getfield 108, 3) := by decide +kernel
theorem dX8_erase_50 : decode cX8_erase 50 = .ok (.iconst 2, 1) := by decide +kernel
theorem dX8_erase_51 : decode cX8_erase 51 = .ok (.iload_n 1, 1) := by decide +kernel
theorem dX8_erase_52 : decode cX8_erase 52 = .ok (.aload_n 0, 1) := by decide +kernel
theorem dX8_erase_53 : decode cX8_erase 53 = .ok (.getfield 10, 3) := by decide +kernel
theorem dX8_erase_56 : decode cX8_erase 56 = .ok (.iload_n 1, 1) := by decide +kernel
theorem dX8_erase_57 : decode cX8_erase 57 = .ok (.invokevirtual 133, 3) := by decide +kernel
theorem dX8_erase_60 : decode cX8_erase 60 = .ok (.iconst (-1), 1) := by decide +kernel
theorem dX8_erase_61 : decode cX8_erase 61 = .ok (.invokevirtual 136, 3) := by decide +kernel
theorem dX8_erase_64 : decode cX8_erase 64 = .ok (.aload_n 0, 1) := by decide +kernel
theorem dX8_erase_65 : decode cX8_erase 65 = .ok (.getfield 10, 3) := by decide +kernel
theorem dX8_erase_68 : decode cX8_erase 68 = .ok (.iconst 0, 1) := by decide +kernel
theorem dX8_erase_69 : decode cX8_erase 69 = .ok (.putfield 66, 3) := by decide +kernel
theorem dX8_erase_72 : decode cX8_erase 72 = .ok (.aload_n 0, 1) := by decide +kernel
theorem dX8_erase_73 : decode cX8_erase 73 = .ok (.getfield 10, 3) := by decide +kernel
theorem dX8_erase_76 : decode cX8_erase 76 = .ok (.getfield 108, 3) := by decide +kernel
theorem dX8_erase_79 : decode cX8_erase 79 = .ok (.invokevirtual 122, 3) := by decide +kernel
theorem dX8_erase_82 : decode cX8_erase 82 = .ok (.ireturn, 1) := by decide +kernel
theorem dX8_lock_0 : decode cX8_lock 0 = .ok (.iload_n 1, 1) := by decide +kernel
theorem dX8_lock_1 : decode cX8_lock 1 = .ok (.iconst 0, 1) := by decide +kernel
theorem dX8_lock_2 : decode cX8_lock 2 = .ok (.iconst 4, 1) := by decide +kernel
theorem dX8_lock_3 : decode cX8_lock 3 = .ok (.invokestatic 69, 3) := by decide +kernel
theorem dX8_lock_6 : decode cX8_lock 6 = .ok (.ifCond .eq 12, 3) := by decide +kernel
theorem dX8_lock_9 : decode cX8_lock 9 = .ok (.iload_n 2, 1) := by decide +kernel
theorem dX8_lock_10 : decode cX8_lock 10 = .ok (.iconst 0, 1) := by decide +kernel
theorem dX8_lock_11 : decode cX8_lock 11 = .ok (.iconst 1, 1) := by decide +kernel
theorem dX8_lock_12 : decode cX8_lock 12 = .ok (.invokestatic 69, 3) := by decide +kernel
theorem dX8_lock_15 : decode cX8_lock 15 = .ok (.ifCond .ne 13, 3) := by decide +kernel
theorem dX8_lock_18 : decode cX8_lock 18 = .ok (.new 73, 3) := by decide +kernel
theorem dX8_lock_21 : decode cX8_lock 21 = .ok (.dup, 1) := by decide +kernel
theorem dX8_lock_22 : decode cX8_lock 22 = .ok (.ldc 140, 2) := by decide +kernel
theorem dX8_lock_24 : decode cX8_lock 24 = .ok (.invokespecial 77, 3) := by decide +kernel
theorem dX8_lock_27 : decode cX8_lock 27 = .ok (.athrow, 1) := by decide +kernel
theorem dX8_lock_28 : decode cX8_lock 28 = .ok (.aload_n 0, 1) := by decide +kernel
theorem dX8_lock_29 : decode cX8_lock 29 = .ok (.getfield 10, 3) := by decide +kernel
theorem dX8_lock_32 : decode cX8_lock 32 = .ok (.iconst 3, 1) := by decide +kernel
theorem dX8_lock_33 : decode cX8_lock 33 = .ok (.iload_n 1, 1) := by decide +kernel
theorem dX8_lock_34 : decode cX8_lock 34 = .ok (.invokevirtual 102, 3) := by decide +kernel
theorem dX8_lock_37 : decode cX8_lock 37 = .ok (.ifCond .eq 13, 3) := by decide +kernel
theorem dX8_lock_40 : decode cX8_lock 40 = .ok (.new 56, 3) := by decide +kernel
theorem dX8_lock_43 : decode cX8_lock 43 = .ok (.dup, 1) := by decide +kernel
theorem dX8_lock_44 : decode cX8_lock 44 = .ok (.ldc 142, 2) := by decide +kernel
theorem dX8_lock_46 : decode cX8_lock 46 = .ok (.invokespecial 60, 3) := by decide +kernel
theorem dX8_lock_49 : decode cX8_lock 49 = .ok (.athrow, 1) := by decide +kernel
theorem dX8_lock_50 : decode cX8_lock 50 = .ok (.aload_n 0, 1) := by decide +kernel
theorem dX8_lock_51 : decode cX8_lock 51 = .ok (.invokevirtual 63, 3) := by decide +kernel
theorem dX8_lock_54 : decode cX8_lock 54 = .ok (.aload_n 0, 1) := by decide +kernel
theorem dX8_lock_55 : decode cX8_lock 55 = .ok (.getfield 10, 3) := by decide +kernel
theorem dX8_lock_58 : decode cX8_lock 58 = .ok (.getfield 108, 3) := by decide +kernel
theorem dX8_lock_61 : decode cX8_lock 61 = .ok (.iconst 3, 1) := by decide +kernel
theorem dX8_lock_62 : decode cX8_lock 62 = .ok (.iload_n 1, 1) := by decide +kernel
theorem dX8_lock_63 : decode cX8_lock 63 = .ok (.aload_n 0, 1) := by decide +kernel
theorem dX8_lock_64 : decode cX8_lock 64 = .ok (.getfield 10, 3) := by decide +kernel
theorem dX8_lock_67 : decode cX8_lock 67 = .ok (.iconst 3, 1) := by decide +kernel
theorem dX8_lock_68 : decode cX8_lock 68 = .ok (.invokevirtual 112, 3) := by decide +kernel
theorem dX8_lock_71 : decode cX8_lock 71 = .ok (.iconst (-1), 1) := by decide +kernel
theorem dX8_lock_72 : decode cX8_lock 72 = .ok (.invokevirtual 136, 3) := by decide +kernel
theorem dX8_lock_75 : decode cX8_lock 75 = .ok (.aload_n 0, 1) := by decide +kernel
theorem dX8_lock_76 : decode cX8_lock 76 = .ok (.getfield 10, 3) := by decide +kernel
theorem dX8_lock_79 : decode cX8_lock 79 = .ok (.getfield 108, 3) := by decide +kernel
theorem dX8_lock_82 : decode cX8_lock 82 = .ok (.iload_n 2, 1) := by decide +kernel
theorem dX8_lock_83 : decode cX8_lock 83 = .ok (.putfield 144, 3) := by decide +kernel
theorem dX8_lock_86 : decode cX8_lock 86 = .ok (.aload_n 0, 1) := by decide +kernel
theorem dX8_lock_87 : decode cX8_lock 87 = .ok (.getfield 10, 3) := by decide +kernel
theorem dX8_lock_90 : decode cX8_lock 90 = .ok (.iconst 0, 1) := by decide +kernel
theorem dX8_lock_91 : decode cX8_lock 91 = .ok (.putfield 66, 3) := by decide +kernel
theorem dX8_lock_94 : decode cX8_lock 94 = .ok (.aload_n 0, 1) := by decide +kernel
theorem dX8_lock_95 : decode cX8_lock 95 = .ok (.getfield 10, 3) := by decide +kernel
theorem dX8_lock_98 : decode cX8_lock 98 = .ok (.getfield 108, 3) := by decide +kernel
theorem dX8_lock_101 : decode cX8_lock 101 = .ok (.invokevirtual 122, 3) := by decide +kernel
theorem dX8_lock_104 : decode cX8_lock 104 = .ok (.ireturn, 1) := by decide +kernel
theorem dX8_freeze_0 : decode cX8_freeze 0 = .ok (.aload_n 0, 1) := by decide +kernel
theorem dX8_freeze_1 : decode cX8_freeze 1 = .ok (.getfield 10, 3) := by decide +kernel
theorem dX8_freeze_4 : decode cX8_freeze 4 = .ok (.invokevirtual 52, 3) := by decide +kernel
theorem dX8_freeze_7 : decode cX8_freeze 7 = .ok (.ifCond .eq 13, 3) := by decide +kernel
theorem dX8_freeze_10 : decode cX8_freeze 10 = .ok (.new 56, 3) := by decide +kernel
theorem dX8_freeze_13 : decode cX8_freeze 13 = .ok (.dup, 1) := by decide +kernel
theorem dX8_freeze_14 : decode cX8_freeze 14 = .ok (.ldc 58, 2) := by decide +kernel
theorem dX8_freeze_16 : decode cX8_freeze 16 = .ok (.invokespecial 60, 3) := by decide +kernel
theorem dX8_freeze_19 : decode cX8_freeze 19 = .ok (.athrow, 1) := by decide +kernel
theorem dX8_freeze_20 : decode cX8_freeze 20 = .ok (.aload_n 0, 1) := by decide +kernel
theorem dX8_freeze_21 : decode cX8_freeze 21 = .ok (.invokevirtual 63, 3) := by decide +kernel
theorem dX8_freeze_24 : decode cX8_freeze 24 = .ok (.aload_n 0, 1) := by decide +kernel
theorem dX8_freeze_25 : decode cX8_freeze 25 = .ok (.getfield 10, 3) := by decide +kernel
theorem dX8_freeze_28 : decode cX8_freeze 28 = .ok (.getfield 147, 3) := by decide +kernel
theorem dX8_freeze_31 : decode cX8_freeze 31 = .ok (.getfield 151, 3) := by decide +kernel
theorem dX8_freeze_34 : decode cX8_freeze 34 = .ok (.ifCond .eq 7, 3) := by decide +kernel
theorem dX8_freeze_37 : decode cX8_freeze 37 = .ok (.iconst 1, 1) := by decide +kernel
theorem dX8_freeze_38 : decode cX8_freeze 38 = .ok (.goto 4, 3) := by decide +kernel
theorem dX8_freeze_41 : decode cX8_freeze 41 = .ok (.iconst 0, 1) := by decide +kernel
theorem dX8_freeze_42 : decode cX8_freeze 42 = .ok (.istore_n 1, 1) := by decide +kernel
theorem dX8_freeze_43 : decode cX8_freeze 43 = .ok (.aload_n 0, 1) := by decide +kernel
theorem dX8_freeze_44 : decode cX8_freeze 44 = .ok (.getfield 10, 3) := by decide +kernel
theorem dX8_freeze_47 : decode cX8_freeze 47 = .ok (.getfield 147, 3) := by decide +kernel
theorem dX8_freeze_50 : decode cX8_freeze 50 = .ok (.iconst 1, 1) := by decide +kernel
theorem dX8_freeze_51 : decode cX8_freeze 51 = .ok (.putfield 151, 3) := by decide +kernel
theorem dX8_freeze_54 : decode cX8_freeze 54 = .ok (.iload_n 1, 1) := by decide +kernel
theorem dX8_freeze_55 : decode cX8_freeze 55 = .ok (.ireturn, 1) := by decide +kernel
theorem dX8_suspend_0 : decode cX8_suspend 0 = .ok (.aload_n 0, 1) := by decide +kernel
theorem dX8_suspend_1 : decode cX8_suspend 1 = .ok (.getfield 10, 3) := by decide +kernel
theorem dX8_suspend_4 : decode cX8_suspend 4 = .ok (.getfield 108, 3) := by decide +kernel
theorem dX8_suspend_7 : decode cX8_suspend 7 = .ok (.getfield 156, 3) := by decide +kernel
theorem dX8_suspend_10 : decode cX8_suspend 10 = .ok (.iconst 1, 1) := by decide +kernel
theorem dX8_suspend_11 : decode cX8_suspend 11 = .ok (.if_icmp .eq 17, 3) := by decide +kernel
theorem dX8_suspend_14 : decode cX8_suspend 14 = .ok (.aload_n 0, 1) := by decide +kernel
theorem dX8_suspend_15 : decode cX8_suspend 15 = .ok (.getfield 10, 3) := by decide +kernel
theorem dX8_suspend_18 : decode cX8_suspend 18 = .ok (.getfield 108, 3) := by decide +kernel
theorem dX8_suspend_21 : decode cX8_suspend 21 = .ok (.getfield 156, 3) := by decide +kernel
theorem dX8_suspend_24 : decode cX8_suspend 24 = .ok (.iconst 2, 1) := by decide +kernel
theorem dX8_suspend_25 : decode cX8_suspend 25 = .ok (.if_icmp .ne 7, 3) := by decide +kernel
theorem dX8_suspend_28 : decode cX8_suspend 28 = .ok (.iconst 1, 1) := by decide +kernel
theorem dX8_suspend_29 : decode cX8_suspend 29 = .ok (.goto 4, 3) := by decide +kernel
theorem dX8_suspend_32 : decode cX8_suspend 32 = .ok (.iconst 0, 1) := by decide +kernel
theorem dX8_suspend_33 : decode cX8_suspend 33 = .ok (.istore_n 1, 1) := by decide +kernel
theorem dX8_suspend_34 : decode cX8_suspend 34 = .ok (.iload_n 1, 1) := by decide +kernel
theorem dX8_suspend_35 : decode cX8_suspend 35 = .ok (.ifCond .eq 16, 3) := by decide +kernel
theorem dX8_suspend_38 : decode cX8_suspend 38 = .ok (.aload_n 0, 1) := by decide +kernel
theorem dX8_suspend_39 : decode cX8_suspend 39 = .ok (.getfield 10, 3) := by decide +kernel
theorem dX8_suspend_42 : decode cX8_suspend 42 = .ok (.getfield 159, 3) := by decide +kernel
theorem dX8_suspend_45 : decode cX8_suspend 45 = .ok (.getfield 156, 3) := by decide +kernel
theorem dX8_suspend_48 : decode cX8_suspend 48 = .ok (.ifCond .eq 13, 3) := by decide +kernel
theorem dX8_suspend_51 : decode cX8_suspend 51 = .ok (.new 56, 3) := by decide +kernel
theorem dX8_suspend_54 : decode cX8_suspend 54 = .ok (.dup, 1) := by decide +kernel
theorem dX8_suspend_55 : decode cX8_suspend 55 = .ok (.ldc 162, 2) := by decide +kernel
theorem dX8_suspend_57 : decode cX8_suspend 57 = .ok (.invokespecial 60, 3) := by decide +kernel
theorem dX8_suspend_60 : decode cX8_suspend 60 = .ok (.athrow, 1) := by decide +kernel
theorem dX8_suspend_61 : decode cX8_suspend 61 = .ok (.aload_n 0, 1) := by decide +kernel
theorem dX8_suspend_62 : decode cX8_suspend 62 = .ok (.invokevirtual 63, 3) := by decide +kernel
theorem dX8_suspend_65 : decode cX8_suspend 65 = .ok (.aload_n 0, 1) := by decide +kernel
theorem dX8_suspend_66 : decode cX8_suspend 66 = .ok (.getfield 10, 3) := by decide +kernel
theorem dX8_suspend_69 : decode cX8_suspend 69 = .ok (.iconst 0, 1) := by decide +kernel
theorem dX8_suspend_70 : decode cX8_suspend 70 = .ok (.invokevirtual 164, 3) := by decide +kernel
theorem dX8_suspend_73 : decode cX8_suspend 73 = .ok (.aload_n 0, 1) := by decide +kernel
theorem dX8_suspend_74 : decode cX8_suspend 74 = .ok (.getfield 10, 3) := by decide +kernel
theorem dX8_suspend_77 : decode cX8_suspend 77 = .ok (.getfield 159, 3) := by decide +kernel
theorem dX8_suspend_80 : decode cX8_suspend 80 = .ok (.invokevirtual 122, 3) := by decide +kernel
theorem dX8_suspend_83 : decode cX8_suspend 83 = .ok (.ireturn, 1) := by decide +kernel
theorem dX8_resume_0 : decode cX8_resume 0 = .ok (.aload_n 0, 1) := by decide +kernel
theorem dX8_resume_1 : decode cX8_resume 1 = .ok (.getfield 10, 3) := by decide +kernel
theorem dX8_resume_4 : decode cX8_resume 4 = .ok (.getfield 159, 3) := by decide +kernel
theorem dX8_resume_7 : decode cX8_resume 7 = .ok (.getfield 156, 3) := by decide +kernel
theorem dX8_resume_10 : decode cX8_resume 10 = .ok (.ifCond .eq 13, 3) := by decide +kernel
theorem dX8_resume_13 : decode cX8_resume 13 = .ok (.aload_n 0, 1) := by decide +kernel
theorem dX8_resume_14 : decode cX8_resume 14 = .ok (.getfield 10, 3) := by decide +kernel
theorem dX8_resume_17 : decode cX8_resume 17 = .ok (.invokevirtual 52, 3) := by decide +kernel
theorem dX8_resume_20 : decode cX8_resume 20 = .ok (.ifCond .eq 13, 3) := by decide +kernel
theorem dX8_resume_23 : decode cX8_resume 23 = .ok (.new 56, 3) := by decide +kernel
theorem dX8_resume_26 : decode cX8_resume 26 = .ok (.dup, 1) := by decide +kernel
theorem dX8_resume_27 : decode cX8_resume 27 = .ok (.ldc 168, 2) := by decide +kernel
theorem dX8_resume_29 : decode cX8_resume 29 = .ok (.invokespecial 60, 3) := by decide +kernel
theorem dX8_resume_32 : decode cX8_resume 32 = .ok (.athrow, 1) := by decide +kernel
theorem dX8_resume_33 : decode cX8_resume 33 = .ok (.aload_n 0, 1) := by decide +kernel
theorem dX8_resume_34 : decode cX8_resume 34 = .ok (.invokevirtual 63, 3) := by decide +kernel
theorem dX8_resume_37 : decode cX8_resume 37 = .ok (.aload_n 0, 1) := by decide +kernel
theorem dX8_resume_38 : decode cX8_resume 38 = .ok (.getfield 10, 3) := by decide +kernel
theorem dX8_resume_41 : decode cX8_resume 41 = .ok (.invokevirtual 170, 3) := by decide +kernel
theorem dX8_resume_44 : decode cX8_resume 44 = .ok (.aload_n 0, 1) := by decide +kernel
theorem dX8_resume_45 : decode cX8_resume 45 = .ok (.getfield 10, 3) := by decide +kernel
theorem dX8_resume_48 : decode cX8_resume 48 = .ok (.getfield 108, 3) := by decide +kernel
theorem dX8_resume_51 : decode cX8_resume 51 = .ok (.invokevirtual 122, 3) := by decide +kernel
theorem dX8_resume_54 : decode cX8_resume 54 = .ok (.ireturn, 1) := by decide +kernel
theorem dX8_cut_0 : decode cX8_cut 0 = .ok (.aload_n 0, 1) := by decide +kernel
theorem dX8_cut_1 : decode cX8_cut 1 = .ok (.invokevirtual 63, 3) := by decide +kernel
theorem dX8_cut_4 : decode cX8_cut 4 = .ok (.aload_n 0, 1) := by decide +kernel
theorem dX8_cut_5 : decode cX8_cut 5 = .ok (.getfield 10, 3) := by decide +kernel
theorem dX8_cut_8 : decode cX8_cut 8 = .ok (.invokevirtual 173, 3) := by decide +kernel
theorem dX8_cut_11 : decode cX8_cut 11 = .ok (.ireturn, 1) := by decide +kernel
theorem dX8_post_0 : decode cX8_post 0 = .ok (.iload_n 1, 1) := by decide +kernel
theorem dX8_post_1 : decode cX8_post 1 = .ok (.iconst 0, 1) := by decide +kernel
theorem dX8_post_2 : decode cX8_post 2 = .ok (.iconst 1, 1) := by decide +kernel
theorem dX8_post_3 : decode cX8_post 3 = .ok (.invokestatic 69, 3) := by decide +kernel
theorem dX8_post_6 : decode cX8_post 6 = .ok (.ifCond .eq 13, 3) := by decide +kernel
theorem dX8_post_9 : decode cX8_post 9 = .ok (.iload_n 3, 1) := by decide +kernel
theorem dX8_post_10 : decode cX8_post 10 = .ok (.iconst 0, 1) := by decide +kernel
theorem dX8_post_11 : decode cX8_post 11 = .ok (.bipush 9, 2) := by decide +kernel
theorem dX8_post_13 : decode cX8_post 13 = .ok (.invokestatic 69, 3) := by decide +kernel
theorem dX8_post_16 : decode cX8_post 16 = .ok (.ifCond .ne 13, 3) := by decide +kernel
theorem dX8_post_19 : decode cX8_post 19 = .ok (.new 73, 3) := by decide +kernel
theorem dX8_post_22 : decode cX8_post 22 = .ok (.dup, 1) := by decide +kernel
theorem dX8_post_23 : decode cX8_post 23 = .ok (.ldc 176, 2) := by decide +kernel
theorem dX8_post_25 : decode cX8_post 25 = .ok (.invokespecial 77, 3) := by decide +kernel
theorem dX8_post_28 : decode cX8_post 28 = .ok (.athrow, 1) := by decide +kernel
theorem dX8_post_29 : decode cX8_post 29 = .ok (.iload_n 1, 1) := by decide +kernel
theorem dX8_post_30 : decode cX8_post 30 = .ok (.ifCond .ne 13, 3) := by decide +kernel
theorem dX8_post_33 : decode cX8_post 33 = .ok (.iload_n 2, 1) := by decide +kernel
theorem dX8_post_34 : decode cX8_post 34 = .ok (.invokestatic 93, 3) := by decide +kernel
theorem dX8_post_37 : decode cX8_post 37 = .ok (.ifCond .ne 23, 3) := by decide +kernel
theorem dX8_post_40 : decode cX8_post 40 = .ok (.goto 10, 3) := by decide +kernel
theorem dX8_post_43 : decode cX8_post 43 = .ok (.iload_n 2, 1) := by decide +kernel
theorem dX8_post_44 : decode cX8_post 44 = .ok (.invokestatic 126, 3) := by decide +kernel
theorem dX8_post_47 : decode cX8_post 47 = .ok (.ifCond .ne 13, 3) := by decide +kernel
theorem dX8_post_50 : decode cX8_post 50 = .ok (.new 97, 3) := by decide +kernel
theorem dX8_post_53 : decode cX8_post 53 = .ok (.dup, 1) := by decide +kernel
theorem dX8_post_54 : decode cX8_post 54 = .ok (.ldc 178, 2) := by decide +kernel
theorem dX8_post_56 : decode cX8_post 56 = .ok (.invokespecial 101, 3) := by decide +kernel
theorem dX8_post_59 : decode cX8_post 59 = .ok (.athrow, 1) := by decide +kernel
theorem dX8_post_60 : decode cX8_post 60 = .ok (.aload_n 0, 1) := by decide +kernel
theorem dX8_post_61 : decode cX8_post 61 = .ok (.getfield 10, 3) := by decide +kernel
theorem dX8_post_64 : decode cX8_post 64 = .ok (.getfield 180, 3) := by decide +kernel
theorem dX8_post_67 : decode cX8_post 67 = .ok (.invokevirtual 184, 3) := by decide +kernel
theorem dX8_post_70 : decode cX8_post 70 = .ok (.ifCond .ne 20, 3) := by decide +kernel
theorem dX8_post_73 : decode cX8_post 73 = .ok (.iload_n 1, 1) := by decide +kernel
theorem dX8_post_74 : decode cX8_post 74 = .ok (.ifCond .ne 26, 3) := by decide +kernel
theorem dX8_post_77 : decode cX8_post 77 = .ok (.aload_n 0, 1) := by decide +kernel
theorem dX8_post_78 : decode cX8_post 78 = .ok (.getfield 10, 3) := by decide +kernel
theorem dX8_post_81 : decode cX8_post 81 = .ok (.getfield 78, 3) := by decide +kernel
theorem dX8_post_84 : decode cX8_post 84 = .ok (.getfield 82, 3) := by decide +kernel
theorem dX8_post_87 : decode cX8_post 87 = .ok (.ifCond .ne 13, 3) := by decide +kernel
theorem dX8_post_90 : decode cX8_post 90 = .ok (.new 56, 3) := by decide +kernel
theorem dX8_post_93 : decode cX8_post 93 = .ok (.dup, 1) := by decide +kernel
theorem dX8_post_94 : decode cX8_post 94 = .ok (.ldc 189, 2) := by decide +kernel
theorem dX8_post_96 : decode cX8_post 96 = .ok (.invokespecial 60, 3) := by decide +kernel
theorem dX8_post_99 : decode cX8_post 99 = .ok (.athrow, 1) := by decide +kernel
theorem dX8_post_100 : decode cX8_post 100 = .ok (.aload_n 0, 1) := by decide +kernel
theorem dX8_post_101 : decode cX8_post 101 = .ok (.invokevirtual 63, 3) := by decide +kernel
theorem dX8_post_104 : decode cX8_post 104 = .ok (.iload_n 1, 1) := by decide +kernel
theorem dX8_post_105 : decode cX8_post 105 = .ok (.iconst 1, 1) := by decide +kernel
theorem dX8_post_106 : decode cX8_post 106 = .ok (.if_icmp .ne 24, 3) := by decide +kernel
theorem dX8_post_109 : decode cX8_post 109 = .ok (.aload_n 0, 1) := by decide +kernel
theorem dX8_post_110 : decode cX8_post 110 = .ok (.getfield 10, 3) := by decide +kernel
theorem dX8_post_113 : decode cX8_post 113 = .ok (.getfield 180, 3) := by decide +kernel
theorem dX8_post_116 : decode cX8_post 116 = .ok (.iconst 2, 1) := by decide +kernel
theorem dX8_post_117 : decode cX8_post 117 = .ok (.iload_n 2, 1) := by decide +kernel
theorem dX8_post_118 : decode cX8_post 118 = .ok (.iload_n 3, 1) := by decide +kernel
theorem dX8_post_119 : decode cX8_post 119 = .ok (.aload_n 0, 1) := by decide +kernel
theorem dX8_post_120 : decode cX8_post 120 = .ok (.getfield 10, 3) := by decide +kernel
theorem dX8_post_123 : decode cX8_post 123 = .ok (.getfield 191, 3) := by decide +kernel
theorem dX8_post_126 : decode cX8_post 126 = .ok (.invokevirtual 194, 3) := by decide +kernel
theorem dX8_post_129 : decode cX8_post 129 = .ok (.ireturn, 1) := by decide +kernel
theorem dX8_post_130 : decode cX8_post 130 = .ok (.aload_n 0, 1) := by decide +kernel
theorem dX8_post_131 : decode cX8_post 131 = .ok (.getfield 10, 3) := by decide +kernel
theorem dX8_post_134 : decode cX8_post 134 = .ok (.getfield 180, 3) := by decide +kernel
theorem dX8_post_137 : decode cX8_post 137 = .ok (.iload_n 2, 1) := by decide +kernel
theorem dX8_post_138 : decode cX8_post 138 = .ok (.iload_n 3, 1) := by decide +kernel
theorem dX8_post_139 : decode cX8_post 139 = .ok (.aload_n 0, 1) := by decide +kernel
theorem dX8_post_140 : decode cX8_post 140 = .ok (.getfield 10, 3) := by decide +kernel
theorem dX8_post_143 : decode cX8_post 143 = .ok (.getfield 191, 3) := by decide +kernel
theorem dX8_post_146 : decode cX8_post 146 = .ok (.aload_n 0, 1) := by decide +kernel
theorem dX8_post_147 : decode cX8_post 147 = .ok (.getfield 10, 3) := by decide +kernel
theorem dX8_post_150 : decode cX8_post 150 = .ok (.getfield 78, 3) := by decide +kernel
theorem dX8_post_153 : decode cX8_post 153 = .ok (.invokevirtual 198, 3) := by decide +kernel
theorem dX8_post_156 : decode cX8_post 156 = .ok (.istore 4, 2) := by decide +kernel
theorem dX8_post_158 : decode cX8_post 158 = .ok (.aload_n 0, 1) := by decide +kernel
theorem dX8_post_159 : decode cX8_post 159 = .ok (.getfield 10, 3) := by decide +kernel
theorem dX8_post_162 : decode cX8_post 162 = .ok (.getfield 78, 3) := by decide +kernel
theorem dX8_post_165 : decode cX8_post 165 = .ok (.iconst 0, 1) := by decide +kernel
theorem dX8_post_166 : decode cX8_post 166 = .ok (.putfield 82, 3) := by decide +kernel
theorem dX8_post_169 : decode cX8_post 169 = .ok (.iload 4, 2) := by decide +kernel
theorem dX8_post_171 : decode cX8_post 171 = .ok (.ireturn, 1) := by decide +kernel
theorem dX8_withdraw_0 : decode cX8_withdraw 0 = .ok (.aload_n 0, 1) := by decide +kernel
theorem dX8_withdraw_1 : decode cX8_withdraw 1 = .ok (.getfield 10, 3) := by decide +kernel
theorem dX8_withdraw_4 : decode cX8_withdraw 4 = .ok (.getfield 180, 3) := by decide +kernel
theorem dX8_withdraw_7 : decode cX8_withdraw 7 = .ok (.iload_n 1, 1) := by decide +kernel
theorem dX8_withdraw_8 : decode cX8_withdraw 8 = .ok (.invokevirtual 202, 3) := by decide +kernel
theorem dX8_withdraw_11 : decode cX8_withdraw 11 = .ok (.istore_n 2, 1) := by decide +kernel
theorem dX8_withdraw_12 : decode cX8_withdraw 12 = .ok (.iload_n 2, 1) := by decide +kernel
theorem dX8_withdraw_13 : decode cX8_withdraw 13 = .ok (.iconst (-1), 1) := by decide +kernel
theorem dX8_withdraw_14 : decode cX8_withdraw 14 = .ok (.if_icmp .ne 13, 3) := by decide +kernel
theorem dX8_withdraw_17 : decode cX8_withdraw 17 = .ok (.new 97, 3) := by decide +kernel
theorem dX8_withdraw_20 : decode cX8_withdraw 20 = .ok (.dup, 1) := by decide +kernel
theorem dX8_withdraw_21 : decode cX8_withdraw 21 = .ok (.ldc 205, 2) := by decide +kernel
theorem dX8_withdraw_23 : decode cX8_withdraw 23 = .ok (.invokespecial 101, 3) := by decide +kernel
theorem dX8_withdraw_26 : decode cX8_withdraw 26 = .ok (.athrow, 1) := by decide +kernel
theorem dX8_withdraw_27 : decode cX8_withdraw 27 = .ok (.aload_n 0, 1) := by decide +kernel
theorem dX8_withdraw_28 : decode cX8_withdraw 28 = .ok (.invokevirtual 63, 3) := by decide +kernel
theorem dX8_withdraw_31 : decode cX8_withdraw 31 = .ok (.aload_n 0, 1) := by decide +kernel
theorem dX8_withdraw_32 : decode cX8_withdraw 32 = .ok (.getfield 10, 3) := by decide +kernel
theorem dX8_withdraw_35 : decode cX8_withdraw 35 = .ok (.getfield 180, 3) := by decide +kernel
theorem dX8_withdraw_38 : decode cX8_withdraw 38 = .ok (.iload_n 2, 1) := by decide +kernel
theorem dX8_withdraw_39 : decode cX8_withdraw 39 = .ok (.invokevirtual 207, 3) := by decide +kernel
theorem dX8_withdraw_42 : decode cX8_withdraw 42 = .ok (.aload_n 0, 1) := by decide +kernel
theorem dX8_withdraw_43 : decode cX8_withdraw 43 = .ok (.getfield 10, 3) := by decide +kernel
theorem dX8_withdraw_46 : decode cX8_withdraw 46 = .ok (.getfield 180, 3) := by decide +kernel
theorem dX8_withdraw_49 : decode cX8_withdraw 49 = .ok (.getfield 210, 3) := by decide +kernel
theorem dX8_withdraw_52 : decode cX8_withdraw 52 = .ok (.ireturn, 1) := by decide +kernel
theorem dX8_pass_0 : decode cX8_pass 0 = .ok (.iload_n 1, 1) := by decide +kernel
theorem dX8_pass_1 : decode cX8_pass 1 = .ok (.iconst 1, 1) := by decide +kernel
theorem dX8_pass_2 : decode cX8_pass 2 = .ok (.sipush 200, 3) := by decide +kernel
theorem dX8_pass_5 : decode cX8_pass 5 = .ok (.invokestatic 69, 3) := by decide +kernel
theorem dX8_pass_8 : decode cX8_pass 8 = .ok (.ifCond .ne 13, 3) := by decide +kernel
theorem dX8_pass_11 : decode cX8_pass 11 = .ok (.new 73, 3) := by decide +kernel
theorem dX8_pass_14 : decode cX8_pass 14 = .ok (.dup, 1) := by decide +kernel
theorem dX8_pass_15 : decode cX8_pass 15 = .ok (.ldc 211, 2) := by decide +kernel
theorem dX8_pass_17 : decode cX8_pass 17 = .ok (.invokespecial 77, 3) := by decide +kernel
theorem dX8_pass_20 : decode cX8_pass 20 = .ok (.athrow, 1) := by decide +kernel
theorem dX8_pass_21 : decode cX8_pass 21 = .ok (.aload_n 0, 1) := by decide +kernel
theorem dX8_pass_22 : decode cX8_pass 22 = .ok (.invokevirtual 63, 3) := by decide +kernel
theorem dX8_pass_25 : decode cX8_pass 25 = .ok (.iconst 0, 1) := by decide +kernel
theorem dX8_pass_26 : decode cX8_pass 26 = .ok (.istore_n 2, 1) := by decide +kernel
theorem dX8_pass_27 : decode cX8_pass 27 = .ok (.iconst 0, 1) := by decide +kernel
theorem dX8_pass_28 : decode cX8_pass 28 = .ok (.istore_n 3, 1) := by decide +kernel
theorem dX8_pass_29 : decode cX8_pass 29 = .ok (.iload_n 3, 1) := by decide +kernel
theorem dX8_pass_30 : decode cX8_pass 30 = .ok (.iload_n 1, 1) := by decide +kernel
theorem dX8_pass_31 : decode cX8_pass 31 = .ok (.if_icmp .ge 22, 3) := by decide +kernel
theorem dX8_pass_34 : decode cX8_pass 34 = .ok (.aload_n 0, 1) := by decide +kernel
theorem dX8_pass_35 : decode cX8_pass 35 = .ok (.getfield 10, 3) := by decide +kernel
theorem dX8_pass_38 : decode cX8_pass 38 = .ok (.invokevirtual 213, 3) := by decide +kernel
theorem dX8_pass_41 : decode cX8_pass 41 = .ok (.ifCond .eq 6, 3) := by decide +kernel
theorem dX8_pass_44 : decode cX8_pass 44 = .ok (.iinc 2 1, 3) := by decide +kernel
theorem dX8_pass_47 : decode cX8_pass 47 = .ok (.iinc 3 1, 3) := by decide +kernel
theorem dX8_pass_50 : decode cX8_pass 50 = .ok (.goto (-21), 3) := by decide +kernel
theorem dX8_pass_53 : decode cX8_pass 53 = .ok (.iload_n 2, 1) := by decide +kernel
theorem dX8_pass_54 : decode cX8_pass 54 = .ok (.ireturn, 1) := by decide +kernel
theorem dX8_set_0 : decode cX8_set 0 = .ok (.iload_n 1, 1) := by decide +kernel
theorem dX8_set_1 : decode cX8_set 1 = .ok (.invokestatic 216, 3) := by decide +kernel
theorem dX8_set_4 : decode cX8_set 4 = .ok (.ifCond .ne 13, 3) := by decide +kernel
theorem dX8_set_7 : decode cX8_set 7 = .ok (.new 97, 3) := by decide +kernel
theorem dX8_set_10 : decode cX8_set 10 = .ok (.dup, 1) := by decide +kernel
theorem dX8_set_11 : decode cX8_set 11 = .ok (.ldc 219, 2) := by decide +kernel
theorem dX8_set_13 : decode cX8_set 13 = .ok (.invokespecial 101, 3) := by decide +kernel
theorem dX8_set_16 : decode cX8_set 16 = .ok (.athrow, 1) := by decide +kernel
theorem dX8_set_17 : decode cX8_set 17 = .ok (.iload_n 2, 1) := by decide +kernel
theorem dX8_set_18 : decode cX8_set 18 = .ok (.getstatic 221, 3) := by decide +kernel
theorem dX8_set_21 : decode cX8_set 21 = .ok (.iload_n 1, 1) := by decide +kernel
theorem dX8_set_22 : decode cX8_set 22 = .ok (.invokestatic 224, 3) := by decide +kernel
theorem dX8_set_25 : decode cX8_set 25 = .ok (.getstatic 228, 3) := by decide +kernel
theorem dX8_set_28 : decode cX8_set 28 = .ok (.iload_n 1, 1) := by decide +kernel
theorem dX8_set_29 : decode cX8_set 29 = .ok (.invokestatic 224, 3) := by decide +kernel
theorem dX8_set_32 : decode cX8_set 32 = .ok (.invokestatic 69, 3) := by decide +kernel
theorem dX8_set_35 : decode cX8_set 35 = .ok (.ifCond .ne 13, 3) := by decide +kernel
theorem dX8_set_38 : decode cX8_set 38 = .ok (.new 73, 3) := by decide +kernel
theorem dX8_set_41 : decode cX8_set 41 = .ok (.dup, 1) := by decide +kernel
theorem dX8_set_42 : decode cX8_set 42 = .ok (.ldc 231, 2) := by decide +kernel
theorem dX8_set_44 : decode cX8_set 44 = .ok (.invokespecial 77, 3) := by decide +kernel
theorem dX8_set_47 : decode cX8_set 47 = .ok (.athrow, 1) := by decide +kernel
theorem dX8_set_48 : decode cX8_set 48 = .ok (.aload_n 0, 1) := by decide +kernel
theorem dX8_set_49 : decode cX8_set 49 = .ok (.invokevirtual 63, 3) := by decide +kernel
theorem dX8_set_52 : decode cX8_set 52 = .ok (.aload_n 0, 1) := by decide +kernel
theorem dX8_set_53 : decode cX8_set 53 = .ok (.getfield 10, 3) := by decide +kernel
theorem dX8_set_56 : decode cX8_set 56 = .ok (.iload_n 1, 1) := by decide +kernel
theorem dX8_set_57 : decode cX8_set 57 = .ok (.invokevirtual 112, 3) := by decide +kernel
theorem dX8_set_60 : decode cX8_set 60 = .ok (.istore_n 3, 1) := by decide +kernel
theorem dX8_set_61 : decode cX8_set 61 = .ok (.aload_n 0, 1) := by decide +kernel
theorem dX8_set_62 : decode cX8_set 62 = .ok (.getfield 10, 3) := by decide +kernel
theorem dX8_set_65 : decode cX8_set 65 = .ok (.getfield 233, 3) := by decide +kernel
theorem dX8_set_68 : decode cX8_set 68 = .ok (.iload_n 1, 1) := by decide +kernel
theorem dX8_set_69 : decode cX8_set 69 = .ok (.iload_n 2, 1) := by decide +kernel
theorem dX8_set_70 : decode cX8_set 70 = .ok (.invokestatic 236, 3) := by decide +kernel
theorem dX8_set_73 : decode cX8_set 73 = .ok (.iload_n 3, 1) := by decide +kernel
theorem dX8_set_74 : decode cX8_set 74 = .ok (.ireturn, 1) := by decide +kernel
theorem dX8_append_0 : decode cX8_append 0 = .ok (.iload_n 1, 1) := by decide +kernel
theorem dX8_append_1 : decode cX8_append 1 = .ok (.bipush 33, 2) := by decide +kernel
theorem dX8_append_3 : decode cX8_append 3 = .ok (.bipush 126, 2) := by decide +kernel
theorem dX8_append_5 : decode cX8_append 5 = .ok (.invokestatic 69, 3) := by decide +kernel
theorem dX8_append_8 : decode cX8_append 8 = .ok (.ifCond .ne 13, 3) := by decide +kernel
theorem dX8_append_11 : decode cX8_append 11 = .ok (.new 73, 3) := by decide +kernel
theorem dX8_append_14 : decode cX8_append 14 = .ok (.dup, 1) := by decide +kernel
theorem dX8_append_15 : decode cX8_append 15 = .ok (.ldc 240, 2) := by decide +kernel
theorem dX8_append_17 : decode cX8_append 17 = .ok (.invokespecial 77, 3) := by decide +kernel
theorem dX8_append_20 : decode cX8_append 20 = .ok (.athrow, 1) := by decide +kernel
theorem dX8_append_21 : decode cX8_append 21 = .ok (.aload_n 0, 1) := by decide +kernel
theorem dX8_append_22 : decode cX8_append 22 = .ok (.getfield 38, 3) := by decide +kernel
theorem dX8_append_25 : decode cX8_append 25 = .ok (.iconst 0, 1) := by decide +kernel
theorem dX8_append_26 : decode cX8_append 26 = .ok (.aload_n 0, 1) := by decide +kernel
theorem dX8_append_27 : decode cX8_append 27 = .ok (.getfield 34, 3) := by decide +kernel
theorem dX8_append_30 : decode cX8_append 30 = .ok (.arraylength, 1) := by decide +kernel
theorem dX8_append_31 : decode cX8_append 31 = .ok (.iconst 1, 1) := by decide +kernel
theorem dX8_append_32 : decode cX8_append 32 = .ok (.isub, 1) := by decide +kernel
theorem dX8_append_33 : decode cX8_append 33 = .ok (.invokestatic 69, 3) := by decide +kernel
theorem dX8_append_36 : decode cX8_append 36 = .ok (.ifCond .ne 13, 3) := by decide +kernel
theorem dX8_append_39 : decode cX8_append 39 = .ok (.new 56, 3) := by decide +kernel
theorem dX8_append_42 : decode cX8_append 42 = .ok (.dup, 1) := by decide +kernel
theorem dX8_append_43 : decode cX8_append 43 = .ok (.ldc 242, 2) := by decide +kernel
theorem dX8_append_45 : decode cX8_append 45 = .ok (.invokespecial 60, 3) := by decide +kernel
theorem dX8_append_48 : decode cX8_append 48 = .ok (.athrow, 1) := by decide +kernel
theorem dX8_append_49 : decode cX8_append 49 = .ok (.aload_n 0, 1) := by decide +kernel
theorem dX8_append_50 : decode cX8_append 50 = .ok (.getfield 34, 3) := by decide +kernel
theorem dX8_append_53 : decode cX8_append 53 = .ok (.aload_n 0, 1) := by decide +kernel
theorem dX8_append_54 : decode cX8_append 54 = .ok (.getfield 38, 3) := by decide +kernel
theorem dX8_append_57 : decode cX8_append 57 = .ok (.iload_n 1, 1) := by decide +kernel
theorem dX8_append_58 : decode cX8_append 58 = .ok (.i2c, 1) := by decide +kernel
theorem dX8_append_59 : decode cX8_append 59 = .ok (.castore, 1) := by decide +kernel
theorem dX8_append_60 : decode cX8_append 60 = .ok (.aload_n 0, 1) := by decide +kernel
theorem dX8_append_61 : decode cX8_append 61 = .ok (.dup, 1) := by decide +kernel
theorem dX8_append_62 : decode cX8_append 62 = .ok (.getfield 38, 3) := by decide +kernel
theorem dX8_append_65 : decode cX8_append 65 = .ok (.iconst 1, 1) := by decide +kernel
theorem dX8_append_66 : decode cX8_append 66 = .ok (.iadd, 1) := by decide +kernel
theorem dX8_append_67 : decode cX8_append 67 = .ok (.putfield 38, 3) := by decide +kernel
theorem dX8_append_70 : decode cX8_append 70 = .ok (.aload_n 0, 1) := by decide +kernel
theorem dX8_append_71 : decode cX8_append 71 = .ok (.getfield 38, 3) := by decide +kernel
theorem dX8_append_74 : decode cX8_append 74 = .ok (.ireturn, 1) := by decide +kernel
theorem dX8_clearBuffer_0 : decode cX8_clearBuffer 0 = .ok (.aload_n 0, 1) := by decide +kernel
theorem dX8_clearBuffer_1 : decode cX8_clearBuffer 1 = .ok (.getfield 38, 3) := by decide +kernel
theorem dX8_clearBuffer_4 : decode cX8_clearBuffer 4 = .ok (.istore_n 1, 1) := by decide +kernel
theorem dX8_clearBuffer_5 : decode cX8_clearBuffer 5 = .ok (.aload_n 0, 1) := by decide +kernel
theorem dX8_clearBuffer_6 : decode cX8_clearBuffer 6 = .ok (.iconst 0, 1) := by decide +kernel
theorem dX8_clearBuffer_7 : decode cX8_clearBuffer 7 = .ok (.putfield 38, 3) := by decide +kernel
theorem dX8_clearBuffer_10 : decode cX8_clearBuffer 10 = .ok (.iload_n 1, 1) := by decide +kernel
theorem dX8_clearBuffer_11 : decode cX8_clearBuffer 11 = .ok (.ireturn, 1) := by decide +kernel
theorem dX8_firstError_0 : decode cX8_firstError 0 = .ok (.aload_n 0, 1) := by decide +kernel
theorem dX8_firstError_1 : decode cX8_firstError 1 = .ok (.getfield 44, 3) := by decide +kernel
theorem dX8_firstError_4 : decode cX8_firstError 4 = .ok (.invokevirtual 244, 3) := by decide +kernel
theorem dX8_firstError_7 : decode cX8_firstError 7 = .ok (.iconst 0, 1) := by decide +kernel
theorem dX8_firstError_8 : decode cX8_firstError 8 = .ok (.istore_n 1, 1) := by decide +kernel
theorem dX8_firstError_9 : decode cX8_firstError 9 = .ok (.iload_n 1, 1) := by decide +kernel
theorem dX8_firstError_10 : decode cX8_firstError 10 = .ok (.aload_n 0, 1) := by decide +kernel
theorem dX8_firstError_11 : decode cX8_firstError 11 = .ok (.getfield 38, 3) := by decide +kernel
theorem dX8_firstError_14 : decode cX8_firstError 14 = .ok (.if_icmp .ge 36, 3) := by decide +kernel
theorem dX8_firstError_17 : decode cX8_firstError 17 = .ok (.iload_n 1, 1) := by decide +kernel
theorem dX8_firstError_18 : decode cX8_firstError 18 = .ok (.aload_n 0, 1) := by decide +kernel
theorem dX8_firstError_19 : decode cX8_firstError 19 = .ok (.getfield 34, 3) := by decide +kernel
theorem dX8_firstError_22 : decode cX8_firstError 22 = .ok (.arraylength, 1) := by decide +kernel
theorem dX8_firstError_23 : decode cX8_firstError 23 = .ok (.if_icmp .ge 27, 3) := by decide +kernel
theorem dX8_firstError_26 : decode cX8_firstError 26 = .ok (.aload_n 0, 1) := by decide +kernel
theorem dX8_firstError_27 : decode cX8_firstError 27 = .ok (.getfield 44, 3) := by decide +kernel
theorem dX8_firstError_30 : decode cX8_firstError 30 = .ok (.aload_n 0, 1) := by decide +kernel
theorem dX8_firstError_31 : decode cX8_firstError 31 = .ok (.getfield 34, 3) := by decide +kernel
theorem dX8_firstError_34 : decode cX8_firstError 34 = .ok (.iload_n 1, 1) := by decide +kernel
theorem dX8_firstError_35 : decode cX8_firstError 35 = .ok (.caload, 1) := by decide +kernel
theorem dX8_firstError_36 : decode cX8_firstError 36 = .ok (.invokevirtual 246, 3) := by decide +kernel
theorem dX8_firstError_39 : decode cX8_firstError 39 = .ok (.ifCond .ne 5, 3) := by decide +kernel
theorem dX8_firstError_42 : decode cX8_firstError 42 = .ok (.iload_n 1, 1) := by decide +kernel
theorem dX8_firstError_43 : decode cX8_firstError 43 = .ok (.ireturn, 1) := by decide +kernel
theorem dX8_firstError_44 : decode cX8_firstError 44 = .ok (.iinc 1 1, 3) := by decide +kernel
theorem dX8_firstError_47 : decode cX8_firstError 47 = .ok (.goto (-38), 3) := by decide +kernel
theorem dX8_firstError_50 : decode cX8_firstError 50 = .ok (.aload_n 0, 1) := by decide +kernel
theorem dX8_firstError_51 : decode cX8_firstError 51 = .ok (.getfield 38, 3) := by decide +kernel
theorem dX8_firstError_54 : decode cX8_firstError 54 = .ok (.ireturn, 1) := by decide +kernel
theorem dX8_obey_0 : decode cX8_obey 0 = .ok (.aload_n 0, 1) := by decide +kernel
theorem dX8_obey_1 : decode cX8_obey 1 = .ok (.invokevirtual 250, 3) := by decide +kernel
theorem dX8_obey_4 : decode cX8_obey 4 = .ok (.aload_n 0, 1) := by decide +kernel
theorem dX8_obey_5 : decode cX8_obey 5 = .ok (.getfield 38, 3) := by decide +kernel
theorem dX8_obey_8 : decode cX8_obey 8 = .ok (.if_icmp .lt 13, 3) := by decide +kernel
theorem dX8_obey_11 : decode cX8_obey 11 = .ok (.aload_n 0, 1) := by decide +kernel
theorem dX8_obey_12 : decode cX8_obey 12 = .ok (.getfield 44, 3) := by decide +kernel
theorem dX8_obey_15 : decode cX8_obey 15 = .ok (.invokevirtual 253, 3) := by decide +kernel
theorem dX8_obey_18 : decode cX8_obey 18 = .ok (.ifCond .ne 14, 3) := by decide +kernel
theorem dX8_obey_21 : decode cX8_obey 21 = .ok (.new 73, 3) := by decide +kernel
theorem dX8_obey_24 : decode cX8_obey 24 = .ok (.dup, 1) := by decide +kernel
theorem dX8_obey_25 : decode cX8_obey 25 = .ok (.ldc_w 256, 3) := by decide +kernel
theorem dX8_obey_28 : decode cX8_obey 28 = .ok (.invokespecial 77, 3) := by decide +kernel
theorem dX8_obey_31 : decode cX8_obey 31 = .ok (.athrow, 1) := by decide +kernel
theorem dX8_obey_32 : decode cX8_obey 32 = .ok (.aload_n 0, 1) := by decide +kernel
theorem dX8_obey_33 : decode cX8_obey 33 = .ok (.invokevirtual 63, 3) := by decide +kernel
theorem dX8_obey_36 : decode cX8_obey 36 = .ok (.iconst 0, 1) := by decide +kernel
theorem dX8_obey_37 : decode cX8_obey 37 = .ok (.istore_n 1, 1) := by decide +kernel
theorem dX8_obey_38 : decode cX8_obey 38 = .ok (.iconst 1, 1) := by decide +kernel
theorem dX8_obey_39 : decode cX8_obey 39 = .ok (.istore_n 2, 1) := by decide +kernel
theorem dX8_obey_40 : decode cX8_obey 40 = .ok (.aload_n 0, 1) := by decide +kernel
theorem dX8_obey_41 : decode cX8_obey 41 = .ok (.getfield 44, 3) := by decide +kernel
theorem dX8_obey_44 : decode cX8_obey 44 = .ok (.invokevirtual 244, 3) := by decide +kernel
theorem dX8_obey_47 : decode cX8_obey 47 = .ok (.iconst 0, 1) := by decide +kernel
theorem dX8_obey_48 : decode cX8_obey 48 = .ok (.istore_n 3, 1) := by decide +kernel
theorem dX8_obey_49 : decode cX8_obey 49 = .ok (.iload_n 3, 1) := by decide +kernel
theorem dX8_obey_50 : decode cX8_obey 50 = .ok (.aload_n 0, 1) := by decide +kernel
theorem dX8_obey_51 : decode cX8_obey 51 = .ok (.getfield 38, 3) := by decide +kernel
theorem dX8_obey_54 : decode cX8_obey 54 = .ok (.if_icmp .gt 77, 3) := by decide +kernel
theorem dX8_obey_57 : decode cX8_obey 57 = .ok (.iload_n 2, 1) := by decide +kernel
theorem dX8_obey_58 : decode cX8_obey 58 = .ok (.ifCond .eq 73, 3) := by decide +kernel
theorem dX8_obey_61 : decode cX8_obey 61 = .ok (.iload_n 3, 1) := by decide +kernel
theorem dX8_obey_62 : decode cX8_obey 62 = .ok (.aload_n 0, 1) := by decide +kernel
theorem dX8_obey_63 : decode cX8_obey 63 = .ok (.getfield 38, 3) := by decide +kernel
theorem dX8_obey_66 : decode cX8_obey 66 = .ok (.if_icmp .ge 21, 3) := by decide +kernel
theorem dX8_obey_69 : decode cX8_obey 69 = .ok (.iload_n 3, 1) := by decide +kernel
theorem dX8_obey_70 : decode cX8_obey 70 = .ok (.aload_n 0, 1) := by decide +kernel
theorem dX8_obey_71 : decode cX8_obey 71 = .ok (.getfield 34, 3) := by decide +kernel
theorem dX8_obey_74 : decode cX8_obey 74 = .ok (.arraylength, 1) := by decide +kernel
theorem dX8_obey_75 : decode cX8_obey 75 = .ok (.if_icmp .ge 12, 3) := by decide +kernel
theorem dX8_obey_78 : decode cX8_obey 78 = .ok (.aload_n 0, 1) := by decide +kernel
theorem dX8_obey_79 : decode cX8_obey 79 = .ok (.getfield 34, 3) := by decide +kernel
theorem dX8_obey_82 : decode cX8_obey 82 = .ok (.iload_n 3, 1) := by decide +kernel
theorem dX8_obey_83 : decode cX8_obey 83 = .ok (.caload, 1) := by decide +kernel
theorem dX8_obey_84 : decode cX8_obey 84 = .ok (.goto 5, 3) := by decide +kernel
theorem dX8_obey_87 : decode cX8_obey 87 = .ok (.bipush 59, 2) := by decide +kernel
theorem dX8_obey_89 : decode cX8_obey 89 = .ok (.istore 4, 2) := by decide +kernel
theorem dX8_obey_91 : decode cX8_obey 91 = .ok (.iload 4, 2) := by decide +kernel
theorem dX8_obey_93 : decode cX8_obey 93 = .ok (.bipush 59, 2) := by decide +kernel
theorem dX8_obey_95 : decode cX8_obey 95 = .ok (.if_icmp .ne 20, 3) := by decide +kernel
theorem dX8_obey_98 : decode cX8_obey 98 = .ok (.aload_n 0, 1) := by decide +kernel
theorem dX8_obey_99 : decode cX8_obey 99 = .ok (.invokevirtual 258, 3) := by decide +kernel
theorem dX8_obey_102 : decode cX8_obey 102 = .ok (.istore_n 2, 1) := by decide +kernel
theorem dX8_obey_103 : decode cX8_obey 103 = .ok (.iload_n 1, 1) := by decide +kernel
theorem dX8_obey_104 : decode cX8_obey 104 = .ok (.iload_n 2, 1) := by decide +kernel
theorem dX8_obey_105 : decode cX8_obey 105 = .ok (.ifCond .eq 7, 3) := by decide +kernel
theorem dX8_obey_108 : decode cX8_obey 108 = .ok (.iconst 1, 1) := by decide +kernel
theorem dX8_obey_109 : decode cX8_obey 109 = .ok (.goto 4, 3) := by decide +kernel
theorem dX8_obey_112 : decode cX8_obey 112 = .ok (.iconst 0, 1) := by decide +kernel
theorem dX8_obey_113 : decode cX8_obey 113 = .ok (.iadd, 1) := by decide +kernel
theorem dX8_obey_114 : decode cX8_obey 114 = .ok (.istore_n 1, 1) := by decide +kernel
theorem dX8_obey_115 : decode cX8_obey 115 = .ok (.aload_n 0, 1) := by decide +kernel
theorem dX8_obey_116 : decode cX8_obey 116 = .ok (.getfield 44, 3) := by decide +kernel
theorem dX8_obey_119 : decode cX8_obey 119 = .ok (.iload 4, 2) := by decide +kernel
theorem dX8_obey_121 : decode cX8_obey 121 = .ok (.invokevirtual 246, 3) := by decide +kernel
theorem dX8_obey_124 : decode cX8_obey 124 = .ok (.pop, 1) := by decide +kernel
theorem dX8_obey_125 : decode cX8_obey 125 = .ok (.iinc 3 1, 3) := by decide +kernel
theorem dX8_obey_128 : decode cX8_obey 128 = .ok (.goto (-79), 3) := by decide +kernel
theorem dX8_obey_131 : decode cX8_obey 131 = .ok (.aload_n 0, 1) := by decide +kernel
theorem dX8_obey_132 : decode cX8_obey 132 = .ok (.iconst 0, 1) := by decide +kernel
theorem dX8_obey_133 : decode cX8_obey 133 = .ok (.putfield 38, 3) := by decide +kernel
theorem dX8_obey_136 : decode cX8_obey 136 = .ok (.iload_n 1, 1) := by decide +kernel
theorem dX8_obey_137 : decode cX8_obey 137 = .ok (.ireturn, 1) := by decide +kernel
theorem dX8_keep_0 : decode cX8_keep 0 = .ok (.aload_n 0, 1) := by decide +kernel
theorem dX8_keep_1 : decode cX8_keep 1 = .ok (.getfield 19, 3) := by decide +kernel
theorem dX8_keep_4 : decode cX8_keep 4 = .ok (.aload_n 0, 1) := by decide +kernel
theorem dX8_keep_5 : decode cX8_keep 5 = .ok (.getfield 10, 3) := by decide +kernel
theorem dX8_keep_8 : decode cX8_keep 8 = .ok (.invokevirtual 261, 3) := by decide +kernel
theorem dX8_keep_11 : decode cX8_keep 11 = .ok (.aload_n 0, 1) := by decide +kernel
theorem dX8_keep_12 : decode cX8_keep 12 = .ok (.iconst 1, 1) := by decide +kernel
theorem dX8_keep_13 : decode cX8_keep 13 = .ok (.putfield 22, 3) := by decide +kernel
theorem dX8_keep_16 : decode cX8_keep 16 = .ok (.aload_n 0, 1) := by decide +kernel
theorem dX8_keep_17 : decode cX8_keep 17 = .ok (.getfield 10, 3) := by decide +kernel
theorem dX8_keep_20 : decode cX8_keep 20 = .ok (.getfield 191, 3) := by decide +kernel
theorem dX8_keep_23 : decode cX8_keep 23 = .ok (.ireturn, 1) := by decide +kernel
theorem dX8_goBack_0 : decode cX8_goBack 0 = .ok (.aload_n 0, 1) := by decide +kernel
theorem dX8_goBack_1 : decode cX8_goBack 1 = .ok (.getfield 22, 3) := by decide +kernel
theorem dX8_goBack_4 : decode cX8_goBack 4 = .ok (.ifCond .ne 14, 3) := by decide +kernel
theorem dX8_goBack_7 : decode cX8_goBack 7 = .ok (.new 56, 3) := by decide +kernel
theorem dX8_goBack_10 : decode cX8_goBack 10 = .ok (.dup, 1) := by decide +kernel
theorem dX8_goBack_11 : decode cX8_goBack 11 = .ok (.ldc_w 265, 3) := by decide +kernel
theorem dX8_goBack_14 : decode cX8_goBack 14 = .ok (.invokespecial 60, 3) := by decide +kernel
theorem dX8_goBack_17 : decode cX8_goBack 17 = .ok (.athrow, 1) := by decide +kernel
theorem dX8_goBack_18 : decode cX8_goBack 18 = .ok (.aload_n 0, 1) := by decide +kernel
theorem dX8_goBack_19 : decode cX8_goBack 19 = .ok (.invokevirtual 63, 3) := by decide +kernel
theorem dX8_goBack_22 : decode cX8_goBack 22 = .ok (.aload_n 0, 1) := by decide +kernel
theorem dX8_goBack_23 : decode cX8_goBack 23 = .ok (.getfield 10, 3) := by decide +kernel
theorem dX8_goBack_26 : decode cX8_goBack 26 = .ok (.aload_n 0, 1) := by decide +kernel
theorem dX8_goBack_27 : decode cX8_goBack 27 = .ok (.getfield 19, 3) := by decide +kernel
theorem dX8_goBack_30 : decode cX8_goBack 30 = .ok (.invokevirtual 261, 3) := by decide +kernel
theorem dX8_goBack_33 : decode cX8_goBack 33 = .ok (.aload_n 0, 1) := by decide +kernel
theorem dX8_goBack_34 : decode cX8_goBack 34 = .ok (.getfield 10, 3) := by decide +kernel
theorem dX8_goBack_37 : decode cX8_goBack 37 = .ok (.getfield 191, 3) := by decide +kernel
theorem dX8_goBack_40 : decode cX8_goBack 40 = .ok (.ireturn, 1) := by decide +kernel
theorem dX8_undo_0 : decode cX8_undo 0 = .ok (.aload_n 0, 1) := by decide +kernel
theorem dX8_undo_1 : decode cX8_undo 1 = .ok (.getfield 30, 3) := by decide +kernel
theorem dX8_undo_4 : decode cX8_undo 4 = .ok (.ifCond .gt 14, 3) := by decide +kernel
theorem dX8_undo_7 : decode cX8_undo 7 = .ok (.new 56, 3) := by decide +kernel
theorem dX8_undo_10 : decode cX8_undo 10 = .ok (.dup, 1) := by decide +kernel
theorem dX8_undo_11 : decode cX8_undo 11 = .ok (.ldc_w 267, 3) := by decide +kernel
theorem dX8_undo_14 : decode cX8_undo 14 = .ok (.invokespecial 60, 3) := by decide +kernel
theorem dX8_undo_17 : decode cX8_undo 17 = .ok (.athrow, 1) := by decide +kernel
theorem dX8_undo_18 : decode cX8_undo 18 = .ok (.aload_n 0, 1) := by decide +kernel
theorem dX8_undo_19 : decode cX8_undo 19 = .ok (.dup, 1) := by decide +kernel
theorem dX8_undo_20 : decode cX8_undo 20 = .ok (.getfield 30, 3) := by decide +kernel
theorem dX8_undo_23 : decode cX8_undo 23 = .ok (.iconst 1, 1) := by decide +kernel
theorem dX8_undo_24 : decode cX8_undo 24 = .ok (.isub, 1) := by decide +kernel
theorem dX8_undo_25 : decode cX8_undo 25 = .ok (.putfield 30, 3) := by decide +kernel
theorem dX8_undo_28 : decode cX8_undo 28 = .ok (.aload_n 0, 1) := by decide +kernel
theorem dX8_undo_29 : decode cX8_undo 29 = .ok (.aload_n 0, 1) := by decide +kernel
theorem dX8_undo_30 : decode cX8_undo 30 = .ok (.getfield 30, 3) := by decide +kernel
theorem dX8_undo_33 : decode cX8_undo 33 = .ok (.invokevirtual 269, 3) := by decide +kernel
theorem dX8_undo_36 : decode cX8_undo 36 = .ok (.aload_n 0, 1) := by decide +kernel
theorem dX8_undo_37 : decode cX8_undo 37 = .ok (.getfield 30, 3) := by decide +kernel
theorem dX8_undo_40 : decode cX8_undo 40 = .ok (.ireturn, 1) := by decide +kernel
theorem dX8_read_0 : decode cX8_read 0 = .ok (.iload_n 1, 1) := by decide +kernel
theorem dX8_read_1 : decode cX8_read 1 = .ok (.invokestatic 93, 3) := by decide +kernel
theorem dX8_read_4 : decode cX8_read 4 = .ok (.ifCond .ne 13, 3) := by decide +kernel
theorem dX8_read_7 : decode cX8_read 7 = .ok (.new 97, 3) := by decide +kernel
theorem dX8_read_10 : decode cX8_read 10 = .ok (.dup, 1) := by decide +kernel
theorem dX8_read_11 : decode cX8_read 11 = .ok (.ldc 99, 2) := by decide +kernel
theorem dX8_read_13 : decode cX8_read 13 = .ok (.invokespecial 101, 3) := by decide +kernel
theorem dX8_read_16 : decode cX8_read 16 = .ok (.athrow, 1) := by decide +kernel
theorem dX8_read_17 : decode cX8_read 17 = .ok (.aload_n 0, 1) := by decide +kernel
theorem dX8_read_18 : decode cX8_read 18 = .ok (.getfield 10, 3) := by decide +kernel
theorem dX8_read_21 : decode cX8_read 21 = .ok (.invokevirtual 52, 3) := by decide +kernel
theorem dX8_read_24 : decode cX8_read 24 = .ok (.ifCond .ne 17, 3) := by decide +kernel
theorem dX8_read_27 : decode cX8_read 27 = .ok (.aload_n 0, 1) := by decide +kernel
theorem dX8_read_28 : decode cX8_read 28 = .ok (.getfield 10, 3) := by decide +kernel
theorem dX8_read_31 : decode cX8_read 31 = .ok (.getfield 159, 3) := by decide +kernel
theorem dX8_read_34 : decode cX8_read 34 = .ok (.iload_n 1, 1) := by decide +kernel
theorem dX8_read_35 : decode cX8_read 35 = .ok (.invokevirtual 272, 3) := by decide +kernel
theorem dX8_read_38 : decode cX8_read 38 = .ok (.ifCond .eq 14, 3) := by decide +kernel
theorem dX8_read_41 : decode cX8_read 41 = .ok (.new 56, 3) := by decide +kernel
theorem dX8_read_44 : decode cX8_read 44 = .ok (.dup, 1) := by decide +kernel
theorem dX8_read_45 : decode cX8_read 45 = .ok (.ldc_w 275, 3) := by decide +kernel
theorem dX8_read_48 : decode cX8_read 48 = .ok (.invokespecial 60, 3) := by decide +kernel
theorem dX8_read_51 : decode cX8_read 51 = .ok (.athrow, 1) := by decide +kernel
theorem dX8_read_52 : decode cX8_read 52 = .ok (.aload_n 0, 1) := by decide +kernel
theorem dX8_read_53 : decode cX8_read 53 = .ok (.getfield 10, 3) := by decide +kernel
theorem dX8_read_56 : decode cX8_read 56 = .ok (.getfield 277, 3) := by decide +kernel
theorem dX8_read_59 : decode cX8_read 59 = .ok (.getfield 281, 3) := by decide +kernel
theorem dX8_read_62 : decode cX8_read 62 = .ok (.iload_n 1, 1) := by decide +kernel
theorem dX8_read_63 : decode cX8_read 63 = .ok (.invokestatic 224, 3) := by decide +kernel
theorem dX8_read_66 : decode cX8_read 66 = .ok (.ireturn, 1) := by decide +kernel
theorem dX8_cell_0 : decode cX8_cell 0 = .ok (.iload_n 1, 1) := by decide +kernel
theorem dX8_cell_1 : decode cX8_cell 1 = .ok (.invokestatic 93, 3) := by decide +kernel
theorem dX8_cell_4 : decode cX8_cell 4 = .ok (.ifCond .ne 13, 3) := by decide +kernel
theorem dX8_cell_7 : decode cX8_cell 7 = .ok (.new 97, 3) := by decide +kernel
theorem dX8_cell_10 : decode cX8_cell 10 = .ok (.dup, 1) := by decide +kernel
theorem dX8_cell_11 : decode cX8_cell 11 = .ok (.ldc 99, 2) := by decide +kernel
theorem dX8_cell_13 : decode cX8_cell 13 = .ok (.invokespecial 101, 3) := by decide +kernel
theorem dX8_cell_16 : decode cX8_cell 16 = .ok (.athrow, 1) := by decide +kernel
theorem dX8_cell_17 : decode cX8_cell 17 = .ok (.iload_n 2, 1) := by decide +kernel
theorem dX8_cell_18 : decode cX8_cell 18 = .ok (.iconst 0, 1) := by decide +kernel
theorem dX8_cell_19 : decode cX8_cell 19 = .ok (.iconst 3, 1) := by decide +kernel
theorem dX8_cell_20 : decode cX8_cell 20 = .ok (.invokestatic 69, 3) := by decide +kernel
theorem dX8_cell_23 : decode cX8_cell 23 = .ok (.ifCond .ne 14, 3) := by decide +kernel
theorem dX8_cell_26 : decode cX8_cell 26 = .ok (.new 73, 3) := by decide +kernel
theorem dX8_cell_29 : decode cX8_cell 29 = .ok (.dup, 1) := by decide +kernel
theorem dX8_cell_30 : decode cX8_cell 30 = .ok (.ldc_w 286, 3) := by decide +kernel
theorem dX8_cell_33 : decode cX8_cell 33 = .ok (.invokespecial 77, 3) := by decide +kernel
theorem dX8_cell_36 : decode cX8_cell 36 = .ok (.athrow, 1) := by decide +kernel
theorem dX8_cell_37 : decode cX8_cell 37 = .ok (.iload_n 2, 1) := by decide +kernel
theorem dX8_cell_38 : decode cX8_cell 38 = .ok (.tableswitch 79 0 2 #[26, 41, 56], 26) := by decide +kernel
theorem dX8_cell_64 : decode cX8_cell 64 = .ok (.aload_n 0, 1) := by decide +kernel
theorem dX8_cell_65 : decode cX8_cell 65 = .ok (.getfield 10, 3) := by decide +kernel
theorem dX8_cell_68 : decode cX8_cell 68 = .ok (.getfield 277, 3) := by decide +kernel
theorem dX8_cell_71 : decode cX8_cell 71 = .ok (.getfield 281, 3) := by decide +kernel
theorem dX8_cell_74 : decode cX8_cell 74 = .ok (.iload_n 1, 1) := by decide +kernel
theorem dX8_cell_75 : decode cX8_cell 75 = .ok (.invokestatic 224, 3) := by decide +kernel
theorem dX8_cell_78 : decode cX8_cell 78 = .ok (.ireturn, 1) := by decide +kernel
theorem dX8_cell_79 : decode cX8_cell 79 = .ok (.aload_n 0, 1) := by decide +kernel
theorem dX8_cell_80 : decode cX8_cell 80 = .ok (.getfield 10, 3) := by decide +kernel
theorem dX8_cell_83 : decode cX8_cell 83 = .ok (.getfield 277, 3) := by decide +kernel
theorem dX8_cell_86 : decode cX8_cell 86 = .ok (.getfield 288, 3) := by decide +kernel
theorem dX8_cell_89 : decode cX8_cell 89 = .ok (.iload_n 1, 1) := by decide +kernel
theorem dX8_cell_90 : decode cX8_cell 90 = .ok (.invokestatic 224, 3) := by decide +kernel
theorem dX8_cell_93 : decode cX8_cell 93 = .ok (.ireturn, 1) := by decide +kernel
theorem dX8_cell_94 : decode cX8_cell 94 = .ok (.aload_n 0, 1) := by decide +kernel
theorem dX8_cell_95 : decode cX8_cell 95 = .ok (.getfield 10, 3) := by decide +kernel
theorem dX8_cell_98 : decode cX8_cell 98 = .ok (.getfield 277, 3) := by decide +kernel
theorem dX8_cell_101 : decode cX8_cell 101 = .ok (.iload_n 1, 1) := by decide +kernel
theorem dX8_cell_102 : decode cX8_cell 102 = .ok (.bipush 8, 2) := by decide +kernel
theorem dX8_cell_104 : decode cX8_cell 104 = .ok (.idiv, 1) := by decide +kernel
theorem dX8_cell_105 : decode cX8_cell 105 = .ok (.invokevirtual 291, 3) := by decide +kernel
theorem dX8_cell_108 : decode cX8_cell 108 = .ok (.ifCond .eq 7, 3) := by decide +kernel
theorem dX8_cell_111 : decode cX8_cell 111 = .ok (.iconst 1, 1) := by decide +kernel
theorem dX8_cell_112 : decode cX8_cell 112 = .ok (.goto 4, 3) := by decide +kernel
theorem dX8_cell_115 : decode cX8_cell 115 = .ok (.iconst 0, 1) := by decide +kernel
theorem dX8_cell_116 : decode cX8_cell 116 = .ok (.ireturn, 1) := by decide +kernel
theorem dX8_cell_117 : decode cX8_cell 117 = .ok (.aload_n 0, 1) := by decide +kernel
theorem dX8_cell_118 : decode cX8_cell 118 = .ok (.getfield 10, 3) := by decide +kernel
theorem dX8_cell_121 : decode cX8_cell 121 = .ok (.getfield 78, 3) := by decide +kernel
theorem dX8_cell_124 : decode cX8_cell 124 = .ok (.iload_n 1, 1) := by decide +kernel
theorem dX8_cell_125 : decode cX8_cell 125 = .ok (.bipush 8, 2) := by decide +kernel
theorem dX8_cell_127 : decode cX8_cell 127 = .ok (.irem, 1) := by decide +kernel
theorem dX8_cell_128 : decode cX8_cell 128 = .ok (.invokevirtual 294, 3) := by decide +kernel
theorem dX8_cell_131 : decode cX8_cell 131 = .ok (.ireturn, 1) := by decide +kernel
theorem dX8_sector_0 : decode cX8_sector 0 = .ok (.iload_n 1, 1) := by decide +kernel
theorem dX8_sector_1 : decode cX8_sector 1 = .ok (.invokestatic 126, 3) := by decide +kernel
theorem dX8_sector_4 : decode cX8_sector 4 = .ok (.ifCond .ne 13, 3) := by decide +kernel
theorem dX8_sector_7 : decode cX8_sector 7 = .ok (.new 97, 3) := by decide +kernel
theorem dX8_sector_10 : decode cX8_sector 10 = .ok (.dup, 1) := by decide +kernel
theorem dX8_sector_11 : decode cX8_sector 11 = .ok (.ldc 129, 2) := by decide +kernel
theorem dX8_sector_13 : decode cX8_sector 13 = .ok (.invokespecial 101, 3) := by decide +kernel
theorem dX8_sector_16 : decode cX8_sector 16 = .ok (.athrow, 1) := by decide +kernel
theorem dX8_sector_17 : decode cX8_sector 17 = .ok (.iload_n 2, 1) := by decide +kernel
theorem dX8_sector_18 : decode cX8_sector 18 = .ok (.iconst 0, 1) := by decide +kernel
theorem dX8_sector_19 : decode cX8_sector 19 = .ok (.bipush 6, 2) := by decide +kernel
theorem dX8_sector_21 : decode cX8_sector 21 = .ok (.invokestatic 69, 3) := by decide +kernel
theorem dX8_sector_24 : decode cX8_sector 24 = .ok (.ifCond .ne 14, 3) := by decide +kernel
theorem dX8_sector_27 : decode cX8_sector 27 = .ok (.new 73, 3) := by decide +kernel
theorem dX8_sector_30 : decode cX8_sector 30 = .ok (.dup, 1) := by decide +kernel
theorem dX8_sector_31 : decode cX8_sector 31 = .ok (.ldc_w 297, 3) := by decide +kernel
theorem dX8_sector_34 : decode cX8_sector 34 = .ok (.invokespecial 77, 3) := by decide +kernel
theorem dX8_sector_37 : decode cX8_sector 37 = .ok (.athrow, 1) := by decide +kernel
theorem dX8_sector_38 : decode cX8_sector 38 = .ok (.iload_n 2, 1) := by decide +kernel
theorem dX8_sector_39 : decode cX8_sector 39 = .ok (.tableswitch 122 0 5 #[37, 52, 72, 89, 101, 113], 37) := by decide +kernel
theorem dX8_sector_76 : decode cX8_sector 76 = .ok (.aload_n 0, 1) := by decide +kernel
theorem dX8_sector_77 : decode cX8_sector 77 = .ok (.getfield 10, 3) := by decide +kernel
theorem dX8_sector_80 : decode cX8_sector 80 = .ok (.getfield 277, 3) := by decide +kernel
theorem dX8_sector_83 : decode cX8_sector 83 = .ok (.getfield 299, 3) := by decide +kernel
theorem dX8_sector_86 : decode cX8_sector 86 = .ok (.iload_n 1, 1) := by decide +kernel
theorem dX8_sector_87 : decode cX8_sector 87 = .ok (.invokestatic 224, 3) := by decide +kernel
theorem dX8_sector_90 : decode cX8_sector 90 = .ok (.ireturn, 1) := by decide +kernel
theorem dX8_sector_91 : decode cX8_sector 91 = .ok (.aload_n 0, 1) := by decide +kernel
theorem dX8_sector_92 : decode cX8_sector 92 = .ok (.getfield 10, 3) := by decide +kernel
theorem dX8_sector_95 : decode cX8_sector 95 = .ok (.getfield 147, 3) := by decide +kernel
theorem dX8_sector_98 : decode cX8_sector 98 = .ok (.iload_n 1, 1) := by decide +kernel
theorem dX8_sector_99 : decode cX8_sector 99 = .ok (.invokevirtual 302, 3) := by decide +kernel
theorem dX8_sector_102 : decode cX8_sector 102 = .ok (.ifCond .eq 7, 3) := by decide +kernel
theorem dX8_sector_105 : decode cX8_sector 105 = .ok (.iconst 1, 1) := by decide +kernel
theorem dX8_sector_106 : decode cX8_sector 106 = .ok (.goto 4, 3) := by decide +kernel
theorem dX8_sector_109 : decode cX8_sector 109 = .ok (.iconst 0, 1) := by decide +kernel
theorem dX8_sector_110 : decode cX8_sector 110 = .ok (.ireturn, 1) := by decide +kernel
theorem dX8_sector_111 : decode cX8_sector 111 = .ok (.aload_n 0, 1) := by decide +kernel
theorem dX8_sector_112 : decode cX8_sector 112 = .ok (.getfield 10, 3) := by decide +kernel
theorem dX8_sector_115 : decode cX8_sector 115 = .ok (.getfield 277, 3) := by decide +kernel
theorem dX8_sector_118 : decode cX8_sector 118 = .ok (.iload_n 1, 1) := by decide +kernel
theorem dX8_sector_119 : decode cX8_sector 119 = .ok (.bipush 32, 2) := by decide +kernel
theorem dX8_sector_121 : decode cX8_sector 121 = .ok (.imul, 1) := by decide +kernel
theorem dX8_sector_122 : decode cX8_sector 122 = .ok (.bipush 32, 2) := by decide +kernel
theorem dX8_sector_124 : decode cX8_sector 124 = .ok (.invokevirtual 305, 3) := by decide +kernel
theorem dX8_sector_127 : decode cX8_sector 127 = .ok (.ireturn, 1) := by decide +kernel
theorem dX8_sector_128 : decode cX8_sector 128 = .ok (.aload_n 0, 1) := by decide +kernel
theorem dX8_sector_129 : decode cX8_sector 129 = .ok (.getfield 10, 3) := by decide +kernel
theorem dX8_sector_132 : decode cX8_sector 132 = .ok (.getfield 277, 3) := by decide +kernel
theorem dX8_sector_135 : decode cX8_sector 135 = .ok (.iload_n 1, 1) := by decide +kernel
theorem dX8_sector_136 : decode cX8_sector 136 = .ok (.invokevirtual 308, 3) := by decide +kernel
theorem dX8_sector_139 : decode cX8_sector 139 = .ok (.ireturn, 1) := by decide +kernel
theorem dX8_sector_140 : decode cX8_sector 140 = .ok (.aload_n 0, 1) := by decide +kernel
theorem dX8_sector_141 : decode cX8_sector 141 = .ok (.getfield 10, 3) := by decide +kernel
theorem dX8_sector_144 : decode cX8_sector 144 = .ok (.getfield 277, 3) := by decide +kernel
theorem dX8_sector_147 : decode cX8_sector 147 = .ok (.iload_n 1, 1) := by decide +kernel
theorem dX8_sector_148 : decode cX8_sector 148 = .ok (.invokevirtual 311, 3) := by decide +kernel
theorem dX8_sector_151 : decode cX8_sector 151 = .ok (.ireturn, 1) := by decide +kernel
theorem dX8_sector_152 : decode cX8_sector 152 = .ok (.aload_n 0, 1) := by decide +kernel
theorem dX8_sector_153 : decode cX8_sector 153 = .ok (.getfield 10, 3) := by decide +kernel
theorem dX8_sector_156 : decode cX8_sector 156 = .ok (.iload_n 1, 1) := by decide +kernel
theorem dX8_sector_157 : decode cX8_sector 157 = .ok (.invokevirtual 133, 3) := by decide +kernel
theorem dX8_sector_160 : decode cX8_sector 160 = .ok (.ireturn, 1) := by decide +kernel
theorem dX8_sector_161 : decode cX8_sector 161 = .ok (.aload_n 0, 1) := by decide +kernel
theorem dX8_sector_162 : decode cX8_sector 162 = .ok (.getfield 10, 3) := by decide +kernel
theorem dX8_sector_165 : decode cX8_sector 165 = .ok (.getfield 180, 3) := by decide +kernel
theorem dX8_sector_168 : decode cX8_sector 168 = .ok (.iload_n 1, 1) := by decide +kernel
theorem dX8_sector_169 : decode cX8_sector 169 = .ok (.invokevirtual 314, 3) := by decide +kernel
theorem dX8_sector_172 : decode cX8_sector 172 = .ok (.ireturn, 1) := by decide +kernel
theorem dX8_work_0 : decode cX8_work 0 = .ok (.iload_n 1, 1) := by decide +kernel
theorem dX8_work_1 : decode cX8_work 1 = .ok (.iconst 0, 1) := by decide +kernel
theorem dX8_work_2 : decode cX8_work 2 = .ok (.iconst 1, 1) := by decide +kernel
theorem dX8_work_3 : decode cX8_work 3 = .ok (.invokestatic 69, 3) := by decide +kernel
theorem dX8_work_6 : decode cX8_work 6 = .ok (.ifCond .eq 12, 3) := by decide +kernel
theorem dX8_work_9 : decode cX8_work 9 = .ok (.iload_n 2, 1) := by decide +kernel
theorem dX8_work_10 : decode cX8_work 10 = .ok (.iconst 0, 1) := by decide +kernel
theorem dX8_work_11 : decode cX8_work 11 = .ok (.iconst 4, 1) := by decide +kernel
theorem dX8_work_12 : decode cX8_work 12 = .ok (.invokestatic 69, 3) := by decide +kernel
theorem dX8_work_15 : decode cX8_work 15 = .ok (.ifCond .ne 14, 3) := by decide +kernel
theorem dX8_work_18 : decode cX8_work 18 = .ok (.new 73, 3) := by decide +kernel
theorem dX8_work_21 : decode cX8_work 21 = .ok (.dup, 1) := by decide +kernel
theorem dX8_work_22 : decode cX8_work 22 = .ok (.ldc_w 317, 3) := by decide +kernel
theorem dX8_work_25 : decode cX8_work 25 = .ok (.invokespecial 77, 3) := by decide +kernel
theorem dX8_work_28 : decode cX8_work 28 = .ok (.athrow, 1) := by decide +kernel
theorem dX8_work_29 : decode cX8_work 29 = .ok (.iload_n 1, 1) := by decide +kernel
theorem dX8_work_30 : decode cX8_work 30 = .ok (.iconst 1, 1) := by decide +kernel
theorem dX8_work_31 : decode cX8_work 31 = .ok (.if_icmp .ne 13, 3) := by decide +kernel
theorem dX8_work_34 : decode cX8_work 34 = .ok (.aload_n 0, 1) := by decide +kernel
theorem dX8_work_35 : decode cX8_work 35 = .ok (.getfield 10, 3) := by decide +kernel
theorem dX8_work_38 : decode cX8_work 38 = .ok (.getfield 159, 3) := by decide +kernel
theorem dX8_work_41 : decode cX8_work 41 = .ok (.goto 10, 3) := by decide +kernel
theorem dX8_work_44 : decode cX8_work 44 = .ok (.aload_n 0, 1) := by decide +kernel
theorem dX8_work_45 : decode cX8_work 45 = .ok (.getfield 10, 3) := by decide +kernel
theorem dX8_work_48 : decode cX8_work 48 = .ok (.getfield 108, 3) := by decide +kernel
theorem dX8_work_51 : decode cX8_work 51 = .ok (.astore_n 3, 1) := by decide +kernel
theorem dX8_work_52 : decode cX8_work 52 = .ok (.iload_n 2, 1) := by decide +kernel
theorem dX8_work_53 : decode cX8_work 53 = .ok (.tableswitch 51 0 3 #[31, 36, 41, 46], 31) := by decide +kernel
theorem dX8_work_84 : decode cX8_work 84 = .ok (.aload_n 3, 1) := by decide +kernel
theorem dX8_work_85 : decode cX8_work 85 = .ok (.getfield 156, 3) := by decide +kernel
theorem dX8_work_88 : decode cX8_work 88 = .ok (.ireturn, 1) := by decide +kernel
theorem dX8_work_89 : decode cX8_work 89 = .ok (.aload_n 3, 1) := by decide +kernel
theorem dX8_work_90 : decode cX8_work 90 = .ok (.getfield 319, 3) := by decide +kernel
theorem dX8_work_93 : decode cX8_work 93 = .ok (.ireturn, 1) := by decide +kernel
theorem dX8_work_94 : decode cX8_work 94 = .ok (.aload_n 3, 1) := by decide +kernel
theorem dX8_work_95 : decode cX8_work 95 = .ok (.invokevirtual 122, 3) := by decide +kernel
theorem dX8_work_98 : decode cX8_work 98 = .ok (.ireturn, 1) := by decide +kernel
theorem dX8_work_99 : decode cX8_work 99 = .ok (.aload_n 3, 1) := by decide +kernel
theorem dX8_work_100 : decode cX8_work 100 = .ok (.getfield 322, 3) := by decide +kernel
theorem dX8_work_103 : decode cX8_work 103 = .ok (.ireturn, 1) := by decide +kernel
theorem dX8_work_104 : decode cX8_work 104 = .ok (.aload_n 3, 1) := by decide +kernel
theorem dX8_work_105 : decode cX8_work 105 = .ok (.getfield 325, 3) := by decide +kernel
theorem dX8_work_108 : decode cX8_work 108 = .ok (.ifCond .eq 7, 3) := by decide +kernel
theorem dX8_work_111 : decode cX8_work 111 = .ok (.iconst 1, 1) := by decide +kernel
theorem dX8_work_112 : decode cX8_work 112 = .ok (.goto 4, 3) := by decide +kernel
theorem dX8_work_115 : decode cX8_work 115 = .ok (.iconst 0, 1) := by decide +kernel
theorem dX8_work_116 : decode cX8_work 116 = .ok (.ireturn, 1) := by decide +kernel
theorem dX8_order_0 : decode cX8_order 0 = .ok (.aload_n 0, 1) := by decide +kernel
theorem dX8_order_1 : decode cX8_order 1 = .ok (.getfield 10, 3) := by decide +kernel
theorem dX8_order_4 : decode cX8_order 4 = .ok (.getfield 180, 3) := by decide +kernel
theorem dX8_order_7 : decode cX8_order 7 = .ok (.iload_n 1, 1) := by decide +kernel
theorem dX8_order_8 : decode cX8_order 8 = .ok (.invokevirtual 328, 3) := by decide +kernel
theorem dX8_order_11 : decode cX8_order 11 = .ok (.astore_n 3, 1) := by decide +kernel
theorem dX8_order_12 : decode cX8_order 12 = .ok (.aload_n 3, 1) := by decide +kernel
theorem dX8_order_13 : decode cX8_order 13 = .ok (.ifnonnull 14, 3) := by decide +kernel
theorem dX8_order_16 : decode cX8_order 16 = .ok (.new 97, 3) := by decide +kernel
theorem dX8_order_19 : decode cX8_order 19 = .ok (.dup, 1) := by decide +kernel
theorem dX8_order_20 : decode cX8_order 20 = .ok (.ldc_w 332, 3) := by decide +kernel
theorem dX8_order_23 : decode cX8_order 23 = .ok (.invokespecial 101, 3) := by decide +kernel
theorem dX8_order_26 : decode cX8_order 26 = .ok (.athrow, 1) := by decide +kernel
theorem dX8_order_27 : decode cX8_order 27 = .ok (.iload_n 2, 1) := by decide +kernel
theorem dX8_order_28 : decode cX8_order 28 = .ok (.iconst 0, 1) := by decide +kernel
theorem dX8_order_29 : decode cX8_order 29 = .ok (.iconst 5, 1) := by decide +kernel
theorem dX8_order_30 : decode cX8_order 30 = .ok (.invokestatic 69, 3) := by decide +kernel
theorem dX8_order_33 : decode cX8_order 33 = .ok (.ifCond .ne 14, 3) := by decide +kernel
theorem dX8_order_36 : decode cX8_order 36 = .ok (.new 73, 3) := by decide +kernel
theorem dX8_order_39 : decode cX8_order 39 = .ok (.dup, 1) := by decide +kernel
theorem dX8_order_40 : decode cX8_order 40 = .ok (.ldc_w 334, 3) := by decide +kernel
theorem dX8_order_43 : decode cX8_order 43 = .ok (.invokespecial 77, 3) := by decide +kernel
theorem dX8_order_46 : decode cX8_order 46 = .ok (.athrow, 1) := by decide +kernel
theorem dX8_order_47 : decode cX8_order 47 = .ok (.iload_n 2, 1) := by decide +kernel
theorem dX8_order_48 : decode cX8_order 48 = .ok (.tableswitch 78 0 4 #[36, 41, 55, 60, 65], 36) := by decide +kernel
theorem dX8_order_84 : decode cX8_order 84 = .ok (.aload_n 3, 1) := by decide +kernel
theorem dX8_order_85 : decode cX8_order 85 = .ok (.getfield 336, 3) := by decide +kernel
theorem dX8_order_88 : decode cX8_order 88 = .ok (.ireturn, 1) := by decide +kernel
theorem dX8_order_89 : decode cX8_order 89 = .ok (.aload_n 3, 1) := by decide +kernel
theorem dX8_order_90 : decode cX8_order 90 = .ok (.getfield 341, 3) := by decide +kernel
theorem dX8_order_93 : decode cX8_order 93 = .ok (.iconst 1, 1) := by decide +kernel
theorem dX8_order_94 : decode cX8_order 94 = .ok (.if_icmp .ne 7, 3) := by decide +kernel
theorem dX8_order_97 : decode cX8_order 97 = .ok (.iconst 0, 1) := by decide +kernel
theorem dX8_order_98 : decode cX8_order 98 = .ok (.goto 4, 3) := by decide +kernel
theorem dX8_order_101 : decode cX8_order 101 = .ok (.iconst 1, 1) := by decide +kernel
theorem dX8_order_102 : decode cX8_order 102 = .ok (.ireturn, 1) := by decide +kernel
theorem dX8_order_103 : decode cX8_order 103 = .ok (.aload_n 3, 1) := by decide +kernel
theorem dX8_order_104 : decode cX8_order 104 = .ok (.getfield 342, 3) := by decide +kernel
theorem dX8_order_107 : decode cX8_order 107 = .ok (.ireturn, 1) := by decide +kernel
theorem dX8_order_108 : decode cX8_order 108 = .ok (.aload_n 3, 1) := by decide +kernel
theorem dX8_order_109 : decode cX8_order 109 = .ok (.getfield 343, 3) := by decide +kernel
theorem dX8_order_112 : decode cX8_order 112 = .ok (.ireturn, 1) := by decide +kernel
theorem dX8_order_113 : decode cX8_order 113 = .ok (.aload_n 0, 1) := by decide +kernel
theorem dX8_order_114 : decode cX8_order 114 = .ok (.getfield 10, 3) := by decide +kernel
theorem dX8_order_117 : decode cX8_order 117 = .ok (.getfield 191, 3) := by decide +kernel
theorem dX8_order_120 : decode cX8_order 120 = .ok (.aload_n 3, 1) := by decide +kernel
theorem dX8_order_121 : decode cX8_order 121 = .ok (.getfield 344, 3) := by decide +kernel
theorem dX8_order_124 : decode cX8_order 124 = .ok (.isub, 1) := by decide +kernel
theorem dX8_order_125 : decode cX8_order 125 = .ok (.ireturn, 1) := by decide +kernel
theorem dX8_order_126 : decode cX8_order 126 = .ok (.aload_n 3, 1) := by decide +kernel
theorem dX8_order_127 : decode cX8_order 127 = .ok (.getfield 347, 3) := by decide +kernel
theorem dX8_order_130 : decode cX8_order 130 = .ok (.getfield 82, 3) := by decide +kernel
theorem dX8_order_133 : decode cX8_order 133 = .ok (.ireturn, 1) := by decide +kernel
theorem dX8_count_0 : decode cX8_count 0 = .ok (.iload_n 1, 1) := by decide +kernel
theorem dX8_count_1 : decode cX8_count 1 = .ok (.iconst 0, 1) := by decide +kernel
theorem dX8_count_2 : decode cX8_count 2 = .ok (.bipush 15, 2) := by decide +kernel
theorem dX8_count_4 : decode cX8_count 4 = .ok (.invokestatic 69, 3) := by decide +kernel
theorem dX8_count_7 : decode cX8_count 7 = .ok (.ifCond .ne 14, 3) := by decide +kernel
theorem dX8_count_10 : decode cX8_count 10 = .ok (.new 73, 3) := by decide +kernel
theorem dX8_count_13 : decode cX8_count 13 = .ok (.dup, 1) := by decide +kernel
theorem dX8_count_14 : decode cX8_count 14 = .ok (.ldc_w 350, 3) := by decide +kernel
theorem dX8_count_17 : decode cX8_count 17 = .ok (.invokespecial 77, 3) := by decide +kernel
theorem dX8_count_20 : decode cX8_count 20 = .ok (.athrow, 1) := by decide +kernel
theorem dX8_count_21 : decode cX8_count 21 = .ok (.iload_n 1, 1) := by decide +kernel
theorem dX8_count_22 : decode cX8_count 22 = .ok (.tableswitch 244 0 14 #[74, 82, 98, 117, 128, 139, 154, 165, 173, 181, 189, 200, 211, 222, 236], 74) := by decide +kernel
theorem dX8_count_96 : decode cX8_count 96 = .ok (.aload_n 0, 1) := by decide +kernel
theorem dX8_count_97 : decode cX8_count 97 = .ok (.getfield 10, 3) := by decide +kernel
theorem dX8_count_100 : decode cX8_count 100 = .ok (.getfield 191, 3) := by decide +kernel
theorem dX8_count_103 : decode cX8_count 103 = .ok (.ireturn, 1) := by decide +kernel
theorem dX8_count_104 : decode cX8_count 104 = .ok (.aload_n 0, 1) := by decide +kernel
theorem dX8_count_105 : decode cX8_count 105 = .ok (.getfield 10, 3) := by decide +kernel
theorem dX8_count_108 : decode cX8_count 108 = .ok (.getfield 66, 3) := by decide +kernel
theorem dX8_count_111 : decode cX8_count 111 = .ok (.ifCond .eq 7, 3) := by decide +kernel
theorem dX8_count_114 : decode cX8_count 114 = .ok (.iconst 1, 1) := by decide +kernel
theorem dX8_count_115 : decode cX8_count 115 = .ok (.goto 4, 3) := by decide +kernel
theorem dX8_count_118 : decode cX8_count 118 = .ok (.iconst 0, 1) := by decide +kernel
theorem dX8_count_119 : decode cX8_count 119 = .ok (.ireturn, 1) := by decide +kernel
theorem dX8_count_120 : decode cX8_count 120 = .ok (.aload_n 0, 1) := by decide +kernel
theorem dX8_count_121 : decode cX8_count 121 = .ok (.getfield 10, 3) := by decide +kernel
theorem dX8_count_124 : decode cX8_count 124 = .ok (.getfield 147, 3) := by decide +kernel
theorem dX8_count_127 : decode cX8_count 127 = .ok (.getfield 151, 3) := by decide +kernel
theorem dX8_count_130 : decode cX8_count 130 = .ok (.ifCond .eq 7, 3) := by decide +kernel
theorem dX8_count_133 : decode cX8_count 133 = .ok (.iconst 1, 1) := by decide +kernel
theorem dX8_count_134 : decode cX8_count 134 = .ok (.goto 4, 3) := by decide +kernel
theorem dX8_count_137 : decode cX8_count 137 = .ok (.iconst 0, 1) := by decide +kernel
theorem dX8_count_138 : decode cX8_count 138 = .ok (.ireturn, 1) := by decide +kernel
theorem dX8_count_139 : decode cX8_count 139 = .ok (.aload_n 0, 1) := by decide +kernel
theorem dX8_count_140 : decode cX8_count 140 = .ok (.getfield 10, 3) := by decide +kernel
theorem dX8_count_143 : decode cX8_count 143 = .ok (.getfield 147, 3) := by decide +kernel
theorem dX8_count_146 : decode cX8_count 146 = .ok (.getfield 352, 3) := by decide +kernel
theorem dX8_count_149 : decode cX8_count 149 = .ok (.ireturn, 1) := by decide +kernel
theorem dX8_count_150 : decode cX8_count 150 = .ok (.aload_n 0, 1) := by decide +kernel
theorem dX8_count_151 : decode cX8_count 151 = .ok (.getfield 10, 3) := by decide +kernel
theorem dX8_count_154 : decode cX8_count 154 = .ok (.getfield 147, 3) := by decide +kernel
theorem dX8_count_157 : decode cX8_count 157 = .ok (.getfield 355, 3) := by decide +kernel
theorem dX8_count_160 : decode cX8_count 160 = .ok (.ireturn, 1) := by decide +kernel
theorem dX8_count_161 : decode cX8_count 161 = .ok (.aload_n 0, 1) := by decide +kernel
theorem dX8_count_162 : decode cX8_count 162 = .ok (.getfield 10, 3) := by decide +kernel
theorem dX8_count_165 : decode cX8_count 165 = .ok (.getfield 277, 3) := by decide +kernel
theorem dX8_count_168 : decode cX8_count 168 = .ok (.iconst 0, 1) := by decide +kernel
theorem dX8_count_169 : decode cX8_count 169 = .ok (.sipush 256, 3) := by decide +kernel
theorem dX8_count_172 : decode cX8_count 172 = .ok (.invokevirtual 305, 3) := by decide +kernel
theorem dX8_count_175 : decode cX8_count 175 = .ok (.ireturn, 1) := by decide +kernel
theorem dX8_count_176 : decode cX8_count 176 = .ok (.aload_n 0, 1) := by decide +kernel
theorem dX8_count_177 : decode cX8_count 177 = .ok (.getfield 10, 3) := by decide +kernel
theorem dX8_count_180 : decode cX8_count 180 = .ok (.getfield 277, 3) := by decide +kernel
theorem dX8_count_183 : decode cX8_count 183 = .ok (.invokevirtual 356, 3) := by decide +kernel
theorem dX8_count_186 : decode cX8_count 186 = .ok (.ireturn, 1) := by decide +kernel
theorem dX8_count_187 : decode cX8_count 187 = .ok (.aload_n 0, 1) := by decide +kernel
theorem dX8_count_188 : decode cX8_count 188 = .ok (.getfield 10, 3) := by decide +kernel
theorem dX8_count_191 : decode cX8_count 191 = .ok (.getfield 359, 3) := by decide +kernel
theorem dX8_count_194 : decode cX8_count 194 = .ok (.ireturn, 1) := by decide +kernel
theorem dX8_count_195 : decode cX8_count 195 = .ok (.aload_n 0, 1) := by decide +kernel
theorem dX8_count_196 : decode cX8_count 196 = .ok (.getfield 10, 3) := by decide +kernel
theorem dX8_count_199 : decode cX8_count 199 = .ok (.getfield 362, 3) := by decide +kernel
theorem dX8_count_202 : decode cX8_count 202 = .ok (.ireturn, 1) := by decide +kernel
theorem dX8_count_203 : decode cX8_count 203 = .ok (.aload_n 0, 1) := by decide +kernel
theorem dX8_count_204 : decode cX8_count 204 = .ok (.getfield 10, 3) := by decide +kernel
theorem dX8_count_207 : decode cX8_count 207 = .ok (.getfield 365, 3) := by decide +kernel
theorem dX8_count_210 : decode cX8_count 210 = .ok (.ireturn, 1) := by decide +kernel
theorem dX8_count_211 : decode cX8_count 211 = .ok (.aload_n 0, 1) := by decide +kernel
theorem dX8_count_212 : decode cX8_count 212 = .ok (.getfield 10, 3) := by decide +kernel
theorem dX8_count_215 : decode cX8_count 215 = .ok (.getfield 180, 3) := by decide +kernel
theorem dX8_count_218 : decode cX8_count 218 = .ok (.getfield 210, 3) := by decide +kernel
theorem dX8_count_221 : decode cX8_count 221 = .ok (.ireturn, 1) := by decide +kernel
theorem dX8_count_222 : decode cX8_count 222 = .ok (.aload_n 0, 1) := by decide +kernel
theorem dX8_count_223 : decode cX8_count 223 = .ok (.getfield 10, 3) := by decide +kernel
theorem dX8_count_226 : decode cX8_count 226 = .ok (.getfield 78, 3) := by decide +kernel
theorem dX8_count_229 : decode cX8_count 229 = .ok (.getfield 82, 3) := by decide +kernel
theorem dX8_count_232 : decode cX8_count 232 = .ok (.ireturn, 1) := by decide +kernel
theorem dX8_count_233 : decode cX8_count 233 = .ok (.aload_n 0, 1) := by decide +kernel
theorem dX8_count_234 : decode cX8_count 234 = .ok (.getfield 10, 3) := by decide +kernel
theorem dX8_count_237 : decode cX8_count 237 = .ok (.getfield 277, 3) := by decide +kernel
theorem dX8_count_240 : decode cX8_count 240 = .ok (.invokevirtual 368, 3) := by decide +kernel
theorem dX8_count_243 : decode cX8_count 243 = .ok (.ireturn, 1) := by decide +kernel
theorem dX8_count_244 : decode cX8_count 244 = .ok (.aload_n 0, 1) := by decide +kernel
theorem dX8_count_245 : decode cX8_count 245 = .ok (.getfield 10, 3) := by decide +kernel
theorem dX8_count_248 : decode cX8_count 248 = .ok (.getfield 277, 3) := by decide +kernel
theorem dX8_count_251 : decode cX8_count 251 = .ok (.getfield 371, 3) := by decide +kernel
theorem dX8_count_254 : decode cX8_count 254 = .ok (.invokestatic 374, 3) := by decide +kernel
theorem dX8_count_257 : decode cX8_count 257 = .ok (.ireturn, 1) := by decide +kernel
theorem dX8_count_258 : decode cX8_count 258 = .ok (.aload_n 0, 1) := by decide +kernel
theorem dX8_count_259 : decode cX8_count 259 = .ok (.getfield 10, 3) := by decide +kernel
theorem dX8_count_262 : decode cX8_count 262 = .ok (.getfield 379, 3) := by decide +kernel
theorem dX8_count_265 : decode cX8_count 265 = .ok (.ireturn, 1) := by decide +kernel
theorem dX8_count_266 : decode cX8_count 266 = .ok (.aload_n 0, 1) := by decide +kernel
theorem dX8_count_267 : decode cX8_count 267 = .ok (.getfield 30, 3) := by decide +kernel
theorem dX8_count_270 : decode cX8_count 270 = .ok (.ireturn, 1) := by decide +kernel
theorem dX8_setting_0 : decode cX8_setting 0 = .ok (.iload_n 1, 1) := by decide +kernel
theorem dX8_setting_1 : decode cX8_setting 1 = .ok (.invokestatic 216, 3) := by decide +kernel
theorem dX8_setting_4 : decode cX8_setting 4 = .ok (.ifCond .ne 13, 3) := by decide +kernel
theorem dX8_setting_7 : decode cX8_setting 7 = .ok (.new 97, 3) := by decide +kernel
theorem dX8_setting_10 : decode cX8_setting 10 = .ok (.dup, 1) := by decide +kernel
theorem dX8_setting_11 : decode cX8_setting 11 = .ok (.ldc 219, 2) := by decide +kernel
theorem dX8_setting_13 : decode cX8_setting 13 = .ok (.invokespecial 101, 3) := by decide +kernel
theorem dX8_setting_16 : decode cX8_setting 16 = .ok (.athrow, 1) := by decide +kernel
theorem dX8_setting_17 : decode cX8_setting 17 = .ok (.aload_n 0, 1) := by decide +kernel
theorem dX8_setting_18 : decode cX8_setting 18 = .ok (.getfield 10, 3) := by decide +kernel
theorem dX8_setting_21 : decode cX8_setting 21 = .ok (.iload_n 1, 1) := by decide +kernel
theorem dX8_setting_22 : decode cX8_setting 22 = .ok (.invokevirtual 112, 3) := by decide +kernel
theorem dX8_setting_25 : decode cX8_setting 25 = .ok (.ireturn, 1) := by decide +kernel
theorem dX8_why_0 : decode cX8_why 0 = .ok (.iload_n 1, 1) := by decide +kernel
theorem dX8_why_1 : decode cX8_why 1 = .ok (.iconst 1, 1) := by decide +kernel
theorem dX8_why_2 : decode cX8_why 2 = .ok (.iconst 3, 1) := by decide +kernel
theorem dX8_why_3 : decode cX8_why 3 = .ok (.invokestatic 69, 3) := by decide +kernel
theorem dX8_why_6 : decode cX8_why 6 = .ok (.ifCond .ne 14, 3) := by decide +kernel
theorem dX8_why_9 : decode cX8_why 9 = .ok (.new 73, 3) := by decide +kernel
theorem dX8_why_12 : decode cX8_why 12 = .ok (.dup, 1) := by decide +kernel
theorem dX8_why_13 : decode cX8_why 13 = .ok (.ldc_w 382, 3) := by decide +kernel
theorem dX8_why_16 : decode cX8_why 16 = .ok (.invokespecial 77, 3) := by decide +kernel
theorem dX8_why_19 : decode cX8_why 19 = .ok (.athrow, 1) := by decide +kernel
theorem dX8_why_20 : decode cX8_why 20 = .ok (.iload_n 1, 1) := by decide +kernel
theorem dX8_why_21 : decode cX8_why 21 = .ok (.iload_n 2, 1) := by decide +kernel
theorem dX8_why_22 : decode cX8_why 22 = .ok (.invokestatic 384, 3) := by decide +kernel
theorem dX8_why_25 : decode cX8_why 25 = .ok (.ifCond .ne 14, 3) := by decide +kernel
theorem dX8_why_28 : decode cX8_why 28 = .ok (.new 97, 3) := by decide +kernel
theorem dX8_why_31 : decode cX8_why 31 = .ok (.dup, 1) := by decide +kernel
theorem dX8_why_32 : decode cX8_why 32 = .ok (.ldc_w 388, 3) := by decide +kernel
theorem dX8_why_35 : decode cX8_why 35 = .ok (.invokespecial 101, 3) := by decide +kernel
theorem dX8_why_38 : decode cX8_why 38 = .ok (.athrow, 1) := by decide +kernel
theorem dX8_why_39 : decode cX8_why 39 = .ok (.aload_n 0, 1) := by decide +kernel
theorem dX8_why_40 : decode cX8_why 40 = .ok (.getfield 10, 3) := by decide +kernel
theorem dX8_why_43 : decode cX8_why 43 = .ok (.iload_n 1, 1) := by decide +kernel
theorem dX8_why_44 : decode cX8_why 44 = .ok (.iload_n 2, 1) := by decide +kernel
theorem dX8_why_45 : decode cX8_why 45 = .ok (.invokevirtual 102, 3) := by decide +kernel
theorem dX8_why_48 : decode cX8_why 48 = .ok (.ireturn, 1) := by decide +kernel
theorem dX8_misses_0 : decode cX8_misses 0 = .ok (.iload_n 1, 1) := by decide +kernel
theorem dX8_misses_1 : decode cX8_misses 1 = .ok (.invokestatic 93, 3) := by decide +kernel
theorem dX8_misses_4 : decode cX8_misses 4 = .ok (.ifCond .ne 13, 3) := by decide +kernel
theorem dX8_misses_7 : decode cX8_misses 7 = .ok (.new 97, 3) := by decide +kernel
theorem dX8_misses_10 : decode cX8_misses 10 = .ok (.dup, 1) := by decide +kernel
theorem dX8_misses_11 : decode cX8_misses 11 = .ok (.ldc 99, 2) := by decide +kernel
theorem dX8_misses_13 : decode cX8_misses 13 = .ok (.invokespecial 101, 3) := by decide +kernel
theorem dX8_misses_16 : decode cX8_misses 16 = .ok (.athrow, 1) := by decide +kernel
theorem dX8_misses_17 : decode cX8_misses 17 = .ok (.aload_n 0, 1) := by decide +kernel
theorem dX8_misses_18 : decode cX8_misses 18 = .ok (.getfield 10, 3) := by decide +kernel
theorem dX8_misses_21 : decode cX8_misses 21 = .ok (.iload_n 1, 1) := by decide +kernel
theorem dX8_misses_22 : decode cX8_misses 22 = .ok (.invokevirtual 390, 3) := by decide +kernel
theorem dX8_misses_25 : decode cX8_misses 25 = .ok (.ireturn, 1) := by decide +kernel
theorem dX8_fits_0 : decode cX8_fits 0 = .ok (.iconst 0, 1) := by decide +kernel
theorem dX8_fits_1 : decode cX8_fits 1 = .ok (.istore_n 1, 1) := by decide +kernel
theorem dX8_fits_2 : decode cX8_fits 2 = .ok (.iload_n 1, 1) := by decide +kernel
theorem dX8_fits_3 : decode cX8_fits 3 = .ok (.sipush 256, 3) := by decide +kernel
theorem dX8_fits_6 : decode cX8_fits 6 = .ok (.if_icmp .ge 39, 3) := by decide +kernel
theorem dX8_fits_9 : decode cX8_fits 9 = .ok (.aload_n 0, 1) := by decide +kernel
theorem dX8_fits_10 : decode cX8_fits 10 = .ok (.getfield 10, 3) := by decide +kernel
theorem dX8_fits_13 : decode cX8_fits 13 = .ok (.getfield 147, 3) := by decide +kernel
theorem dX8_fits_16 : decode cX8_fits 16 = .ok (.iload_n 1, 1) := by decide +kernel
theorem dX8_fits_17 : decode cX8_fits 17 = .ok (.bipush 32, 2) := by decide +kernel
theorem dX8_fits_19 : decode cX8_fits 19 = .ok (.idiv, 1) := by decide +kernel
theorem dX8_fits_20 : decode cX8_fits 20 = .ok (.invokevirtual 302, 3) := by decide +kernel
theorem dX8_fits_23 : decode cX8_fits 23 = .ok (.ifCond .ne 16, 3) := by decide +kernel
theorem dX8_fits_26 : decode cX8_fits 26 = .ok (.aload_n 0, 1) := by decide +kernel
theorem dX8_fits_27 : decode cX8_fits 27 = .ok (.getfield 10, 3) := by decide +kernel
theorem dX8_fits_30 : decode cX8_fits 30 = .ok (.iload_n 1, 1) := by decide +kernel
theorem dX8_fits_31 : decode cX8_fits 31 = .ok (.invokevirtual 390, 3) := by decide +kernel
theorem dX8_fits_34 : decode cX8_fits 34 = .ok (.ifCond .ne 5, 3) := by decide +kernel
theorem dX8_fits_37 : decode cX8_fits 37 = .ok (.iload_n 1, 1) := by decide +kernel
theorem dX8_fits_38 : decode cX8_fits 38 = .ok (.ireturn, 1) := by decide +kernel
theorem dX8_fits_39 : decode cX8_fits 39 = .ok (.iinc 1 1, 3) := by decide +kernel
theorem dX8_fits_42 : decode cX8_fits 42 = .ok (.goto (-40), 3) := by decide +kernel
theorem dX8_fits_45 : decode cX8_fits 45 = .ok (.iconst (-1), 1) := by decide +kernel
theorem dX8_fits_46 : decode cX8_fits 46 = .ok (.ireturn, 1) := by decide +kernel
theorem dX8_freeIn_0 : decode cX8_freeIn 0 = .ok (.aload_n 0, 1) := by decide +kernel
theorem dX8_freeIn_1 : decode cX8_freeIn 1 = .ok (.getfield 16, 3) := by decide +kernel
theorem dX8_freeIn_4 : decode cX8_freeIn 4 = .ok (.aload_n 0, 1) := by decide +kernel
theorem dX8_freeIn_5 : decode cX8_freeIn 5 = .ok (.getfield 10, 3) := by decide +kernel
theorem dX8_freeIn_8 : decode cX8_freeIn 8 = .ok (.invokevirtual 261, 3) := by decide +kernel
theorem dX8_freeIn_11 : decode cX8_freeIn 11 = .ok (.iconst 0, 1) := by decide +kernel
theorem dX8_freeIn_12 : decode cX8_freeIn 12 = .ok (.istore_n 1, 1) := by decide +kernel
theorem dX8_freeIn_13 : decode cX8_freeIn 13 = .ok (.iload_n 1, 1) := by decide +kernel
theorem dX8_freeIn_14 : decode cX8_freeIn 14 = .ok (.sipush 1000, 3) := by decide +kernel
theorem dX8_freeIn_17 : decode cX8_freeIn 17 = .ok (.if_icmp .gt 33, 3) := by decide +kernel
theorem dX8_freeIn_20 : decode cX8_freeIn 20 = .ok (.aload_n 0, 1) := by decide +kernel
theorem dX8_freeIn_21 : decode cX8_freeIn 21 = .ok (.getfield 16, 3) := by decide +kernel
theorem dX8_freeIn_24 : decode cX8_freeIn 24 = .ok (.invokevirtual 393, 3) := by decide +kernel
theorem dX8_freeIn_27 : decode cX8_freeIn 27 = .ok (.ifCond .eq 5, 3) := by decide +kernel
theorem dX8_freeIn_30 : decode cX8_freeIn 30 = .ok (.iload_n 1, 1) := by decide +kernel
theorem dX8_freeIn_31 : decode cX8_freeIn 31 = .ok (.ireturn, 1) := by decide +kernel
theorem dX8_freeIn_32 : decode cX8_freeIn 32 = .ok (.aload_n 0, 1) := by decide +kernel
theorem dX8_freeIn_33 : decode cX8_freeIn 33 = .ok (.getfield 16, 3) := by decide +kernel
theorem dX8_freeIn_36 : decode cX8_freeIn 36 = .ok (.invokevirtual 213, 3) := by decide +kernel
theorem dX8_freeIn_39 : decode cX8_freeIn 39 = .ok (.ifCond .ne 5, 3) := by decide +kernel
theorem dX8_freeIn_42 : decode cX8_freeIn 42 = .ok (.iconst (-1), 1) := by decide +kernel
theorem dX8_freeIn_43 : decode cX8_freeIn 43 = .ok (.ireturn, 1) := by decide +kernel
theorem dX8_freeIn_44 : decode cX8_freeIn 44 = .ok (.iinc 1 1, 3) := by decide +kernel
theorem dX8_freeIn_47 : decode cX8_freeIn 47 = .ok (.goto (-34), 3) := by decide +kernel
theorem dX8_freeIn_50 : decode cX8_freeIn 50 = .ok (.iconst (-1), 1) := by decide +kernel
theorem dX8_freeIn_51 : decode cX8_freeIn 51 = .ok (.ireturn, 1) := by decide +kernel
theorem dX8_leastWorn_0 : decode cX8_leastWorn 0 = .ok (.iconst (-1), 1) := by decide +kernel
theorem dX8_leastWorn_1 : decode cX8_leastWorn 1 = .ok (.istore_n 1, 1) := by decide +kernel
theorem dX8_leastWorn_2 : decode cX8_leastWorn 2 = .ok (.iconst 0, 1) := by decide +kernel
theorem dX8_leastWorn_3 : decode cX8_leastWorn 3 = .ok (.istore_n 2, 1) := by decide +kernel
theorem dX8_leastWorn_4 : decode cX8_leastWorn 4 = .ok (.iload_n 2, 1) := by decide +kernel
theorem dX8_leastWorn_5 : decode cX8_leastWorn 5 = .ok (.bipush 8, 2) := by decide +kernel
theorem dX8_leastWorn_7 : decode cX8_leastWorn 7 = .ok (.if_icmp .ge 61, 3) := by decide +kernel
theorem dX8_leastWorn_10 : decode cX8_leastWorn 10 = .ok (.aload_n 0, 1) := by decide +kernel
theorem dX8_leastWorn_11 : decode cX8_leastWorn 11 = .ok (.getfield 10, 3) := by decide +kernel
theorem dX8_leastWorn_14 : decode cX8_leastWorn 14 = .ok (.getfield 147, 3) := by decide +kernel
theorem dX8_leastWorn_17 : decode cX8_leastWorn 17 = .ok (.iload_n 2, 1) := by decide +kernel
theorem dX8_leastWorn_18 : decode cX8_leastWorn 18 = .ok (.invokevirtual 302, 3) := by decide +kernel
theorem dX8_leastWorn_21 : decode cX8_leastWorn 21 = .ok (.ifCond .ne 41, 3) := by decide +kernel
theorem dX8_leastWorn_24 : decode cX8_leastWorn 24 = .ok (.iload_n 1, 1) := by decide +kernel
theorem dX8_leastWorn_25 : decode cX8_leastWorn 25 = .ok (.iconst (-1), 1) := by decide +kernel
theorem dX8_leastWorn_26 : decode cX8_leastWorn 26 = .ok (.if_icmp .eq 34, 3) := by decide +kernel
theorem dX8_leastWorn_29 : decode cX8_leastWorn 29 = .ok (.aload_n 0, 1) := by decide +kernel
theorem dX8_leastWorn_30 : decode cX8_leastWorn 30 = .ok (.getfield 10, 3) := by decide +kernel
theorem dX8_leastWorn_33 : decode cX8_leastWorn 33 = .ok (.getfield 277, 3) := by decide +kernel
theorem dX8_leastWorn_36 : decode cX8_leastWorn 36 = .ok (.getfield 299, 3) := by decide +kernel
theorem dX8_leastWorn_39 : decode cX8_leastWorn 39 = .ok (.iload_n 2, 1) := by decide +kernel
theorem dX8_leastWorn_40 : decode cX8_leastWorn 40 = .ok (.invokestatic 224, 3) := by decide +kernel
theorem dX8_leastWorn_43 : decode cX8_leastWorn 43 = .ok (.aload_n 0, 1) := by decide +kernel
theorem dX8_leastWorn_44 : decode cX8_leastWorn 44 = .ok (.getfield 10, 3) := by decide +kernel
theorem dX8_leastWorn_47 : decode cX8_leastWorn 47 = .ok (.getfield 277, 3) := by decide +kernel
theorem dX8_leastWorn_50 : decode cX8_leastWorn 50 = .ok (.getfield 299, 3) := by decide +kernel
theorem dX8_leastWorn_53 : decode cX8_leastWorn 53 = .ok (.iload_n 1, 1) := by decide +kernel
theorem dX8_leastWorn_54 : decode cX8_leastWorn 54 = .ok (.invokestatic 224, 3) := by decide +kernel
theorem dX8_leastWorn_57 : decode cX8_leastWorn 57 = .ok (.if_icmp .ge 5, 3) := by decide +kernel
theorem dX8_leastWorn_60 : decode cX8_leastWorn 60 = .ok (.iload_n 2, 1) := by decide +kernel
theorem dX8_leastWorn_61 : decode cX8_leastWorn 61 = .ok (.istore_n 1, 1) := by decide +kernel
theorem dX8_leastWorn_62 : decode cX8_leastWorn 62 = .ok (.iinc 2 1, 3) := by decide +kernel
theorem dX8_leastWorn_65 : decode cX8_leastWorn 65 = .ok (.goto (-61), 3) := by decide +kernel
theorem dX8_leastWorn_68 : decode cX8_leastWorn 68 = .ok (.iload_n 1, 1) := by decide +kernel
theorem dX8_leastWorn_69 : decode cX8_leastWorn 69 = .ok (.ireturn, 1) := by decide +kernel
theorem dX8_onesShare_0 : decode cX8_onesShare 0 = .ok (.aload_n 0, 1) := by decide +kernel
theorem dX8_onesShare_1 : decode cX8_onesShare 1 = .ok (.getfield 10, 3) := by decide +kernel
theorem dX8_onesShare_4 : decode cX8_onesShare 4 = .ok (.getfield 277, 3) := by decide +kernel
theorem dX8_onesShare_7 : decode cX8_onesShare 7 = .ok (.iconst 0, 1) := by decide +kernel
theorem dX8_onesShare_8 : decode cX8_onesShare 8 = .ok (.sipush 256, 3) := by decide +kernel
theorem dX8_onesShare_11 : decode cX8_onesShare 11 = .ok (.invokevirtual 305, 3) := by decide +kernel
theorem dX8_onesShare_14 : decode cX8_onesShare 14 = .ok (.i2d, 1) := by decide +kernel
theorem dX8_onesShare_15 : decode cX8_onesShare 15 = .ok (.ldc2_w 402, 3) := by decide +kernel
theorem dX8_onesShare_18 : decode cX8_onesShare 18 = .ok (.ddiv, 1) := by decide +kernel
theorem dX8_onesShare_19 : decode cX8_onesShare 19 = .ok (.dreturn, 1) := by decide +kernel
theorem dX8_meanWear_0 : decode cX8_meanWear 0 = .ok (.aload_n 0, 1) := by decide +kernel
theorem dX8_meanWear_1 : decode cX8_meanWear 1 = .ok (.getfield 10, 3) := by decide +kernel
theorem dX8_meanWear_4 : decode cX8_meanWear 4 = .ok (.getfield 277, 3) := by decide +kernel
theorem dX8_meanWear_7 : decode cX8_meanWear 7 = .ok (.invokevirtual 356, 3) := by decide +kernel
theorem dX8_meanWear_10 : decode cX8_meanWear 10 = .ok (.i2f, 1) := by decide +kernel
theorem dX8_meanWear_11 : decode cX8_meanWear 11 = .ok (.ldc_w 404, 3) := by decide +kernel
theorem dX8_meanWear_14 : decode cX8_meanWear 14 = .ok (.fdiv, 1) := by decide +kernel
theorem dX8_meanWear_15 : decode cX8_meanWear 15 = .ok (.freturn, 1) := by decide +kernel
theorem dX8_save_0 : decode cX8_save 0 = .ok (.aload_n 0, 1) := by decide +kernel
theorem dX8_save_1 : decode cX8_save 1 = .ok (.getfield 30, 3) := by decide +kernel
theorem dX8_save_4 : decode cX8_save 4 = .ok (.bipush 6, 2) := by decide +kernel
theorem dX8_save_6 : decode cX8_save 6 = .ok (.if_icmp .lt 7, 3) := by decide +kernel
theorem dX8_save_9 : decode cX8_save 9 = .ok (.aload_n 0, 1) := by decide +kernel
theorem dX8_save_10 : decode cX8_save 10 = .ok (.invokevirtual 469, 3) := by decide +kernel
theorem dX8_save_13 : decode cX8_save 13 = .ok (.aload_n 0, 1) := by decide +kernel
theorem dX8_save_14 : decode cX8_save 14 = .ok (.getfield 30, 3) := by decide +kernel
theorem dX8_save_17 : decode cX8_save 17 = .ok (.iconst 0, 1) := by decide +kernel
theorem dX8_save_18 : decode cX8_save 18 = .ok (.aload_n 0, 1) := by decide +kernel
theorem dX8_save_19 : decode cX8_save 19 = .ok (.getfield 26, 3) := by decide +kernel
theorem dX8_save_22 : decode cX8_save 22 = .ok (.arraylength, 1) := by decide +kernel
theorem dX8_save_23 : decode cX8_save 23 = .ok (.iconst 1, 1) := by decide +kernel
theorem dX8_save_24 : decode cX8_save 24 = .ok (.isub, 1) := by decide +kernel
theorem dX8_save_25 : decode cX8_save 25 = .ok (.invokestatic 69, 3) := by decide +kernel
theorem dX8_save_28 : decode cX8_save 28 = .ok (.ifCond .eq 15, 3) := by decide +kernel
theorem dX8_save_31 : decode cX8_save 31 = .ok (.aload_n 0, 1) := by decide +kernel
theorem dX8_save_32 : decode cX8_save 32 = .ok (.getfield 26, 3) := by decide +kernel
theorem dX8_save_35 : decode cX8_save 35 = .ok (.aload_n 0, 1) := by decide +kernel
theorem dX8_save_36 : decode cX8_save 36 = .ok (.getfield 30, 3) := by decide +kernel
theorem dX8_save_39 : decode cX8_save 39 = .ok (.aaload, 1) := by decide +kernel
theorem dX8_save_40 : decode cX8_save 40 = .ok (.goto 4, 3) := by decide +kernel
theorem dX8_save_43 : decode cX8_save 43 = .ok (.aconst_null, 1) := by decide +kernel
theorem dX8_save_44 : decode cX8_save 44 = .ok (.astore_n 1, 1) := by decide +kernel
theorem dX8_save_45 : decode cX8_save 45 = .ok (.aload_n 1, 1) := by decide +kernel
theorem dX8_save_46 : decode cX8_save 46 = .ok (.ifnull 21, 3) := by decide +kernel
theorem dX8_save_49 : decode cX8_save 49 = .ok (.aload_n 1, 1) := by decide +kernel
theorem dX8_save_50 : decode cX8_save 50 = .ok (.aload_n 0, 1) := by decide +kernel
theorem dX8_save_51 : decode cX8_save 51 = .ok (.getfield 10, 3) := by decide +kernel
theorem dX8_save_54 : decode cX8_save 54 = .ok (.invokevirtual 261, 3) := by decide +kernel
theorem dX8_save_57 : decode cX8_save 57 = .ok (.aload_n 0, 1) := by decide +kernel
theorem dX8_save_58 : decode cX8_save 58 = .ok (.dup, 1) := by decide +kernel
theorem dX8_save_59 : decode cX8_save 59 = .ok (.getfield 30, 3) := by decide +kernel
theorem dX8_save_62 : decode cX8_save 62 = .ok (.iconst 1, 1) := by decide +kernel
theorem dX8_save_63 : decode cX8_save 63 = .ok (.iadd, 1) := by decide +kernel
theorem dX8_save_64 : decode cX8_save 64 = .ok (.putfield 30, 3) := by decide +kernel
theorem dX8_save_67 : decode cX8_save 67 = .ok (.return_, 1) := by decide +kernel
theorem dX8_dropOldest_0 : decode cX8_dropOldest 0 = .ok (.iconst 0, 1) := by decide +kernel
theorem dX8_dropOldest_1 : decode cX8_dropOldest 1 = .ok (.istore_n 1, 1) := by decide +kernel
theorem dX8_dropOldest_2 : decode cX8_dropOldest 2 = .ok (.iload_n 1, 1) := by decide +kernel
theorem dX8_dropOldest_3 : decode cX8_dropOldest 3 = .ok (.iconst 1, 1) := by decide +kernel
theorem dX8_dropOldest_4 : decode cX8_dropOldest 4 = .ok (.iadd, 1) := by decide +kernel
theorem dX8_dropOldest_5 : decode cX8_dropOldest 5 = .ok (.aload_n 0, 1) := by decide +kernel
theorem dX8_dropOldest_6 : decode cX8_dropOldest 6 = .ok (.getfield 26, 3) := by decide +kernel
theorem dX8_dropOldest_9 : decode cX8_dropOldest 9 = .ok (.arraylength, 1) := by decide +kernel
theorem dX8_dropOldest_10 : decode cX8_dropOldest 10 = .ok (.if_icmp .ge 39, 3) := by decide +kernel
theorem dX8_dropOldest_13 : decode cX8_dropOldest 13 = .ok (.aload_n 0, 1) := by decide +kernel
theorem dX8_dropOldest_14 : decode cX8_dropOldest 14 = .ok (.getfield 26, 3) := by decide +kernel
theorem dX8_dropOldest_17 : decode cX8_dropOldest 17 = .ok (.iload_n 1, 1) := by decide +kernel
theorem dX8_dropOldest_18 : decode cX8_dropOldest 18 = .ok (.aaload, 1) := by decide +kernel
theorem dX8_dropOldest_19 : decode cX8_dropOldest 19 = .ok (.astore_n 2, 1) := by decide +kernel
theorem dX8_dropOldest_20 : decode cX8_dropOldest 20 = .ok (.aload_n 0, 1) := by decide +kernel
theorem dX8_dropOldest_21 : decode cX8_dropOldest 21 = .ok (.getfield 26, 3) := by decide +kernel
theorem dX8_dropOldest_24 : decode cX8_dropOldest 24 = .ok (.iload_n 1, 1) := by decide +kernel
theorem dX8_dropOldest_25 : decode cX8_dropOldest 25 = .ok (.aload_n 0, 1) := by decide +kernel
theorem dX8_dropOldest_26 : decode cX8_dropOldest 26 = .ok (.getfield 26, 3) := by decide +kernel
theorem dX8_dropOldest_29 : decode cX8_dropOldest 29 = .ok (.iload_n 1, 1) := by decide +kernel
theorem dX8_dropOldest_30 : decode cX8_dropOldest 30 = .ok (.iconst 1, 1) := by decide +kernel
theorem dX8_dropOldest_31 : decode cX8_dropOldest 31 = .ok (.iadd, 1) := by decide +kernel
theorem dX8_dropOldest_32 : decode cX8_dropOldest 32 = .ok (.aaload, 1) := by decide +kernel
theorem dX8_dropOldest_33 : decode cX8_dropOldest 33 = .ok (.aastore, 1) := by decide +kernel
theorem dX8_dropOldest_34 : decode cX8_dropOldest 34 = .ok (.aload_n 0, 1) := by decide +kernel
theorem dX8_dropOldest_35 : decode cX8_dropOldest 35 = .ok (.getfield 26, 3) := by decide +kernel
theorem dX8_dropOldest_38 : decode cX8_dropOldest 38 = .ok (.iload_n 1, 1) := by decide +kernel
theorem dX8_dropOldest_39 : decode cX8_dropOldest 39 = .ok (.iconst 1, 1) := by decide +kernel
theorem dX8_dropOldest_40 : decode cX8_dropOldest 40 = .ok (.iadd, 1) := by decide +kernel
theorem dX8_dropOldest_41 : decode cX8_dropOldest 41 = .ok (.aload_n 2, 1) := by decide +kernel
theorem dX8_dropOldest_42 : decode cX8_dropOldest 42 = .ok (.aastore, 1) := by decide +kernel
theorem dX8_dropOldest_43 : decode cX8_dropOldest 43 = .ok (.iinc 1 1, 3) := by decide +kernel
theorem dX8_dropOldest_46 : decode cX8_dropOldest 46 = .ok (.goto (-44), 3) := by decide +kernel
theorem dX8_dropOldest_49 : decode cX8_dropOldest 49 = .ok (.aload_n 0, 1) := by decide +kernel
theorem dX8_dropOldest_50 : decode cX8_dropOldest 50 = .ok (.dup, 1) := by decide +kernel
theorem dX8_dropOldest_51 : decode cX8_dropOldest 51 = .ok (.getfield 30, 3) := by decide +kernel
theorem dX8_dropOldest_54 : decode cX8_dropOldest 54 = .ok (.iconst 1, 1) := by decide +kernel
theorem dX8_dropOldest_55 : decode cX8_dropOldest 55 = .ok (.isub, 1) := by decide +kernel
theorem dX8_dropOldest_56 : decode cX8_dropOldest 56 = .ok (.putfield 30, 3) := by decide +kernel
theorem dX8_dropOldest_59 : decode cX8_dropOldest 59 = .ok (.return_, 1) := by decide +kernel
theorem dX8_restore_0 : decode cX8_restore 0 = .ok (.iload_n 1, 1) := by decide +kernel
theorem dX8_restore_1 : decode cX8_restore 1 = .ok (.iconst 0, 1) := by decide +kernel
theorem dX8_restore_2 : decode cX8_restore 2 = .ok (.aload_n 0, 1) := by decide +kernel
theorem dX8_restore_3 : decode cX8_restore 3 = .ok (.getfield 26, 3) := by decide +kernel
theorem dX8_restore_6 : decode cX8_restore 6 = .ok (.arraylength, 1) := by decide +kernel
theorem dX8_restore_7 : decode cX8_restore 7 = .ok (.iconst 1, 1) := by decide +kernel
theorem dX8_restore_8 : decode cX8_restore 8 = .ok (.isub, 1) := by decide +kernel
theorem dX8_restore_9 : decode cX8_restore 9 = .ok (.invokestatic 69, 3) := by decide +kernel
theorem dX8_restore_12 : decode cX8_restore 12 = .ok (.ifCond .eq 12, 3) := by decide +kernel
theorem dX8_restore_15 : decode cX8_restore 15 = .ok (.aload_n 0, 1) := by decide +kernel
theorem dX8_restore_16 : decode cX8_restore 16 = .ok (.getfield 26, 3) := by decide +kernel
theorem dX8_restore_19 : decode cX8_restore 19 = .ok (.iload_n 1, 1) := by decide +kernel
theorem dX8_restore_20 : decode cX8_restore 20 = .ok (.aaload, 1) := by decide +kernel
theorem dX8_restore_21 : decode cX8_restore 21 = .ok (.goto 4, 3) := by decide +kernel
theorem dX8_restore_24 : decode cX8_restore 24 = .ok (.aconst_null, 1) := by decide +kernel
theorem dX8_restore_25 : decode cX8_restore 25 = .ok (.astore_n 2, 1) := by decide +kernel
theorem dX8_restore_26 : decode cX8_restore 26 = .ok (.aload_n 2, 1) := by decide +kernel
theorem dX8_restore_27 : decode cX8_restore 27 = .ok (.ifnull 11, 3) := by decide +kernel
theorem dX8_restore_30 : decode cX8_restore 30 = .ok (.aload_n 0, 1) := by decide +kernel
theorem dX8_restore_31 : decode cX8_restore 31 = .ok (.getfield 10, 3) := by decide +kernel
theorem dX8_restore_34 : decode cX8_restore 34 = .ok (.aload_n 2, 1) := by decide +kernel
theorem dX8_restore_35 : decode cX8_restore 35 = .ok (.invokevirtual 261, 3) := by decide +kernel
theorem dX8_restore_38 : decode cX8_restore 38 = .ok (.return_, 1) := by decide +kernel
theorem dX8_doPart_0 : decode cX8_doPart 0 = .ok (.aload_n 0, 1) := by decide +kernel
theorem dX8_doPart_1 : decode cX8_doPart 1 = .ok (.getfield 44, 3) := by decide +kernel
theorem dX8_doPart_4 : decode cX8_doPart 4 = .ok (.getfield 472, 3) := by decide +kernel
theorem dX8_doPart_7 : decode cX8_doPart 7 = .ok (.bipush 116, 2) := by decide +kernel
theorem dX8_doPart_9 : decode cX8_doPart 9 = .ok (.if_icmp .ne 32, 3) := by decide +kernel
theorem dX8_doPart_12 : decode cX8_doPart 12 = .ok (.iconst 0, 1) := by decide +kernel
theorem dX8_doPart_13 : decode cX8_doPart 13 = .ok (.istore_n 1, 1) := by decide +kernel
theorem dX8_doPart_14 : decode cX8_doPart 14 = .ok (.iload_n 1, 1) := by decide +kernel
theorem dX8_doPart_15 : decode cX8_doPart 15 = .ok (.aload_n 0, 1) := by decide +kernel
theorem dX8_doPart_16 : decode cX8_doPart 16 = .ok (.getfield 44, 3) := by decide +kernel
theorem dX8_doPart_19 : decode cX8_doPart 19 = .ok (.getfield 476, 3) := by decide +kernel
theorem dX8_doPart_22 : decode cX8_doPart 22 = .ok (.if_icmp .ge 17, 3) := by decide +kernel
theorem dX8_doPart_25 : decode cX8_doPart 25 = .ok (.aload_n 0, 1) := by decide +kernel
theorem dX8_doPart_26 : decode cX8_doPart 26 = .ok (.getfield 10, 3) := by decide +kernel
theorem dX8_doPart_29 : decode cX8_doPart 29 = .ok (.invokevirtual 213, 3) := by decide +kernel
theorem dX8_doPart_32 : decode cX8_doPart 32 = .ok (.pop, 1) := by decide +kernel
theorem dX8_doPart_33 : decode cX8_doPart 33 = .ok (.iinc 1 1, 3) := by decide +kernel
theorem dX8_doPart_36 : decode cX8_doPart 36 = .ok (.goto (-22), 3) := by decide +kernel
theorem dX8_doPart_39 : decode cX8_doPart 39 = .ok (.iconst 1, 1) := by decide +kernel
theorem dX8_doPart_40 : decode cX8_doPart 40 = .ok (.ireturn, 1) := by decide +kernel
theorem dX8_doPart_41 : decode cX8_doPart 41 = .ok (.aload_n 0, 1) := by decide +kernel
theorem dX8_doPart_42 : decode cX8_doPart 42 = .ok (.getfield 10, 3) := by decide +kernel
theorem dX8_doPart_45 : decode cX8_doPart 45 = .ok (.getfield 180, 3) := by decide +kernel
theorem dX8_doPart_48 : decode cX8_doPart 48 = .ok (.invokevirtual 184, 3) := by decide +kernel
theorem dX8_doPart_51 : decode cX8_doPart 51 = .ok (.ifCond .eq 5, 3) := by decide +kernel
theorem dX8_doPart_54 : decode cX8_doPart 54 = .ok (.iconst 0, 1) := by decide +kernel
theorem dX8_doPart_55 : decode cX8_doPart 55 = .ok (.ireturn, 1) := by decide +kernel
theorem dX8_doPart_56 : decode cX8_doPart 56 = .ok (.aload_n 0, 1) := by decide +kernel
theorem dX8_doPart_57 : decode cX8_doPart 57 = .ok (.getfield 44, 3) := by decide +kernel
theorem dX8_doPart_60 : decode cX8_doPart 60 = .ok (.getfield 472, 3) := by decide +kernel
theorem dX8_doPart_63 : decode cX8_doPart 63 = .ok (.bipush 101, 2) := by decide +kernel
theorem dX8_doPart_65 : decode cX8_doPart 65 = .ok (.if_icmp .ne 39, 3) := by decide +kernel
theorem dX8_doPart_68 : decode cX8_doPart 68 = .ok (.aload_n 0, 1) := by decide +kernel
theorem dX8_doPart_69 : decode cX8_doPart 69 = .ok (.getfield 10, 3) := by decide +kernel
theorem dX8_doPart_72 : decode cX8_doPart 72 = .ok (.getfield 180, 3) := by decide +kernel
theorem dX8_doPart_75 : decode cX8_doPart 75 = .ok (.iconst 2, 1) := by decide +kernel
theorem dX8_doPart_76 : decode cX8_doPart 76 = .ok (.aload_n 0, 1) := by decide +kernel
theorem dX8_doPart_77 : decode cX8_doPart 77 = .ok (.getfield 44, 3) := by decide +kernel
theorem dX8_doPart_80 : decode cX8_doPart 80 = .ok (.getfield 476, 3) := by decide +kernel
theorem dX8_doPart_83 : decode cX8_doPart 83 = .ok (.aload_n 0, 1) := by decide +kernel
theorem dX8_doPart_84 : decode cX8_doPart 84 = .ok (.getfield 44, 3) := by decide +kernel
theorem dX8_doPart_87 : decode cX8_doPart 87 = .ok (.getfield 477, 3) := by decide +kernel
theorem dX8_doPart_90 : decode cX8_doPart 90 = .ok (.aload_n 0, 1) := by decide +kernel
theorem dX8_doPart_91 : decode cX8_doPart 91 = .ok (.getfield 10, 3) := by decide +kernel
theorem dX8_doPart_94 : decode cX8_doPart 94 = .ok (.getfield 191, 3) := by decide +kernel
theorem dX8_doPart_97 : decode cX8_doPart 97 = .ok (.invokevirtual 194, 3) := by decide +kernel
theorem dX8_doPart_100 : decode cX8_doPart 100 = .ok (.pop, 1) := by decide +kernel
theorem dX8_doPart_101 : decode cX8_doPart 101 = .ok (.goto 42, 3) := by decide +kernel
theorem dX8_doPart_104 : decode cX8_doPart 104 = .ok (.aload_n 0, 1) := by decide +kernel
theorem dX8_doPart_105 : decode cX8_doPart 105 = .ok (.getfield 10, 3) := by decide +kernel
theorem dX8_doPart_108 : decode cX8_doPart 108 = .ok (.getfield 180, 3) := by decide +kernel
theorem dX8_doPart_111 : decode cX8_doPart 111 = .ok (.aload_n 0, 1) := by decide +kernel
theorem dX8_doPart_112 : decode cX8_doPart 112 = .ok (.getfield 44, 3) := by decide +kernel
theorem dX8_doPart_115 : decode cX8_doPart 115 = .ok (.getfield 476, 3) := by decide +kernel
theorem dX8_doPart_118 : decode cX8_doPart 118 = .ok (.aload_n 0, 1) := by decide +kernel
theorem dX8_doPart_119 : decode cX8_doPart 119 = .ok (.getfield 44, 3) := by decide +kernel
theorem dX8_doPart_122 : decode cX8_doPart 122 = .ok (.getfield 477, 3) := by decide +kernel
theorem dX8_doPart_125 : decode cX8_doPart 125 = .ok (.aload_n 0, 1) := by decide +kernel
theorem dX8_doPart_126 : decode cX8_doPart 126 = .ok (.getfield 10, 3) := by decide +kernel
theorem dX8_doPart_129 : decode cX8_doPart 129 = .ok (.getfield 191, 3) := by decide +kernel
theorem dX8_doPart_132 : decode cX8_doPart 132 = .ok (.aload_n 0, 1) := by decide +kernel
theorem dX8_doPart_133 : decode cX8_doPart 133 = .ok (.getfield 44, 3) := by decide +kernel
theorem dX8_doPart_136 : decode cX8_doPart 136 = .ok (.getfield 478, 3) := by decide +kernel
theorem dX8_doPart_139 : decode cX8_doPart 139 = .ok (.invokevirtual 198, 3) := by decide +kernel
theorem dX8_doPart_142 : decode cX8_doPart 142 = .ok (.pop, 1) := by decide +kernel
theorem dX8_doPart_143 : decode cX8_doPart 143 = .ok (.iconst 1, 1) := by decide +kernel
theorem dX8_doPart_144 : decode cX8_doPart 144 = .ok (.ireturn, 1) := by decide +kernel
theorem dX8_isWithin_0 : decode cX8_isWithin 0 = .ok (.iload_n 0, 1) := by decide +kernel
theorem dX8_isWithin_1 : decode cX8_isWithin 1 = .ok (.iload_n 1, 1) := by decide +kernel
theorem dX8_isWithin_2 : decode cX8_isWithin 2 = .ok (.if_icmp .lt 12, 3) := by decide +kernel
theorem dX8_isWithin_5 : decode cX8_isWithin 5 = .ok (.iload_n 0, 1) := by decide +kernel
theorem dX8_isWithin_6 : decode cX8_isWithin 6 = .ok (.iload_n 2, 1) := by decide +kernel
theorem dX8_isWithin_7 : decode cX8_isWithin 7 = .ok (.if_icmp .gt 7, 3) := by decide +kernel
theorem dX8_isWithin_10 : decode cX8_isWithin 10 = .ok (.iconst 1, 1) := by decide +kernel
theorem dX8_isWithin_11 : decode cX8_isWithin 11 = .ok (.goto 4, 3) := by decide +kernel
theorem dX8_isWithin_14 : decode cX8_isWithin 14 = .ok (.iconst 0, 1) := by decide +kernel
theorem dX8_isWithin_15 : decode cX8_isWithin 15 = .ok (.ireturn, 1) := by decide +kernel
theorem dX8_isCell_0 : decode cX8_isCell 0 = .ok (.iload_n 0, 1) := by decide +kernel
theorem dX8_isCell_1 : decode cX8_isCell 1 = .ok (.iconst 0, 1) := by decide +kernel
theorem dX8_isCell_2 : decode cX8_isCell 2 = .ok (.sipush 255, 3) := by decide +kernel
theorem dX8_isCell_5 : decode cX8_isCell 5 = .ok (.invokestatic 69, 3) := by decide +kernel
theorem dX8_isCell_8 : decode cX8_isCell 8 = .ok (.ireturn, 1) := by decide +kernel
theorem dX8_isSector_0 : decode cX8_isSector 0 = .ok (.iload_n 0, 1) := by decide +kernel
theorem dX8_isSector_1 : decode cX8_isSector 1 = .ok (.iconst 0, 1) := by decide +kernel
theorem dX8_isSector_2 : decode cX8_isSector 2 = .ok (.bipush 7, 2) := by decide +kernel
theorem dX8_isSector_4 : decode cX8_isSector 4 = .ok (.invokestatic 69, 3) := by decide +kernel
theorem dX8_isSector_7 : decode cX8_isSector 7 = .ok (.ireturn, 1) := by decide +kernel
theorem dX8_isSetting_0 : decode cX8_isSetting 0 = .ok (.iload_n 0, 1) := by decide +kernel
theorem dX8_isSetting_1 : decode cX8_isSetting 1 = .ok (.iconst 0, 1) := by decide +kernel
theorem dX8_isSetting_2 : decode cX8_isSetting 2 = .ok (.getstatic 479, 3) := by decide +kernel
theorem dX8_isSetting_5 : decode cX8_isSetting 5 = .ok (.arraylength, 1) := by decide +kernel
theorem dX8_isSetting_6 : decode cX8_isSetting 6 = .ok (.iconst 1, 1) := by decide +kernel
theorem dX8_isSetting_7 : decode cX8_isSetting 7 = .ok (.isub, 1) := by decide +kernel
theorem dX8_isSetting_8 : decode cX8_isSetting 8 = .ok (.invokestatic 69, 3) := by decide +kernel
theorem dX8_isSetting_11 : decode cX8_isSetting 11 = .ok (.ireturn, 1) := by decide +kernel
theorem dX8_isPlace_0 : decode cX8_isPlace 0 = .ok (.iload_n 0, 1) := by decide +kernel
theorem dX8_isPlace_1 : decode cX8_isPlace 1 = .ok (.iconst 1, 1) := by decide +kernel
theorem dX8_isPlace_2 : decode cX8_isPlace 2 = .ok (.if_icmp .ne 8, 3) := by decide +kernel
theorem dX8_isPlace_5 : decode cX8_isPlace 5 = .ok (.iload_n 1, 1) := by decide +kernel
theorem dX8_isPlace_6 : decode cX8_isPlace 6 = .ok (.invokestatic 93, 3) := by decide +kernel
theorem dX8_isPlace_9 : decode cX8_isPlace 9 = .ok (.ireturn, 1) := by decide +kernel
theorem dX8_isPlace_10 : decode cX8_isPlace 10 = .ok (.iload_n 0, 1) := by decide +kernel
theorem dX8_isPlace_11 : decode cX8_isPlace 11 = .ok (.iconst 2, 1) := by decide +kernel
theorem dX8_isPlace_12 : decode cX8_isPlace 12 = .ok (.if_icmp .ne 10, 3) := by decide +kernel
theorem dX8_isPlace_15 : decode cX8_isPlace 15 = .ok (.iload_n 1, 1) := by decide +kernel
theorem dX8_isPlace_16 : decode cX8_isPlace 16 = .ok (.invokestatic 126, 3) := by decide +kernel
theorem dX8_isPlace_19 : decode cX8_isPlace 19 = .ok (.goto 9, 3) := by decide +kernel
theorem dX8_isPlace_22 : decode cX8_isPlace 22 = .ok (.iload_n 1, 1) := by decide +kernel
theorem dX8_isPlace_23 : decode cX8_isPlace 23 = .ok (.iconst 0, 1) := by decide +kernel
theorem dX8_isPlace_24 : decode cX8_isPlace 24 = .ok (.iconst 4, 1) := by decide +kernel
theorem dX8_isPlace_25 : decode cX8_isPlace 25 = .ok (.invokestatic 69, 3) := by decide +kernel
theorem dX8_isPlace_28 : decode cX8_isPlace 28 = .ok (.ireturn, 1) := by decide +kernel
theorem dX8_sectorOf_0 : decode cX8_sectorOf 0 = .ok (.iload_n 0, 1) := by decide +kernel
theorem dX8_sectorOf_1 : decode cX8_sectorOf 1 = .ok (.iconst 1, 1) := by decide +kernel
theorem dX8_sectorOf_2 : decode cX8_sectorOf 2 = .ok (.if_icmp .ne 10, 3) := by decide +kernel
theorem dX8_sectorOf_5 : decode cX8_sectorOf 5 = .ok (.iload_n 1, 1) := by decide +kernel
theorem dX8_sectorOf_6 : decode cX8_sectorOf 6 = .ok (.bipush 32, 2) := by decide +kernel
theorem dX8_sectorOf_8 : decode cX8_sectorOf 8 = .ok (.idiv, 1) := by decide +kernel
theorem dX8_sectorOf_9 : decode cX8_sectorOf 9 = .ok (.goto 4, 3) := by decide +kernel
theorem dX8_sectorOf_12 : decode cX8_sectorOf 12 = .ok (.iload_n 1, 1) := by decide +kernel
theorem dX8_sectorOf_13 : decode cX8_sectorOf 13 = .ok (.ireturn, 1) := by decide +kernel
theorem dX8_roundPage_0 : decode cX8_roundPage 0 = .ok (.iload_n 0, 1) := by decide +kernel
theorem dX8_roundPage_1 : decode cX8_roundPage 1 = .ok (.bipush 8, 2) := by decide +kernel
theorem dX8_roundPage_3 : decode cX8_roundPage 3 = .ok (.idiv, 1) := by decide +kernel
theorem dX8_roundPage_4 : decode cX8_roundPage 4 = .ok (.bipush 8, 2) := by decide +kernel
theorem dX8_roundPage_6 : decode cX8_roundPage 6 = .ok (.imul, 1) := by decide +kernel
theorem dX8_roundPage_7 : decode cX8_roundPage 7 = .ok (.iload_n 0, 1) := by decide +kernel
theorem dX8_roundPage_8 : decode cX8_roundPage 8 = .ok (.iload_n 1, 1) := by decide +kernel
theorem dX8_roundPage_9 : decode cX8_roundPage 9 = .ok (.iadd, 1) := by decide +kernel
theorem dX8_roundPage_10 : decode cX8_roundPage 10 = .ok (.bipush 8, 2) := by decide +kernel
theorem dX8_roundPage_12 : decode cX8_roundPage 12 = .ok (.irem, 1) := by decide +kernel
theorem dX8_roundPage_13 : decode cX8_roundPage 13 = .ok (.iadd, 1) := by decide +kernel
theorem dX8_roundPage_14 : decode cX8_roundPage 14 = .ok (.ireturn, 1) := by decide +kernel
theorem dX8_at_0 : decode cX8_at 0 = .ok (.iload_n 1, 1) := by decide +kernel
theorem dX8_at_1 : decode cX8_at 1 = .ok (.ifCond .lt 15, 3) := by decide +kernel
theorem dX8_at_4 : decode cX8_at 4 = .ok (.iload_n 1, 1) := by decide +kernel
theorem dX8_at_5 : decode cX8_at 5 = .ok (.aload_n 0, 1) := by decide +kernel
theorem dX8_at_6 : decode cX8_at 6 = .ok (.arraylength, 1) := by decide +kernel
theorem dX8_at_7 : decode cX8_at 7 = .ok (.if_icmp .ge 9, 3) := by decide +kernel
theorem dX8_at_10 : decode cX8_at 10 = .ok (.aload_n 0, 1) := by decide +kernel
theorem dX8_at_11 : decode cX8_at 11 = .ok (.iload_n 1, 1) := by decide +kernel
theorem dX8_at_12 : decode cX8_at 12 = .ok (.iaload, 1) := by decide +kernel
theorem dX8_at_13 : decode cX8_at 13 = .ok (.goto 4, 3) := by decide +kernel
theorem dX8_at_16 : decode cX8_at 16 = .ok (.iconst 0, 1) := by decide +kernel
theorem dX8_at_17 : decode cX8_at 17 = .ok (.ireturn, 1) := by decide +kernel
theorem dX8_put_0 : decode cX8_put 0 = .ok (.iload_n 1, 1) := by decide +kernel
theorem dX8_put_1 : decode cX8_put 1 = .ok (.ifCond .lt 13, 3) := by decide +kernel
theorem dX8_put_4 : decode cX8_put 4 = .ok (.iload_n 1, 1) := by decide +kernel
theorem dX8_put_5 : decode cX8_put 5 = .ok (.aload_n 0, 1) := by decide +kernel
theorem dX8_put_6 : decode cX8_put 6 = .ok (.arraylength, 1) := by decide +kernel
theorem dX8_put_7 : decode cX8_put 7 = .ok (.if_icmp .ge 7, 3) := by decide +kernel
theorem dX8_put_10 : decode cX8_put 10 = .ok (.aload_n 0, 1) := by decide +kernel
theorem dX8_put_11 : decode cX8_put 11 = .ok (.iload_n 1, 1) := by decide +kernel
theorem dX8_put_12 : decode cX8_put 12 = .ok (.iload_n 2, 1) := by decide +kernel
theorem dX8_put_13 : decode cX8_put 13 = .ok (.iastore, 1) := by decide +kernel
theorem dX8_put_14 : decode cX8_put 14 = .ok (.return_, 1) := by decide +kernel
