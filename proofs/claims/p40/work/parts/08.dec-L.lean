theorem dL_lot_0 : decode cL_lot 0 = .ok (.iload_n 1, 1) := by decide +kernel
theorem dL_lot_1 : decode cL_lot 1 = .ok (.aload_n 0, 1) := by decide +kernel
theorem dL_lot_2 : decode cL_lot 2 = .ok (.arraylength, 1) := by decide +kernel
theorem dL_lot_3 : decode cL_lot 3 = .ok (.if_icmp .ge 9, 3) := by decide +kernel
theorem dL_lot_6 : decode cL_lot 6 = .ok (.aload_n 0, 1) := by decide +kernel
theorem dL_lot_7 : decode cL_lot 7 = .ok (.iload_n 1, 1) := by decide +kernel
theorem dL_lot_8 : decode cL_lot 8 = .ok (.iaload, 1) := by decide +kernel
theorem dL_lot_9 : decode cL_lot 9 = .ok (.goto 15, 3) := by decide +kernel
theorem dL_lot_12 : decode cL_lot 12 = .ok (.ldc 7, 2) := by decide +kernel
theorem dL_lot_14 : decode cL_lot 14 = .ok (.iload_n 1, 1) := by decide +kernel
theorem dL_lot_15 : decode cL_lot 15 = .ok (.sipush 4229, 3) := by decide +kernel
theorem dL_lot_18 : decode cL_lot 18 = .ok (.iadd, 1) := by decide +kernel
theorem dL_lot_19 : decode cL_lot 19 = .ok (.imul, 1) := by decide +kernel
theorem dL_lot_20 : decode cL_lot 20 = .ok (.sipush 4001, 3) := by decide +kernel
theorem dL_lot_23 : decode cL_lot 23 = .ok (.iadd, 1) := by decide +kernel
theorem dL_lot_24 : decode cL_lot 24 = .ok (.ireturn, 1) := by decide +kernel
theorem dL_low_0 : decode cL_low 0 = .ok (.iload_n 0, 1) := by decide +kernel
theorem dL_low_1 : decode cL_low 1 = .ok (.ldc 8, 2) := by decide +kernel
theorem dL_low_3 : decode cL_low 3 = .ok (.iand, 1) := by decide +kernel
theorem dL_low_4 : decode cL_low 4 = .ok (.iload_n 1, 1) := by decide +kernel
theorem dL_low_5 : decode cL_low 5 = .ok (.irem, 1) := by decide +kernel
theorem dL_low_6 : decode cL_low 6 = .ok (.ireturn, 1) := by decide +kernel
theorem dL_arm_0 : decode cL_arm 0 = .ok (.aload_n 0, 1) := by decide +kernel
theorem dL_arm_1 : decode cL_arm 1 = .ok (.invokevirtual 9, 3) := by decide +kernel
theorem dL_arm_4 : decode cL_arm 4 = .ok (.ireturn, 1) := by decide +kernel
theorem dL_arm_5 : decode cL_arm 5 = .ok (.astore_n 1, 1) := by decide +kernel
theorem dL_arm_6 : decode cL_arm 6 = .ok (.bipush (-103), 2) := by decide +kernel
theorem dL_arm_8 : decode cL_arm 8 = .ok (.ireturn, 1) := by decide +kernel
theorem dL_load_0 : decode cL_load 0 = .ok (.aload_n 0, 1) := by decide +kernel
theorem dL_load_1 : decode cL_load 1 = .ok (.iload_n 1, 1) := by decide +kernel
theorem dL_load_2 : decode cL_load 2 = .ok (.invokevirtual 17, 3) := by decide +kernel
theorem dL_load_5 : decode cL_load 5 = .ok (.ireturn, 1) := by decide +kernel
theorem dL_load_6 : decode cL_load 6 = .ok (.astore_n 2, 1) := by decide +kernel
theorem dL_load_7 : decode cL_load 7 = .ok (.bipush (-102), 2) := by decide +kernel
theorem dL_load_9 : decode cL_load 9 = .ok (.ireturn, 1) := by decide +kernel
theorem dL_load_10 : decode cL_load 10 = .ok (.astore_n 2, 1) := by decide +kernel
theorem dL_load_11 : decode cL_load 11 = .ok (.bipush (-103), 2) := by decide +kernel
theorem dL_load_13 : decode cL_load 13 = .ok (.ireturn, 1) := by decide +kernel
theorem dL_write_0 : decode cL_write 0 = .ok (.aload_n 0, 1) := by decide +kernel
theorem dL_write_1 : decode cL_write 1 = .ok (.iload_n 1, 1) := by decide +kernel
theorem dL_write_2 : decode cL_write 2 = .ok (.invokevirtual 23, 3) := by decide +kernel
theorem dL_write_5 : decode cL_write 5 = .ok (.ireturn, 1) := by decide +kernel
theorem dL_write_6 : decode cL_write 6 = .ok (.astore_n 2, 1) := by decide +kernel
theorem dL_write_7 : decode cL_write 7 = .ok (.bipush (-101), 2) := by decide +kernel
theorem dL_write_9 : decode cL_write 9 = .ok (.ireturn, 1) := by decide +kernel
theorem dL_write_10 : decode cL_write 10 = .ok (.astore_n 2, 1) := by decide +kernel
theorem dL_write_11 : decode cL_write 11 = .ok (.bipush (-103), 2) := by decide +kernel
theorem dL_write_13 : decode cL_write 13 = .ok (.ireturn, 1) := by decide +kernel
theorem dL_erase_0 : decode cL_erase 0 = .ok (.aload_n 0, 1) := by decide +kernel
theorem dL_erase_1 : decode cL_erase 1 = .ok (.iload_n 1, 1) := by decide +kernel
theorem dL_erase_2 : decode cL_erase 2 = .ok (.invokevirtual 28, 3) := by decide +kernel
theorem dL_erase_5 : decode cL_erase 5 = .ok (.ireturn, 1) := by decide +kernel
theorem dL_erase_6 : decode cL_erase 6 = .ok (.astore_n 2, 1) := by decide +kernel
theorem dL_erase_7 : decode cL_erase 7 = .ok (.bipush (-101), 2) := by decide +kernel
theorem dL_erase_9 : decode cL_erase 9 = .ok (.ireturn, 1) := by decide +kernel
theorem dL_erase_10 : decode cL_erase 10 = .ok (.astore_n 2, 1) := by decide +kernel
theorem dL_erase_11 : decode cL_erase 11 = .ok (.bipush (-103), 2) := by decide +kernel
theorem dL_erase_13 : decode cL_erase 13 = .ok (.ireturn, 1) := by decide +kernel
theorem dL_lock_0 : decode cL_lock 0 = .ok (.aload_n 0, 1) := by decide +kernel
theorem dL_lock_1 : decode cL_lock 1 = .ok (.iload_n 1, 1) := by decide +kernel
theorem dL_lock_2 : decode cL_lock 2 = .ok (.iload_n 2, 1) := by decide +kernel
theorem dL_lock_3 : decode cL_lock 3 = .ok (.invokevirtual 31, 3) := by decide +kernel
theorem dL_lock_6 : decode cL_lock 6 = .ok (.ireturn, 1) := by decide +kernel
theorem dL_lock_7 : decode cL_lock 7 = .ok (.astore_n 3, 1) := by decide +kernel
theorem dL_lock_8 : decode cL_lock 8 = .ok (.bipush (-102), 2) := by decide +kernel
theorem dL_lock_10 : decode cL_lock 10 = .ok (.ireturn, 1) := by decide +kernel
theorem dL_lock_11 : decode cL_lock 11 = .ok (.astore_n 3, 1) := by decide +kernel
theorem dL_lock_12 : decode cL_lock 12 = .ok (.bipush (-103), 2) := by decide +kernel
theorem dL_lock_14 : decode cL_lock 14 = .ok (.ireturn, 1) := by decide +kernel
theorem dL_freeze_0 : decode cL_freeze 0 = .ok (.aload_n 0, 1) := by decide +kernel
theorem dL_freeze_1 : decode cL_freeze 1 = .ok (.invokevirtual 35, 3) := by decide +kernel
theorem dL_freeze_4 : decode cL_freeze 4 = .ok (.ireturn, 1) := by decide +kernel
theorem dL_freeze_5 : decode cL_freeze 5 = .ok (.astore_n 1, 1) := by decide +kernel
theorem dL_freeze_6 : decode cL_freeze 6 = .ok (.bipush (-103), 2) := by decide +kernel
theorem dL_freeze_8 : decode cL_freeze 8 = .ok (.ireturn, 1) := by decide +kernel
theorem dL_suspend_0 : decode cL_suspend 0 = .ok (.aload_n 0, 1) := by decide +kernel
theorem dL_suspend_1 : decode cL_suspend 1 = .ok (.invokevirtual 38, 3) := by decide +kernel
theorem dL_suspend_4 : decode cL_suspend 4 = .ok (.ireturn, 1) := by decide +kernel
theorem dL_suspend_5 : decode cL_suspend 5 = .ok (.astore_n 1, 1) := by decide +kernel
theorem dL_suspend_6 : decode cL_suspend 6 = .ok (.bipush (-103), 2) := by decide +kernel
theorem dL_suspend_8 : decode cL_suspend 8 = .ok (.ireturn, 1) := by decide +kernel
theorem dL_resume_0 : decode cL_resume 0 = .ok (.aload_n 0, 1) := by decide +kernel
theorem dL_resume_1 : decode cL_resume 1 = .ok (.invokevirtual 41, 3) := by decide +kernel
theorem dL_resume_4 : decode cL_resume 4 = .ok (.ireturn, 1) := by decide +kernel
theorem dL_resume_5 : decode cL_resume 5 = .ok (.astore_n 1, 1) := by decide +kernel
theorem dL_resume_6 : decode cL_resume 6 = .ok (.bipush (-103), 2) := by decide +kernel
theorem dL_resume_8 : decode cL_resume 8 = .ok (.ireturn, 1) := by decide +kernel
theorem dL_post_0 : decode cL_post 0 = .ok (.aload_n 0, 1) := by decide +kernel
theorem dL_post_1 : decode cL_post 1 = .ok (.iload_n 1, 1) := by decide +kernel
theorem dL_post_2 : decode cL_post 2 = .ok (.iload_n 2, 1) := by decide +kernel
theorem dL_post_3 : decode cL_post 3 = .ok (.iload_n 3, 1) := by decide +kernel
theorem dL_post_4 : decode cL_post 4 = .ok (.invokevirtual 44, 3) := by decide +kernel
theorem dL_post_7 : decode cL_post 7 = .ok (.ireturn, 1) := by decide +kernel
theorem dL_post_8 : decode cL_post 8 = .ok (.astore 4, 2) := by decide +kernel
theorem dL_post_10 : decode cL_post 10 = .ok (.bipush (-102), 2) := by decide +kernel
theorem dL_post_12 : decode cL_post 12 = .ok (.ireturn, 1) := by decide +kernel
theorem dL_post_13 : decode cL_post 13 = .ok (.astore 4, 2) := by decide +kernel
theorem dL_post_15 : decode cL_post 15 = .ok (.bipush (-101), 2) := by decide +kernel
theorem dL_post_17 : decode cL_post 17 = .ok (.ireturn, 1) := by decide +kernel
theorem dL_post_18 : decode cL_post 18 = .ok (.astore 4, 2) := by decide +kernel
theorem dL_post_20 : decode cL_post 20 = .ok (.bipush (-103), 2) := by decide +kernel
theorem dL_post_22 : decode cL_post 22 = .ok (.ireturn, 1) := by decide +kernel
theorem dL_withdraw_0 : decode cL_withdraw 0 = .ok (.aload_n 0, 1) := by decide +kernel
theorem dL_withdraw_1 : decode cL_withdraw 1 = .ok (.iload_n 1, 1) := by decide +kernel
theorem dL_withdraw_2 : decode cL_withdraw 2 = .ok (.invokevirtual 48, 3) := by decide +kernel
theorem dL_withdraw_5 : decode cL_withdraw 5 = .ok (.ireturn, 1) := by decide +kernel
theorem dL_withdraw_6 : decode cL_withdraw 6 = .ok (.astore_n 2, 1) := by decide +kernel
theorem dL_withdraw_7 : decode cL_withdraw 7 = .ok (.bipush (-101), 2) := by decide +kernel
theorem dL_withdraw_9 : decode cL_withdraw 9 = .ok (.ireturn, 1) := by decide +kernel
theorem dL_pass_0 : decode cL_pass 0 = .ok (.aload_n 0, 1) := by decide +kernel
theorem dL_pass_1 : decode cL_pass 1 = .ok (.iload_n 1, 1) := by decide +kernel
theorem dL_pass_2 : decode cL_pass 2 = .ok (.invokevirtual 51, 3) := by decide +kernel
theorem dL_pass_5 : decode cL_pass 5 = .ok (.ireturn, 1) := by decide +kernel
theorem dL_pass_6 : decode cL_pass 6 = .ok (.astore_n 2, 1) := by decide +kernel
theorem dL_pass_7 : decode cL_pass 7 = .ok (.bipush (-102), 2) := by decide +kernel
theorem dL_pass_9 : decode cL_pass 9 = .ok (.ireturn, 1) := by decide +kernel
theorem dL_set_0 : decode cL_set 0 = .ok (.aload_n 0, 1) := by decide +kernel
theorem dL_set_1 : decode cL_set 1 = .ok (.iload_n 1, 1) := by decide +kernel
theorem dL_set_2 : decode cL_set 2 = .ok (.iload_n 2, 1) := by decide +kernel
theorem dL_set_3 : decode cL_set 3 = .ok (.invokevirtual 54, 3) := by decide +kernel
theorem dL_set_6 : decode cL_set 6 = .ok (.ireturn, 1) := by decide +kernel
theorem dL_set_7 : decode cL_set 7 = .ok (.astore_n 3, 1) := by decide +kernel
theorem dL_set_8 : decode cL_set 8 = .ok (.bipush (-101), 2) := by decide +kernel
theorem dL_set_10 : decode cL_set 10 = .ok (.ireturn, 1) := by decide +kernel
theorem dL_set_11 : decode cL_set 11 = .ok (.astore_n 3, 1) := by decide +kernel
theorem dL_set_12 : decode cL_set 12 = .ok (.bipush (-102), 2) := by decide +kernel
theorem dL_set_14 : decode cL_set 14 = .ok (.ireturn, 1) := by decide +kernel
theorem dL_append_0 : decode cL_append 0 = .ok (.aload_n 0, 1) := by decide +kernel
theorem dL_append_1 : decode cL_append 1 = .ok (.iload_n 1, 1) := by decide +kernel
theorem dL_append_2 : decode cL_append 2 = .ok (.invokevirtual 57, 3) := by decide +kernel
theorem dL_append_5 : decode cL_append 5 = .ok (.ireturn, 1) := by decide +kernel
theorem dL_append_6 : decode cL_append 6 = .ok (.astore_n 2, 1) := by decide +kernel
theorem dL_append_7 : decode cL_append 7 = .ok (.bipush (-102), 2) := by decide +kernel
theorem dL_append_9 : decode cL_append 9 = .ok (.ireturn, 1) := by decide +kernel
theorem dL_append_10 : decode cL_append 10 = .ok (.astore_n 2, 1) := by decide +kernel
theorem dL_append_11 : decode cL_append 11 = .ok (.bipush (-103), 2) := by decide +kernel
theorem dL_append_13 : decode cL_append 13 = .ok (.ireturn, 1) := by decide +kernel
theorem dL_obey_0 : decode cL_obey 0 = .ok (.aload_n 0, 1) := by decide +kernel
theorem dL_obey_1 : decode cL_obey 1 = .ok (.invokevirtual 60, 3) := by decide +kernel
theorem dL_obey_4 : decode cL_obey 4 = .ok (.ireturn, 1) := by decide +kernel
theorem dL_obey_5 : decode cL_obey 5 = .ok (.astore_n 1, 1) := by decide +kernel
theorem dL_obey_6 : decode cL_obey 6 = .ok (.bipush (-102), 2) := by decide +kernel
theorem dL_obey_8 : decode cL_obey 8 = .ok (.ireturn, 1) := by decide +kernel
theorem dL_goBack_0 : decode cL_goBack 0 = .ok (.aload_n 0, 1) := by decide +kernel
theorem dL_goBack_1 : decode cL_goBack 1 = .ok (.invokevirtual 63, 3) := by decide +kernel
theorem dL_goBack_4 : decode cL_goBack 4 = .ok (.ireturn, 1) := by decide +kernel
theorem dL_goBack_5 : decode cL_goBack 5 = .ok (.astore_n 1, 1) := by decide +kernel
theorem dL_goBack_6 : decode cL_goBack 6 = .ok (.bipush (-103), 2) := by decide +kernel
theorem dL_goBack_8 : decode cL_goBack 8 = .ok (.ireturn, 1) := by decide +kernel
theorem dL_undo_0 : decode cL_undo 0 = .ok (.aload_n 0, 1) := by decide +kernel
theorem dL_undo_1 : decode cL_undo 1 = .ok (.invokevirtual 66, 3) := by decide +kernel
theorem dL_undo_4 : decode cL_undo 4 = .ok (.ireturn, 1) := by decide +kernel
theorem dL_undo_5 : decode cL_undo 5 = .ok (.astore_n 1, 1) := by decide +kernel
theorem dL_undo_6 : decode cL_undo 6 = .ok (.bipush (-103), 2) := by decide +kernel
theorem dL_undo_8 : decode cL_undo 8 = .ok (.ireturn, 1) := by decide +kernel
theorem dL_read_0 : decode cL_read 0 = .ok (.aload_n 0, 1) := by decide +kernel
theorem dL_read_1 : decode cL_read 1 = .ok (.iload_n 1, 1) := by decide +kernel
theorem dL_read_2 : decode cL_read 2 = .ok (.invokevirtual 69, 3) := by decide +kernel
theorem dL_read_5 : decode cL_read 5 = .ok (.ireturn, 1) := by decide +kernel
theorem dL_read_6 : decode cL_read 6 = .ok (.astore_n 2, 1) := by decide +kernel
theorem dL_read_7 : decode cL_read 7 = .ok (.bipush (-101), 2) := by decide +kernel
theorem dL_read_9 : decode cL_read 9 = .ok (.ireturn, 1) := by decide +kernel
theorem dL_read_10 : decode cL_read 10 = .ok (.astore_n 2, 1) := by decide +kernel
theorem dL_read_11 : decode cL_read 11 = .ok (.bipush (-103), 2) := by decide +kernel
theorem dL_read_13 : decode cL_read 13 = .ok (.ireturn, 1) := by decide +kernel
theorem dL_look_0 : decode cL_look 0 = .ok (.ldc2_w 72, 3) := by decide +kernel
theorem dL_look_3 : decode cL_look 3 = .ok (.lstore_n 1, 1) := by decide +kernel
theorem dL_look_4 : decode cL_look 4 = .ok (.iconst 0, 1) := by decide +kernel
theorem dL_look_5 : decode cL_look 5 = .ok (.istore_n 3, 1) := by decide +kernel
theorem dL_look_6 : decode cL_look 6 = .ok (.iload_n 3, 1) := by decide +kernel
theorem dL_look_7 : decode cL_look 7 = .ok (.bipush 15, 2) := by decide +kernel
theorem dL_look_9 : decode cL_look 9 = .ok (.if_icmp .ge 22, 3) := by decide +kernel
theorem dL_look_12 : decode cL_look 12 = .ok (.ldc2_w 74, 3) := by decide +kernel
theorem dL_look_15 : decode cL_look 15 = .ok (.lload_n 1, 1) := by decide +kernel
theorem dL_look_16 : decode cL_look 16 = .ok (.lmul, 1) := by decide +kernel
theorem dL_look_17 : decode cL_look 17 = .ok (.aload_n 0, 1) := by decide +kernel
theorem dL_look_18 : decode cL_look 18 = .ok (.iload_n 3, 1) := by decide +kernel
theorem dL_look_19 : decode cL_look 19 = .ok (.invokevirtual 76, 3) := by decide +kernel
theorem dL_look_22 : decode cL_look 22 = .ok (.i2l, 1) := by decide +kernel
theorem dL_look_23 : decode cL_look 23 = .ok (.ladd, 1) := by decide +kernel
theorem dL_look_24 : decode cL_look 24 = .ok (.lstore_n 1, 1) := by decide +kernel
theorem dL_look_25 : decode cL_look 25 = .ok (.iinc 3 1, 3) := by decide +kernel
theorem dL_look_28 : decode cL_look 28 = .ok (.goto (-22), 3) := by decide +kernel
theorem dL_look_31 : decode cL_look 31 = .ok (.iconst 0, 1) := by decide +kernel
theorem dL_look_32 : decode cL_look 32 = .ok (.istore_n 3, 1) := by decide +kernel
theorem dL_look_33 : decode cL_look 33 = .ok (.iload_n 3, 1) := by decide +kernel
theorem dL_look_34 : decode cL_look 34 = .ok (.sipush 256, 3) := by decide +kernel
theorem dL_look_37 : decode cL_look 37 = .ok (.if_icmp .ge 35, 3) := by decide +kernel
theorem dL_look_40 : decode cL_look 40 = .ok (.ldc2_w 74, 3) := by decide +kernel
theorem dL_look_43 : decode cL_look 43 = .ok (.ldc2_w 74, 3) := by decide +kernel
theorem dL_look_46 : decode cL_look 46 = .ok (.lload_n 1, 1) := by decide +kernel
theorem dL_look_47 : decode cL_look 47 = .ok (.lmul, 1) := by decide +kernel
theorem dL_look_48 : decode cL_look 48 = .ok (.aload_n 0, 1) := by decide +kernel
theorem dL_look_49 : decode cL_look 49 = .ok (.iload_n 3, 1) := by decide +kernel
theorem dL_look_50 : decode cL_look 50 = .ok (.iconst 0, 1) := by decide +kernel
theorem dL_look_51 : decode cL_look 51 = .ok (.invokevirtual 79, 3) := by decide +kernel
theorem dL_look_54 : decode cL_look 54 = .ok (.i2l, 1) := by decide +kernel
theorem dL_look_55 : decode cL_look 55 = .ok (.ladd, 1) := by decide +kernel
theorem dL_look_56 : decode cL_look 56 = .ok (.lmul, 1) := by decide +kernel
theorem dL_look_57 : decode cL_look 57 = .ok (.aload_n 0, 1) := by decide +kernel
theorem dL_look_58 : decode cL_look 58 = .ok (.iload_n 3, 1) := by decide +kernel
theorem dL_look_59 : decode cL_look 59 = .ok (.iconst 3, 1) := by decide +kernel
theorem dL_look_60 : decode cL_look 60 = .ok (.invokevirtual 79, 3) := by decide +kernel
theorem dL_look_63 : decode cL_look 63 = .ok (.i2l, 1) := by decide +kernel
theorem dL_look_64 : decode cL_look 64 = .ok (.ladd, 1) := by decide +kernel
theorem dL_look_65 : decode cL_look 65 = .ok (.lstore_n 1, 1) := by decide +kernel
theorem dL_look_66 : decode cL_look 66 = .ok (.iinc 3 1, 3) := by decide +kernel
theorem dL_look_69 : decode cL_look 69 = .ok (.goto (-36), 3) := by decide +kernel
theorem dL_look_72 : decode cL_look 72 = .ok (.iconst 0, 1) := by decide +kernel
theorem dL_look_73 : decode cL_look 73 = .ok (.istore_n 3, 1) := by decide +kernel
theorem dL_look_74 : decode cL_look 74 = .ok (.iload_n 3, 1) := by decide +kernel
theorem dL_look_75 : decode cL_look 75 = .ok (.bipush 8, 2) := by decide +kernel
theorem dL_look_77 : decode cL_look 77 = .ok (.if_icmp .ge 35, 3) := by decide +kernel
theorem dL_look_80 : decode cL_look 80 = .ok (.ldc2_w 74, 3) := by decide +kernel
theorem dL_look_83 : decode cL_look 83 = .ok (.ldc2_w 74, 3) := by decide +kernel
theorem dL_look_86 : decode cL_look 86 = .ok (.lload_n 1, 1) := by decide +kernel
theorem dL_look_87 : decode cL_look 87 = .ok (.lmul, 1) := by decide +kernel
theorem dL_look_88 : decode cL_look 88 = .ok (.aload_n 0, 1) := by decide +kernel
theorem dL_look_89 : decode cL_look 89 = .ok (.iload_n 3, 1) := by decide +kernel
theorem dL_look_90 : decode cL_look 90 = .ok (.iconst 0, 1) := by decide +kernel
theorem dL_look_91 : decode cL_look 91 = .ok (.invokevirtual 82, 3) := by decide +kernel
theorem dL_look_94 : decode cL_look 94 = .ok (.i2l, 1) := by decide +kernel
theorem dL_look_95 : decode cL_look 95 = .ok (.ladd, 1) := by decide +kernel
theorem dL_look_96 : decode cL_look 96 = .ok (.lmul, 1) := by decide +kernel
theorem dL_look_97 : decode cL_look 97 = .ok (.aload_n 0, 1) := by decide +kernel
theorem dL_look_98 : decode cL_look 98 = .ok (.iload_n 3, 1) := by decide +kernel
theorem dL_look_99 : decode cL_look 99 = .ok (.iconst 4, 1) := by decide +kernel
theorem dL_look_100 : decode cL_look 100 = .ok (.invokevirtual 82, 3) := by decide +kernel
theorem dL_look_103 : decode cL_look 103 = .ok (.i2l, 1) := by decide +kernel
theorem dL_look_104 : decode cL_look 104 = .ok (.ladd, 1) := by decide +kernel
theorem dL_look_105 : decode cL_look 105 = .ok (.lstore_n 1, 1) := by decide +kernel
theorem dL_look_106 : decode cL_look 106 = .ok (.iinc 3 1, 3) := by decide +kernel
theorem dL_look_109 : decode cL_look 109 = .ok (.goto (-35), 3) := by decide +kernel
theorem dL_look_112 : decode cL_look 112 = .ok (.iconst 0, 1) := by decide +kernel
theorem dL_look_113 : decode cL_look 113 = .ok (.istore_n 3, 1) := by decide +kernel
theorem dL_look_114 : decode cL_look 114 = .ok (.iload_n 3, 1) := by decide +kernel
theorem dL_look_115 : decode cL_look 115 = .ok (.bipush 10, 2) := by decide +kernel
theorem dL_look_117 : decode cL_look 117 = .ok (.if_icmp .ge 47, 3) := by decide +kernel
theorem dL_look_120 : decode cL_look 120 = .ok (.ldc2_w 74, 3) := by decide +kernel
theorem dL_look_123 : decode cL_look 123 = .ok (.ldc2_w 74, 3) := by decide +kernel
theorem dL_look_126 : decode cL_look 126 = .ok (.lload_n 1, 1) := by decide +kernel
theorem dL_look_127 : decode cL_look 127 = .ok (.lmul, 1) := by decide +kernel
theorem dL_look_128 : decode cL_look 128 = .ok (.aload_n 0, 1) := by decide +kernel
theorem dL_look_129 : decode cL_look 129 = .ok (.iload_n 3, 1) := by decide +kernel
theorem dL_look_130 : decode cL_look 130 = .ok (.iconst 5, 1) := by decide +kernel
theorem dL_look_131 : decode cL_look 131 = .ok (.idiv, 1) := by decide +kernel
theorem dL_look_132 : decode cL_look 132 = .ok (.iload_n 3, 1) := by decide +kernel
theorem dL_look_133 : decode cL_look 133 = .ok (.iconst 5, 1) := by decide +kernel
theorem dL_look_134 : decode cL_look 134 = .ok (.irem, 1) := by decide +kernel
theorem dL_look_135 : decode cL_look 135 = .ok (.invokevirtual 85, 3) := by decide +kernel
theorem dL_look_138 : decode cL_look 138 = .ok (.i2l, 1) := by decide +kernel
theorem dL_look_139 : decode cL_look 139 = .ok (.ladd, 1) := by decide +kernel
theorem dL_look_140 : decode cL_look 140 = .ok (.lmul, 1) := by decide +kernel
theorem dL_look_141 : decode cL_look 141 = .ok (.iload_n 3, 1) := by decide +kernel
theorem dL_look_142 : decode cL_look 142 = .ok (.iconst 5, 1) := by decide +kernel
theorem dL_look_143 : decode cL_look 143 = .ok (.if_icmp .ge 11, 3) := by decide +kernel
theorem dL_look_146 : decode cL_look 146 = .ok (.aload_n 0, 1) := by decide +kernel
theorem dL_look_147 : decode cL_look 147 = .ok (.iload_n 3, 1) := by decide +kernel
theorem dL_look_148 : decode cL_look 148 = .ok (.invokevirtual 88, 3) := by decide +kernel
theorem dL_look_151 : decode cL_look 151 = .ok (.goto 4, 3) := by decide +kernel
theorem dL_look_154 : decode cL_look 154 = .ok (.iconst 0, 1) := by decide +kernel
theorem dL_look_155 : decode cL_look 155 = .ok (.i2l, 1) := by decide +kernel
theorem dL_look_156 : decode cL_look 156 = .ok (.ladd, 1) := by decide +kernel
theorem dL_look_157 : decode cL_look 157 = .ok (.lstore_n 1, 1) := by decide +kernel
theorem dL_look_158 : decode cL_look 158 = .ok (.iinc 3 1, 3) := by decide +kernel
theorem dL_look_161 : decode cL_look 161 = .ok (.goto (-47), 3) := by decide +kernel
theorem dL_look_164 : decode cL_look 164 = .ok (.iconst 0, 1) := by decide +kernel
theorem dL_look_165 : decode cL_look 165 = .ok (.istore_n 3, 1) := by decide +kernel
theorem dL_look_166 : decode cL_look 166 = .ok (.iload_n 3, 1) := by decide +kernel
theorem dL_look_167 : decode cL_look 167 = .ok (.bipush 6, 2) := by decide +kernel
theorem dL_look_169 : decode cL_look 169 = .ok (.aload_n 0, 1) := by decide +kernel
theorem dL_look_170 : decode cL_look 170 = .ok (.bipush 10, 2) := by decide +kernel
theorem dL_look_172 : decode cL_look 172 = .ok (.invokevirtual 76, 3) := by decide +kernel
theorem dL_look_175 : decode cL_look 175 = .ok (.imul, 1) := by decide +kernel
theorem dL_look_176 : decode cL_look 176 = .ok (.if_icmp .ge 29, 3) := by decide +kernel
theorem dL_look_179 : decode cL_look 179 = .ok (.ldc2_w 74, 3) := by decide +kernel
theorem dL_look_182 : decode cL_look 182 = .ok (.lload_n 1, 1) := by decide +kernel
theorem dL_look_183 : decode cL_look 183 = .ok (.lmul, 1) := by decide +kernel
theorem dL_look_184 : decode cL_look 184 = .ok (.aload_n 0, 1) := by decide +kernel
theorem dL_look_185 : decode cL_look 185 = .ok (.iload_n 3, 1) := by decide +kernel
theorem dL_look_186 : decode cL_look 186 = .ok (.bipush 6, 2) := by decide +kernel
theorem dL_look_188 : decode cL_look 188 = .ok (.idiv, 1) := by decide +kernel
theorem dL_look_189 : decode cL_look 189 = .ok (.iload_n 3, 1) := by decide +kernel
theorem dL_look_190 : decode cL_look 190 = .ok (.bipush 6, 2) := by decide +kernel
theorem dL_look_192 : decode cL_look 192 = .ok (.irem, 1) := by decide +kernel
theorem dL_look_193 : decode cL_look 193 = .ok (.invokevirtual 91, 3) := by decide +kernel
theorem dL_look_196 : decode cL_look 196 = .ok (.i2l, 1) := by decide +kernel
theorem dL_look_197 : decode cL_look 197 = .ok (.ladd, 1) := by decide +kernel
theorem dL_look_198 : decode cL_look 198 = .ok (.lstore_n 1, 1) := by decide +kernel
theorem dL_look_199 : decode cL_look 199 = .ok (.iinc 3 1, 3) := by decide +kernel
theorem dL_look_202 : decode cL_look 202 = .ok (.goto (-36), 3) := by decide +kernel
theorem dL_look_205 : decode cL_look 205 = .ok (.lload_n 1, 1) := by decide +kernel
theorem dL_look_206 : decode cL_look 206 = .ok (.lreturn, 1) := by decide +kernel
theorem dL_holds_0 : decode cL_holds 0 = .ok (.iconst 0, 1) := by decide +kernel
theorem dL_holds_1 : decode cL_holds 1 = .ok (.istore_n 1, 1) := by decide +kernel
theorem dL_holds_2 : decode cL_holds 2 = .ok (.iconst 0, 1) := by decide +kernel
theorem dL_holds_3 : decode cL_holds 3 = .ok (.istore_n 2, 1) := by decide +kernel
theorem dL_holds_4 : decode cL_holds 4 = .ok (.iconst 0, 1) := by decide +kernel
theorem dL_holds_5 : decode cL_holds 5 = .ok (.istore_n 3, 1) := by decide +kernel
theorem dL_holds_6 : decode cL_holds 6 = .ok (.iconst 0, 1) := by decide +kernel
theorem dL_holds_7 : decode cL_holds 7 = .ok (.istore 4, 2) := by decide +kernel
theorem dL_holds_9 : decode cL_holds 9 = .ok (.aload_n 0, 1) := by decide +kernel
theorem dL_holds_10 : decode cL_holds 10 = .ok (.iconst 3, 1) := by decide +kernel
theorem dL_holds_11 : decode cL_holds 11 = .ok (.invokevirtual 76, 3) := by decide +kernel
theorem dL_holds_14 : decode cL_holds 14 = .ok (.ifCond .ne 7, 3) := by decide +kernel
theorem dL_holds_17 : decode cL_holds 17 = .ok (.iconst 0, 1) := by decide +kernel
theorem dL_holds_18 : decode cL_holds 18 = .ok (.goto 12, 3) := by decide +kernel
theorem dL_holds_21 : decode cL_holds 21 = .ok (.iconst 1, 1) := by decide +kernel
theorem dL_holds_22 : decode cL_holds 22 = .ok (.aload_n 0, 1) := by decide +kernel
theorem dL_holds_23 : decode cL_holds 23 = .ok (.iconst 3, 1) := by decide +kernel
theorem dL_holds_24 : decode cL_holds 24 = .ok (.invokevirtual 76, 3) := by decide +kernel
theorem dL_holds_27 : decode cL_holds 27 = .ok (.iconst 1, 1) := by decide +kernel
theorem dL_holds_28 : decode cL_holds 28 = .ok (.isub, 1) := by decide +kernel
theorem dL_holds_29 : decode cL_holds 29 = .ok (.ishl, 1) := by decide +kernel
theorem dL_holds_30 : decode cL_holds 30 = .ok (.istore 5, 2) := by decide +kernel
theorem dL_holds_32 : decode cL_holds 32 = .ok (.aload_n 0, 1) := by decide +kernel
theorem dL_holds_33 : decode cL_holds 33 = .ok (.invokevirtual 94, 3) := by decide +kernel
theorem dL_holds_36 : decode cL_holds 36 = .ok (.aload_n 0, 1) := by decide +kernel
theorem dL_holds_37 : decode cL_holds 37 = .ok (.iconst 5, 1) := by decide +kernel
theorem dL_holds_38 : decode cL_holds 38 = .ok (.invokevirtual 76, 3) := by decide +kernel
theorem dL_holds_41 : decode cL_holds 41 = .ok (.i2d, 1) := by decide +kernel
theorem dL_holds_42 : decode cL_holds 42 = .ok (.ldc2_w 98, 3) := by decide +kernel
theorem dL_holds_45 : decode cL_holds 45 = .ok (.ddiv, 1) := by decide +kernel
theorem dL_holds_46 : decode cL_holds 46 = .ok (.dcmp .l, 1) := by decide +kernel
theorem dL_holds_47 : decode cL_holds 47 = .ok (.ifCond .ne 55, 3) := by decide +kernel
theorem dL_holds_50 : decode cL_holds 50 = .ok (.aload_n 0, 1) := by decide +kernel
theorem dL_holds_51 : decode cL_holds 51 = .ok (.invokevirtual 100, 3) := by decide +kernel
theorem dL_holds_54 : decode cL_holds 54 = .ok (.aload_n 0, 1) := by decide +kernel
theorem dL_holds_55 : decode cL_holds 55 = .ok (.bipush 6, 2) := by decide +kernel
theorem dL_holds_57 : decode cL_holds 57 = .ok (.invokevirtual 76, 3) := by decide +kernel
theorem dL_holds_60 : decode cL_holds 60 = .ok (.i2f, 1) := by decide +kernel
theorem dL_holds_61 : decode cL_holds 61 = .ok (.ldc 104, 2) := by decide +kernel
theorem dL_holds_63 : decode cL_holds 63 = .ok (.fdiv, 1) := by decide +kernel
theorem dL_holds_64 : decode cL_holds 64 = .ok (.fcmp .l, 1) := by decide +kernel
theorem dL_holds_65 : decode cL_holds 65 = .ok (.ifCond .ne 37, 3) := by decide +kernel
theorem dL_holds_68 : decode cL_holds 68 = .ok (.aload_n 0, 1) := by decide +kernel
theorem dL_holds_69 : decode cL_holds 69 = .ok (.invokevirtual 105, 3) := by decide +kernel
theorem dL_holds_72 : decode cL_holds 72 = .ok (.iconst (-1), 1) := by decide +kernel
theorem dL_holds_73 : decode cL_holds 73 = .ok (.if_icmp .ne 7, 3) := by decide +kernel
theorem dL_holds_76 : decode cL_holds 76 = .ok (.iconst 1, 1) := by decide +kernel
theorem dL_holds_77 : decode cL_holds 77 = .ok (.goto 4, 3) := by decide +kernel
theorem dL_holds_80 : decode cL_holds 80 = .ok (.iconst 0, 1) := by decide +kernel
theorem dL_holds_81 : decode cL_holds 81 = .ok (.aload_n 0, 1) := by decide +kernel
theorem dL_holds_82 : decode cL_holds 82 = .ok (.iconst 3, 1) := by decide +kernel
theorem dL_holds_83 : decode cL_holds 83 = .ok (.invokevirtual 76, 3) := by decide +kernel
theorem dL_holds_86 : decode cL_holds 86 = .ok (.iconst 4, 1) := by decide +kernel
theorem dL_holds_87 : decode cL_holds 87 = .ok (.if_icmp .ne 7, 3) := by decide +kernel
theorem dL_holds_90 : decode cL_holds 90 = .ok (.iconst 1, 1) := by decide +kernel
theorem dL_holds_91 : decode cL_holds 91 = .ok (.goto 4, 3) := by decide +kernel
theorem dL_holds_94 : decode cL_holds 94 = .ok (.iconst 0, 1) := by decide +kernel
theorem dL_holds_95 : decode cL_holds 95 = .ok (.if_icmp .ne 7, 3) := by decide +kernel
theorem dL_holds_98 : decode cL_holds 98 = .ok (.iconst 1, 1) := by decide +kernel
theorem dL_holds_99 : decode cL_holds 99 = .ok (.goto 4, 3) := by decide +kernel
theorem dL_holds_102 : decode cL_holds 102 = .ok (.iconst 0, 1) := by decide +kernel
theorem dL_holds_103 : decode cL_holds 103 = .ok (.istore 6, 2) := by decide +kernel
theorem dL_holds_105 : decode cL_holds 105 = .ok (.iconst 0, 1) := by decide +kernel
theorem dL_holds_106 : decode cL_holds 106 = .ok (.istore 7, 2) := by decide +kernel
theorem dL_holds_108 : decode cL_holds 108 = .ok (.iload 7, 2) := by decide +kernel
theorem dL_holds_110 : decode cL_holds 110 = .ok (.bipush 8, 2) := by decide +kernel
theorem dL_holds_112 : decode cL_holds 112 = .ok (.if_icmp .ge 210, 3) := by decide +kernel
theorem dL_holds_115 : decode cL_holds 115 = .ok (.iload 6, 2) := by decide +kernel
theorem dL_holds_117 : decode cL_holds 117 = .ok (.ifCond .eq 205, 3) := by decide +kernel
theorem dL_holds_120 : decode cL_holds 120 = .ok (.iload_n 1, 1) := by decide +kernel
theorem dL_holds_121 : decode cL_holds 121 = .ok (.aload_n 0, 1) := by decide +kernel
theorem dL_holds_122 : decode cL_holds 122 = .ok (.iload 7, 2) := by decide +kernel
theorem dL_holds_124 : decode cL_holds 124 = .ok (.iconst 2, 1) := by decide +kernel
theorem dL_holds_125 : decode cL_holds 125 = .ok (.invokevirtual 82, 3) := by decide +kernel
theorem dL_holds_128 : decode cL_holds 128 = .ok (.iadd, 1) := by decide +kernel
theorem dL_holds_129 : decode cL_holds 129 = .ok (.istore_n 1, 1) := by decide +kernel
theorem dL_holds_130 : decode cL_holds 130 = .ok (.iload_n 2, 1) := by decide +kernel
theorem dL_holds_131 : decode cL_holds 131 = .ok (.aload_n 0, 1) := by decide +kernel
theorem dL_holds_132 : decode cL_holds 132 = .ok (.iload 7, 2) := by decide +kernel
theorem dL_holds_134 : decode cL_holds 134 = .ok (.iconst 0, 1) := by decide +kernel
theorem dL_holds_135 : decode cL_holds 135 = .ok (.invokevirtual 82, 3) := by decide +kernel
theorem dL_holds_138 : decode cL_holds 138 = .ok (.iadd, 1) := by decide +kernel
theorem dL_holds_139 : decode cL_holds 139 = .ok (.istore_n 2, 1) := by decide +kernel
theorem dL_holds_140 : decode cL_holds 140 = .ok (.iload_n 3, 1) := by decide +kernel
theorem dL_holds_141 : decode cL_holds 141 = .ok (.aload_n 0, 1) := by decide +kernel
theorem dL_holds_142 : decode cL_holds 142 = .ok (.iload 7, 2) := by decide +kernel
theorem dL_holds_144 : decode cL_holds 144 = .ok (.iconst 4, 1) := by decide +kernel
theorem dL_holds_145 : decode cL_holds 145 = .ok (.invokevirtual 82, 3) := by decide +kernel
theorem dL_holds_148 : decode cL_holds 148 = .ok (.iadd, 1) := by decide +kernel
theorem dL_holds_149 : decode cL_holds 149 = .ok (.istore_n 3, 1) := by decide +kernel
theorem dL_holds_150 : decode cL_holds 150 = .ok (.iload 4, 2) := by decide +kernel
theorem dL_holds_152 : decode cL_holds 152 = .ok (.aload_n 0, 1) := by decide +kernel
theorem dL_holds_153 : decode cL_holds 153 = .ok (.iload 7, 2) := by decide +kernel
theorem dL_holds_155 : decode cL_holds 155 = .ok (.bipush 6, 2) := by decide +kernel
theorem dL_holds_157 : decode cL_holds 157 = .ok (.invokevirtual 82, 3) := by decide +kernel
theorem dL_holds_160 : decode cL_holds 160 = .ok (.iadd, 1) := by decide +kernel
theorem dL_holds_161 : decode cL_holds 161 = .ok (.istore 4, 2) := by decide +kernel
theorem dL_holds_163 : decode cL_holds 163 = .ok (.aload_n 0, 1) := by decide +kernel
theorem dL_holds_164 : decode cL_holds 164 = .ok (.iconst 4, 1) := by decide +kernel
theorem dL_holds_165 : decode cL_holds 165 = .ok (.invokevirtual 76, 3) := by decide +kernel
theorem dL_holds_168 : decode cL_holds 168 = .ok (.iconst 1, 1) := by decide +kernel
theorem dL_holds_169 : decode cL_holds 169 = .ok (.if_icmp .ne 21, 3) := by decide +kernel
theorem dL_holds_172 : decode cL_holds 172 = .ok (.iload 7, 2) := by decide +kernel
theorem dL_holds_174 : decode cL_holds 174 = .ok (.bipush 8, 2) := by decide +kernel
theorem dL_holds_176 : decode cL_holds 176 = .ok (.iload 5, 2) := by decide +kernel
theorem dL_holds_178 : decode cL_holds 178 = .ok (.isub, 1) := by decide +kernel
theorem dL_holds_179 : decode cL_holds 179 = .ok (.if_icmp .lt 7, 3) := by decide +kernel
theorem dL_holds_182 : decode cL_holds 182 = .ok (.iconst 1, 1) := by decide +kernel
theorem dL_holds_183 : decode cL_holds 183 = .ok (.goto 19, 3) := by decide +kernel
theorem dL_holds_186 : decode cL_holds 186 = .ok (.iconst 0, 1) := by decide +kernel
theorem dL_holds_187 : decode cL_holds 187 = .ok (.goto 15, 3) := by decide +kernel
theorem dL_holds_190 : decode cL_holds 190 = .ok (.iload 7, 2) := by decide +kernel
theorem dL_holds_192 : decode cL_holds 192 = .ok (.iload 5, 2) := by decide +kernel
theorem dL_holds_194 : decode cL_holds 194 = .ok (.if_icmp .ge 7, 3) := by decide +kernel
theorem dL_holds_197 : decode cL_holds 197 = .ok (.iconst 1, 1) := by decide +kernel
theorem dL_holds_198 : decode cL_holds 198 = .ok (.goto 4, 3) := by decide +kernel
theorem dL_holds_201 : decode cL_holds 201 = .ok (.iconst 0, 1) := by decide +kernel
theorem dL_holds_202 : decode cL_holds 202 = .ok (.istore 8, 2) := by decide +kernel
theorem dL_holds_204 : decode cL_holds 204 = .ok (.aload_n 0, 1) := by decide +kernel
theorem dL_holds_205 : decode cL_holds 205 = .ok (.iload 7, 2) := by decide +kernel
theorem dL_holds_207 : decode cL_holds 207 = .ok (.iconst 1, 1) := by decide +kernel
theorem dL_holds_208 : decode cL_holds 208 = .ok (.invokevirtual 82, 3) := by decide +kernel
theorem dL_holds_211 : decode cL_holds 211 = .ok (.iload 8, 2) := by decide +kernel
theorem dL_holds_213 : decode cL_holds 213 = .ok (.ifCond .eq 7, 3) := by decide +kernel
theorem dL_holds_216 : decode cL_holds 216 = .ok (.iconst 1, 1) := by decide +kernel
theorem dL_holds_217 : decode cL_holds 217 = .ok (.goto 4, 3) := by decide +kernel
theorem dL_holds_220 : decode cL_holds 220 = .ok (.iconst 0, 1) := by decide +kernel
theorem dL_holds_221 : decode cL_holds 221 = .ok (.if_icmp .ne 92, 3) := by decide +kernel
theorem dL_holds_224 : decode cL_holds 224 = .ok (.aload_n 0, 1) := by decide +kernel
theorem dL_holds_225 : decode cL_holds 225 = .ok (.iload 7, 2) := by decide +kernel
theorem dL_holds_227 : decode cL_holds 227 = .ok (.iconst 5, 1) := by decide +kernel
theorem dL_holds_228 : decode cL_holds 228 = .ok (.invokevirtual 82, 3) := by decide +kernel
theorem dL_holds_231 : decode cL_holds 231 = .ok (.iconst 4, 1) := by decide +kernel
theorem dL_holds_232 : decode cL_holds 232 = .ok (.aload_n 0, 1) := by decide +kernel
theorem dL_holds_233 : decode cL_holds 233 = .ok (.iconst 1, 1) := by decide +kernel
theorem dL_holds_234 : decode cL_holds 234 = .ok (.invokevirtual 88, 3) := by decide +kernel
theorem dL_holds_237 : decode cL_holds 237 = .ok (.iadd, 1) := by decide +kernel
theorem dL_holds_238 : decode cL_holds 238 = .ok (.aload_n 0, 1) := by decide +kernel
theorem dL_holds_239 : decode cL_holds 239 = .ok (.iload 7, 2) := by decide +kernel
theorem dL_holds_241 : decode cL_holds 241 = .ok (.iconst 0, 1) := by decide +kernel
theorem dL_holds_242 : decode cL_holds 242 = .ok (.invokevirtual 82, 3) := by decide +kernel
theorem dL_holds_245 : decode cL_holds 245 = .ok (.iconst 4, 1) := by decide +kernel
theorem dL_holds_246 : decode cL_holds 246 = .ok (.idiv, 1) := by decide +kernel
theorem dL_holds_247 : decode cL_holds 247 = .ok (.iadd, 1) := by decide +kernel
theorem dL_holds_248 : decode cL_holds 248 = .ok (.if_icmp .ne 65, 3) := by decide +kernel
theorem dL_holds_251 : decode cL_holds 251 = .ok (.aload_n 0, 1) := by decide +kernel
theorem dL_holds_252 : decode cL_holds 252 = .ok (.iconst 2, 1) := by decide +kernel
theorem dL_holds_253 : decode cL_holds 253 = .ok (.iload 7, 2) := by decide +kernel
theorem dL_holds_255 : decode cL_holds 255 = .ok (.invokevirtual 110, 3) := by decide +kernel
theorem dL_holds_258 : decode cL_holds 258 = .ok (.aload_n 0, 1) := by decide +kernel
theorem dL_holds_259 : decode cL_holds 259 = .ok (.iconst 0, 1) := by decide +kernel
theorem dL_holds_260 : decode cL_holds 260 = .ok (.iconst 0, 1) := by decide +kernel
theorem dL_holds_261 : decode cL_holds 261 = .ok (.invokevirtual 85, 3) := by decide +kernel
theorem dL_holds_264 : decode cL_holds 264 = .ok (.ifCond .le 7, 3) := by decide +kernel
theorem dL_holds_267 : decode cL_holds 267 = .ok (.iconst 1, 1) := by decide +kernel
theorem dL_holds_268 : decode cL_holds 268 = .ok (.goto 38, 3) := by decide +kernel
theorem dL_holds_271 : decode cL_holds 271 = .ok (.aload_n 0, 1) := by decide +kernel
theorem dL_holds_272 : decode cL_holds 272 = .ok (.iconst 1, 1) := by decide +kernel
theorem dL_holds_273 : decode cL_holds 273 = .ok (.invokevirtual 76, 3) := by decide +kernel
theorem dL_holds_276 : decode cL_holds 276 = .ok (.ifCond .ne 7, 3) := by decide +kernel
theorem dL_holds_279 : decode cL_holds 279 = .ok (.iconst 2, 1) := by decide +kernel
theorem dL_holds_280 : decode cL_holds 280 = .ok (.goto 26, 3) := by decide +kernel
theorem dL_holds_283 : decode cL_holds 283 = .ok (.iload 8, 2) := by decide +kernel
theorem dL_holds_285 : decode cL_holds 285 = .ok (.ifCond .eq 7, 3) := by decide +kernel
theorem dL_holds_288 : decode cL_holds 288 = .ok (.iconst 3, 1) := by decide +kernel
theorem dL_holds_289 : decode cL_holds 289 = .ok (.goto 17, 3) := by decide +kernel
theorem dL_holds_292 : decode cL_holds 292 = .ok (.aload_n 0, 1) := by decide +kernel
theorem dL_holds_293 : decode cL_holds 293 = .ok (.iconst 1, 1) := by decide +kernel
theorem dL_holds_294 : decode cL_holds 294 = .ok (.iconst 0, 1) := by decide +kernel
theorem dL_holds_295 : decode cL_holds 295 = .ok (.invokevirtual 85, 3) := by decide +kernel
theorem dL_holds_298 : decode cL_holds 298 = .ok (.ifCond .le 7, 3) := by decide +kernel
theorem dL_holds_301 : decode cL_holds 301 = .ok (.iconst 4, 1) := by decide +kernel
theorem dL_holds_302 : decode cL_holds 302 = .ok (.goto 4, 3) := by decide +kernel
theorem dL_holds_305 : decode cL_holds 305 = .ok (.iconst 0, 1) := by decide +kernel
theorem dL_holds_306 : decode cL_holds 306 = .ok (.if_icmp .ne 7, 3) := by decide +kernel
theorem dL_holds_309 : decode cL_holds 309 = .ok (.iconst 1, 1) := by decide +kernel
theorem dL_holds_310 : decode cL_holds 310 = .ok (.goto 4, 3) := by decide +kernel
theorem dL_holds_313 : decode cL_holds 313 = .ok (.iconst 0, 1) := by decide +kernel
theorem dL_holds_314 : decode cL_holds 314 = .ok (.istore 6, 2) := by decide +kernel
theorem dL_holds_316 : decode cL_holds 316 = .ok (.iinc 7 1, 3) := by decide +kernel
theorem dL_holds_319 : decode cL_holds 319 = .ok (.goto (-211), 3) := by decide +kernel
theorem dL_holds_322 : decode cL_holds 322 = .ok (.iconst 1, 1) := by decide +kernel
theorem dL_holds_323 : decode cL_holds 323 = .ok (.istore 7, 2) := by decide +kernel
theorem dL_holds_325 : decode cL_holds 325 = .ok (.iload 7, 2) := by decide +kernel
theorem dL_holds_327 : decode cL_holds 327 = .ok (.aload_n 0, 1) := by decide +kernel
theorem dL_holds_328 : decode cL_holds 328 = .ok (.bipush 10, 2) := by decide +kernel
theorem dL_holds_330 : decode cL_holds 330 = .ok (.invokevirtual 76, 3) := by decide +kernel
theorem dL_holds_333 : decode cL_holds 333 = .ok (.if_icmp .ge 78, 3) := by decide +kernel
theorem dL_holds_336 : decode cL_holds 336 = .ok (.iload 6, 2) := by decide +kernel
theorem dL_holds_338 : decode cL_holds 338 = .ok (.ifCond .eq 73, 3) := by decide +kernel
theorem dL_holds_341 : decode cL_holds 341 = .ok (.aload_n 0, 1) := by decide +kernel
theorem dL_holds_342 : decode cL_holds 342 = .ok (.iload 7, 2) := by decide +kernel
theorem dL_holds_344 : decode cL_holds 344 = .ok (.iconst 1, 1) := by decide +kernel
theorem dL_holds_345 : decode cL_holds 345 = .ok (.isub, 1) := by decide +kernel
theorem dL_holds_346 : decode cL_holds 346 = .ok (.iconst 3, 1) := by decide +kernel
theorem dL_holds_347 : decode cL_holds 347 = .ok (.invokevirtual 91, 3) := by decide +kernel
theorem dL_holds_350 : decode cL_holds 350 = .ok (.aload_n 0, 1) := by decide +kernel
theorem dL_holds_351 : decode cL_holds 351 = .ok (.iload 7, 2) := by decide +kernel
theorem dL_holds_353 : decode cL_holds 353 = .ok (.iconst 3, 1) := by decide +kernel
theorem dL_holds_354 : decode cL_holds 354 = .ok (.invokevirtual 91, 3) := by decide +kernel
theorem dL_holds_357 : decode cL_holds 357 = .ok (.if_icmp .gt 41, 3) := by decide +kernel
theorem dL_holds_360 : decode cL_holds 360 = .ok (.aload_n 0, 1) := by decide +kernel
theorem dL_holds_361 : decode cL_holds 361 = .ok (.iload 7, 2) := by decide +kernel
theorem dL_holds_363 : decode cL_holds 363 = .ok (.iconst 1, 1) := by decide +kernel
theorem dL_holds_364 : decode cL_holds 364 = .ok (.isub, 1) := by decide +kernel
theorem dL_holds_365 : decode cL_holds 365 = .ok (.iconst 3, 1) := by decide +kernel
theorem dL_holds_366 : decode cL_holds 366 = .ok (.invokevirtual 91, 3) := by decide +kernel
theorem dL_holds_369 : decode cL_holds 369 = .ok (.aload_n 0, 1) := by decide +kernel
theorem dL_holds_370 : decode cL_holds 370 = .ok (.iload 7, 2) := by decide +kernel
theorem dL_holds_372 : decode cL_holds 372 = .ok (.iconst 3, 1) := by decide +kernel
theorem dL_holds_373 : decode cL_holds 373 = .ok (.invokevirtual 91, 3) := by decide +kernel
theorem dL_holds_376 : decode cL_holds 376 = .ok (.if_icmp .ne 26, 3) := by decide +kernel
theorem dL_holds_379 : decode cL_holds 379 = .ok (.aload_n 0, 1) := by decide +kernel
theorem dL_holds_380 : decode cL_holds 380 = .ok (.iload 7, 2) := by decide +kernel
theorem dL_holds_382 : decode cL_holds 382 = .ok (.iconst 1, 1) := by decide +kernel
theorem dL_holds_383 : decode cL_holds 383 = .ok (.isub, 1) := by decide +kernel
theorem dL_holds_384 : decode cL_holds 384 = .ok (.iconst 0, 1) := by decide +kernel
theorem dL_holds_385 : decode cL_holds 385 = .ok (.invokevirtual 91, 3) := by decide +kernel
theorem dL_holds_388 : decode cL_holds 388 = .ok (.aload_n 0, 1) := by decide +kernel
theorem dL_holds_389 : decode cL_holds 389 = .ok (.iload 7, 2) := by decide +kernel
theorem dL_holds_391 : decode cL_holds 391 = .ok (.iconst 0, 1) := by decide +kernel
theorem dL_holds_392 : decode cL_holds 392 = .ok (.invokevirtual 91, 3) := by decide +kernel
theorem dL_holds_395 : decode cL_holds 395 = .ok (.if_icmp .ge 7, 3) := by decide +kernel
theorem dL_holds_398 : decode cL_holds 398 = .ok (.iconst 1, 1) := by decide +kernel
theorem dL_holds_399 : decode cL_holds 399 = .ok (.goto 4, 3) := by decide +kernel
theorem dL_holds_402 : decode cL_holds 402 = .ok (.iconst 0, 1) := by decide +kernel
theorem dL_holds_403 : decode cL_holds 403 = .ok (.istore 6, 2) := by decide +kernel
theorem dL_holds_405 : decode cL_holds 405 = .ok (.iinc 7 1, 3) := by decide +kernel
theorem dL_holds_408 : decode cL_holds 408 = .ok (.goto (-83), 3) := by decide +kernel
theorem dL_holds_411 : decode cL_holds 411 = .ok (.iload 6, 2) := by decide +kernel
theorem dL_holds_413 : decode cL_holds 413 = .ok (.ifCond .eq 149, 3) := by decide +kernel
theorem dL_holds_416 : decode cL_holds 416 = .ok (.iload_n 1, 1) := by decide +kernel
theorem dL_holds_417 : decode cL_holds 417 = .ok (.aload_n 0, 1) := by decide +kernel
theorem dL_holds_418 : decode cL_holds 418 = .ok (.iconst 5, 1) := by decide +kernel
theorem dL_holds_419 : decode cL_holds 419 = .ok (.invokevirtual 76, 3) := by decide +kernel
theorem dL_holds_422 : decode cL_holds 422 = .ok (.if_icmp .ne 140, 3) := by decide +kernel
theorem dL_holds_425 : decode cL_holds 425 = .ok (.iload_n 2, 1) := by decide +kernel
theorem dL_holds_426 : decode cL_holds 426 = .ok (.aload_n 0, 1) := by decide +kernel
theorem dL_holds_427 : decode cL_holds 427 = .ok (.bipush 6, 2) := by decide +kernel
theorem dL_holds_429 : decode cL_holds 429 = .ok (.invokevirtual 76, 3) := by decide +kernel
theorem dL_holds_432 : decode cL_holds 432 = .ok (.if_icmp .ne 130, 3) := by decide +kernel
theorem dL_holds_435 : decode cL_holds 435 = .ok (.iload_n 3, 1) := by decide +kernel
theorem dL_holds_436 : decode cL_holds 436 = .ok (.aload_n 0, 1) := by decide +kernel
theorem dL_holds_437 : decode cL_holds 437 = .ok (.bipush 13, 2) := by decide +kernel
theorem dL_holds_439 : decode cL_holds 439 = .ok (.invokevirtual 76, 3) := by decide +kernel
theorem dL_holds_442 : decode cL_holds 442 = .ok (.if_icmp .ne 120, 3) := by decide +kernel
theorem dL_holds_445 : decode cL_holds 445 = .ok (.iload 4, 2) := by decide +kernel
theorem dL_holds_447 : decode cL_holds 447 = .ok (.aload_n 0, 1) := by decide +kernel
theorem dL_holds_448 : decode cL_holds 448 = .ok (.bipush 10, 2) := by decide +kernel
theorem dL_holds_450 : decode cL_holds 450 = .ok (.invokevirtual 76, 3) := by decide +kernel
theorem dL_holds_453 : decode cL_holds 453 = .ok (.if_icmp .ne 109, 3) := by decide +kernel
theorem dL_holds_456 : decode cL_holds 456 = .ok (.aload_n 0, 1) := by decide +kernel
theorem dL_holds_457 : decode cL_holds 457 = .ok (.bipush 10, 2) := by decide +kernel
theorem dL_holds_459 : decode cL_holds 459 = .ok (.invokevirtual 76, 3) := by decide +kernel
theorem dL_holds_462 : decode cL_holds 462 = .ok (.bipush 10, 2) := by decide +kernel
theorem dL_holds_464 : decode cL_holds 464 = .ok (.if_icmp .gt 98, 3) := by decide +kernel
theorem dL_holds_467 : decode cL_holds 467 = .ok (.aload_n 0, 1) := by decide +kernel
theorem dL_holds_468 : decode cL_holds 468 = .ok (.bipush 11, 2) := by decide +kernel
theorem dL_holds_470 : decode cL_holds 470 = .ok (.invokevirtual 76, 3) := by decide +kernel
theorem dL_holds_473 : decode cL_holds 473 = .ok (.bipush 12, 2) := by decide +kernel
theorem dL_holds_475 : decode cL_holds 475 = .ok (.if_icmp .gt 87, 3) := by decide +kernel
theorem dL_holds_478 : decode cL_holds 478 = .ok (.aload_n 0, 1) := by decide +kernel
theorem dL_holds_479 : decode cL_holds 479 = .ok (.iconst 0, 1) := by decide +kernel
theorem dL_holds_480 : decode cL_holds 480 = .ok (.iconst 2, 1) := by decide +kernel
theorem dL_holds_481 : decode cL_holds 481 = .ok (.invokevirtual 85, 3) := by decide +kernel
theorem dL_holds_484 : decode cL_holds 484 = .ok (.ifCond .lt 78, 3) := by decide +kernel
theorem dL_holds_487 : decode cL_holds 487 = .ok (.aload_n 0, 1) := by decide +kernel
theorem dL_holds_488 : decode cL_holds 488 = .ok (.iconst 1, 1) := by decide +kernel
theorem dL_holds_489 : decode cL_holds 489 = .ok (.iconst 2, 1) := by decide +kernel
theorem dL_holds_490 : decode cL_holds 490 = .ok (.invokevirtual 85, 3) := by decide +kernel
theorem dL_holds_493 : decode cL_holds 493 = .ok (.ifCond .lt 69, 3) := by decide +kernel
theorem dL_holds_496 : decode cL_holds 496 = .ok (.aload_n 0, 1) := by decide +kernel
theorem dL_holds_497 : decode cL_holds 497 = .ok (.iconst 0, 1) := by decide +kernel
theorem dL_holds_498 : decode cL_holds 498 = .ok (.iconst 0, 1) := by decide +kernel
theorem dL_holds_499 : decode cL_holds 499 = .ok (.invokevirtual 85, 3) := by decide +kernel
theorem dL_holds_502 : decode cL_holds 502 = .ok (.ifCond .ne 7, 3) := by decide +kernel
theorem dL_holds_505 : decode cL_holds 505 = .ok (.iconst 1, 1) := by decide +kernel
theorem dL_holds_506 : decode cL_holds 506 = .ok (.goto 4, 3) := by decide +kernel
theorem dL_holds_509 : decode cL_holds 509 = .ok (.iconst 0, 1) := by decide +kernel
theorem dL_holds_510 : decode cL_holds 510 = .ok (.aload_n 0, 1) := by decide +kernel
theorem dL_holds_511 : decode cL_holds 511 = .ok (.iconst 0, 1) := by decide +kernel
theorem dL_holds_512 : decode cL_holds 512 = .ok (.iconst 2, 1) := by decide +kernel
theorem dL_holds_513 : decode cL_holds 513 = .ok (.invokevirtual 85, 3) := by decide +kernel
theorem dL_holds_516 : decode cL_holds 516 = .ok (.ifCond .ne 7, 3) := by decide +kernel
theorem dL_holds_519 : decode cL_holds 519 = .ok (.iconst 1, 1) := by decide +kernel
theorem dL_holds_520 : decode cL_holds 520 = .ok (.goto 4, 3) := by decide +kernel
theorem dL_holds_523 : decode cL_holds 523 = .ok (.iconst 0, 1) := by decide +kernel
theorem dL_holds_524 : decode cL_holds 524 = .ok (.if_icmp .ne 38, 3) := by decide +kernel
theorem dL_holds_527 : decode cL_holds 527 = .ok (.aload_n 0, 1) := by decide +kernel
theorem dL_holds_528 : decode cL_holds 528 = .ok (.iconst 1, 1) := by decide +kernel
theorem dL_holds_529 : decode cL_holds 529 = .ok (.iconst 0, 1) := by decide +kernel
theorem dL_holds_530 : decode cL_holds 530 = .ok (.invokevirtual 85, 3) := by decide +kernel
theorem dL_holds_533 : decode cL_holds 533 = .ok (.ifCond .ne 7, 3) := by decide +kernel
theorem dL_holds_536 : decode cL_holds 536 = .ok (.iconst 1, 1) := by decide +kernel
theorem dL_holds_537 : decode cL_holds 537 = .ok (.goto 4, 3) := by decide +kernel
theorem dL_holds_540 : decode cL_holds 540 = .ok (.iconst 0, 1) := by decide +kernel
theorem dL_holds_541 : decode cL_holds 541 = .ok (.aload_n 0, 1) := by decide +kernel
theorem dL_holds_542 : decode cL_holds 542 = .ok (.iconst 1, 1) := by decide +kernel
theorem dL_holds_543 : decode cL_holds 543 = .ok (.iconst 2, 1) := by decide +kernel
theorem dL_holds_544 : decode cL_holds 544 = .ok (.invokevirtual 85, 3) := by decide +kernel
theorem dL_holds_547 : decode cL_holds 547 = .ok (.ifCond .ne 7, 3) := by decide +kernel
theorem dL_holds_550 : decode cL_holds 550 = .ok (.iconst 1, 1) := by decide +kernel
theorem dL_holds_551 : decode cL_holds 551 = .ok (.goto 4, 3) := by decide +kernel
theorem dL_holds_554 : decode cL_holds 554 = .ok (.iconst 0, 1) := by decide +kernel
theorem dL_holds_555 : decode cL_holds 555 = .ok (.if_icmp .ne 7, 3) := by decide +kernel
theorem dL_holds_558 : decode cL_holds 558 = .ok (.iconst 1, 1) := by decide +kernel
theorem dL_holds_559 : decode cL_holds 559 = .ok (.goto 4, 3) := by decide +kernel
theorem dL_holds_562 : decode cL_holds 562 = .ok (.iconst 0, 1) := by decide +kernel
theorem dL_holds_563 : decode cL_holds 563 = .ok (.ireturn, 1) := by decide +kernel
theorem dL_falls_0 : decode cL_falls 0 = .ok (.iload_n 1, 1) := by decide +kernel
theorem dL_falls_1 : decode cL_falls 1 = .ok (.sipush 256, 3) := by decide +kernel
theorem dL_falls_4 : decode cL_falls 4 = .ok (.invokestatic 113, 3) := by decide +kernel
theorem dL_falls_7 : decode cL_falls 7 = .ok (.istore_n 2, 1) := by decide +kernel
theorem dL_falls_8 : decode cL_falls 8 = .ok (.aload_n 0, 1) := by decide +kernel
theorem dL_falls_9 : decode cL_falls 9 = .ok (.iload_n 2, 1) := by decide +kernel
theorem dL_falls_10 : decode cL_falls 10 = .ok (.iconst 0, 1) := by decide +kernel
theorem dL_falls_11 : decode cL_falls 11 = .ok (.invokevirtual 79, 3) := by decide +kernel
theorem dL_falls_14 : decode cL_falls 14 = .ok (.istore_n 3, 1) := by decide +kernel
theorem dL_falls_15 : decode cL_falls 15 = .ok (.aload_n 0, 1) := by decide +kernel
theorem dL_falls_16 : decode cL_falls 16 = .ok (.iload_n 2, 1) := by decide +kernel
theorem dL_falls_17 : decode cL_falls 17 = .ok (.iconst 1, 1) := by decide +kernel
theorem dL_falls_18 : decode cL_falls 18 = .ok (.invokevirtual 79, 3) := by decide +kernel
theorem dL_falls_21 : decode cL_falls 21 = .ok (.istore 4, 2) := by decide +kernel
theorem dL_falls_23 : decode cL_falls 23 = .ok (.aload_n 0, 1) := by decide +kernel
theorem dL_falls_24 : decode cL_falls 24 = .ok (.iload_n 2, 1) := by decide +kernel
theorem dL_falls_25 : decode cL_falls 25 = .ok (.invokevirtual 116, 3) := by decide +kernel
theorem dL_falls_28 : decode cL_falls 28 = .ok (.istore 5, 2) := by decide +kernel
theorem dL_falls_30 : decode cL_falls 30 = .ok (.aload_n 0, 1) := by decide +kernel
theorem dL_falls_31 : decode cL_falls 31 = .ok (.invokevirtual 119, 3) := by decide +kernel
theorem dL_falls_34 : decode cL_falls 34 = .ok (.istore 6, 2) := by decide +kernel
theorem dL_falls_36 : decode cL_falls 36 = .ok (.aload_n 0, 1) := by decide +kernel
theorem dL_falls_37 : decode cL_falls 37 = .ok (.invokevirtual 122, 3) := by decide +kernel
theorem dL_falls_40 : decode cL_falls 40 = .ok (.istore 7, 2) := by decide +kernel
theorem dL_falls_42 : decode cL_falls 42 = .ok (.iload_n 3, 1) := by decide +kernel
theorem dL_falls_43 : decode cL_falls 43 = .ok (.iload 4, 2) := by decide +kernel
theorem dL_falls_45 : decode cL_falls 45 = .ok (.iand, 1) := by decide +kernel
theorem dL_falls_46 : decode cL_falls 46 = .ok (.ifCond .ne 67, 3) := by decide +kernel
theorem dL_falls_49 : decode cL_falls 49 = .ok (.iload 5, 2) := by decide +kernel
theorem dL_falls_51 : decode cL_falls 51 = .ok (.ifCond .lt 62, 3) := by decide +kernel
theorem dL_falls_54 : decode cL_falls 54 = .ok (.iload 5, 2) := by decide +kernel
theorem dL_falls_56 : decode cL_falls 56 = .ok (.bipush 8, 2) := by decide +kernel
theorem dL_falls_58 : decode cL_falls 58 = .ok (.if_icmp .gt 55, 3) := by decide +kernel
theorem dL_falls_61 : decode cL_falls 61 = .ok (.aload_n 0, 1) := by decide +kernel
theorem dL_falls_62 : decode cL_falls 62 = .ok (.bipush 11, 2) := by decide +kernel
theorem dL_falls_64 : decode cL_falls 64 = .ok (.invokevirtual 76, 3) := by decide +kernel
theorem dL_falls_67 : decode cL_falls 67 = .ok (.ifCond .gt 8, 3) := by decide +kernel
theorem dL_falls_70 : decode cL_falls 70 = .ok (.iload 5, 2) := by decide +kernel
theorem dL_falls_72 : decode cL_falls 72 = .ok (.ifCond .ne 41, 3) := by decide +kernel
theorem dL_falls_75 : decode cL_falls 75 = .ok (.iload 7, 2) := by decide +kernel
theorem dL_falls_77 : decode cL_falls 77 = .ok (.iconst (-1), 1) := by decide +kernel
theorem dL_falls_78 : decode cL_falls 78 = .ok (.if_icmp .eq 12, 3) := by decide +kernel
theorem dL_falls_81 : decode cL_falls 81 = .ok (.aload_n 0, 1) := by decide +kernel
theorem dL_falls_82 : decode cL_falls 82 = .ok (.iload 7, 2) := by decide +kernel
theorem dL_falls_84 : decode cL_falls 84 = .ok (.invokevirtual 116, 3) := by decide +kernel
theorem dL_falls_87 : decode cL_falls 87 = .ok (.ifCond .ne 26, 3) := by decide +kernel
theorem dL_falls_90 : decode cL_falls 90 = .ok (.iload 6, 2) := by decide +kernel
theorem dL_falls_92 : decode cL_falls 92 = .ok (.iconst (-1), 1) := by decide +kernel
theorem dL_falls_93 : decode cL_falls 93 = .ok (.if_icmp .eq 16, 3) := by decide +kernel
theorem dL_falls_96 : decode cL_falls 96 = .ok (.iload 6, 2) := by decide +kernel
theorem dL_falls_98 : decode cL_falls 98 = .ok (.ifCond .lt 15, 3) := by decide +kernel
theorem dL_falls_101 : decode cL_falls 101 = .ok (.iload 6, 2) := by decide +kernel
theorem dL_falls_103 : decode cL_falls 103 = .ok (.sipush 1000, 3) := by decide +kernel
theorem dL_falls_106 : decode cL_falls 106 = .ok (.if_icmp .gt 7, 3) := by decide +kernel
theorem dL_falls_109 : decode cL_falls 109 = .ok (.iconst 1, 1) := by decide +kernel
theorem dL_falls_110 : decode cL_falls 110 = .ok (.goto 4, 3) := by decide +kernel
theorem dL_falls_113 : decode cL_falls 113 = .ok (.iconst 0, 1) := by decide +kernel
theorem dL_falls_114 : decode cL_falls 114 = .ok (.istore 8, 2) := by decide +kernel
theorem dL_falls_116 : decode cL_falls 116 = .ok (.aload_n 0, 1) := by decide +kernel
theorem dL_falls_117 : decode cL_falls 117 = .ok (.iload_n 2, 1) := by decide +kernel
theorem dL_falls_118 : decode cL_falls 118 = .ok (.invokestatic 125, 3) := by decide +kernel
theorem dL_falls_121 : decode cL_falls 121 = .ok (.istore 9, 2) := by decide +kernel
theorem dL_falls_123 : decode cL_falls 123 = .ok (.iload 8, 2) := by decide +kernel
theorem dL_falls_125 : decode cL_falls 125 = .ok (.ifCond .eq 60, 3) := by decide +kernel
theorem dL_falls_128 : decode cL_falls 128 = .ok (.aload_n 0, 1) := by decide +kernel
theorem dL_falls_129 : decode cL_falls 129 = .ok (.sipush 256, 3) := by decide +kernel
theorem dL_falls_132 : decode cL_falls 132 = .ok (.invokestatic 125, 3) := by decide +kernel
theorem dL_falls_135 : decode cL_falls 135 = .ok (.bipush (-101), 2) := by decide +kernel
theorem dL_falls_137 : decode cL_falls 137 = .ok (.if_icmp .ne 48, 3) := by decide +kernel
theorem dL_falls_140 : decode cL_falls 140 = .ok (.aload_n 0, 1) := by decide +kernel
theorem dL_falls_141 : decode cL_falls 141 = .ok (.iconst 0, 1) := by decide +kernel
theorem dL_falls_142 : decode cL_falls 142 = .ok (.iconst 0, 1) := by decide +kernel
theorem dL_falls_143 : decode cL_falls 143 = .ok (.invokevirtual 85, 3) := by decide +kernel
theorem dL_falls_146 : decode cL_falls 146 = .ok (.ifCond .le 13, 3) := by decide +kernel
theorem dL_falls_149 : decode cL_falls 149 = .ok (.iload 9, 2) := by decide +kernel
theorem dL_falls_151 : decode cL_falls 151 = .ok (.bipush (-103), 2) := by decide +kernel
theorem dL_falls_153 : decode cL_falls 153 = .ok (.if_icmp .ne 32, 3) := by decide +kernel
theorem dL_falls_156 : decode cL_falls 156 = .ok (.goto 25, 3) := by decide +kernel
theorem dL_falls_159 : decode cL_falls 159 = .ok (.iload 9, 2) := by decide +kernel
theorem dL_falls_161 : decode cL_falls 161 = .ok (.iload_n 3, 1) := by decide +kernel
theorem dL_falls_162 : decode cL_falls 162 = .ok (.if_icmp .eq 19, 3) := by decide +kernel
theorem dL_falls_165 : decode cL_falls 165 = .ok (.iload 9, 2) := by decide +kernel
theorem dL_falls_167 : decode cL_falls 167 = .ok (.bipush (-103), 2) := by decide +kernel
theorem dL_falls_169 : decode cL_falls 169 = .ok (.if_icmp .ne 16, 3) := by decide +kernel
theorem dL_falls_172 : decode cL_falls 172 = .ok (.aload_n 0, 1) := by decide +kernel
theorem dL_falls_173 : decode cL_falls 173 = .ok (.iconst 1, 1) := by decide +kernel
theorem dL_falls_174 : decode cL_falls 174 = .ok (.iconst 0, 1) := by decide +kernel
theorem dL_falls_175 : decode cL_falls 175 = .ok (.invokevirtual 85, 3) := by decide +kernel
theorem dL_falls_178 : decode cL_falls 178 = .ok (.ifCond .le 7, 3) := by decide +kernel
theorem dL_falls_181 : decode cL_falls 181 = .ok (.iconst 1, 1) := by decide +kernel
theorem dL_falls_182 : decode cL_falls 182 = .ok (.goto 4, 3) := by decide +kernel
theorem dL_falls_185 : decode cL_falls 185 = .ok (.iconst 0, 1) := by decide +kernel
theorem dL_falls_186 : decode cL_falls 186 = .ok (.ireturn, 1) := by decide +kernel
theorem dL_types_0 : decode cL_types 0 = .ok (.iload_n 1, 1) := by decide +kernel
theorem dL_types_1 : decode cL_types 1 = .ok (.iconst 5, 1) := by decide +kernel
theorem dL_types_2 : decode cL_types 2 = .ok (.invokestatic 113, 3) := by decide +kernel
theorem dL_types_5 : decode cL_types 5 = .ok (.istore_n 2, 1) := by decide +kernel
theorem dL_types_6 : decode cL_types 6 = .ok (.aload_n 0, 1) := by decide +kernel
theorem dL_types_7 : decode cL_types 7 = .ok (.invokevirtual 128, 3) := by decide +kernel
theorem dL_types_10 : decode cL_types 10 = .ok (.ifCond .lt 7, 3) := by decide +kernel
theorem dL_types_13 : decode cL_types 13 = .ok (.iconst 1, 1) := by decide +kernel
theorem dL_types_14 : decode cL_types 14 = .ok (.goto 4, 3) := by decide +kernel
theorem dL_types_17 : decode cL_types 17 = .ok (.iconst 0, 1) := by decide +kernel
theorem dL_types_18 : decode cL_types 18 = .ok (.istore_n 3, 1) := by decide +kernel
theorem dL_types_19 : decode cL_types 19 = .ok (.iconst 0, 1) := by decide +kernel
theorem dL_types_20 : decode cL_types 20 = .ok (.istore 4, 2) := by decide +kernel
theorem dL_types_22 : decode cL_types 22 = .ok (.iload 4, 2) := by decide +kernel
theorem dL_types_24 : decode cL_types 24 = .ok (.iload_n 2, 1) := by decide +kernel
theorem dL_types_25 : decode cL_types 25 = .ok (.if_icmp .ge 411, 3) := by decide +kernel
theorem dL_types_28 : decode cL_types 28 = .ok (.iload_n 1, 1) := by decide +kernel
theorem dL_types_29 : decode cL_types 29 = .ok (.iconst 3, 1) := by decide +kernel
theorem dL_types_30 : decode cL_types 30 = .ok (.iconst 4, 1) := by decide +kernel
theorem dL_types_31 : decode cL_types 31 = .ok (.iload 4, 2) := by decide +kernel
theorem dL_types_33 : decode cL_types 33 = .ok (.imul, 1) := by decide +kernel
theorem dL_types_34 : decode cL_types 34 = .ok (.iadd, 1) := by decide +kernel
theorem dL_types_35 : decode cL_types 35 = .ok (.ishr, 1) := by decide +kernel
theorem dL_types_36 : decode cL_types 36 = .ok (.istore 5, 2) := by decide +kernel
theorem dL_types_38 : decode cL_types 38 = .ok (.iload 5, 2) := by decide +kernel
theorem dL_types_40 : decode cL_types 40 = .ok (.bipush 7, 2) := by decide +kernel
theorem dL_types_42 : decode cL_types 42 = .ok (.invokestatic 113, 3) := by decide +kernel
theorem dL_types_45 : decode cL_types 45 = .ok (.istore 6, 2) := by decide +kernel
theorem dL_types_47 : decode cL_types 47 = .ok (.iload 6, 2) := by decide +kernel
theorem dL_types_49 : decode cL_types 49 = .ok (.iconst 3, 1) := by decide +kernel
theorem dL_types_50 : decode cL_types 50 = .ok (.if_icmp .ge 34, 3) := by decide +kernel
theorem dL_types_53 : decode cL_types 53 = .ok (.iload 5, 2) := by decide +kernel
theorem dL_types_55 : decode cL_types 55 = .ok (.iconst 1, 1) := by decide +kernel
theorem dL_types_56 : decode cL_types 56 = .ok (.ishr, 1) := by decide +kernel
theorem dL_types_57 : decode cL_types 57 = .ok (.iload_n 1, 1) := by decide +kernel
theorem dL_types_58 : decode cL_types 58 = .ok (.bipush 23, 2) := by decide +kernel
theorem dL_types_60 : decode cL_types 60 = .ok (.ishr, 1) := by decide +kernel
theorem dL_types_61 : decode cL_types 61 = .ok (.bipush 9, 2) := by decide +kernel
theorem dL_types_63 : decode cL_types 63 = .ok (.invokestatic 113, 3) := by decide +kernel
theorem dL_types_66 : decode cL_types 66 = .ok (.ifCond .ne 9, 3) := by decide +kernel
theorem dL_types_69 : decode cL_types 69 = .ok (.sipush 260, 3) := by decide +kernel
theorem dL_types_72 : decode cL_types 72 = .ok (.goto 6, 3) := by decide +kernel
theorem dL_types_75 : decode cL_types 75 = .ok (.sipush 256, 3) := by decide +kernel
theorem dL_types_78 : decode cL_types 78 = .ok (.invokestatic 113, 3) := by decide +kernel
theorem dL_types_81 : decode cL_types 81 = .ok (.goto 66, 3) := by decide +kernel
theorem dL_types_84 : decode cL_types 84 = .ok (.iload 6, 2) := by decide +kernel
theorem dL_types_86 : decode cL_types 86 = .ok (.iconst 5, 1) := by decide +kernel
theorem dL_types_87 : decode cL_types 87 = .ok (.if_icmp .ge 32, 3) := by decide +kernel
theorem dL_types_90 : decode cL_types 90 = .ok (.iload 5, 2) := by decide +kernel
theorem dL_types_92 : decode cL_types 92 = .ok (.iconst 1, 1) := by decide +kernel
theorem dL_types_93 : decode cL_types 93 = .ok (.ishr, 1) := by decide +kernel
theorem dL_types_94 : decode cL_types 94 = .ok (.iload_n 1, 1) := by decide +kernel
theorem dL_types_95 : decode cL_types 95 = .ok (.bipush 24, 2) := by decide +kernel
theorem dL_types_97 : decode cL_types 97 = .ok (.ishr, 1) := by decide +kernel
theorem dL_types_98 : decode cL_types 98 = .ok (.bipush 9, 2) := by decide +kernel
theorem dL_types_100 : decode cL_types 100 = .ok (.invokestatic 113, 3) := by decide +kernel
theorem dL_types_103 : decode cL_types 103 = .ok (.ifCond .ne 8, 3) := by decide +kernel
theorem dL_types_106 : decode cL_types 106 = .ok (.bipush 9, 2) := by decide +kernel
theorem dL_types_108 : decode cL_types 108 = .ok (.goto 5, 3) := by decide +kernel
theorem dL_types_111 : decode cL_types 111 = .ok (.bipush 8, 2) := by decide +kernel
theorem dL_types_113 : decode cL_types 113 = .ok (.invokestatic 113, 3) := by decide +kernel
theorem dL_types_116 : decode cL_types 116 = .ok (.goto 31, 3) := by decide +kernel
theorem dL_types_119 : decode cL_types 119 = .ok (.iconst 1, 1) := by decide +kernel
theorem dL_types_120 : decode cL_types 120 = .ok (.iload 5, 2) := by decide +kernel
theorem dL_types_122 : decode cL_types 122 = .ok (.iconst 2, 1) := by decide +kernel
theorem dL_types_123 : decode cL_types 123 = .ok (.ishr, 1) := by decide +kernel
theorem dL_types_124 : decode cL_types 124 = .ok (.iload_n 1, 1) := by decide +kernel
theorem dL_types_125 : decode cL_types 125 = .ok (.bipush 25, 2) := by decide +kernel
theorem dL_types_127 : decode cL_types 127 = .ok (.ishr, 1) := by decide +kernel
theorem dL_types_128 : decode cL_types 128 = .ok (.bipush 9, 2) := by decide +kernel
theorem dL_types_130 : decode cL_types 130 = .ok (.invokestatic 113, 3) := by decide +kernel
theorem dL_types_133 : decode cL_types 133 = .ok (.ifCond .ne 8, 3) := by decide +kernel
theorem dL_types_136 : decode cL_types 136 = .ok (.bipush 110, 2) := by decide +kernel
theorem dL_types_138 : decode cL_types 138 = .ok (.goto 5, 3) := by decide +kernel
theorem dL_types_141 : decode cL_types 141 = .ok (.bipush 30, 2) := by decide +kernel
theorem dL_types_143 : decode cL_types 143 = .ok (.invokestatic 113, 3) := by decide +kernel
theorem dL_types_146 : decode cL_types 146 = .ok (.iadd, 1) := by decide +kernel
theorem dL_types_147 : decode cL_types 147 = .ok (.istore 7, 2) := by decide +kernel
theorem dL_types_149 : decode cL_types 149 = .ok (.iload_n 3, 1) := by decide +kernel
theorem dL_types_150 : decode cL_types 150 = .ok (.ifCond .eq 114, 3) := by decide +kernel
theorem dL_types_153 : decode cL_types 153 = .ok (.iload 4, 2) := by decide +kernel
theorem dL_types_155 : decode cL_types 155 = .ok (.ifCond .eq 12, 3) := by decide +kernel
theorem dL_types_158 : decode cL_types 158 = .ok (.aload_n 0, 1) := by decide +kernel
theorem dL_types_159 : decode cL_types 159 = .ok (.bipush 59, 2) := by decide +kernel
theorem dL_types_161 : decode cL_types 161 = .ok (.invokestatic 131, 3) := by decide +kernel
theorem dL_types_164 : decode cL_types 164 = .ok (.ifCond .le 100, 3) := by decide +kernel
theorem dL_types_167 : decode cL_types 167 = .ok (.aload_n 0, 1) := by decide +kernel
theorem dL_types_168 : decode cL_types 168 = .ok (.iload 6, 2) := by decide +kernel
theorem dL_types_170 : decode cL_types 170 = .ok (.iconst 3, 1) := by decide +kernel
theorem dL_types_171 : decode cL_types 171 = .ok (.if_icmp .ge 8, 3) := by decide +kernel
theorem dL_types_174 : decode cL_types 174 = .ok (.bipush 119, 2) := by decide +kernel
theorem dL_types_176 : decode cL_types 176 = .ok (.goto 16, 3) := by decide +kernel
theorem dL_types_179 : decode cL_types 179 = .ok (.iload 6, 2) := by decide +kernel
theorem dL_types_181 : decode cL_types 181 = .ok (.iconst 5, 1) := by decide +kernel
theorem dL_types_182 : decode cL_types 182 = .ok (.if_icmp .ge 8, 3) := by decide +kernel
theorem dL_types_185 : decode cL_types 185 = .ok (.bipush 101, 2) := by decide +kernel
theorem dL_types_187 : decode cL_types 187 = .ok (.goto 5, 3) := by decide +kernel
theorem dL_types_190 : decode cL_types 190 = .ok (.bipush 116, 2) := by decide +kernel
theorem dL_types_192 : decode cL_types 192 = .ok (.invokestatic 131, 3) := by decide +kernel
theorem dL_types_195 : decode cL_types 195 = .ok (.ifCond .le 69, 3) := by decide +kernel
theorem dL_types_198 : decode cL_types 198 = .ok (.iload 7, 2) := by decide +kernel
theorem dL_types_200 : decode cL_types 200 = .ok (.bipush 100, 2) := by decide +kernel
theorem dL_types_202 : decode cL_types 202 = .ok (.if_icmp .lt 18, 3) := by decide +kernel
theorem dL_types_205 : decode cL_types 205 = .ok (.aload_n 0, 1) := by decide +kernel
theorem dL_types_206 : decode cL_types 206 = .ok (.bipush 48, 2) := by decide +kernel
theorem dL_types_208 : decode cL_types 208 = .ok (.iload 7, 2) := by decide +kernel
theorem dL_types_210 : decode cL_types 210 = .ok (.bipush 100, 2) := by decide +kernel
theorem dL_types_212 : decode cL_types 212 = .ok (.idiv, 1) := by decide +kernel
theorem dL_types_213 : decode cL_types 213 = .ok (.iadd, 1) := by decide +kernel
theorem dL_types_214 : decode cL_types 214 = .ok (.invokestatic 131, 3) := by decide +kernel
theorem dL_types_217 : decode cL_types 217 = .ok (.ifCond .le 47, 3) := by decide +kernel
theorem dL_types_220 : decode cL_types 220 = .ok (.iload 7, 2) := by decide +kernel
theorem dL_types_222 : decode cL_types 222 = .ok (.bipush 10, 2) := by decide +kernel
theorem dL_types_224 : decode cL_types 224 = .ok (.if_icmp .lt 21, 3) := by decide +kernel
theorem dL_types_227 : decode cL_types 227 = .ok (.aload_n 0, 1) := by decide +kernel
theorem dL_types_228 : decode cL_types 228 = .ok (.bipush 48, 2) := by decide +kernel
theorem dL_types_230 : decode cL_types 230 = .ok (.iload 7, 2) := by decide +kernel
theorem dL_types_232 : decode cL_types 232 = .ok (.bipush 10, 2) := by decide +kernel
theorem dL_types_234 : decode cL_types 234 = .ok (.idiv, 1) := by decide +kernel
theorem dL_types_235 : decode cL_types 235 = .ok (.bipush 10, 2) := by decide +kernel
theorem dL_types_237 : decode cL_types 237 = .ok (.irem, 1) := by decide +kernel
theorem dL_types_238 : decode cL_types 238 = .ok (.iadd, 1) := by decide +kernel
theorem dL_types_239 : decode cL_types 239 = .ok (.invokestatic 131, 3) := by decide +kernel
theorem dL_types_242 : decode cL_types 242 = .ok (.ifCond .le 22, 3) := by decide +kernel
theorem dL_types_245 : decode cL_types 245 = .ok (.aload_n 0, 1) := by decide +kernel
theorem dL_types_246 : decode cL_types 246 = .ok (.bipush 48, 2) := by decide +kernel
theorem dL_types_248 : decode cL_types 248 = .ok (.iload 7, 2) := by decide +kernel
theorem dL_types_250 : decode cL_types 250 = .ok (.bipush 10, 2) := by decide +kernel
theorem dL_types_252 : decode cL_types 252 = .ok (.irem, 1) := by decide +kernel
theorem dL_types_253 : decode cL_types 253 = .ok (.iadd, 1) := by decide +kernel
theorem dL_types_254 : decode cL_types 254 = .ok (.invokestatic 131, 3) := by decide +kernel
theorem dL_types_257 : decode cL_types 257 = .ok (.ifCond .le 7, 3) := by decide +kernel
theorem dL_types_260 : decode cL_types 260 = .ok (.iconst 1, 1) := by decide +kernel
theorem dL_types_261 : decode cL_types 261 = .ok (.goto 4, 3) := by decide +kernel
theorem dL_types_264 : decode cL_types 264 = .ok (.iconst 0, 1) := by decide +kernel
theorem dL_types_265 : decode cL_types 265 = .ok (.istore_n 3, 1) := by decide +kernel
theorem dL_types_266 : decode cL_types 266 = .ok (.iload 6, 2) := by decide +kernel
theorem dL_types_268 : decode cL_types 268 = .ok (.iconst 3, 1) := by decide +kernel
theorem dL_types_269 : decode cL_types 269 = .ok (.if_icmp .ge 104, 3) := by decide +kernel
theorem dL_types_272 : decode cL_types 272 = .ok (.iconst 2, 1) := by decide +kernel
theorem dL_types_273 : decode cL_types 273 = .ok (.iconst 2, 1) := by decide +kernel
theorem dL_types_274 : decode cL_types 274 = .ok (.iload 5, 2) := by decide +kernel
theorem dL_types_276 : decode cL_types 276 = .ok (.iconst 4, 1) := by decide +kernel
theorem dL_types_277 : decode cL_types 277 = .ok (.ishr, 1) := by decide +kernel
theorem dL_types_278 : decode cL_types 278 = .ok (.iconst 2, 1) := by decide +kernel
theorem dL_types_279 : decode cL_types 279 = .ok (.invokestatic 113, 3) := by decide +kernel
theorem dL_types_282 : decode cL_types 282 = .ok (.imul, 1) := by decide +kernel
theorem dL_types_283 : decode cL_types 283 = .ok (.iadd, 1) := by decide +kernel
theorem dL_types_284 : decode cL_types 284 = .ok (.istore 8, 2) := by decide +kernel
theorem dL_types_286 : decode cL_types 286 = .ok (.iload_n 3, 1) := by decide +kernel
theorem dL_types_287 : decode cL_types 287 = .ok (.ifCond .eq 16, 3) := by decide +kernel
theorem dL_types_290 : decode cL_types 290 = .ok (.aload_n 0, 1) := by decide +kernel
theorem dL_types_291 : decode cL_types 291 = .ok (.bipush 58, 2) := by decide +kernel
theorem dL_types_293 : decode cL_types 293 = .ok (.invokestatic 131, 3) := by decide +kernel
theorem dL_types_296 : decode cL_types 296 = .ok (.ifCond .le 7, 3) := by decide +kernel
theorem dL_types_299 : decode cL_types 299 = .ok (.iconst 1, 1) := by decide +kernel
theorem dL_types_300 : decode cL_types 300 = .ok (.goto 4, 3) := by decide +kernel
theorem dL_types_303 : decode cL_types 303 = .ok (.iconst 0, 1) := by decide +kernel
theorem dL_types_304 : decode cL_types 304 = .ok (.istore_n 3, 1) := by decide +kernel
theorem dL_types_305 : decode cL_types 305 = .ok (.iconst 0, 1) := by decide +kernel
theorem dL_types_306 : decode cL_types 306 = .ok (.istore 9, 2) := by decide +kernel
theorem dL_types_308 : decode cL_types 308 = .ok (.iload 9, 2) := by decide +kernel
theorem dL_types_310 : decode cL_types 310 = .ok (.iload 8, 2) := by decide +kernel
theorem dL_types_312 : decode cL_types 312 = .ok (.if_icmp .ge 61, 3) := by decide +kernel
theorem dL_types_315 : decode cL_types 315 = .ok (.iload 5, 2) := by decide +kernel
theorem dL_types_317 : decode cL_types 317 = .ok (.iload 9, 2) := by decide +kernel
theorem dL_types_319 : decode cL_types 319 = .ok (.ishr, 1) := by decide +kernel
theorem dL_types_320 : decode cL_types 320 = .ok (.bipush 16, 2) := by decide +kernel
theorem dL_types_322 : decode cL_types 322 = .ok (.invokestatic 113, 3) := by decide +kernel
theorem dL_types_325 : decode cL_types 325 = .ok (.istore 10, 2) := by decide +kernel
theorem dL_types_327 : decode cL_types 327 = .ok (.iload_n 3, 1) := by decide +kernel
theorem dL_types_328 : decode cL_types 328 = .ok (.ifCond .eq 37, 3) := by decide +kernel
theorem dL_types_331 : decode cL_types 331 = .ok (.aload_n 0, 1) := by decide +kernel
theorem dL_types_332 : decode cL_types 332 = .ok (.iload 10, 2) := by decide +kernel
theorem dL_types_334 : decode cL_types 334 = .ok (.bipush 10, 2) := by decide +kernel
theorem dL_types_336 : decode cL_types 336 = .ok (.if_icmp .ge 11, 3) := by decide +kernel
theorem dL_types_339 : decode cL_types 339 = .ok (.bipush 48, 2) := by decide +kernel
theorem dL_types_341 : decode cL_types 341 = .ok (.iload 10, 2) := by decide +kernel
theorem dL_types_343 : decode cL_types 343 = .ok (.iadd, 1) := by decide +kernel
theorem dL_types_344 : decode cL_types 344 = .ok (.goto 11, 3) := by decide +kernel
theorem dL_types_347 : decode cL_types 347 = .ok (.bipush 97, 2) := by decide +kernel
theorem dL_types_349 : decode cL_types 349 = .ok (.iload 10, 2) := by decide +kernel
theorem dL_types_351 : decode cL_types 351 = .ok (.iadd, 1) := by decide +kernel
theorem dL_types_352 : decode cL_types 352 = .ok (.bipush 10, 2) := by decide +kernel
theorem dL_types_354 : decode cL_types 354 = .ok (.isub, 1) := by decide +kernel
theorem dL_types_355 : decode cL_types 355 = .ok (.invokestatic 131, 3) := by decide +kernel
theorem dL_types_358 : decode cL_types 358 = .ok (.ifCond .le 7, 3) := by decide +kernel
theorem dL_types_361 : decode cL_types 361 = .ok (.iconst 1, 1) := by decide +kernel
theorem dL_types_362 : decode cL_types 362 = .ok (.goto 4, 3) := by decide +kernel
theorem dL_types_365 : decode cL_types 365 = .ok (.iconst 0, 1) := by decide +kernel
theorem dL_types_366 : decode cL_types 366 = .ok (.istore_n 3, 1) := by decide +kernel
theorem dL_types_367 : decode cL_types 367 = .ok (.iinc 9 1, 3) := by decide +kernel
theorem dL_types_370 : decode cL_types 370 = .ok (.goto (-62), 3) := by decide +kernel
theorem dL_types_373 : decode cL_types 373 = .ok (.iload 6, 2) := by decide +kernel
theorem dL_types_375 : decode cL_types 375 = .ok (.iconst 5, 1) := by decide +kernel
theorem dL_types_376 : decode cL_types 376 = .ok (.if_icmp .ge 54, 3) := by decide +kernel
theorem dL_types_379 : decode cL_types 379 = .ok (.iload 5, 2) := by decide +kernel
theorem dL_types_381 : decode cL_types 381 = .ok (.bipush 6, 2) := by decide +kernel
theorem dL_types_383 : decode cL_types 383 = .ok (.ishr, 1) := by decide +kernel
theorem dL_types_384 : decode cL_types 384 = .ok (.iconst 2, 1) := by decide +kernel
theorem dL_types_385 : decode cL_types 385 = .ok (.invokestatic 113, 3) := by decide +kernel
theorem dL_types_388 : decode cL_types 388 = .ok (.ifCond .ne 42, 3) := by decide +kernel
theorem dL_types_391 : decode cL_types 391 = .ok (.iload_n 3, 1) := by decide +kernel
theorem dL_types_392 : decode cL_types 392 = .ok (.ifCond .eq 36, 3) := by decide +kernel
theorem dL_types_395 : decode cL_types 395 = .ok (.aload_n 0, 1) := by decide +kernel
theorem dL_types_396 : decode cL_types 396 = .ok (.bipush 33, 2) := by decide +kernel
theorem dL_types_398 : decode cL_types 398 = .ok (.invokestatic 131, 3) := by decide +kernel
theorem dL_types_401 : decode cL_types 401 = .ok (.ifCond .le 27, 3) := by decide +kernel
theorem dL_types_404 : decode cL_types 404 = .ok (.aload_n 0, 1) := by decide +kernel
theorem dL_types_405 : decode cL_types 405 = .ok (.bipush 48, 2) := by decide +kernel
theorem dL_types_407 : decode cL_types 407 = .ok (.iload 5, 2) := by decide +kernel
theorem dL_types_409 : decode cL_types 409 = .ok (.bipush 7, 2) := by decide +kernel
theorem dL_types_411 : decode cL_types 411 = .ok (.ishr, 1) := by decide +kernel
theorem dL_types_412 : decode cL_types 412 = .ok (.bipush 10, 2) := by decide +kernel
theorem dL_types_414 : decode cL_types 414 = .ok (.invokestatic 113, 3) := by decide +kernel
theorem dL_types_417 : decode cL_types 417 = .ok (.iadd, 1) := by decide +kernel
theorem dL_types_418 : decode cL_types 418 = .ok (.invokestatic 131, 3) := by decide +kernel
theorem dL_types_421 : decode cL_types 421 = .ok (.ifCond .le 7, 3) := by decide +kernel
theorem dL_types_424 : decode cL_types 424 = .ok (.iconst 1, 1) := by decide +kernel
theorem dL_types_425 : decode cL_types 425 = .ok (.goto 4, 3) := by decide +kernel
theorem dL_types_428 : decode cL_types 428 = .ok (.iconst 0, 1) := by decide +kernel
theorem dL_types_429 : decode cL_types 429 = .ok (.istore_n 3, 1) := by decide +kernel
theorem dL_types_430 : decode cL_types 430 = .ok (.iinc 4 1, 3) := by decide +kernel
theorem dL_types_433 : decode cL_types 433 = .ok (.goto (-411), 3) := by decide +kernel
theorem dL_types_436 : decode cL_types 436 = .ok (.iload_n 3, 1) := by decide +kernel
theorem dL_types_437 : decode cL_types 437 = .ok (.ifCond .eq 28, 3) := by decide +kernel
theorem dL_types_440 : decode cL_types 440 = .ok (.iload_n 1, 1) := by decide +kernel
theorem dL_types_441 : decode cL_types 441 = .ok (.bipush 26, 2) := by decide +kernel
theorem dL_types_443 : decode cL_types 443 = .ok (.ishr, 1) := by decide +kernel
theorem dL_types_444 : decode cL_types 444 = .ok (.bipush 6, 2) := by decide +kernel
theorem dL_types_446 : decode cL_types 446 = .ok (.invokestatic 113, 3) := by decide +kernel
theorem dL_types_449 : decode cL_types 449 = .ok (.ifCond .gt 12, 3) := by decide +kernel
theorem dL_types_452 : decode cL_types 452 = .ok (.aload_n 0, 1) := by decide +kernel
theorem dL_types_453 : decode cL_types 453 = .ok (.bipush 59, 2) := by decide +kernel
theorem dL_types_455 : decode cL_types 455 = .ok (.invokestatic 131, 3) := by decide +kernel
theorem dL_types_458 : decode cL_types 458 = .ok (.ifCond .le 7, 3) := by decide +kernel
theorem dL_types_461 : decode cL_types 461 = .ok (.iconst 1, 1) := by decide +kernel
theorem dL_types_462 : decode cL_types 462 = .ok (.goto 4, 3) := by decide +kernel
theorem dL_types_465 : decode cL_types 465 = .ok (.iconst 0, 1) := by decide +kernel
theorem dL_types_466 : decode cL_types 466 = .ok (.ireturn, 1) := by decide +kernel
theorem dL_reads_0 : decode cL_reads 0 = .ok (.aload_n 0, 1) := by decide +kernel
theorem dL_reads_1 : decode cL_reads 1 = .ok (.invokestatic 133, 3) := by decide +kernel
theorem dL_reads_4 : decode cL_reads 4 = .ok (.lstore_n 2, 1) := by decide +kernel
theorem dL_reads_5 : decode cL_reads 5 = .ok (.aload_n 0, 1) := by decide +kernel
theorem dL_reads_6 : decode cL_reads 6 = .ok (.bipush 15, 2) := by decide +kernel
theorem dL_reads_8 : decode cL_reads 8 = .ok (.invokevirtual 76, 3) := by decide +kernel
theorem dL_reads_11 : decode cL_reads 11 = .ok (.istore 4, 2) := by decide +kernel
theorem dL_reads_13 : decode cL_reads 13 = .ok (.aload_n 0, 1) := by decide +kernel
theorem dL_reads_14 : decode cL_reads 14 = .ok (.iload_n 1, 1) := by decide +kernel
theorem dL_reads_15 : decode cL_reads 15 = .ok (.invokestatic 137, 3) := by decide +kernel
theorem dL_reads_18 : decode cL_reads 18 = .ok (.istore 5, 2) := by decide +kernel
theorem dL_reads_20 : decode cL_reads 20 = .ok (.aload_n 0, 1) := by decide +kernel
theorem dL_reads_21 : decode cL_reads 21 = .ok (.invokevirtual 141, 3) := by decide +kernel
theorem dL_reads_24 : decode cL_reads 24 = .ok (.istore 6, 2) := by decide +kernel
theorem dL_reads_26 : decode cL_reads 26 = .ok (.aload_n 0, 1) := by decide +kernel
theorem dL_reads_27 : decode cL_reads 27 = .ok (.invokestatic 144, 3) := by decide +kernel
theorem dL_reads_30 : decode cL_reads 30 = .ok (.istore 7, 2) := by decide +kernel
theorem dL_reads_32 : decode cL_reads 32 = .ok (.aload_n 0, 1) := by decide +kernel
theorem dL_reads_33 : decode cL_reads 33 = .ok (.invokevirtual 128, 3) := by decide +kernel
theorem dL_reads_36 : decode cL_reads 36 = .ok (.istore 8, 2) := by decide +kernel
theorem dL_reads_38 : decode cL_reads 38 = .ok (.iload 5, 2) := by decide +kernel
theorem dL_reads_40 : decode cL_reads 40 = .ok (.ifCond .eq 89, 3) := by decide +kernel
theorem dL_reads_43 : decode cL_reads 43 = .ok (.iload 7, 2) := by decide +kernel
theorem dL_reads_45 : decode cL_reads 45 = .ok (.bipush (-102), 2) := by decide +kernel
theorem dL_reads_47 : decode cL_reads 47 = .ok (.if_icmp .ne 33, 3) := by decide +kernel
theorem dL_reads_50 : decode cL_reads 50 = .ok (.iload 6, 2) := by decide +kernel
theorem dL_reads_52 : decode cL_reads 52 = .ok (.iload 8, 2) := by decide +kernel
theorem dL_reads_54 : decode cL_reads 54 = .ok (.if_icmp .gt 75, 3) := by decide +kernel
theorem dL_reads_57 : decode cL_reads 57 = .ok (.aload_n 0, 1) := by decide +kernel
theorem dL_reads_58 : decode cL_reads 58 = .ok (.invokestatic 133, 3) := by decide +kernel
theorem dL_reads_61 : decode cL_reads 61 = .ok (.lload_n 2, 1) := by decide +kernel
theorem dL_reads_62 : decode cL_reads 62 = .ok (.lcmp, 1) := by decide +kernel
theorem dL_reads_63 : decode cL_reads 63 = .ok (.ifCond .ne 66, 3) := by decide +kernel
theorem dL_reads_66 : decode cL_reads 66 = .ok (.aload_n 0, 1) := by decide +kernel
theorem dL_reads_67 : decode cL_reads 67 = .ok (.bipush 15, 2) := by decide +kernel
theorem dL_reads_69 : decode cL_reads 69 = .ok (.invokevirtual 76, 3) := by decide +kernel
theorem dL_reads_72 : decode cL_reads 72 = .ok (.iload 4, 2) := by decide +kernel
theorem dL_reads_74 : decode cL_reads 74 = .ok (.if_icmp .ne 55, 3) := by decide +kernel
theorem dL_reads_77 : decode cL_reads 77 = .ok (.goto 48, 3) := by decide +kernel
theorem dL_reads_80 : decode cL_reads 80 = .ok (.iload 7, 2) := by decide +kernel
theorem dL_reads_82 : decode cL_reads 82 = .ok (.ifCond .lt 47, 3) := by decide +kernel
theorem dL_reads_85 : decode cL_reads 85 = .ok (.iload 7, 2) := by decide +kernel
theorem dL_reads_87 : decode cL_reads 87 = .ok (.iload_n 1, 1) := by decide +kernel
theorem dL_reads_88 : decode cL_reads 88 = .ok (.iconst 5, 1) := by decide +kernel
theorem dL_reads_89 : decode cL_reads 89 = .ok (.invokestatic 113, 3) := by decide +kernel
theorem dL_reads_92 : decode cL_reads 92 = .ok (.if_icmp .gt 37, 3) := by decide +kernel
theorem dL_reads_95 : decode cL_reads 95 = .ok (.iload 8, 2) := by decide +kernel
theorem dL_reads_97 : decode cL_reads 97 = .ok (.ifCond .ne 32, 3) := by decide +kernel
theorem dL_reads_100 : decode cL_reads 100 = .ok (.aload_n 0, 1) := by decide +kernel
theorem dL_reads_101 : decode cL_reads 101 = .ok (.bipush 15, 2) := by decide +kernel
theorem dL_reads_103 : decode cL_reads 103 = .ok (.invokevirtual 76, 3) := by decide +kernel
theorem dL_reads_106 : decode cL_reads 106 = .ok (.iload 4, 2) := by decide +kernel
theorem dL_reads_108 : decode cL_reads 108 = .ok (.bipush 6, 2) := by decide +kernel
theorem dL_reads_110 : decode cL_reads 110 = .ok (.if_icmp .ge 10, 3) := by decide +kernel
theorem dL_reads_113 : decode cL_reads 113 = .ok (.iload 4, 2) := by decide +kernel
theorem dL_reads_115 : decode cL_reads 115 = .ok (.iconst 1, 1) := by decide +kernel
theorem dL_reads_116 : decode cL_reads 116 = .ok (.iadd, 1) := by decide +kernel
theorem dL_reads_117 : decode cL_reads 117 = .ok (.goto 5, 3) := by decide +kernel
theorem dL_reads_120 : decode cL_reads 120 = .ok (.bipush 6, 2) := by decide +kernel
theorem dL_reads_122 : decode cL_reads 122 = .ok (.if_icmp .ne 7, 3) := by decide +kernel
theorem dL_reads_125 : decode cL_reads 125 = .ok (.iconst 1, 1) := by decide +kernel
theorem dL_reads_126 : decode cL_reads 126 = .ok (.goto 4, 3) := by decide +kernel
theorem dL_reads_129 : decode cL_reads 129 = .ok (.iconst 0, 1) := by decide +kernel
theorem dL_reads_130 : decode cL_reads 130 = .ok (.ireturn, 1) := by decide +kernel
theorem dL_begins_0 : decode cL_begins 0 = .ok (.iload_n 1, 1) := by decide +kernel
theorem dL_begins_1 : decode cL_begins 1 = .ok (.ifCond .ne 13, 3) := by decide +kernel
theorem dL_begins_4 : decode cL_begins 4 = .ok (.iload_n 2, 1) := by decide +kernel
theorem dL_begins_5 : decode cL_begins 5 = .ok (.sipush 257, 3) := by decide +kernel
theorem dL_begins_8 : decode cL_begins 8 = .ok (.invokestatic 113, 3) := by decide +kernel
theorem dL_begins_11 : decode cL_begins 11 = .ok (.goto 23, 3) := by decide +kernel
theorem dL_begins_14 : decode cL_begins 14 = .ok (.iload_n 1, 1) := by decide +kernel
theorem dL_begins_15 : decode cL_begins 15 = .ok (.iconst 1, 1) := by decide +kernel
theorem dL_begins_16 : decode cL_begins 16 = .ok (.if_icmp .ne 12, 3) := by decide +kernel
theorem dL_begins_19 : decode cL_begins 19 = .ok (.iload_n 2, 1) := by decide +kernel
theorem dL_begins_20 : decode cL_begins 20 = .ok (.bipush 9, 2) := by decide +kernel
theorem dL_begins_22 : decode cL_begins 22 = .ok (.invokestatic 113, 3) := by decide +kernel
theorem dL_begins_25 : decode cL_begins 25 = .ok (.goto 9, 3) := by decide +kernel
theorem dL_begins_28 : decode cL_begins 28 = .ok (.iload_n 2, 1) := by decide +kernel
theorem dL_begins_29 : decode cL_begins 29 = .ok (.bipush 6, 2) := by decide +kernel
theorem dL_begins_31 : decode cL_begins 31 = .ok (.invokestatic 113, 3) := by decide +kernel
theorem dL_begins_34 : decode cL_begins 34 = .ok (.istore_n 3, 1) := by decide +kernel
theorem dL_begins_35 : decode cL_begins 35 = .ok (.iload_n 2, 1) := by decide +kernel
theorem dL_begins_36 : decode cL_begins 36 = .ok (.bipush 9, 2) := by decide +kernel
theorem dL_begins_38 : decode cL_begins 38 = .ok (.ishr, 1) := by decide +kernel
theorem dL_begins_39 : decode cL_begins 39 = .ok (.iconst 3, 1) := by decide +kernel
theorem dL_begins_40 : decode cL_begins 40 = .ok (.invokestatic 113, 3) := by decide +kernel
theorem dL_begins_43 : decode cL_begins 43 = .ok (.istore 4, 2) := by decide +kernel
theorem dL_begins_45 : decode cL_begins 45 = .ok (.iload_n 1, 1) := by decide +kernel
theorem dL_begins_46 : decode cL_begins 46 = .ok (.ifCond .ne 18, 3) := by decide +kernel
theorem dL_begins_49 : decode cL_begins 49 = .ok (.iload_n 3, 1) := by decide +kernel
theorem dL_begins_50 : decode cL_begins 50 = .ok (.sipush 256, 3) := by decide +kernel
theorem dL_begins_53 : decode cL_begins 53 = .ok (.if_icmp .ne 7, 3) := by decide +kernel
theorem dL_begins_56 : decode cL_begins 56 = .ok (.iconst 1, 1) := by decide +kernel
theorem dL_begins_57 : decode cL_begins 57 = .ok (.goto 42, 3) := by decide +kernel
theorem dL_begins_60 : decode cL_begins 60 = .ok (.iconst 0, 1) := by decide +kernel
theorem dL_begins_61 : decode cL_begins 61 = .ok (.goto 38, 3) := by decide +kernel
theorem dL_begins_64 : decode cL_begins 64 = .ok (.iload_n 1, 1) := by decide +kernel
theorem dL_begins_65 : decode cL_begins 65 = .ok (.iconst 1, 1) := by decide +kernel
theorem dL_begins_66 : decode cL_begins 66 = .ok (.if_icmp .ne 17, 3) := by decide +kernel
theorem dL_begins_69 : decode cL_begins 69 = .ok (.iload_n 3, 1) := by decide +kernel
theorem dL_begins_70 : decode cL_begins 70 = .ok (.bipush 8, 2) := by decide +kernel
theorem dL_begins_72 : decode cL_begins 72 = .ok (.if_icmp .ne 7, 3) := by decide +kernel
theorem dL_begins_75 : decode cL_begins 75 = .ok (.iconst 1, 1) := by decide +kernel
theorem dL_begins_76 : decode cL_begins 76 = .ok (.goto 23, 3) := by decide +kernel
theorem dL_begins_79 : decode cL_begins 79 = .ok (.iconst 0, 1) := by decide +kernel
theorem dL_begins_80 : decode cL_begins 80 = .ok (.goto 19, 3) := by decide +kernel
theorem dL_begins_83 : decode cL_begins 83 = .ok (.iload_n 3, 1) := by decide +kernel
theorem dL_begins_84 : decode cL_begins 84 = .ok (.iconst 5, 1) := by decide +kernel
theorem dL_begins_85 : decode cL_begins 85 = .ok (.if_icmp .eq 9, 3) := by decide +kernel
theorem dL_begins_88 : decode cL_begins 88 = .ok (.iload 4, 2) := by decide +kernel
theorem dL_begins_90 : decode cL_begins 90 = .ok (.iconst 2, 1) := by decide +kernel
theorem dL_begins_91 : decode cL_begins 91 = .ok (.if_icmp .ne 7, 3) := by decide +kernel
theorem dL_begins_94 : decode cL_begins 94 = .ok (.iconst 1, 1) := by decide +kernel
theorem dL_begins_95 : decode cL_begins 95 = .ok (.goto 4, 3) := by decide +kernel
theorem dL_begins_98 : decode cL_begins 98 = .ok (.iconst 0, 1) := by decide +kernel
theorem dL_begins_99 : decode cL_begins 99 = .ok (.istore 5, 2) := by decide +kernel
theorem dL_begins_101 : decode cL_begins 101 = .ok (.iload 5, 2) := by decide +kernel
theorem dL_begins_103 : decode cL_begins 103 = .ok (.ifCond .eq 7, 3) := by decide +kernel
theorem dL_begins_106 : decode cL_begins 106 = .ok (.iconst 0, 1) := by decide +kernel
theorem dL_begins_107 : decode cL_begins 107 = .ok (.goto 11, 3) := by decide +kernel
theorem dL_begins_110 : decode cL_begins 110 = .ok (.aload_n 0, 1) := by decide +kernel
theorem dL_begins_111 : decode cL_begins 111 = .ok (.iload_n 1, 1) := by decide +kernel
theorem dL_begins_112 : decode cL_begins 112 = .ok (.iconst 1, 1) := by decide +kernel
theorem dL_begins_113 : decode cL_begins 113 = .ok (.iadd, 1) := by decide +kernel
theorem dL_begins_114 : decode cL_begins 114 = .ok (.iload_n 3, 1) := by decide +kernel
theorem dL_begins_115 : decode cL_begins 115 = .ok (.invokevirtual 110, 3) := by decide +kernel
theorem dL_begins_118 : decode cL_begins 118 = .ok (.istore 6, 2) := by decide +kernel
theorem dL_begins_120 : decode cL_begins 120 = .ok (.aload_n 0, 1) := by decide +kernel
theorem dL_begins_121 : decode cL_begins 121 = .ok (.bipush 11, 2) := by decide +kernel
theorem dL_begins_123 : decode cL_begins 123 = .ok (.invokevirtual 76, 3) := by decide +kernel
theorem dL_begins_126 : decode cL_begins 126 = .ok (.bipush 8, 2) := by decide +kernel
theorem dL_begins_128 : decode cL_begins 128 = .ok (.if_icmp .le 8, 3) := by decide +kernel
theorem dL_begins_131 : decode cL_begins 131 = .ok (.bipush 8, 2) := by decide +kernel
theorem dL_begins_133 : decode cL_begins 133 = .ok (.goto 9, 3) := by decide +kernel
theorem dL_begins_136 : decode cL_begins 136 = .ok (.aload_n 0, 1) := by decide +kernel
theorem dL_begins_137 : decode cL_begins 137 = .ok (.bipush 11, 2) := by decide +kernel
theorem dL_begins_139 : decode cL_begins 139 = .ok (.invokevirtual 76, 3) := by decide +kernel
theorem dL_begins_142 : decode cL_begins 142 = .ok (.istore 7, 2) := by decide +kernel
theorem dL_begins_144 : decode cL_begins 144 = .ok (.iload 5, 2) := by decide +kernel
theorem dL_begins_146 : decode cL_begins 146 = .ok (.ifCond .eq 7, 3) := by decide +kernel
theorem dL_begins_149 : decode cL_begins 149 = .ok (.iconst 0, 1) := by decide +kernel
theorem dL_begins_150 : decode cL_begins 150 = .ok (.goto 37, 3) := by decide +kernel
theorem dL_begins_153 : decode cL_begins 153 = .ok (.iload_n 1, 1) := by decide +kernel
theorem dL_begins_154 : decode cL_begins 154 = .ok (.ifCond .ne 14, 3) := by decide +kernel
theorem dL_begins_157 : decode cL_begins 157 = .ok (.iload 7, 2) := by decide +kernel
theorem dL_begins_159 : decode cL_begins 159 = .ok (.aload_n 0, 1) := by decide +kernel
theorem dL_begins_160 : decode cL_begins 160 = .ok (.iconst 0, 1) := by decide +kernel
theorem dL_begins_161 : decode cL_begins 161 = .ok (.invokevirtual 88, 3) := by decide +kernel
theorem dL_begins_164 : decode cL_begins 164 = .ok (.imul, 1) := by decide +kernel
theorem dL_begins_165 : decode cL_begins 165 = .ok (.goto 22, 3) := by decide +kernel
theorem dL_begins_168 : decode cL_begins 168 = .ok (.iload_n 1, 1) := by decide +kernel
theorem dL_begins_169 : decode cL_begins 169 = .ok (.iconst 1, 1) := by decide +kernel
theorem dL_begins_170 : decode cL_begins 170 = .ok (.if_icmp .ne 12, 3) := by decide +kernel
theorem dL_begins_173 : decode cL_begins 173 = .ok (.aload_n 0, 1) := by decide +kernel
theorem dL_begins_174 : decode cL_begins 174 = .ok (.iload_n 3, 1) := by decide +kernel
theorem dL_begins_175 : decode cL_begins 175 = .ok (.iconst 5, 1) := by decide +kernel
theorem dL_begins_176 : decode cL_begins 176 = .ok (.invokevirtual 82, 3) := by decide +kernel
theorem dL_begins_179 : decode cL_begins 179 = .ok (.goto 8, 3) := by decide +kernel
theorem dL_begins_182 : decode cL_begins 182 = .ok (.aload_n 0, 1) := by decide +kernel
theorem dL_begins_183 : decode cL_begins 183 = .ok (.iconst 3, 1) := by decide +kernel
theorem dL_begins_184 : decode cL_begins 184 = .ok (.invokevirtual 88, 3) := by decide +kernel
theorem dL_begins_187 : decode cL_begins 187 = .ok (.istore 8, 2) := by decide +kernel
theorem dL_begins_189 : decode cL_begins 189 = .ok (.iload_n 1, 1) := by decide +kernel
theorem dL_begins_190 : decode cL_begins 190 = .ok (.ifCond .ne 11, 3) := by decide +kernel
theorem dL_begins_193 : decode cL_begins 193 = .ok (.aload_n 0, 1) := by decide +kernel
theorem dL_begins_194 : decode cL_begins 194 = .ok (.iload_n 3, 1) := by decide +kernel
theorem dL_begins_195 : decode cL_begins 195 = .ok (.invokestatic 147, 3) := by decide +kernel
theorem dL_begins_198 : decode cL_begins 198 = .ok (.goto 23, 3) := by decide +kernel
theorem dL_begins_201 : decode cL_begins 201 = .ok (.iload_n 1, 1) := by decide +kernel
theorem dL_begins_202 : decode cL_begins 202 = .ok (.iconst 1, 1) := by decide +kernel
theorem dL_begins_203 : decode cL_begins 203 = .ok (.if_icmp .ne 11, 3) := by decide +kernel
theorem dL_begins_206 : decode cL_begins 206 = .ok (.aload_n 0, 1) := by decide +kernel
theorem dL_begins_207 : decode cL_begins 207 = .ok (.iload_n 3, 1) := by decide +kernel
theorem dL_begins_208 : decode cL_begins 208 = .ok (.invokestatic 149, 3) := by decide +kernel
theorem dL_begins_211 : decode cL_begins 211 = .ok (.goto 10, 3) := by decide +kernel
theorem dL_begins_214 : decode cL_begins 214 = .ok (.aload_n 0, 1) := by decide +kernel
theorem dL_begins_215 : decode cL_begins 215 = .ok (.iload_n 3, 1) := by decide +kernel
theorem dL_begins_216 : decode cL_begins 216 = .ok (.iload 4, 2) := by decide +kernel
theorem dL_begins_218 : decode cL_begins 218 = .ok (.invokestatic 151, 3) := by decide +kernel
theorem dL_begins_221 : decode cL_begins 221 = .ok (.istore 9, 2) := by decide +kernel
theorem dL_begins_223 : decode cL_begins 223 = .ok (.iload 5, 2) := by decide +kernel
theorem dL_begins_225 : decode cL_begins 225 = .ok (.ifCond .eq 28, 3) := by decide +kernel
theorem dL_begins_228 : decode cL_begins 228 = .ok (.iload 9, 2) := by decide +kernel
theorem dL_begins_230 : decode cL_begins 230 = .ok (.iload_n 1, 1) := by decide +kernel
theorem dL_begins_231 : decode cL_begins 231 = .ok (.iconst 2, 1) := by decide +kernel
theorem dL_begins_232 : decode cL_begins 232 = .ok (.if_icmp .ne 8, 3) := by decide +kernel
theorem dL_begins_235 : decode cL_begins 235 = .ok (.bipush (-102), 2) := by decide +kernel
theorem dL_begins_237 : decode cL_begins 237 = .ok (.goto 5, 3) := by decide +kernel
theorem dL_begins_240 : decode cL_begins 240 = .ok (.bipush (-101), 2) := by decide +kernel
theorem dL_begins_242 : decode cL_begins 242 = .ok (.if_icmp .ne 7, 3) := by decide +kernel
theorem dL_begins_245 : decode cL_begins 245 = .ok (.iconst 1, 1) := by decide +kernel
theorem dL_begins_246 : decode cL_begins 246 = .ok (.goto 103, 3) := by decide +kernel
theorem dL_begins_249 : decode cL_begins 249 = .ok (.iconst 0, 1) := by decide +kernel
theorem dL_begins_250 : decode cL_begins 250 = .ok (.goto 99, 3) := by decide +kernel
theorem dL_begins_253 : decode cL_begins 253 = .ok (.iload 6, 2) := by decide +kernel
theorem dL_begins_255 : decode cL_begins 255 = .ok (.ifCond .le 18, 3) := by decide +kernel
theorem dL_begins_258 : decode cL_begins 258 = .ok (.iload 9, 2) := by decide +kernel
theorem dL_begins_260 : decode cL_begins 260 = .ok (.bipush (-103), 2) := by decide +kernel
theorem dL_begins_262 : decode cL_begins 262 = .ok (.if_icmp .ne 7, 3) := by decide +kernel
theorem dL_begins_265 : decode cL_begins 265 = .ok (.iconst 1, 1) := by decide +kernel
theorem dL_begins_266 : decode cL_begins 266 = .ok (.goto 83, 3) := by decide +kernel
theorem dL_begins_269 : decode cL_begins 269 = .ok (.iconst 0, 1) := by decide +kernel
theorem dL_begins_270 : decode cL_begins 270 = .ok (.goto 79, 3) := by decide +kernel
theorem dL_begins_273 : decode cL_begins 273 = .ok (.iload 9, 2) := by decide +kernel
theorem dL_begins_275 : decode cL_begins 275 = .ok (.iload 8, 2) := by decide +kernel
theorem dL_begins_277 : decode cL_begins 277 = .ok (.if_icmp .ne 71, 3) := by decide +kernel
theorem dL_begins_280 : decode cL_begins 280 = .ok (.aload_n 0, 1) := by decide +kernel
theorem dL_begins_281 : decode cL_begins 281 = .ok (.iconst 0, 1) := by decide +kernel
theorem dL_begins_282 : decode cL_begins 282 = .ok (.iconst 0, 1) := by decide +kernel
theorem dL_begins_283 : decode cL_begins 283 = .ok (.invokevirtual 85, 3) := by decide +kernel
theorem dL_begins_286 : decode cL_begins 286 = .ok (.iload_n 1, 1) := by decide +kernel
theorem dL_begins_287 : decode cL_begins 287 = .ok (.iconst 1, 1) := by decide +kernel
theorem dL_begins_288 : decode cL_begins 288 = .ok (.iadd, 1) := by decide +kernel
theorem dL_begins_289 : decode cL_begins 289 = .ok (.if_icmp .ne 59, 3) := by decide +kernel
theorem dL_begins_292 : decode cL_begins 292 = .ok (.aload_n 0, 1) := by decide +kernel
theorem dL_begins_293 : decode cL_begins 293 = .ok (.iconst 0, 1) := by decide +kernel
theorem dL_begins_294 : decode cL_begins 294 = .ok (.iconst 1, 1) := by decide +kernel
theorem dL_begins_295 : decode cL_begins 295 = .ok (.invokevirtual 85, 3) := by decide +kernel
theorem dL_begins_298 : decode cL_begins 298 = .ok (.iload_n 3, 1) := by decide +kernel
theorem dL_begins_299 : decode cL_begins 299 = .ok (.if_icmp .ne 49, 3) := by decide +kernel
theorem dL_begins_302 : decode cL_begins 302 = .ok (.aload_n 0, 1) := by decide +kernel
theorem dL_begins_303 : decode cL_begins 303 = .ok (.iconst 0, 1) := by decide +kernel
theorem dL_begins_304 : decode cL_begins 304 = .ok (.iconst 2, 1) := by decide +kernel
theorem dL_begins_305 : decode cL_begins 305 = .ok (.invokevirtual 85, 3) := by decide +kernel
theorem dL_begins_308 : decode cL_begins 308 = .ok (.iload 8, 2) := by decide +kernel
theorem dL_begins_310 : decode cL_begins 310 = .ok (.if_icmp .ne 38, 3) := by decide +kernel
theorem dL_begins_313 : decode cL_begins 313 = .ok (.aload_n 0, 1) := by decide +kernel
theorem dL_begins_314 : decode cL_begins 314 = .ok (.iconst 0, 1) := by decide +kernel
theorem dL_begins_315 : decode cL_begins 315 = .ok (.iconst 3, 1) := by decide +kernel
theorem dL_begins_316 : decode cL_begins 316 = .ok (.invokevirtual 85, 3) := by decide +kernel
theorem dL_begins_319 : decode cL_begins 319 = .ok (.iconst (-1), 1) := by decide +kernel
theorem dL_begins_320 : decode cL_begins 320 = .ok (.if_icmp .ne 28, 3) := by decide +kernel
theorem dL_begins_323 : decode cL_begins 323 = .ok (.aload_n 0, 1) := by decide +kernel
theorem dL_begins_324 : decode cL_begins 324 = .ok (.iconst 1, 1) := by decide +kernel
theorem dL_begins_325 : decode cL_begins 325 = .ok (.invokevirtual 76, 3) := by decide +kernel
theorem dL_begins_328 : decode cL_begins 328 = .ok (.ifCond .ne 20, 3) := by decide +kernel
theorem dL_begins_331 : decode cL_begins 331 = .ok (.iload_n 1, 1) := by decide +kernel
theorem dL_begins_332 : decode cL_begins 332 = .ok (.ifCond .gt 12, 3) := by decide +kernel
theorem dL_begins_335 : decode cL_begins 335 = .ok (.aload_n 0, 1) := by decide +kernel
theorem dL_begins_336 : decode cL_begins 336 = .ok (.bipush 11, 2) := by decide +kernel
theorem dL_begins_338 : decode cL_begins 338 = .ok (.invokevirtual 76, 3) := by decide +kernel
theorem dL_begins_341 : decode cL_begins 341 = .ok (.ifCond .ne 7, 3) := by decide +kernel
theorem dL_begins_344 : decode cL_begins 344 = .ok (.iconst 1, 1) := by decide +kernel
theorem dL_begins_345 : decode cL_begins 345 = .ok (.goto 4, 3) := by decide +kernel
theorem dL_begins_348 : decode cL_begins 348 = .ok (.iconst 0, 1) := by decide +kernel
theorem dL_begins_349 : decode cL_begins 349 = .ok (.ireturn, 1) := by decide +kernel
theorem dL_orders_0 : decode cL_orders 0 = .ok (.aload_n 0, 1) := by decide +kernel
theorem dL_orders_1 : decode cL_orders 1 = .ok (.bipush 10, 2) := by decide +kernel
theorem dL_orders_3 : decode cL_orders 3 = .ok (.invokevirtual 76, 3) := by decide +kernel
theorem dL_orders_6 : decode cL_orders 6 = .ok (.istore_n 2, 1) := by decide +kernel
theorem dL_orders_7 : decode cL_orders 7 = .ok (.iload_n 1, 1) := by decide +kernel
theorem dL_orders_8 : decode cL_orders 8 = .ok (.iconst 5, 1) := by decide +kernel
theorem dL_orders_9 : decode cL_orders 9 = .ok (.invokestatic 113, 3) := by decide +kernel
theorem dL_orders_12 : decode cL_orders 12 = .ok (.ifCond .ne 58, 3) := by decide +kernel
theorem dL_orders_15 : decode cL_orders 15 = .ok (.iload_n 1, 1) := by decide +kernel
theorem dL_orders_16 : decode cL_orders 16 = .ok (.iconst 3, 1) := by decide +kernel
theorem dL_orders_17 : decode cL_orders 17 = .ok (.ishr, 1) := by decide +kernel
theorem dL_orders_18 : decode cL_orders 18 = .ok (.iload_n 2, 1) := by decide +kernel
theorem dL_orders_19 : decode cL_orders 19 = .ok (.iconst 1, 1) := by decide +kernel
theorem dL_orders_20 : decode cL_orders 20 = .ok (.iadd, 1) := by decide +kernel
theorem dL_orders_21 : decode cL_orders 21 = .ok (.invokestatic 113, 3) := by decide +kernel
theorem dL_orders_24 : decode cL_orders 24 = .ok (.istore_n 3, 1) := by decide +kernel
theorem dL_orders_25 : decode cL_orders 25 = .ok (.iload_n 3, 1) := by decide +kernel
theorem dL_orders_26 : decode cL_orders 26 = .ok (.iload_n 2, 1) := by decide +kernel
theorem dL_orders_27 : decode cL_orders 27 = .ok (.if_icmp .ne 7, 3) := by decide +kernel
theorem dL_orders_30 : decode cL_orders 30 = .ok (.iconst (-1), 1) := by decide +kernel
theorem dL_orders_31 : decode cL_orders 31 = .ok (.goto 9, 3) := by decide +kernel
theorem dL_orders_34 : decode cL_orders 34 = .ok (.aload_n 0, 1) := by decide +kernel
theorem dL_orders_35 : decode cL_orders 35 = .ok (.iload_n 3, 1) := by decide +kernel
theorem dL_orders_36 : decode cL_orders 36 = .ok (.iconst 0, 1) := by decide +kernel
theorem dL_orders_37 : decode cL_orders 37 = .ok (.invokevirtual 91, 3) := by decide +kernel
theorem dL_orders_40 : decode cL_orders 40 = .ok (.istore 4, 2) := by decide +kernel
theorem dL_orders_42 : decode cL_orders 42 = .ok (.aload_n 0, 1) := by decide +kernel
theorem dL_orders_43 : decode cL_orders 43 = .ok (.iload 4, 2) := by decide +kernel
theorem dL_orders_45 : decode cL_orders 45 = .ok (.invokestatic 154, 3) := by decide +kernel
theorem dL_orders_48 : decode cL_orders 48 = .ok (.iload_n 3, 1) := by decide +kernel
theorem dL_orders_49 : decode cL_orders 49 = .ok (.iload_n 2, 1) := by decide +kernel
theorem dL_orders_50 : decode cL_orders 50 = .ok (.if_icmp .ne 8, 3) := by decide +kernel
theorem dL_orders_53 : decode cL_orders 53 = .ok (.bipush (-101), 2) := by decide +kernel
theorem dL_orders_55 : decode cL_orders 55 = .ok (.goto 6, 3) := by decide +kernel
theorem dL_orders_58 : decode cL_orders 58 = .ok (.iload_n 2, 1) := by decide +kernel
theorem dL_orders_59 : decode cL_orders 59 = .ok (.iconst 1, 1) := by decide +kernel
theorem dL_orders_60 : decode cL_orders 60 = .ok (.isub, 1) := by decide +kernel
theorem dL_orders_61 : decode cL_orders 61 = .ok (.if_icmp .ne 7, 3) := by decide +kernel
theorem dL_orders_64 : decode cL_orders 64 = .ok (.iconst 1, 1) := by decide +kernel
theorem dL_orders_65 : decode cL_orders 65 = .ok (.goto 4, 3) := by decide +kernel
theorem dL_orders_68 : decode cL_orders 68 = .ok (.iconst 0, 1) := by decide +kernel
theorem dL_orders_69 : decode cL_orders 69 = .ok (.ireturn, 1) := by decide +kernel
theorem dL_orders_70 : decode cL_orders 70 = .ok (.iload_n 1, 1) := by decide +kernel
theorem dL_orders_71 : decode cL_orders 71 = .ok (.iconst 3, 1) := by decide +kernel
theorem dL_orders_72 : decode cL_orders 72 = .ok (.ishr, 1) := by decide +kernel
theorem dL_orders_73 : decode cL_orders 73 = .ok (.bipush 9, 2) := by decide +kernel
theorem dL_orders_75 : decode cL_orders 75 = .ok (.invokestatic 113, 3) := by decide +kernel
theorem dL_orders_78 : decode cL_orders 78 = .ok (.ifCond .ne 7, 3) := by decide +kernel
theorem dL_orders_81 : decode cL_orders 81 = .ok (.iconst 2, 1) := by decide +kernel
theorem dL_orders_82 : decode cL_orders 82 = .ok (.goto 20, 3) := by decide +kernel
theorem dL_orders_85 : decode cL_orders 85 = .ok (.iload_n 1, 1) := by decide +kernel
theorem dL_orders_86 : decode cL_orders 86 = .ok (.iconst 3, 1) := by decide +kernel
theorem dL_orders_87 : decode cL_orders 87 = .ok (.ishr, 1) := by decide +kernel
theorem dL_orders_88 : decode cL_orders 88 = .ok (.bipush 9, 2) := by decide +kernel
theorem dL_orders_90 : decode cL_orders 90 = .ok (.invokestatic 113, 3) := by decide +kernel
theorem dL_orders_93 : decode cL_orders 93 = .ok (.iconst 3, 1) := by decide +kernel
theorem dL_orders_94 : decode cL_orders 94 = .ok (.if_icmp .ge 7, 3) := by decide +kernel
theorem dL_orders_97 : decode cL_orders 97 = .ok (.iconst 1, 1) := by decide +kernel
theorem dL_orders_98 : decode cL_orders 98 = .ok (.goto 4, 3) := by decide +kernel
theorem dL_orders_101 : decode cL_orders 101 = .ok (.iconst 0, 1) := by decide +kernel
theorem dL_orders_102 : decode cL_orders 102 = .ok (.istore_n 3, 1) := by decide +kernel
theorem dL_orders_103 : decode cL_orders 103 = .ok (.iload_n 1, 1) := by decide +kernel
theorem dL_orders_104 : decode cL_orders 104 = .ok (.bipush 6, 2) := by decide +kernel
theorem dL_orders_106 : decode cL_orders 106 = .ok (.ishr, 1) := by decide +kernel
theorem dL_orders_107 : decode cL_orders 107 = .ok (.iload_n 3, 1) := by decide +kernel
theorem dL_orders_108 : decode cL_orders 108 = .ok (.ifCond .ne 9, 3) := by decide +kernel
theorem dL_orders_111 : decode cL_orders 111 = .ok (.sipush 257, 3) := by decide +kernel
theorem dL_orders_114 : decode cL_orders 114 = .ok (.goto 5, 3) := by decide +kernel
theorem dL_orders_117 : decode cL_orders 117 = .ok (.bipush 9, 2) := by decide +kernel
theorem dL_orders_119 : decode cL_orders 119 = .ok (.invokestatic 113, 3) := by decide +kernel
theorem dL_orders_122 : decode cL_orders 122 = .ok (.istore 4, 2) := by decide +kernel
theorem dL_orders_124 : decode cL_orders 124 = .ok (.iload_n 1, 1) := by decide +kernel
theorem dL_orders_125 : decode cL_orders 125 = .ok (.bipush 14, 2) := by decide +kernel
theorem dL_orders_127 : decode cL_orders 127 = .ok (.ishr, 1) := by decide +kernel
theorem dL_orders_128 : decode cL_orders 128 = .ok (.bipush 11, 2) := by decide +kernel
theorem dL_orders_130 : decode cL_orders 130 = .ok (.invokestatic 113, 3) := by decide +kernel
theorem dL_orders_133 : decode cL_orders 133 = .ok (.istore 5, 2) := by decide +kernel
theorem dL_orders_135 : decode cL_orders 135 = .ok (.aload_n 0, 1) := by decide +kernel
theorem dL_orders_136 : decode cL_orders 136 = .ok (.bipush 11, 2) := by decide +kernel
theorem dL_orders_138 : decode cL_orders 138 = .ok (.invokevirtual 76, 3) := by decide +kernel
theorem dL_orders_141 : decode cL_orders 141 = .ok (.istore 6, 2) := by decide +kernel
theorem dL_orders_143 : decode cL_orders 143 = .ok (.iload_n 3, 1) := by decide +kernel
theorem dL_orders_144 : decode cL_orders 144 = .ok (.iconst 2, 1) := by decide +kernel
theorem dL_orders_145 : decode cL_orders 145 = .ok (.if_icmp .eq 10, 3) := by decide +kernel
theorem dL_orders_148 : decode cL_orders 148 = .ok (.iload 5, 2) := by decide +kernel
theorem dL_orders_150 : decode cL_orders 150 = .ok (.bipush 10, 2) := by decide +kernel
theorem dL_orders_152 : decode cL_orders 152 = .ok (.if_icmp .ne 7, 3) := by decide +kernel
theorem dL_orders_155 : decode cL_orders 155 = .ok (.iconst 1, 1) := by decide +kernel
theorem dL_orders_156 : decode cL_orders 156 = .ok (.goto 4, 3) := by decide +kernel
theorem dL_orders_159 : decode cL_orders 159 = .ok (.iconst 0, 1) := by decide +kernel
theorem dL_orders_160 : decode cL_orders 160 = .ok (.istore 7, 2) := by decide +kernel
theorem dL_orders_162 : decode cL_orders 162 = .ok (.iload 4, 2) := by decide +kernel
theorem dL_orders_164 : decode cL_orders 164 = .ok (.iload_n 3, 1) := by decide +kernel
theorem dL_orders_165 : decode cL_orders 165 = .ok (.ifCond .ne 9, 3) := by decide +kernel
theorem dL_orders_168 : decode cL_orders 168 = .ok (.sipush 256, 3) := by decide +kernel
theorem dL_orders_171 : decode cL_orders 171 = .ok (.goto 5, 3) := by decide +kernel
theorem dL_orders_174 : decode cL_orders 174 = .ok (.bipush 8, 2) := by decide +kernel
theorem dL_orders_176 : decode cL_orders 176 = .ok (.if_icmp .ne 7, 3) := by decide +kernel
theorem dL_orders_179 : decode cL_orders 179 = .ok (.iconst 1, 1) := by decide +kernel
theorem dL_orders_180 : decode cL_orders 180 = .ok (.goto 4, 3) := by decide +kernel
theorem dL_orders_183 : decode cL_orders 183 = .ok (.iconst 0, 1) := by decide +kernel
theorem dL_orders_184 : decode cL_orders 184 = .ok (.istore 8, 2) := by decide +kernel
theorem dL_orders_186 : decode cL_orders 186 = .ok (.iload_n 2, 1) := by decide +kernel
theorem dL_orders_187 : decode cL_orders 187 = .ok (.bipush 10, 2) := by decide +kernel
theorem dL_orders_189 : decode cL_orders 189 = .ok (.if_icmp .eq 12, 3) := by decide +kernel
theorem dL_orders_192 : decode cL_orders 192 = .ok (.iload_n 3, 1) := by decide +kernel
theorem dL_orders_193 : decode cL_orders 193 = .ok (.ifCond .ne 12, 3) := by decide +kernel
theorem dL_orders_196 : decode cL_orders 196 = .ok (.iload 6, 2) := by decide +kernel
theorem dL_orders_198 : decode cL_orders 198 = .ok (.ifCond .ne 7, 3) := by decide +kernel
theorem dL_orders_201 : decode cL_orders 201 = .ok (.iconst 1, 1) := by decide +kernel
theorem dL_orders_202 : decode cL_orders 202 = .ok (.goto 4, 3) := by decide +kernel
theorem dL_orders_205 : decode cL_orders 205 = .ok (.iconst 0, 1) := by decide +kernel
theorem dL_orders_206 : decode cL_orders 206 = .ok (.istore 9, 2) := by decide +kernel
theorem dL_orders_208 : decode cL_orders 208 = .ok (.aload_n 0, 1) := by decide +kernel
theorem dL_orders_209 : decode cL_orders 209 = .ok (.iload_n 3, 1) := by decide +kernel
theorem dL_orders_210 : decode cL_orders 210 = .ok (.iload 4, 2) := by decide +kernel
theorem dL_orders_212 : decode cL_orders 212 = .ok (.iload 5, 2) := by decide +kernel
theorem dL_orders_214 : decode cL_orders 214 = .ok (.invokestatic 156, 3) := by decide +kernel
theorem dL_orders_217 : decode cL_orders 217 = .ok (.istore 10, 2) := by decide +kernel
theorem dL_orders_219 : decode cL_orders 219 = .ok (.iload 7, 2) := by decide +kernel
theorem dL_orders_221 : decode cL_orders 221 = .ok (.ifCond .ne 13, 3) := by decide +kernel
theorem dL_orders_224 : decode cL_orders 224 = .ok (.iload 8, 2) := by decide +kernel
theorem dL_orders_226 : decode cL_orders 226 = .ok (.ifCond .ne 8, 3) := by decide +kernel
theorem dL_orders_229 : decode cL_orders 229 = .ok (.iload 9, 2) := by decide +kernel
theorem dL_orders_231 : decode cL_orders 231 = .ok (.ifCond .eq 36, 3) := by decide +kernel
theorem dL_orders_234 : decode cL_orders 234 = .ok (.iload 10, 2) := by decide +kernel
theorem dL_orders_236 : decode cL_orders 236 = .ok (.iload 7, 2) := by decide +kernel
theorem dL_orders_238 : decode cL_orders 238 = .ok (.ifCond .eq 8, 3) := by decide +kernel
theorem dL_orders_241 : decode cL_orders 241 = .ok (.bipush (-102), 2) := by decide +kernel
theorem dL_orders_243 : decode cL_orders 243 = .ok (.goto 15, 3) := by decide +kernel
theorem dL_orders_246 : decode cL_orders 246 = .ok (.iload 8, 2) := by decide +kernel
theorem dL_orders_248 : decode cL_orders 248 = .ok (.ifCond .eq 8, 3) := by decide +kernel
theorem dL_orders_251 : decode cL_orders 251 = .ok (.bipush (-101), 2) := by decide +kernel
theorem dL_orders_253 : decode cL_orders 253 = .ok (.goto 5, 3) := by decide +kernel
theorem dL_orders_256 : decode cL_orders 256 = .ok (.bipush (-103), 2) := by decide +kernel
theorem dL_orders_258 : decode cL_orders 258 = .ok (.if_icmp .ne 7, 3) := by decide +kernel
theorem dL_orders_261 : decode cL_orders 261 = .ok (.iconst 1, 1) := by decide +kernel
theorem dL_orders_262 : decode cL_orders 262 = .ok (.goto 4, 3) := by decide +kernel
theorem dL_orders_265 : decode cL_orders 265 = .ok (.iconst 0, 1) := by decide +kernel
theorem dL_orders_266 : decode cL_orders 266 = .ok (.ireturn, 1) := by decide +kernel
theorem dL_orders_267 : decode cL_orders 267 = .ok (.iload_n 2, 1) := by decide +kernel
theorem dL_orders_268 : decode cL_orders 268 = .ok (.istore 11, 2) := by decide +kernel
theorem dL_orders_270 : decode cL_orders 270 = .ok (.iload 11, 2) := by decide +kernel
theorem dL_orders_272 : decode cL_orders 272 = .ok (.ifCond .lt 21, 3) := by decide +kernel
theorem dL_orders_275 : decode cL_orders 275 = .ok (.aload_n 0, 1) := by decide +kernel
theorem dL_orders_276 : decode cL_orders 276 = .ok (.iload 11, 2) := by decide +kernel
theorem dL_orders_278 : decode cL_orders 278 = .ok (.iconst 0, 1) := by decide +kernel
theorem dL_orders_279 : decode cL_orders 279 = .ok (.invokevirtual 91, 3) := by decide +kernel
theorem dL_orders_282 : decode cL_orders 282 = .ok (.iload 10, 2) := by decide +kernel
theorem dL_orders_284 : decode cL_orders 284 = .ok (.if_icmp .eq 9, 3) := by decide +kernel
theorem dL_orders_287 : decode cL_orders 287 = .ok (.iinc 11 (-1), 3) := by decide +kernel
theorem dL_orders_290 : decode cL_orders 290 = .ok (.goto (-20), 3) := by decide +kernel
theorem dL_orders_293 : decode cL_orders 293 = .ok (.iload 11, 2) := by decide +kernel
theorem dL_orders_295 : decode cL_orders 295 = .ok (.ifCond .lt 129, 3) := by decide +kernel
theorem dL_orders_298 : decode cL_orders 298 = .ok (.iload 10, 2) := by decide +kernel
theorem dL_orders_300 : decode cL_orders 300 = .ok (.iload_n 2, 1) := by decide +kernel
theorem dL_orders_301 : decode cL_orders 301 = .ok (.if_icmp .lt 123, 3) := by decide +kernel
theorem dL_orders_304 : decode cL_orders 304 = .ok (.aload_n 0, 1) := by decide +kernel
theorem dL_orders_305 : decode cL_orders 305 = .ok (.bipush 10, 2) := by decide +kernel
theorem dL_orders_307 : decode cL_orders 307 = .ok (.invokevirtual 76, 3) := by decide +kernel
theorem dL_orders_310 : decode cL_orders 310 = .ok (.iload_n 2, 1) := by decide +kernel
theorem dL_orders_311 : decode cL_orders 311 = .ok (.iconst 1, 1) := by decide +kernel
theorem dL_orders_312 : decode cL_orders 312 = .ok (.iadd, 1) := by decide +kernel
theorem dL_orders_313 : decode cL_orders 313 = .ok (.if_icmp .ne 111, 3) := by decide +kernel
theorem dL_orders_316 : decode cL_orders 316 = .ok (.aload_n 0, 1) := by decide +kernel
theorem dL_orders_317 : decode cL_orders 317 = .ok (.iload 11, 2) := by decide +kernel
theorem dL_orders_319 : decode cL_orders 319 = .ok (.iconst 1, 1) := by decide +kernel
theorem dL_orders_320 : decode cL_orders 320 = .ok (.invokevirtual 91, 3) := by decide +kernel
theorem dL_orders_323 : decode cL_orders 323 = .ok (.iload_n 3, 1) := by decide +kernel
theorem dL_orders_324 : decode cL_orders 324 = .ok (.if_icmp .ne 100, 3) := by decide +kernel
theorem dL_orders_327 : decode cL_orders 327 = .ok (.aload_n 0, 1) := by decide +kernel
theorem dL_orders_328 : decode cL_orders 328 = .ok (.iload 11, 2) := by decide +kernel
theorem dL_orders_330 : decode cL_orders 330 = .ok (.iconst 2, 1) := by decide +kernel
theorem dL_orders_331 : decode cL_orders 331 = .ok (.invokevirtual 91, 3) := by decide +kernel
theorem dL_orders_334 : decode cL_orders 334 = .ok (.iload 4, 2) := by decide +kernel
theorem dL_orders_336 : decode cL_orders 336 = .ok (.if_icmp .ne 88, 3) := by decide +kernel
theorem dL_orders_339 : decode cL_orders 339 = .ok (.aload_n 0, 1) := by decide +kernel
theorem dL_orders_340 : decode cL_orders 340 = .ok (.iload 11, 2) := by decide +kernel
theorem dL_orders_342 : decode cL_orders 342 = .ok (.iconst 3, 1) := by decide +kernel
theorem dL_orders_343 : decode cL_orders 343 = .ok (.invokevirtual 91, 3) := by decide +kernel
theorem dL_orders_346 : decode cL_orders 346 = .ok (.iload 5, 2) := by decide +kernel
theorem dL_orders_348 : decode cL_orders 348 = .ok (.if_icmp .ne 76, 3) := by decide +kernel
theorem dL_orders_351 : decode cL_orders 351 = .ok (.aload_n 0, 1) := by decide +kernel
theorem dL_orders_352 : decode cL_orders 352 = .ok (.iload 11, 2) := by decide +kernel
theorem dL_orders_354 : decode cL_orders 354 = .ok (.iconst 4, 1) := by decide +kernel
theorem dL_orders_355 : decode cL_orders 355 = .ok (.invokevirtual 91, 3) := by decide +kernel
theorem dL_orders_358 : decode cL_orders 358 = .ok (.ifCond .ne 66, 3) := by decide +kernel
theorem dL_orders_361 : decode cL_orders 361 = .ok (.aload_n 0, 1) := by decide +kernel
theorem dL_orders_362 : decode cL_orders 362 = .ok (.iload 11, 2) := by decide +kernel
theorem dL_orders_364 : decode cL_orders 364 = .ok (.iconst 5, 1) := by decide +kernel
theorem dL_orders_365 : decode cL_orders 365 = .ok (.invokevirtual 91, 3) := by decide +kernel
theorem dL_orders_368 : decode cL_orders 368 = .ok (.iload_n 3, 1) := by decide +kernel
theorem dL_orders_369 : decode cL_orders 369 = .ok (.ifCond .ne 8, 3) := by decide +kernel
theorem dL_orders_372 : decode cL_orders 372 = .ok (.iload 6, 2) := by decide +kernel
theorem dL_orders_374 : decode cL_orders 374 = .ok (.goto 4, 3) := by decide +kernel
theorem dL_orders_377 : decode cL_orders 377 = .ok (.iconst 0, 1) := by decide +kernel
theorem dL_orders_378 : decode cL_orders 378 = .ok (.if_icmp .ne 46, 3) := by decide +kernel
theorem dL_orders_381 : decode cL_orders 381 = .ok (.iload 11, 2) := by decide +kernel
theorem dL_orders_383 : decode cL_orders 383 = .ok (.iload_n 2, 1) := by decide +kernel
theorem dL_orders_384 : decode cL_orders 384 = .ok (.if_icmp .eq 17, 3) := by decide +kernel
theorem dL_orders_387 : decode cL_orders 387 = .ok (.aload_n 0, 1) := by decide +kernel
theorem dL_orders_388 : decode cL_orders 388 = .ok (.iload 11, 2) := by decide +kernel
theorem dL_orders_390 : decode cL_orders 390 = .ok (.iconst 1, 1) := by decide +kernel
theorem dL_orders_391 : decode cL_orders 391 = .ok (.iadd, 1) := by decide +kernel
theorem dL_orders_392 : decode cL_orders 392 = .ok (.iconst 3, 1) := by decide +kernel
theorem dL_orders_393 : decode cL_orders 393 = .ok (.invokevirtual 91, 3) := by decide +kernel
theorem dL_orders_396 : decode cL_orders 396 = .ok (.iload 5, 2) := by decide +kernel
theorem dL_orders_398 : decode cL_orders 398 = .ok (.if_icmp .ge 26, 3) := by decide +kernel
theorem dL_orders_401 : decode cL_orders 401 = .ok (.aload_n 0, 1) := by decide +kernel
theorem dL_orders_402 : decode cL_orders 402 = .ok (.bipush 11, 2) := by decide +kernel
theorem dL_orders_404 : decode cL_orders 404 = .ok (.invokevirtual 76, 3) := by decide +kernel
theorem dL_orders_407 : decode cL_orders 407 = .ok (.iload_n 3, 1) := by decide +kernel
theorem dL_orders_408 : decode cL_orders 408 = .ok (.ifCond .ne 7, 3) := by decide +kernel
theorem dL_orders_411 : decode cL_orders 411 = .ok (.iconst 0, 1) := by decide +kernel
theorem dL_orders_412 : decode cL_orders 412 = .ok (.goto 5, 3) := by decide +kernel
theorem dL_orders_415 : decode cL_orders 415 = .ok (.iload 6, 2) := by decide +kernel
theorem dL_orders_417 : decode cL_orders 417 = .ok (.if_icmp .ne 7, 3) := by decide +kernel
theorem dL_orders_420 : decode cL_orders 420 = .ok (.iconst 1, 1) := by decide +kernel
theorem dL_orders_421 : decode cL_orders 421 = .ok (.goto 4, 3) := by decide +kernel
theorem dL_orders_424 : decode cL_orders 424 = .ok (.iconst 0, 1) := by decide +kernel
theorem dL_orders_425 : decode cL_orders 425 = .ok (.ireturn, 1) := by decide +kernel
theorem dL_chip_0 : decode cL_chip 0 = .ok (.aload_n 0, 1) := by decide +kernel
theorem dL_chip_1 : decode cL_chip 1 = .ok (.iconst 0, 1) := by decide +kernel
theorem dL_chip_2 : decode cL_chip 2 = .ok (.iconst 0, 1) := by decide +kernel
theorem dL_chip_3 : decode cL_chip 3 = .ok (.invokevirtual 85, 3) := by decide +kernel
theorem dL_chip_6 : decode cL_chip 6 = .ok (.ifCond .le 7, 3) := by decide +kernel
theorem dL_chip_9 : decode cL_chip 9 = .ok (.iconst 1, 1) := by decide +kernel
theorem dL_chip_10 : decode cL_chip 10 = .ok (.goto 4, 3) := by decide +kernel
theorem dL_chip_13 : decode cL_chip 13 = .ok (.iconst 0, 1) := by decide +kernel
theorem dL_chip_14 : decode cL_chip 14 = .ok (.istore_n 3, 1) := by decide +kernel
theorem dL_chip_15 : decode cL_chip 15 = .ok (.aload_n 0, 1) := by decide +kernel
theorem dL_chip_16 : decode cL_chip 16 = .ok (.iconst 0, 1) := by decide +kernel
theorem dL_chip_17 : decode cL_chip 17 = .ok (.iconst 0, 1) := by decide +kernel
theorem dL_chip_18 : decode cL_chip 18 = .ok (.invokevirtual 85, 3) := by decide +kernel
theorem dL_chip_21 : decode cL_chip 21 = .ok (.istore 4, 2) := by decide +kernel
theorem dL_chip_23 : decode cL_chip 23 = .ok (.aload_n 0, 1) := by decide +kernel
theorem dL_chip_24 : decode cL_chip 24 = .ok (.iconst 1, 1) := by decide +kernel
theorem dL_chip_25 : decode cL_chip 25 = .ok (.iconst 0, 1) := by decide +kernel
theorem dL_chip_26 : decode cL_chip 26 = .ok (.invokevirtual 85, 3) := by decide +kernel
theorem dL_chip_29 : decode cL_chip 29 = .ok (.istore 5, 2) := by decide +kernel
theorem dL_chip_31 : decode cL_chip 31 = .ok (.aload_n 0, 1) := by decide +kernel
theorem dL_chip_32 : decode cL_chip 32 = .ok (.iconst 0, 1) := by decide +kernel
theorem dL_chip_33 : decode cL_chip 33 = .ok (.iconst 2, 1) := by decide +kernel
theorem dL_chip_34 : decode cL_chip 34 = .ok (.invokevirtual 85, 3) := by decide +kernel
theorem dL_chip_37 : decode cL_chip 37 = .ok (.istore 6, 2) := by decide +kernel
theorem dL_chip_39 : decode cL_chip 39 = .ok (.aload_n 0, 1) := by decide +kernel
theorem dL_chip_40 : decode cL_chip 40 = .ok (.iconst 1, 1) := by decide +kernel
theorem dL_chip_41 : decode cL_chip 41 = .ok (.iconst 2, 1) := by decide +kernel
theorem dL_chip_42 : decode cL_chip 42 = .ok (.invokevirtual 85, 3) := by decide +kernel
theorem dL_chip_45 : decode cL_chip 45 = .ok (.istore 7, 2) := by decide +kernel
theorem dL_chip_47 : decode cL_chip 47 = .ok (.iload_n 1, 1) := by decide +kernel
theorem dL_chip_48 : decode cL_chip 48 = .ok (.ifCond .ne 47, 3) := by decide +kernel
theorem dL_chip_51 : decode cL_chip 51 = .ok (.aload_n 0, 1) := by decide +kernel
theorem dL_chip_52 : decode cL_chip 52 = .ok (.iconst 1, 1) := by decide +kernel
theorem dL_chip_53 : decode cL_chip 53 = .ok (.invokevirtual 76, 3) := by decide +kernel
theorem dL_chip_56 : decode cL_chip 56 = .ok (.istore 8, 2) := by decide +kernel
theorem dL_chip_58 : decode cL_chip 58 = .ok (.aload_n 0, 1) := by decide +kernel
theorem dL_chip_59 : decode cL_chip 59 = .ok (.invokestatic 159, 3) := by decide +kernel
theorem dL_chip_62 : decode cL_chip 62 = .ok (.iload_n 3, 1) := by decide +kernel
theorem dL_chip_63 : decode cL_chip 63 = .ok (.ifCond .eq 8, 3) := by decide +kernel
theorem dL_chip_66 : decode cL_chip 66 = .ok (.bipush (-103), 2) := by decide +kernel
theorem dL_chip_68 : decode cL_chip 68 = .ok (.goto 5, 3) := by decide +kernel
theorem dL_chip_71 : decode cL_chip 71 = .ok (.iload 8, 2) := by decide +kernel
theorem dL_chip_73 : decode cL_chip 73 = .ok (.if_icmp .ne 20, 3) := by decide +kernel
theorem dL_chip_76 : decode cL_chip 76 = .ok (.iload_n 3, 1) := by decide +kernel
theorem dL_chip_77 : decode cL_chip 77 = .ok (.ifCond .ne 12, 3) := by decide +kernel
theorem dL_chip_80 : decode cL_chip 80 = .ok (.aload_n 0, 1) := by decide +kernel
theorem dL_chip_81 : decode cL_chip 81 = .ok (.iconst 1, 1) := by decide +kernel
theorem dL_chip_82 : decode cL_chip 82 = .ok (.invokevirtual 76, 3) := by decide +kernel
theorem dL_chip_85 : decode cL_chip 85 = .ok (.iconst 1, 1) := by decide +kernel
theorem dL_chip_86 : decode cL_chip 86 = .ok (.if_icmp .ne 7, 3) := by decide +kernel
theorem dL_chip_89 : decode cL_chip 89 = .ok (.iconst 1, 1) := by decide +kernel
theorem dL_chip_90 : decode cL_chip 90 = .ok (.goto 4, 3) := by decide +kernel
theorem dL_chip_93 : decode cL_chip 93 = .ok (.iconst 0, 1) := by decide +kernel
theorem dL_chip_94 : decode cL_chip 94 = .ok (.ireturn, 1) := by decide +kernel
theorem dL_chip_95 : decode cL_chip 95 = .ok (.iload_n 1, 1) := by decide +kernel
theorem dL_chip_96 : decode cL_chip 96 = .ok (.iconst 1, 1) := by decide +kernel
theorem dL_chip_97 : decode cL_chip 97 = .ok (.if_icmp .ne 47, 3) := by decide +kernel
theorem dL_chip_100 : decode cL_chip 100 = .ok (.aload_n 0, 1) := by decide +kernel
theorem dL_chip_101 : decode cL_chip 101 = .ok (.iconst 2, 1) := by decide +kernel
theorem dL_chip_102 : decode cL_chip 102 = .ok (.invokevirtual 76, 3) := by decide +kernel
theorem dL_chip_105 : decode cL_chip 105 = .ok (.istore 8, 2) := by decide +kernel
theorem dL_chip_107 : decode cL_chip 107 = .ok (.aload_n 0, 1) := by decide +kernel
theorem dL_chip_108 : decode cL_chip 108 = .ok (.invokestatic 161, 3) := by decide +kernel
theorem dL_chip_111 : decode cL_chip 111 = .ok (.iload_n 3, 1) := by decide +kernel
theorem dL_chip_112 : decode cL_chip 112 = .ok (.ifCond .eq 8, 3) := by decide +kernel
theorem dL_chip_115 : decode cL_chip 115 = .ok (.bipush (-103), 2) := by decide +kernel
theorem dL_chip_117 : decode cL_chip 117 = .ok (.goto 5, 3) := by decide +kernel
theorem dL_chip_120 : decode cL_chip 120 = .ok (.iload 8, 2) := by decide +kernel
theorem dL_chip_122 : decode cL_chip 122 = .ok (.if_icmp .ne 20, 3) := by decide +kernel
theorem dL_chip_125 : decode cL_chip 125 = .ok (.iload_n 3, 1) := by decide +kernel
theorem dL_chip_126 : decode cL_chip 126 = .ok (.ifCond .ne 12, 3) := by decide +kernel
theorem dL_chip_129 : decode cL_chip 129 = .ok (.aload_n 0, 1) := by decide +kernel
theorem dL_chip_130 : decode cL_chip 130 = .ok (.iconst 2, 1) := by decide +kernel
theorem dL_chip_131 : decode cL_chip 131 = .ok (.invokevirtual 76, 3) := by decide +kernel
theorem dL_chip_134 : decode cL_chip 134 = .ok (.iconst 1, 1) := by decide +kernel
theorem dL_chip_135 : decode cL_chip 135 = .ok (.if_icmp .ne 7, 3) := by decide +kernel
theorem dL_chip_138 : decode cL_chip 138 = .ok (.iconst 1, 1) := by decide +kernel
theorem dL_chip_139 : decode cL_chip 139 = .ok (.goto 4, 3) := by decide +kernel
theorem dL_chip_142 : decode cL_chip 142 = .ok (.iconst 0, 1) := by decide +kernel
theorem dL_chip_143 : decode cL_chip 143 = .ok (.ireturn, 1) := by decide +kernel
theorem dL_chip_144 : decode cL_chip 144 = .ok (.iload_n 1, 1) := by decide +kernel
theorem dL_chip_145 : decode cL_chip 145 = .ok (.iconst 2, 1) := by decide +kernel
theorem dL_chip_146 : decode cL_chip 146 = .ok (.if_icmp .ne 116, 3) := by decide +kernel
theorem dL_chip_149 : decode cL_chip 149 = .ok (.iload 4, 2) := by decide +kernel
theorem dL_chip_151 : decode cL_chip 151 = .ok (.iconst 1, 1) := by decide +kernel
theorem dL_chip_152 : decode cL_chip 152 = .ok (.if_icmp .eq 9, 3) := by decide +kernel
theorem dL_chip_155 : decode cL_chip 155 = .ok (.iload 4, 2) := by decide +kernel
theorem dL_chip_157 : decode cL_chip 157 = .ok (.iconst 2, 1) := by decide +kernel
theorem dL_chip_158 : decode cL_chip 158 = .ok (.if_icmp .ne 12, 3) := by decide +kernel
theorem dL_chip_161 : decode cL_chip 161 = .ok (.iload 5, 2) := by decide +kernel
theorem dL_chip_163 : decode cL_chip 163 = .ok (.ifCond .ne 7, 3) := by decide +kernel
theorem dL_chip_166 : decode cL_chip 166 = .ok (.iconst 1, 1) := by decide +kernel
theorem dL_chip_167 : decode cL_chip 167 = .ok (.goto 4, 3) := by decide +kernel
theorem dL_chip_170 : decode cL_chip 170 = .ok (.iconst 0, 1) := by decide +kernel
theorem dL_chip_171 : decode cL_chip 171 = .ok (.istore 8, 2) := by decide +kernel
theorem dL_chip_173 : decode cL_chip 173 = .ok (.aload_n 0, 1) := by decide +kernel
theorem dL_chip_174 : decode cL_chip 174 = .ok (.bipush 14, 2) := by decide +kernel
theorem dL_chip_176 : decode cL_chip 176 = .ok (.invokevirtual 76, 3) := by decide +kernel
theorem dL_chip_179 : decode cL_chip 179 = .ok (.istore 9, 2) := by decide +kernel
theorem dL_chip_181 : decode cL_chip 181 = .ok (.aload_n 0, 1) := by decide +kernel
theorem dL_chip_182 : decode cL_chip 182 = .ok (.invokestatic 163, 3) := by decide +kernel
theorem dL_chip_185 : decode cL_chip 185 = .ok (.iload 8, 2) := by decide +kernel
theorem dL_chip_187 : decode cL_chip 187 = .ok (.ifCond .eq 8, 3) := by decide +kernel
theorem dL_chip_190 : decode cL_chip 190 = .ok (.iload 6, 2) := by decide +kernel
theorem dL_chip_192 : decode cL_chip 192 = .ok (.goto 5, 3) := by decide +kernel
theorem dL_chip_195 : decode cL_chip 195 = .ok (.bipush (-103), 2) := by decide +kernel
theorem dL_chip_197 : decode cL_chip 197 = .ok (.if_icmp .ne 63, 3) := by decide +kernel
theorem dL_chip_200 : decode cL_chip 200 = .ok (.aload_n 0, 1) := by decide +kernel
theorem dL_chip_201 : decode cL_chip 201 = .ok (.bipush 14, 2) := by decide +kernel
theorem dL_chip_203 : decode cL_chip 203 = .ok (.invokevirtual 76, 3) := by decide +kernel
theorem dL_chip_206 : decode cL_chip 206 = .ok (.iload 9, 2) := by decide +kernel
theorem dL_chip_208 : decode cL_chip 208 = .ok (.iload 8, 2) := by decide +kernel
theorem dL_chip_210 : decode cL_chip 210 = .ok (.ifCond .eq 7, 3) := by decide +kernel
theorem dL_chip_213 : decode cL_chip 213 = .ok (.iconst 1, 1) := by decide +kernel
theorem dL_chip_214 : decode cL_chip 214 = .ok (.goto 4, 3) := by decide +kernel
theorem dL_chip_217 : decode cL_chip 217 = .ok (.iconst 0, 1) := by decide +kernel
theorem dL_chip_218 : decode cL_chip 218 = .ok (.iadd, 1) := by decide +kernel
theorem dL_chip_219 : decode cL_chip 219 = .ok (.if_icmp .ne 41, 3) := by decide +kernel
theorem dL_chip_222 : decode cL_chip 222 = .ok (.iload 8, 2) := by decide +kernel
theorem dL_chip_224 : decode cL_chip 224 = .ok (.ifCond .eq 32, 3) := by decide +kernel
theorem dL_chip_227 : decode cL_chip 227 = .ok (.aload_n 0, 1) := by decide +kernel
theorem dL_chip_228 : decode cL_chip 228 = .ok (.iconst 1, 1) := by decide +kernel
theorem dL_chip_229 : decode cL_chip 229 = .ok (.iconst 0, 1) := by decide +kernel
theorem dL_chip_230 : decode cL_chip 230 = .ok (.invokevirtual 85, 3) := by decide +kernel
theorem dL_chip_233 : decode cL_chip 233 = .ok (.iload 4, 2) := by decide +kernel
theorem dL_chip_235 : decode cL_chip 235 = .ok (.if_icmp .ne 25, 3) := by decide +kernel
theorem dL_chip_238 : decode cL_chip 238 = .ok (.aload_n 0, 1) := by decide +kernel
theorem dL_chip_239 : decode cL_chip 239 = .ok (.iconst 1, 1) := by decide +kernel
theorem dL_chip_240 : decode cL_chip 240 = .ok (.iconst 4, 1) := by decide +kernel
theorem dL_chip_241 : decode cL_chip 241 = .ok (.invokevirtual 85, 3) := by decide +kernel
theorem dL_chip_244 : decode cL_chip 244 = .ok (.ifCond .ne 16, 3) := by decide +kernel
theorem dL_chip_247 : decode cL_chip 247 = .ok (.aload_n 0, 1) := by decide +kernel
theorem dL_chip_248 : decode cL_chip 248 = .ok (.iconst 0, 1) := by decide +kernel
theorem dL_chip_249 : decode cL_chip 249 = .ok (.iconst 0, 1) := by decide +kernel
theorem dL_chip_250 : decode cL_chip 250 = .ok (.invokevirtual 85, 3) := by decide +kernel
theorem dL_chip_253 : decode cL_chip 253 = .ok (.ifCond .ne 7, 3) := by decide +kernel
theorem dL_chip_256 : decode cL_chip 256 = .ok (.iconst 1, 1) := by decide +kernel
theorem dL_chip_257 : decode cL_chip 257 = .ok (.goto 4, 3) := by decide +kernel
theorem dL_chip_260 : decode cL_chip 260 = .ok (.iconst 0, 1) := by decide +kernel
theorem dL_chip_261 : decode cL_chip 261 = .ok (.ireturn, 1) := by decide +kernel
theorem dL_chip_262 : decode cL_chip 262 = .ok (.iload_n 1, 1) := by decide +kernel
theorem dL_chip_263 : decode cL_chip 263 = .ok (.iconst 3, 1) := by decide +kernel
theorem dL_chip_264 : decode cL_chip 264 = .ok (.if_icmp .ne 69, 3) := by decide +kernel
theorem dL_chip_267 : decode cL_chip 267 = .ok (.iload 5, 2) := by decide +kernel
theorem dL_chip_269 : decode cL_chip 269 = .ok (.ifCond .le 11, 3) := by decide +kernel
theorem dL_chip_272 : decode cL_chip 272 = .ok (.iload_n 3, 1) := by decide +kernel
theorem dL_chip_273 : decode cL_chip 273 = .ok (.ifCond .ne 7, 3) := by decide +kernel
theorem dL_chip_276 : decode cL_chip 276 = .ok (.iconst 1, 1) := by decide +kernel
theorem dL_chip_277 : decode cL_chip 277 = .ok (.goto 4, 3) := by decide +kernel
theorem dL_chip_280 : decode cL_chip 280 = .ok (.iconst 0, 1) := by decide +kernel
theorem dL_chip_281 : decode cL_chip 281 = .ok (.istore 8, 2) := by decide +kernel
theorem dL_chip_283 : decode cL_chip 283 = .ok (.aload_n 0, 1) := by decide +kernel
theorem dL_chip_284 : decode cL_chip 284 = .ok (.invokestatic 165, 3) := by decide +kernel
theorem dL_chip_287 : decode cL_chip 287 = .ok (.iload 8, 2) := by decide +kernel
theorem dL_chip_289 : decode cL_chip 289 = .ok (.ifCond .eq 8, 3) := by decide +kernel
theorem dL_chip_292 : decode cL_chip 292 = .ok (.iload 7, 2) := by decide +kernel
theorem dL_chip_294 : decode cL_chip 294 = .ok (.goto 5, 3) := by decide +kernel
theorem dL_chip_297 : decode cL_chip 297 = .ok (.bipush (-103), 2) := by decide +kernel
theorem dL_chip_299 : decode cL_chip 299 = .ok (.if_icmp .ne 32, 3) := by decide +kernel
theorem dL_chip_302 : decode cL_chip 302 = .ok (.iload 8, 2) := by decide +kernel
theorem dL_chip_304 : decode cL_chip 304 = .ok (.ifCond .eq 23, 3) := by decide +kernel
theorem dL_chip_307 : decode cL_chip 307 = .ok (.aload_n 0, 1) := by decide +kernel
theorem dL_chip_308 : decode cL_chip 308 = .ok (.iconst 0, 1) := by decide +kernel
theorem dL_chip_309 : decode cL_chip 309 = .ok (.iconst 0, 1) := by decide +kernel
theorem dL_chip_310 : decode cL_chip 310 = .ok (.invokevirtual 85, 3) := by decide +kernel
theorem dL_chip_313 : decode cL_chip 313 = .ok (.iload 5, 2) := by decide +kernel
theorem dL_chip_315 : decode cL_chip 315 = .ok (.if_icmp .ne 16, 3) := by decide +kernel
theorem dL_chip_318 : decode cL_chip 318 = .ok (.aload_n 0, 1) := by decide +kernel
theorem dL_chip_319 : decode cL_chip 319 = .ok (.iconst 1, 1) := by decide +kernel
theorem dL_chip_320 : decode cL_chip 320 = .ok (.iconst 0, 1) := by decide +kernel
theorem dL_chip_321 : decode cL_chip 321 = .ok (.invokevirtual 85, 3) := by decide +kernel
theorem dL_chip_324 : decode cL_chip 324 = .ok (.ifCond .ne 7, 3) := by decide +kernel
theorem dL_chip_327 : decode cL_chip 327 = .ok (.iconst 1, 1) := by decide +kernel
theorem dL_chip_328 : decode cL_chip 328 = .ok (.goto 4, 3) := by decide +kernel
theorem dL_chip_331 : decode cL_chip 331 = .ok (.iconst 0, 1) := by decide +kernel
theorem dL_chip_332 : decode cL_chip 332 = .ok (.ireturn, 1) := by decide +kernel
theorem dL_chip_333 : decode cL_chip 333 = .ok (.iload_n 1, 1) := by decide +kernel
theorem dL_chip_334 : decode cL_chip 334 = .ok (.iconst 4, 1) := by decide +kernel
theorem dL_chip_335 : decode cL_chip 335 = .ok (.if_icmp .ne 97, 3) := by decide +kernel
theorem dL_chip_338 : decode cL_chip 338 = .ok (.iload_n 3, 1) := by decide +kernel
theorem dL_chip_339 : decode cL_chip 339 = .ok (.ifCond .eq 7, 3) := by decide +kernel
theorem dL_chip_342 : decode cL_chip 342 = .ok (.iconst 1, 1) := by decide +kernel
theorem dL_chip_343 : decode cL_chip 343 = .ok (.goto 4, 3) := by decide +kernel
theorem dL_chip_346 : decode cL_chip 346 = .ok (.iconst 0, 1) := by decide +kernel
theorem dL_chip_347 : decode cL_chip 347 = .ok (.iload 5, 2) := by decide +kernel
theorem dL_chip_349 : decode cL_chip 349 = .ok (.ifCond .le 7, 3) := by decide +kernel
theorem dL_chip_352 : decode cL_chip 352 = .ok (.iconst 1, 1) := by decide +kernel
theorem dL_chip_353 : decode cL_chip 353 = .ok (.goto 4, 3) := by decide +kernel
theorem dL_chip_356 : decode cL_chip 356 = .ok (.iconst 0, 1) := by decide +kernel
theorem dL_chip_357 : decode cL_chip 357 = .ok (.iadd, 1) := by decide +kernel
theorem dL_chip_358 : decode cL_chip 358 = .ok (.istore 8, 2) := by decide +kernel
theorem dL_chip_360 : decode cL_chip 360 = .ok (.aload_n 0, 1) := by decide +kernel
theorem dL_chip_361 : decode cL_chip 361 = .ok (.bipush 9, 2) := by decide +kernel
theorem dL_chip_363 : decode cL_chip 363 = .ok (.invokevirtual 76, 3) := by decide +kernel
theorem dL_chip_366 : decode cL_chip 366 = .ok (.istore 9, 2) := by decide +kernel
theorem dL_chip_368 : decode cL_chip 368 = .ok (.aload_n 0, 1) := by decide +kernel
theorem dL_chip_369 : decode cL_chip 369 = .ok (.invokevirtual 167, 3) := by decide +kernel
theorem dL_chip_372 : decode cL_chip 372 = .ok (.iload 8, 2) := by decide +kernel
theorem dL_chip_374 : decode cL_chip 374 = .ok (.if_icmp .ne 56, 3) := by decide +kernel
theorem dL_chip_377 : decode cL_chip 377 = .ok (.aload_n 0, 1) := by decide +kernel
theorem dL_chip_378 : decode cL_chip 378 = .ok (.bipush 9, 2) := by decide +kernel
theorem dL_chip_380 : decode cL_chip 380 = .ok (.invokevirtual 76, 3) := by decide +kernel
theorem dL_chip_383 : decode cL_chip 383 = .ok (.iload 9, 2) := by decide +kernel
theorem dL_chip_385 : decode cL_chip 385 = .ok (.iload 8, 2) := by decide +kernel
theorem dL_chip_387 : decode cL_chip 387 = .ok (.iadd, 1) := by decide +kernel
theorem dL_chip_388 : decode cL_chip 388 = .ok (.if_icmp .ne 42, 3) := by decide +kernel
theorem dL_chip_391 : decode cL_chip 391 = .ok (.aload_n 0, 1) := by decide +kernel
theorem dL_chip_392 : decode cL_chip 392 = .ok (.iconst 1, 1) := by decide +kernel
theorem dL_chip_393 : decode cL_chip 393 = .ok (.invokevirtual 76, 3) := by decide +kernel
theorem dL_chip_396 : decode cL_chip 396 = .ok (.aload_n 0, 1) := by decide +kernel
theorem dL_chip_397 : decode cL_chip 397 = .ok (.iconst 2, 1) := by decide +kernel
theorem dL_chip_398 : decode cL_chip 398 = .ok (.invokevirtual 76, 3) := by decide +kernel
theorem dL_chip_401 : decode cL_chip 401 = .ok (.iadd, 1) := by decide +kernel
theorem dL_chip_402 : decode cL_chip 402 = .ok (.aload_n 0, 1) := by decide +kernel
theorem dL_chip_403 : decode cL_chip 403 = .ok (.bipush 11, 2) := by decide +kernel
theorem dL_chip_405 : decode cL_chip 405 = .ok (.invokevirtual 76, 3) := by decide +kernel
theorem dL_chip_408 : decode cL_chip 408 = .ok (.iadd, 1) := by decide +kernel
theorem dL_chip_409 : decode cL_chip 409 = .ok (.aload_n 0, 1) := by decide +kernel
theorem dL_chip_410 : decode cL_chip 410 = .ok (.iconst 0, 1) := by decide +kernel
theorem dL_chip_411 : decode cL_chip 411 = .ok (.iconst 0, 1) := by decide +kernel
theorem dL_chip_412 : decode cL_chip 412 = .ok (.invokevirtual 85, 3) := by decide +kernel
theorem dL_chip_415 : decode cL_chip 415 = .ok (.iadd, 1) := by decide +kernel
theorem dL_chip_416 : decode cL_chip 416 = .ok (.aload_n 0, 1) := by decide +kernel
theorem dL_chip_417 : decode cL_chip 417 = .ok (.iconst 1, 1) := by decide +kernel
theorem dL_chip_418 : decode cL_chip 418 = .ok (.iconst 0, 1) := by decide +kernel
theorem dL_chip_419 : decode cL_chip 419 = .ok (.invokevirtual 85, 3) := by decide +kernel
theorem dL_chip_422 : decode cL_chip 422 = .ok (.iadd, 1) := by decide +kernel
theorem dL_chip_423 : decode cL_chip 423 = .ok (.ifCond .ne 7, 3) := by decide +kernel
theorem dL_chip_426 : decode cL_chip 426 = .ok (.iconst 1, 1) := by decide +kernel
theorem dL_chip_427 : decode cL_chip 427 = .ok (.goto 4, 3) := by decide +kernel
theorem dL_chip_430 : decode cL_chip 430 = .ok (.iconst 0, 1) := by decide +kernel
theorem dL_chip_431 : decode cL_chip 431 = .ok (.ireturn, 1) := by decide +kernel
theorem dL_chip_432 : decode cL_chip 432 = .ok (.iload_n 2, 1) := by decide +kernel
theorem dL_chip_433 : decode cL_chip 433 = .ok (.bipush 6, 2) := by decide +kernel
theorem dL_chip_435 : decode cL_chip 435 = .ok (.invokestatic 113, 3) := by decide +kernel
theorem dL_chip_438 : decode cL_chip 438 = .ok (.istore 8, 2) := by decide +kernel
theorem dL_chip_440 : decode cL_chip 440 = .ok (.iload_n 2, 1) := by decide +kernel
theorem dL_chip_441 : decode cL_chip 441 = .ok (.iconst 3, 1) := by decide +kernel
theorem dL_chip_442 : decode cL_chip 442 = .ok (.ishr, 1) := by decide +kernel
theorem dL_chip_443 : decode cL_chip 443 = .ok (.bipush 11, 2) := by decide +kernel
theorem dL_chip_445 : decode cL_chip 445 = .ok (.invokestatic 113, 3) := by decide +kernel
theorem dL_chip_448 : decode cL_chip 448 = .ok (.istore 9, 2) := by decide +kernel
theorem dL_chip_450 : decode cL_chip 450 = .ok (.iload 9, 2) := by decide +kernel
theorem dL_chip_452 : decode cL_chip 452 = .ok (.ifCond .eq 21, 3) := by decide +kernel
theorem dL_chip_455 : decode cL_chip 455 = .ok (.iload 9, 2) := by decide +kernel
theorem dL_chip_457 : decode cL_chip 457 = .ok (.bipush 10, 2) := by decide +kernel
theorem dL_chip_459 : decode cL_chip 459 = .ok (.if_icmp .ne 18, 3) := by decide +kernel
theorem dL_chip_462 : decode cL_chip 462 = .ok (.iload 8, 2) := by decide +kernel
theorem dL_chip_464 : decode cL_chip 464 = .ok (.ifCond .eq 9, 3) := by decide +kernel
theorem dL_chip_467 : decode cL_chip 467 = .ok (.iload 8, 2) := by decide +kernel
theorem dL_chip_469 : decode cL_chip 469 = .ok (.iconst 4, 1) := by decide +kernel
theorem dL_chip_470 : decode cL_chip 470 = .ok (.if_icmp .ne 7, 3) := by decide +kernel
theorem dL_chip_473 : decode cL_chip 473 = .ok (.iconst 1, 1) := by decide +kernel
theorem dL_chip_474 : decode cL_chip 474 = .ok (.goto 4, 3) := by decide +kernel
theorem dL_chip_477 : decode cL_chip 477 = .ok (.iconst 0, 1) := by decide +kernel
theorem dL_chip_478 : decode cL_chip 478 = .ok (.istore 10, 2) := by decide +kernel
theorem dL_chip_480 : decode cL_chip 480 = .ok (.iload 8, 2) := by decide +kernel
theorem dL_chip_482 : decode cL_chip 482 = .ok (.iconst 5, 1) := by decide +kernel
theorem dL_chip_483 : decode cL_chip 483 = .ok (.if_icmp .ne 7, 3) := by decide +kernel
theorem dL_chip_486 : decode cL_chip 486 = .ok (.iconst 0, 1) := by decide +kernel
theorem dL_chip_487 : decode cL_chip 487 = .ok (.goto 9, 3) := by decide +kernel
theorem dL_chip_490 : decode cL_chip 490 = .ok (.aload_n 0, 1) := by decide +kernel
theorem dL_chip_491 : decode cL_chip 491 = .ok (.iload 8, 2) := by decide +kernel
theorem dL_chip_493 : decode cL_chip 493 = .ok (.invokevirtual 88, 3) := by decide +kernel
theorem dL_chip_496 : decode cL_chip 496 = .ok (.istore 11, 2) := by decide +kernel
theorem dL_chip_498 : decode cL_chip 498 = .ok (.aload_n 0, 1) := by decide +kernel
theorem dL_chip_499 : decode cL_chip 499 = .ok (.iload 8, 2) := by decide +kernel
theorem dL_chip_501 : decode cL_chip 501 = .ok (.iload 9, 2) := by decide +kernel
theorem dL_chip_503 : decode cL_chip 503 = .ok (.invokestatic 170, 3) := by decide +kernel
theorem dL_chip_506 : decode cL_chip 506 = .ok (.iload 8, 2) := by decide +kernel
theorem dL_chip_508 : decode cL_chip 508 = .ok (.iconst 5, 1) := by decide +kernel
theorem dL_chip_509 : decode cL_chip 509 = .ok (.if_icmp .ne 8, 3) := by decide +kernel
theorem dL_chip_512 : decode cL_chip 512 = .ok (.bipush (-101), 2) := by decide +kernel
theorem dL_chip_514 : decode cL_chip 514 = .ok (.goto 15, 3) := by decide +kernel
theorem dL_chip_517 : decode cL_chip 517 = .ok (.iload 10, 2) := by decide +kernel
theorem dL_chip_519 : decode cL_chip 519 = .ok (.ifCond .eq 8, 3) := by decide +kernel
theorem dL_chip_522 : decode cL_chip 522 = .ok (.bipush (-102), 2) := by decide +kernel
theorem dL_chip_524 : decode cL_chip 524 = .ok (.goto 5, 3) := by decide +kernel
theorem dL_chip_527 : decode cL_chip 527 = .ok (.iload 11, 2) := by decide +kernel
theorem dL_chip_529 : decode cL_chip 529 = .ok (.if_icmp .ne 29, 3) := by decide +kernel
theorem dL_chip_532 : decode cL_chip 532 = .ok (.iload 8, 2) := by decide +kernel
theorem dL_chip_534 : decode cL_chip 534 = .ok (.iconst 5, 1) := by decide +kernel
theorem dL_chip_535 : decode cL_chip 535 = .ok (.if_icmp .eq 19, 3) := by decide +kernel
theorem dL_chip_538 : decode cL_chip 538 = .ok (.iload 10, 2) := by decide +kernel
theorem dL_chip_540 : decode cL_chip 540 = .ok (.ifCond .ne 14, 3) := by decide +kernel
theorem dL_chip_543 : decode cL_chip 543 = .ok (.aload_n 0, 1) := by decide +kernel
theorem dL_chip_544 : decode cL_chip 544 = .ok (.iload 8, 2) := by decide +kernel
theorem dL_chip_546 : decode cL_chip 546 = .ok (.invokevirtual 88, 3) := by decide +kernel
theorem dL_chip_549 : decode cL_chip 549 = .ok (.iload 9, 2) := by decide +kernel
theorem dL_chip_551 : decode cL_chip 551 = .ok (.if_icmp .ne 7, 3) := by decide +kernel
theorem dL_chip_554 : decode cL_chip 554 = .ok (.iconst 1, 1) := by decide +kernel
theorem dL_chip_555 : decode cL_chip 555 = .ok (.goto 4, 3) := by decide +kernel
theorem dL_chip_558 : decode cL_chip 558 = .ok (.iconst 0, 1) := by decide +kernel
theorem dL_chip_559 : decode cL_chip 559 = .ok (.ireturn, 1) := by decide +kernel
theorem dL_acts_0 : decode cL_acts 0 = .ok (.iload_n 1, 1) := by decide +kernel
theorem dL_acts_1 : decode cL_acts 1 = .ok (.bipush 24, 2) := by decide +kernel
theorem dL_acts_3 : decode cL_acts 3 = .ok (.invokestatic 113, 3) := by decide +kernel
theorem dL_acts_6 : decode cL_acts 6 = .ok (.istore_n 3, 1) := by decide +kernel
theorem dL_acts_7 : decode cL_acts 7 = .ok (.iload_n 3, 1) := by decide +kernel
theorem dL_acts_8 : decode cL_acts 8 = .ok (.iconst 5, 1) := by decide +kernel
theorem dL_acts_9 : decode cL_acts 9 = .ok (.if_icmp .ge 83, 3) := by decide +kernel
theorem dL_acts_12 : decode cL_acts 12 = .ok (.iload_n 2, 1) := by decide +kernel
theorem dL_acts_13 : decode cL_acts 13 = .ok (.sipush 258, 3) := by decide +kernel
theorem dL_acts_16 : decode cL_acts 16 = .ok (.invokestatic 113, 3) := by decide +kernel
theorem dL_acts_19 : decode cL_acts 19 = .ok (.iconst 1, 1) := by decide +kernel
theorem dL_acts_20 : decode cL_acts 20 = .ok (.isub, 1) := by decide +kernel
theorem dL_acts_21 : decode cL_acts 21 = .ok (.istore 4, 2) := by decide +kernel
theorem dL_acts_23 : decode cL_acts 23 = .ok (.iload 4, 2) := by decide +kernel
theorem dL_acts_25 : decode cL_acts 25 = .ok (.ifCond .lt 11, 3) := by decide +kernel
theorem dL_acts_28 : decode cL_acts 28 = .ok (.iload 4, 2) := by decide +kernel
theorem dL_acts_30 : decode cL_acts 30 = .ok (.sipush 256, 3) := by decide +kernel
theorem dL_acts_33 : decode cL_acts 33 = .ok (.if_icmp .ne 7, 3) := by decide +kernel
theorem dL_acts_36 : decode cL_acts 36 = .ok (.iconst 1, 1) := by decide +kernel
theorem dL_acts_37 : decode cL_acts 37 = .ok (.goto 4, 3) := by decide +kernel
theorem dL_acts_40 : decode cL_acts 40 = .ok (.iconst 0, 1) := by decide +kernel
theorem dL_acts_41 : decode cL_acts 41 = .ok (.istore 5, 2) := by decide +kernel
theorem dL_acts_43 : decode cL_acts 43 = .ok (.aload_n 0, 1) := by decide +kernel
theorem dL_acts_44 : decode cL_acts 44 = .ok (.bipush 11, 2) := by decide +kernel
theorem dL_acts_46 : decode cL_acts 46 = .ok (.invokevirtual 76, 3) := by decide +kernel
theorem dL_acts_49 : decode cL_acts 49 = .ok (.istore 6, 2) := by decide +kernel
theorem dL_acts_51 : decode cL_acts 51 = .ok (.aload_n 0, 1) := by decide +kernel
theorem dL_acts_52 : decode cL_acts 52 = .ok (.iload 4, 2) := by decide +kernel
theorem dL_acts_54 : decode cL_acts 54 = .ok (.invokestatic 172, 3) := by decide +kernel
theorem dL_acts_57 : decode cL_acts 57 = .ok (.iload 5, 2) := by decide +kernel
theorem dL_acts_59 : decode cL_acts 59 = .ok (.ifCond .eq 8, 3) := by decide +kernel
theorem dL_acts_62 : decode cL_acts 62 = .ok (.bipush (-102), 2) := by decide +kernel
theorem dL_acts_64 : decode cL_acts 64 = .ok (.goto 19, 3) := by decide +kernel
theorem dL_acts_67 : decode cL_acts 67 = .ok (.iload 6, 2) := by decide +kernel
theorem dL_acts_69 : decode cL_acts 69 = .ok (.bipush 12, 2) := by decide +kernel
theorem dL_acts_71 : decode cL_acts 71 = .ok (.if_icmp .ne 8, 3) := by decide +kernel
theorem dL_acts_74 : decode cL_acts 74 = .ok (.bipush (-103), 2) := by decide +kernel
theorem dL_acts_76 : decode cL_acts 76 = .ok (.goto 7, 3) := by decide +kernel
theorem dL_acts_79 : decode cL_acts 79 = .ok (.iload 6, 2) := by decide +kernel
theorem dL_acts_81 : decode cL_acts 81 = .ok (.iconst 1, 1) := by decide +kernel
theorem dL_acts_82 : decode cL_acts 82 = .ok (.iadd, 1) := by decide +kernel
theorem dL_acts_83 : decode cL_acts 83 = .ok (.if_icmp .ne 7, 3) := by decide +kernel
theorem dL_acts_86 : decode cL_acts 86 = .ok (.iconst 1, 1) := by decide +kernel
theorem dL_acts_87 : decode cL_acts 87 = .ok (.goto 4, 3) := by decide +kernel
theorem dL_acts_90 : decode cL_acts 90 = .ok (.iconst 0, 1) := by decide +kernel
theorem dL_acts_91 : decode cL_acts 91 = .ok (.ireturn, 1) := by decide +kernel
theorem dL_acts_92 : decode cL_acts 92 = .ok (.iload_n 3, 1) := by decide +kernel
theorem dL_acts_93 : decode cL_acts 93 = .ok (.bipush 8, 2) := by decide +kernel
theorem dL_acts_95 : decode cL_acts 95 = .ok (.if_icmp .ge 12, 3) := by decide +kernel
theorem dL_acts_98 : decode cL_acts 98 = .ok (.aload_n 0, 1) := by decide +kernel
theorem dL_acts_99 : decode cL_acts 99 = .ok (.iload_n 3, 1) := by decide +kernel
theorem dL_acts_100 : decode cL_acts 100 = .ok (.iconst 5, 1) := by decide +kernel
theorem dL_acts_101 : decode cL_acts 101 = .ok (.isub, 1) := by decide +kernel
theorem dL_acts_102 : decode cL_acts 102 = .ok (.iload_n 2, 1) := by decide +kernel
theorem dL_acts_103 : decode cL_acts 103 = .ok (.invokestatic 174, 3) := by decide +kernel
theorem dL_acts_106 : decode cL_acts 106 = .ok (.ireturn, 1) := by decide +kernel
theorem dL_acts_107 : decode cL_acts 107 = .ok (.iload_n 3, 1) := by decide +kernel
theorem dL_acts_108 : decode cL_acts 108 = .ok (.bipush 12, 2) := by decide +kernel
theorem dL_acts_110 : decode cL_acts 110 = .ok (.if_icmp .ge 9, 3) := by decide +kernel
theorem dL_acts_113 : decode cL_acts 113 = .ok (.aload_n 0, 1) := by decide +kernel
theorem dL_acts_114 : decode cL_acts 114 = .ok (.iload_n 2, 1) := by decide +kernel
theorem dL_acts_115 : decode cL_acts 115 = .ok (.invokestatic 178, 3) := by decide +kernel
theorem dL_acts_118 : decode cL_acts 118 = .ok (.ireturn, 1) := by decide +kernel
theorem dL_acts_119 : decode cL_acts 119 = .ok (.iload_n 3, 1) := by decide +kernel
theorem dL_acts_120 : decode cL_acts 120 = .ok (.bipush 17, 2) := by decide +kernel
theorem dL_acts_122 : decode cL_acts 122 = .ok (.if_icmp .ge 112, 3) := by decide +kernel
theorem dL_acts_125 : decode cL_acts 125 = .ok (.iload_n 2, 1) := by decide +kernel
theorem dL_acts_126 : decode cL_acts 126 = .ok (.iload_n 2, 1) := by decide +kernel
theorem dL_acts_127 : decode cL_acts 127 = .ok (.bipush 9, 2) := by decide +kernel
theorem dL_acts_129 : decode cL_acts 129 = .ok (.ishr, 1) := by decide +kernel
theorem dL_acts_130 : decode cL_acts 130 = .ok (.iconst 3, 1) := by decide +kernel
theorem dL_acts_131 : decode cL_acts 131 = .ok (.invokestatic 113, 3) := by decide +kernel
theorem dL_acts_134 : decode cL_acts 134 = .ok (.ifCond .ne 8, 3) := by decide +kernel
theorem dL_acts_137 : decode cL_acts 137 = .ok (.bipush 60, 2) := by decide +kernel
theorem dL_acts_139 : decode cL_acts 139 = .ok (.goto 5, 3) := by decide +kernel
theorem dL_acts_142 : decode cL_acts 142 = .ok (.bipush 9, 2) := by decide +kernel
theorem dL_acts_144 : decode cL_acts 144 = .ok (.invokestatic 113, 3) := by decide +kernel
theorem dL_acts_147 : decode cL_acts 147 = .ok (.istore 4, 2) := by decide +kernel
theorem dL_acts_149 : decode cL_acts 149 = .ok (.aload_n 0, 1) := by decide +kernel
theorem dL_acts_150 : decode cL_acts 150 = .ok (.iconst 0, 1) := by decide +kernel
theorem dL_acts_151 : decode cL_acts 151 = .ok (.invokevirtual 76, 3) := by decide +kernel
theorem dL_acts_154 : decode cL_acts 154 = .ok (.istore 5, 2) := by decide +kernel
theorem dL_acts_156 : decode cL_acts 156 = .ok (.aload_n 0, 1) := by decide +kernel
theorem dL_acts_157 : decode cL_acts 157 = .ok (.bipush 8, 2) := by decide +kernel
theorem dL_acts_159 : decode cL_acts 159 = .ok (.invokevirtual 76, 3) := by decide +kernel
theorem dL_acts_162 : decode cL_acts 162 = .ok (.istore 6, 2) := by decide +kernel
theorem dL_acts_164 : decode cL_acts 164 = .ok (.aload_n 0, 1) := by decide +kernel
theorem dL_acts_165 : decode cL_acts 165 = .ok (.iload 4, 2) := by decide +kernel
theorem dL_acts_167 : decode cL_acts 167 = .ok (.invokestatic 181, 3) := by decide +kernel
theorem dL_acts_170 : decode cL_acts 170 = .ok (.istore 7, 2) := by decide +kernel
theorem dL_acts_172 : decode cL_acts 172 = .ok (.iload 4, 2) := by decide +kernel
theorem dL_acts_174 : decode cL_acts 174 = .ok (.ifCond .ne 18, 3) := by decide +kernel
theorem dL_acts_177 : decode cL_acts 177 = .ok (.iload 7, 2) := by decide +kernel
theorem dL_acts_179 : decode cL_acts 179 = .ok (.bipush (-102), 2) := by decide +kernel
theorem dL_acts_181 : decode cL_acts 181 = .ok (.if_icmp .ne 7, 3) := by decide +kernel
theorem dL_acts_184 : decode cL_acts 184 = .ok (.iconst 1, 1) := by decide +kernel
theorem dL_acts_185 : decode cL_acts 185 = .ok (.goto 48, 3) := by decide +kernel
theorem dL_acts_188 : decode cL_acts 188 = .ok (.iconst 0, 1) := by decide +kernel
theorem dL_acts_189 : decode cL_acts 189 = .ok (.goto 44, 3) := by decide +kernel
theorem dL_acts_192 : decode cL_acts 192 = .ok (.iload 7, 2) := by decide +kernel
theorem dL_acts_194 : decode cL_acts 194 = .ok (.ifCond .lt 38, 3) := by decide +kernel
theorem dL_acts_197 : decode cL_acts 197 = .ok (.iload 7, 2) := by decide +kernel
theorem dL_acts_199 : decode cL_acts 199 = .ok (.iload 4, 2) := by decide +kernel
theorem dL_acts_201 : decode cL_acts 201 = .ok (.if_icmp .gt 31, 3) := by decide +kernel
theorem dL_acts_204 : decode cL_acts 204 = .ok (.aload_n 0, 1) := by decide +kernel
theorem dL_acts_205 : decode cL_acts 205 = .ok (.iconst 0, 1) := by decide +kernel
theorem dL_acts_206 : decode cL_acts 206 = .ok (.invokevirtual 76, 3) := by decide +kernel
theorem dL_acts_209 : decode cL_acts 209 = .ok (.iload 5, 2) := by decide +kernel
theorem dL_acts_211 : decode cL_acts 211 = .ok (.iload 4, 2) := by decide +kernel
theorem dL_acts_213 : decode cL_acts 213 = .ok (.iadd, 1) := by decide +kernel
theorem dL_acts_214 : decode cL_acts 214 = .ok (.if_icmp .ne 18, 3) := by decide +kernel
theorem dL_acts_217 : decode cL_acts 217 = .ok (.aload_n 0, 1) := by decide +kernel
theorem dL_acts_218 : decode cL_acts 218 = .ok (.bipush 8, 2) := by decide +kernel
theorem dL_acts_220 : decode cL_acts 220 = .ok (.invokevirtual 76, 3) := by decide +kernel
theorem dL_acts_223 : decode cL_acts 223 = .ok (.iload 6, 2) := by decide +kernel
theorem dL_acts_225 : decode cL_acts 225 = .ok (.if_icmp .lt 7, 3) := by decide +kernel
theorem dL_acts_228 : decode cL_acts 228 = .ok (.iconst 1, 1) := by decide +kernel
theorem dL_acts_229 : decode cL_acts 229 = .ok (.goto 4, 3) := by decide +kernel
theorem dL_acts_232 : decode cL_acts 232 = .ok (.iconst 0, 1) := by decide +kernel
theorem dL_acts_233 : decode cL_acts 233 = .ok (.ireturn, 1) := by decide +kernel
theorem dL_acts_234 : decode cL_acts 234 = .ok (.iload_n 3, 1) := by decide +kernel
theorem dL_acts_235 : decode cL_acts 235 = .ok (.bipush 23, 2) := by decide +kernel
theorem dL_acts_237 : decode cL_acts 237 = .ok (.if_icmp .ge 13, 3) := by decide +kernel
theorem dL_acts_240 : decode cL_acts 240 = .ok (.aload_n 0, 1) := by decide +kernel
theorem dL_acts_241 : decode cL_acts 241 = .ok (.iload_n 3, 1) := by decide +kernel
theorem dL_acts_242 : decode cL_acts 242 = .ok (.bipush 17, 2) := by decide +kernel
theorem dL_acts_244 : decode cL_acts 244 = .ok (.isub, 1) := by decide +kernel
theorem dL_acts_245 : decode cL_acts 245 = .ok (.iload_n 2, 1) := by decide +kernel
theorem dL_acts_246 : decode cL_acts 246 = .ok (.invokestatic 183, 3) := by decide +kernel
theorem dL_acts_249 : decode cL_acts 249 = .ok (.ireturn, 1) := by decide +kernel
theorem dL_acts_250 : decode cL_acts 250 = .ok (.aload_n 0, 1) := by decide +kernel
theorem dL_acts_251 : decode cL_acts 251 = .ok (.iload_n 2, 1) := by decide +kernel
theorem dL_acts_252 : decode cL_acts 252 = .ok (.invokestatic 186, 3) := by decide +kernel
theorem dL_acts_255 : decode cL_acts 255 = .ok (.ireturn, 1) := by decide +kernel
theorem dL_law_0 : decode cL_law 0 = .ok (.new 10, 3) := by decide +kernel
theorem dL_law_3 : decode cL_law 3 = .ok (.dup, 1) := by decide +kernel
theorem dL_law_4 : decode cL_law 4 = .ok (.invokespecial 189, 3) := by decide +kernel
theorem dL_law_7 : decode cL_law 7 = .ok (.astore_n 1, 1) := by decide +kernel
theorem dL_law_8 : decode cL_law 8 = .ok (.aload_n 1, 1) := by decide +kernel
theorem dL_law_9 : decode cL_law 9 = .ok (.invokestatic 190, 3) := by decide +kernel
theorem dL_law_12 : decode cL_law 12 = .ok (.ifCond .eq 40, 3) := by decide +kernel
theorem dL_law_15 : decode cL_law 15 = .ok (.aload_n 1, 1) := by decide +kernel
theorem dL_law_16 : decode cL_law 16 = .ok (.iconst 0, 1) := by decide +kernel
theorem dL_law_17 : decode cL_law 17 = .ok (.invokestatic 194, 3) := by decide +kernel
theorem dL_law_20 : decode cL_law 20 = .ok (.ifCond .eq 32, 3) := by decide +kernel
theorem dL_law_23 : decode cL_law 23 = .ok (.aload_n 1, 1) := by decide +kernel
theorem dL_law_24 : decode cL_law 24 = .ok (.invokestatic 197, 3) := by decide +kernel
theorem dL_law_27 : decode cL_law 27 = .ok (.bipush (-103), 2) := by decide +kernel
theorem dL_law_29 : decode cL_law 29 = .ok (.if_icmp .ne 23, 3) := by decide +kernel
theorem dL_law_32 : decode cL_law 32 = .ok (.aload_n 1, 1) := by decide +kernel
theorem dL_law_33 : decode cL_law 33 = .ok (.invokestatic 199, 3) := by decide +kernel
theorem dL_law_36 : decode cL_law 36 = .ok (.bipush (-103), 2) := by decide +kernel
theorem dL_law_38 : decode cL_law 38 = .ok (.if_icmp .ne 14, 3) := by decide +kernel
theorem dL_law_41 : decode cL_law 41 = .ok (.aload_n 1, 1) := by decide +kernel
theorem dL_law_42 : decode cL_law 42 = .ok (.invokevirtual 201, 3) := by decide +kernel
theorem dL_law_45 : decode cL_law 45 = .ok (.ifCond .ne 7, 3) := by decide +kernel
theorem dL_law_48 : decode cL_law 48 = .ok (.iconst 1, 1) := by decide +kernel
theorem dL_law_49 : decode cL_law 49 = .ok (.goto 4, 3) := by decide +kernel
theorem dL_law_52 : decode cL_law 52 = .ok (.iconst 0, 1) := by decide +kernel
theorem dL_law_53 : decode cL_law 53 = .ok (.istore_n 2, 1) := by decide +kernel
theorem dL_law_54 : decode cL_law 54 = .ok (.aload_n 1, 1) := by decide +kernel
theorem dL_law_55 : decode cL_law 55 = .ok (.invokestatic 133, 3) := by decide +kernel
theorem dL_law_58 : decode cL_law 58 = .ok (.lstore_n 3, 1) := by decide +kernel
theorem dL_law_59 : decode cL_law 59 = .ok (.iconst 0, 1) := by decide +kernel
theorem dL_law_60 : decode cL_law 60 = .ok (.istore 5, 2) := by decide +kernel
theorem dL_law_62 : decode cL_law 62 = .ok (.iload 5, 2) := by decide +kernel
theorem dL_law_64 : decode cL_law 64 = .ok (.bipush 52, 2) := by decide +kernel
theorem dL_law_66 : decode cL_law 66 = .ok (.if_icmp .ge 318, 3) := by decide +kernel
theorem dL_law_69 : decode cL_law 69 = .ok (.iload_n 2, 1) := by decide +kernel
theorem dL_law_70 : decode cL_law 70 = .ok (.ifCond .eq 314, 3) := by decide +kernel
theorem dL_law_73 : decode cL_law 73 = .ok (.iload 5, 2) := by decide +kernel
theorem dL_law_75 : decode cL_law 75 = .ok (.iconst 2, 1) := by decide +kernel
theorem dL_law_76 : decode cL_law 76 = .ok (.if_icmp .ge 8, 3) := by decide +kernel
theorem dL_law_79 : decode cL_law 79 = .ok (.bipush 17, 2) := by decide +kernel
theorem dL_law_81 : decode cL_law 81 = .ok (.goto 11, 3) := by decide +kernel
theorem dL_law_84 : decode cL_law 84 = .ok (.aload_n 0, 1) := by decide +kernel
theorem dL_law_85 : decode cL_law 85 = .ok (.iconst 2, 1) := by decide +kernel
theorem dL_law_86 : decode cL_law 86 = .ok (.iload 5, 2) := by decide +kernel
theorem dL_law_88 : decode cL_law 88 = .ok (.imul, 1) := by decide +kernel
theorem dL_law_89 : decode cL_law 89 = .ok (.invokestatic 204, 3) := by decide +kernel
theorem dL_law_92 : decode cL_law 92 = .ok (.istore 6, 2) := by decide +kernel
theorem dL_law_94 : decode cL_law 94 = .ok (.aload_n 0, 1) := by decide +kernel
theorem dL_law_95 : decode cL_law 95 = .ok (.iconst 2, 1) := by decide +kernel
theorem dL_law_96 : decode cL_law 96 = .ok (.iload 5, 2) := by decide +kernel
theorem dL_law_98 : decode cL_law 98 = .ok (.imul, 1) := by decide +kernel
theorem dL_law_99 : decode cL_law 99 = .ok (.iconst 1, 1) := by decide +kernel
theorem dL_law_100 : decode cL_law 100 = .ok (.iadd, 1) := by decide +kernel
theorem dL_law_101 : decode cL_law 101 = .ok (.invokestatic 204, 3) := by decide +kernel
theorem dL_law_104 : decode cL_law 104 = .ok (.istore 7, 2) := by decide +kernel
theorem dL_law_106 : decode cL_law 106 = .ok (.aload_n 1, 1) := by decide +kernel
theorem dL_law_107 : decode cL_law 107 = .ok (.invokestatic 133, 3) := by decide +kernel
theorem dL_law_110 : decode cL_law 110 = .ok (.lstore 8, 2) := by decide +kernel
theorem dL_law_112 : decode cL_law 112 = .ok (.aload_n 1, 1) := by decide +kernel
theorem dL_law_113 : decode cL_law 113 = .ok (.bipush 15, 2) := by decide +kernel
theorem dL_law_115 : decode cL_law 115 = .ok (.invokevirtual 76, 3) := by decide +kernel
theorem dL_law_118 : decode cL_law 118 = .ok (.istore 10, 2) := by decide +kernel
theorem dL_law_120 : decode cL_law 120 = .ok (.aload_n 1, 1) := by decide +kernel
theorem dL_law_121 : decode cL_law 121 = .ok (.iload 6, 2) := by decide +kernel
theorem dL_law_123 : decode cL_law 123 = .ok (.iload 7, 2) := by decide +kernel
theorem dL_law_125 : decode cL_law 125 = .ok (.invokestatic 208, 3) := by decide +kernel
theorem dL_law_128 : decode cL_law 128 = .ok (.ifCond .eq 38, 3) := by decide +kernel
theorem dL_law_131 : decode cL_law 131 = .ok (.iload 5, 2) := by decide +kernel
theorem dL_law_133 : decode cL_law 133 = .ok (.iconst 3, 1) := by decide +kernel
theorem dL_law_134 : decode cL_law 134 = .ok (.irem, 1) := by decide +kernel
theorem dL_law_135 : decode cL_law 135 = .ok (.ifCond .gt 10, 3) := by decide +kernel
theorem dL_law_138 : decode cL_law 138 = .ok (.aload_n 1, 1) := by decide +kernel
theorem dL_law_139 : decode cL_law 139 = .ok (.invokestatic 190, 3) := by decide +kernel
theorem dL_law_142 : decode cL_law 142 = .ok (.ifCond .eq 24, 3) := by decide +kernel
theorem dL_law_145 : decode cL_law 145 = .ok (.iload 5, 2) := by decide +kernel
theorem dL_law_147 : decode cL_law 147 = .ok (.iconst 4, 1) := by decide +kernel
theorem dL_law_148 : decode cL_law 148 = .ok (.irem, 1) := by decide +kernel
theorem dL_law_149 : decode cL_law 149 = .ok (.iconst 2, 1) := by decide +kernel
theorem dL_law_150 : decode cL_law 150 = .ok (.if_icmp .ne 12, 3) := by decide +kernel
theorem dL_law_153 : decode cL_law 153 = .ok (.aload_n 1, 1) := by decide +kernel
theorem dL_law_154 : decode cL_law 154 = .ok (.iload 7, 2) := by decide +kernel
theorem dL_law_156 : decode cL_law 156 = .ok (.invokestatic 194, 3) := by decide +kernel
theorem dL_law_159 : decode cL_law 159 = .ok (.ifCond .eq 7, 3) := by decide +kernel
theorem dL_law_162 : decode cL_law 162 = .ok (.iconst 1, 1) := by decide +kernel
theorem dL_law_163 : decode cL_law 163 = .ok (.goto 4, 3) := by decide +kernel
theorem dL_law_166 : decode cL_law 166 = .ok (.iconst 0, 1) := by decide +kernel
theorem dL_law_167 : decode cL_law 167 = .ok (.istore_n 2, 1) := by decide +kernel
theorem dL_law_168 : decode cL_law 168 = .ok (.aload_n 1, 1) := by decide +kernel
theorem dL_law_169 : decode cL_law 169 = .ok (.bipush 15, 2) := by decide +kernel
theorem dL_law_171 : decode cL_law 171 = .ok (.invokevirtual 76, 3) := by decide +kernel
theorem dL_law_174 : decode cL_law 174 = .ok (.istore 11, 2) := by decide +kernel
theorem dL_law_176 : decode cL_law 176 = .ok (.iload_n 2, 1) := by decide +kernel
theorem dL_law_177 : decode cL_law 177 = .ok (.ifCond .eq 40, 3) := by decide +kernel
theorem dL_law_180 : decode cL_law 180 = .ok (.iload 11, 2) := by decide +kernel
theorem dL_law_182 : decode cL_law 182 = .ok (.iload 10, 2) := by decide +kernel
theorem dL_law_184 : decode cL_law 184 = .ok (.if_icmp .ne 20, 3) := by decide +kernel
theorem dL_law_187 : decode cL_law 187 = .ok (.iload 10, 2) := by decide +kernel
theorem dL_law_189 : decode cL_law 189 = .ok (.bipush 6, 2) := by decide +kernel
theorem dL_law_191 : decode cL_law 191 = .ok (.if_icmp .eq 22, 3) := by decide +kernel
theorem dL_law_194 : decode cL_law 194 = .ok (.aload_n 1, 1) := by decide +kernel
theorem dL_law_195 : decode cL_law 195 = .ok (.invokestatic 133, 3) := by decide +kernel
theorem dL_law_198 : decode cL_law 198 = .ok (.lload 8, 2) := by decide +kernel
theorem dL_law_200 : decode cL_law 200 = .ok (.lcmp, 1) := by decide +kernel
theorem dL_law_201 : decode cL_law 201 = .ok (.ifCond .eq 12, 3) := by decide +kernel
theorem dL_law_204 : decode cL_law 204 = .ok (.iload 11, 2) := by decide +kernel
theorem dL_law_206 : decode cL_law 206 = .ok (.iload 10, 2) := by decide +kernel
theorem dL_law_208 : decode cL_law 208 = .ok (.iconst 1, 1) := by decide +kernel
theorem dL_law_209 : decode cL_law 209 = .ok (.iadd, 1) := by decide +kernel
theorem dL_law_210 : decode cL_law 210 = .ok (.if_icmp .ne 7, 3) := by decide +kernel
theorem dL_law_213 : decode cL_law 213 = .ok (.iconst 1, 1) := by decide +kernel
theorem dL_law_214 : decode cL_law 214 = .ok (.goto 4, 3) := by decide +kernel
theorem dL_law_217 : decode cL_law 217 = .ok (.iconst 0, 1) := by decide +kernel
theorem dL_law_218 : decode cL_law 218 = .ok (.istore_n 2, 1) := by decide +kernel
theorem dL_law_219 : decode cL_law 219 = .ok (.iload_n 2, 1) := by decide +kernel
theorem dL_law_220 : decode cL_law 220 = .ok (.ifCond .eq 49, 3) := by decide +kernel
theorem dL_law_223 : decode cL_law 223 = .ok (.iload 11, 2) := by decide +kernel
theorem dL_law_225 : decode cL_law 225 = .ok (.iload 10, 2) := by decide +kernel
theorem dL_law_227 : decode cL_law 227 = .ok (.iconst 1, 1) := by decide +kernel
theorem dL_law_228 : decode cL_law 228 = .ok (.iadd, 1) := by decide +kernel
theorem dL_law_229 : decode cL_law 229 = .ok (.if_icmp .ne 40, 3) := by decide +kernel
theorem dL_law_232 : decode cL_law 232 = .ok (.iload 7, 2) := by decide +kernel
theorem dL_law_234 : decode cL_law 234 = .ok (.bipush 8, 2) := by decide +kernel
theorem dL_law_236 : decode cL_law 236 = .ok (.ishr, 1) := by decide +kernel
theorem dL_law_237 : decode cL_law 237 = .ok (.iconst 3, 1) := by decide +kernel
theorem dL_law_238 : decode cL_law 238 = .ok (.invokestatic 113, 3) := by decide +kernel
theorem dL_law_241 : decode cL_law 241 = .ok (.ifCond .ne 28, 3) := by decide +kernel
theorem dL_law_244 : decode cL_law 244 = .ok (.aload_n 1, 1) := by decide +kernel
theorem dL_law_245 : decode cL_law 245 = .ok (.invokestatic 197, 3) := by decide +kernel
theorem dL_law_248 : decode cL_law 248 = .ok (.iload 10, 2) := by decide +kernel
theorem dL_law_250 : decode cL_law 250 = .ok (.if_icmp .ne 17, 3) := by decide +kernel
theorem dL_law_253 : decode cL_law 253 = .ok (.aload_n 1, 1) := by decide +kernel
theorem dL_law_254 : decode cL_law 254 = .ok (.invokestatic 133, 3) := by decide +kernel
theorem dL_law_257 : decode cL_law 257 = .ok (.lload 8, 2) := by decide +kernel
theorem dL_law_259 : decode cL_law 259 = .ok (.lcmp, 1) := by decide +kernel
theorem dL_law_260 : decode cL_law 260 = .ok (.ifCond .ne 7, 3) := by decide +kernel
theorem dL_law_263 : decode cL_law 263 = .ok (.iconst 1, 1) := by decide +kernel
theorem dL_law_264 : decode cL_law 264 = .ok (.goto 4, 3) := by decide +kernel
theorem dL_law_267 : decode cL_law 267 = .ok (.iconst 0, 1) := by decide +kernel
theorem dL_law_268 : decode cL_law 268 = .ok (.istore_n 2, 1) := by decide +kernel
theorem dL_law_269 : decode cL_law 269 = .ok (.iload_n 2, 1) := by decide +kernel
theorem dL_law_270 : decode cL_law 270 = .ok (.ifCond .eq 59, 3) := by decide +kernel
theorem dL_law_273 : decode cL_law 273 = .ok (.iload 5, 2) := by decide +kernel
theorem dL_law_275 : decode cL_law 275 = .ok (.bipush 17, 2) := by decide +kernel
theorem dL_law_277 : decode cL_law 277 = .ok (.irem, 1) := by decide +kernel
theorem dL_law_278 : decode cL_law 278 = .ok (.bipush 16, 2) := by decide +kernel
theorem dL_law_280 : decode cL_law 280 = .ok (.if_icmp .ne 49, 3) := by decide +kernel
theorem dL_law_283 : decode cL_law 283 = .ok (.aload_n 1, 1) := by decide +kernel
theorem dL_law_284 : decode cL_law 284 = .ok (.invokestatic 199, 3) := by decide +kernel
theorem dL_law_287 : decode cL_law 287 = .ok (.ifCond .lt 35, 3) := by decide +kernel
theorem dL_law_290 : decode cL_law 290 = .ok (.aload_n 1, 1) := by decide +kernel
theorem dL_law_291 : decode cL_law 291 = .ok (.invokestatic 133, 3) := by decide +kernel
theorem dL_law_294 : decode cL_law 294 = .ok (.lload_n 3, 1) := by decide +kernel
theorem dL_law_295 : decode cL_law 295 = .ok (.lcmp, 1) := by decide +kernel
theorem dL_law_296 : decode cL_law 296 = .ok (.ifCond .ne 26, 3) := by decide +kernel
theorem dL_law_299 : decode cL_law 299 = .ok (.aload_n 1, 1) := by decide +kernel
theorem dL_law_300 : decode cL_law 300 = .ok (.invokestatic 197, 3) := by decide +kernel
theorem dL_law_303 : decode cL_law 303 = .ok (.ifCond .lt 19, 3) := by decide +kernel
theorem dL_law_306 : decode cL_law 306 = .ok (.aload_n 1, 1) := by decide +kernel
theorem dL_law_307 : decode cL_law 307 = .ok (.invokevirtual 201, 3) := by decide +kernel
theorem dL_law_310 : decode cL_law 310 = .ok (.aload_n 1, 1) := by decide +kernel
theorem dL_law_311 : decode cL_law 311 = .ok (.iconst 0, 1) := by decide +kernel
theorem dL_law_312 : decode cL_law 312 = .ok (.invokevirtual 76, 3) := by decide +kernel
theorem dL_law_315 : decode cL_law 315 = .ok (.if_icmp .ne 7, 3) := by decide +kernel
theorem dL_law_318 : decode cL_law 318 = .ok (.iconst 1, 1) := by decide +kernel
theorem dL_law_319 : decode cL_law 319 = .ok (.goto 4, 3) := by decide +kernel
theorem dL_law_322 : decode cL_law 322 = .ok (.iconst 0, 1) := by decide +kernel
theorem dL_law_323 : decode cL_law 323 = .ok (.istore_n 2, 1) := by decide +kernel
theorem dL_law_324 : decode cL_law 324 = .ok (.aload_n 1, 1) := by decide +kernel
theorem dL_law_325 : decode cL_law 325 = .ok (.invokestatic 133, 3) := by decide +kernel
theorem dL_law_328 : decode cL_law 328 = .ok (.lstore_n 3, 1) := by decide +kernel
theorem dL_law_329 : decode cL_law 329 = .ok (.iload_n 2, 1) := by decide +kernel
theorem dL_law_330 : decode cL_law 330 = .ok (.ifCond .eq 48, 3) := by decide +kernel
theorem dL_law_333 : decode cL_law 333 = .ok (.iload 5, 2) := by decide +kernel
theorem dL_law_335 : decode cL_law 335 = .ok (.bipush 11, 2) := by decide +kernel
theorem dL_law_337 : decode cL_law 337 = .ok (.irem, 1) := by decide +kernel
theorem dL_law_338 : decode cL_law 338 = .ok (.bipush 10, 2) := by decide +kernel
theorem dL_law_340 : decode cL_law 340 = .ok (.if_icmp .ne 38, 3) := by decide +kernel
theorem dL_law_343 : decode cL_law 343 = .ok (.aload_n 1, 1) := by decide +kernel
theorem dL_law_344 : decode cL_law 344 = .ok (.bipush 15, 2) := by decide +kernel
theorem dL_law_346 : decode cL_law 346 = .ok (.invokevirtual 76, 3) := by decide +kernel
theorem dL_law_349 : decode cL_law 349 = .ok (.istore 12, 2) := by decide +kernel
theorem dL_law_351 : decode cL_law 351 = .ok (.aload_n 1, 1) := by decide +kernel
theorem dL_law_352 : decode cL_law 352 = .ok (.invokestatic 197, 3) := by decide +kernel
theorem dL_law_355 : decode cL_law 355 = .ok (.iload 12, 2) := by decide +kernel
theorem dL_law_357 : decode cL_law 357 = .ok (.ifCond .ne 8, 3) := by decide +kernel
theorem dL_law_360 : decode cL_law 360 = .ok (.bipush (-103), 2) := by decide +kernel
theorem dL_law_362 : decode cL_law 362 = .ok (.goto 7, 3) := by decide +kernel
theorem dL_law_365 : decode cL_law 365 = .ok (.iload 12, 2) := by decide +kernel
theorem dL_law_367 : decode cL_law 367 = .ok (.iconst 1, 1) := by decide +kernel
theorem dL_law_368 : decode cL_law 368 = .ok (.isub, 1) := by decide +kernel
theorem dL_law_369 : decode cL_law 369 = .ok (.if_icmp .ne 7, 3) := by decide +kernel
theorem dL_law_372 : decode cL_law 372 = .ok (.iconst 1, 1) := by decide +kernel
theorem dL_law_373 : decode cL_law 373 = .ok (.goto 4, 3) := by decide +kernel
theorem dL_law_376 : decode cL_law 376 = .ok (.iconst 0, 1) := by decide +kernel
theorem dL_law_377 : decode cL_law 377 = .ok (.istore_n 2, 1) := by decide +kernel
theorem dL_law_378 : decode cL_law 378 = .ok (.iinc 5 1, 3) := by decide +kernel
theorem dL_law_381 : decode cL_law 381 = .ok (.goto (-319), 3) := by decide +kernel
theorem dL_law_384 : decode cL_law 384 = .ok (.iload_n 2, 1) := by decide +kernel
theorem dL_law_385 : decode cL_law 385 = .ok (.ifCond .eq 14, 3) := by decide +kernel
theorem dL_law_388 : decode cL_law 388 = .ok (.aload_n 1, 1) := by decide +kernel
theorem dL_law_389 : decode cL_law 389 = .ok (.invokestatic 190, 3) := by decide +kernel
theorem dL_law_392 : decode cL_law 392 = .ok (.ifCond .eq 7, 3) := by decide +kernel
theorem dL_law_395 : decode cL_law 395 = .ok (.iconst 1, 1) := by decide +kernel
theorem dL_law_396 : decode cL_law 396 = .ok (.goto 4, 3) := by decide +kernel
theorem dL_law_399 : decode cL_law 399 = .ok (.iconst 0, 1) := by decide +kernel
theorem dL_law_400 : decode cL_law 400 = .ok (.ireturn, 1) := by decide +kernel
