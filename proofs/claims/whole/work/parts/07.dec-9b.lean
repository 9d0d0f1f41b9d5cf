theorem dX9_withdraw_31 : decode cX9_withdraw 31 = .ok (.aload_n 0, 1) := by decide +kernel
theorem dX9_withdraw_32 : decode cX9_withdraw 32 = .ok (.getfield 7, 3) := by decide +kernel
theorem dX9_withdraw_35 : decode cX9_withdraw 35 = .ok (.sipush 580, 3) := by decide +kernel
theorem dX9_withdraw_38 : decode cX9_withdraw 38 = .ok (.iaload, 1) := by decide +kernel
theorem dX9_withdraw_39 : decode cX9_withdraw 39 = .ok (.ireturn, 1) := by decide +kernel
theorem dX9_pass_0 : decode cX9_pass 0 = .ok (.aload_n 0, 1) := by decide +kernel
theorem dX9_pass_1 : decode cX9_pass 1 = .ok (.iconst 0, 1) := by decide +kernel
theorem dX9_pass_2 : decode cX9_pass 2 = .ok (.putfield 31, 3) := by decide +kernel
theorem dX9_pass_5 : decode cX9_pass 5 = .ok (.iload_n 1, 1) := by decide +kernel
theorem dX9_pass_6 : decode cX9_pass 6 = .ok (.iconst 1, 1) := by decide +kernel
theorem dX9_pass_7 : decode cX9_pass 7 = .ok (.sipush 200, 3) := by decide +kernel
theorem dX9_pass_10 : decode cX9_pass 10 = .ok (.invokestatic 42, 3) := by decide +kernel
theorem dX9_pass_13 : decode cX9_pass 13 = .ok (.ifCond .ne 9, 3) := by decide +kernel
theorem dX9_pass_16 : decode cX9_pass 16 = .ok (.aload_n 0, 1) := by decide +kernel
theorem dX9_pass_17 : decode cX9_pass 17 = .ok (.iconst 1, 1) := by decide +kernel
theorem dX9_pass_18 : decode cX9_pass 18 = .ok (.invokevirtual 142, 3) := by decide +kernel
theorem dX9_pass_21 : decode cX9_pass 21 = .ok (.ireturn, 1) := by decide +kernel
theorem dX9_pass_22 : decode cX9_pass 22 = .ok (.aload_n 0, 1) := by decide +kernel
theorem dX9_pass_23 : decode cX9_pass 23 = .ok (.invokevirtual 145, 3) := by decide +kernel
theorem dX9_pass_26 : decode cX9_pass 26 = .ok (.aload_n 0, 1) := by decide +kernel
theorem dX9_pass_27 : decode cX9_pass 27 = .ok (.iload_n 1, 1) := by decide +kernel
theorem dX9_pass_28 : decode cX9_pass 28 = .ok (.invokevirtual 173, 3) := by decide +kernel
theorem dX9_pass_31 : decode cX9_pass 31 = .ok (.ireturn, 1) := by decide +kernel
theorem dX9_mostOf_0 : decode cX9_mostOf 0 = .ok (.iload_n 0, 1) := by decide +kernel
theorem dX9_mostOf_1 : decode cX9_mostOf 1 = .ok (.ifCond .eq 8, 3) := by decide +kernel
theorem dX9_mostOf_4 : decode cX9_mostOf 4 = .ok (.iload_n 0, 1) := by decide +kernel
theorem dX9_mostOf_5 : decode cX9_mostOf 5 = .ok (.iconst 4, 1) := by decide +kernel
theorem dX9_mostOf_6 : decode cX9_mostOf 6 = .ok (.if_icmp .ne 8, 3) := by decide +kernel
theorem dX9_mostOf_9 : decode cX9_mostOf 9 = .ok (.bipush 9, 2) := by decide +kernel
theorem dX9_mostOf_11 : decode cX9_mostOf 11 = .ok (.goto 15, 3) := by decide +kernel
theorem dX9_mostOf_14 : decode cX9_mostOf 14 = .ok (.iload_n 0, 1) := by decide +kernel
theorem dX9_mostOf_15 : decode cX9_mostOf 15 = .ok (.iconst 3, 1) := by decide +kernel
theorem dX9_mostOf_16 : decode cX9_mostOf 16 = .ok (.if_icmp .ne 8, 3) := by decide +kernel
theorem dX9_mostOf_19 : decode cX9_mostOf 19 = .ok (.bipush 20, 2) := by decide +kernel
theorem dX9_mostOf_21 : decode cX9_mostOf 21 = .ok (.goto 5, 3) := by decide +kernel
theorem dX9_mostOf_24 : decode cX9_mostOf 24 = .ok (.bipush 99, 2) := by decide +kernel
theorem dX9_mostOf_26 : decode cX9_mostOf 26 = .ok (.ireturn, 1) := by decide +kernel
theorem dX9_set_0 : decode cX9_set 0 = .ok (.aload_n 0, 1) := by decide +kernel
theorem dX9_set_1 : decode cX9_set 1 = .ok (.iconst 0, 1) := by decide +kernel
theorem dX9_set_2 : decode cX9_set 2 = .ok (.putfield 31, 3) := by decide +kernel
theorem dX9_set_5 : decode cX9_set 5 = .ok (.iload_n 1, 1) := by decide +kernel
theorem dX9_set_6 : decode cX9_set 6 = .ok (.iconst 0, 1) := by decide +kernel
theorem dX9_set_7 : decode cX9_set 7 = .ok (.iconst 4, 1) := by decide +kernel
theorem dX9_set_8 : decode cX9_set 8 = .ok (.invokestatic 42, 3) := by decide +kernel
theorem dX9_set_11 : decode cX9_set 11 = .ok (.ifCond .ne 9, 3) := by decide +kernel
theorem dX9_set_14 : decode cX9_set 14 = .ok (.aload_n 0, 1) := by decide +kernel
theorem dX9_set_15 : decode cX9_set 15 = .ok (.iconst 1, 1) := by decide +kernel
theorem dX9_set_16 : decode cX9_set 16 = .ok (.invokevirtual 142, 3) := by decide +kernel
theorem dX9_set_19 : decode cX9_set 19 = .ok (.ireturn, 1) := by decide +kernel
theorem dX9_set_20 : decode cX9_set 20 = .ok (.iload_n 2, 1) := by decide +kernel
theorem dX9_set_21 : decode cX9_set 21 = .ok (.iconst 1, 1) := by decide +kernel
theorem dX9_set_22 : decode cX9_set 22 = .ok (.iload_n 1, 1) := by decide +kernel
theorem dX9_set_23 : decode cX9_set 23 = .ok (.invokestatic 176, 3) := by decide +kernel
theorem dX9_set_26 : decode cX9_set 26 = .ok (.invokestatic 42, 3) := by decide +kernel
theorem dX9_set_29 : decode cX9_set 29 = .ok (.ifCond .ne 9, 3) := by decide +kernel
theorem dX9_set_32 : decode cX9_set 32 = .ok (.aload_n 0, 1) := by decide +kernel
theorem dX9_set_33 : decode cX9_set 33 = .ok (.iconst 2, 1) := by decide +kernel
theorem dX9_set_34 : decode cX9_set 34 = .ok (.invokevirtual 142, 3) := by decide +kernel
theorem dX9_set_37 : decode cX9_set 37 = .ok (.ireturn, 1) := by decide +kernel
theorem dX9_set_38 : decode cX9_set 38 = .ok (.aload_n 0, 1) := by decide +kernel
theorem dX9_set_39 : decode cX9_set 39 = .ok (.invokevirtual 145, 3) := by decide +kernel
theorem dX9_set_42 : decode cX9_set 42 = .ok (.aload_n 0, 1) := by decide +kernel
theorem dX9_set_43 : decode cX9_set 43 = .ok (.getfield 7, 3) := by decide +kernel
theorem dX9_set_46 : decode cX9_set 46 = .ok (.sipush 556, 3) := by decide +kernel
theorem dX9_set_49 : decode cX9_set 49 = .ok (.iload_n 1, 1) := by decide +kernel
theorem dX9_set_50 : decode cX9_set 50 = .ok (.iadd, 1) := by decide +kernel
theorem dX9_set_51 : decode cX9_set 51 = .ok (.iaload, 1) := by decide +kernel
theorem dX9_set_52 : decode cX9_set 52 = .ok (.istore_n 3, 1) := by decide +kernel
theorem dX9_set_53 : decode cX9_set 53 = .ok (.aload_n 0, 1) := by decide +kernel
theorem dX9_set_54 : decode cX9_set 54 = .ok (.getfield 7, 3) := by decide +kernel
theorem dX9_set_57 : decode cX9_set 57 = .ok (.sipush 556, 3) := by decide +kernel
theorem dX9_set_60 : decode cX9_set 60 = .ok (.iload_n 1, 1) := by decide +kernel
theorem dX9_set_61 : decode cX9_set 61 = .ok (.iadd, 1) := by decide +kernel
theorem dX9_set_62 : decode cX9_set 62 = .ok (.iload_n 2, 1) := by decide +kernel
theorem dX9_set_63 : decode cX9_set 63 = .ok (.iastore, 1) := by decide +kernel
theorem dX9_set_64 : decode cX9_set 64 = .ok (.iload_n 3, 1) := by decide +kernel
theorem dX9_set_65 : decode cX9_set 65 = .ok (.ireturn, 1) := by decide +kernel
theorem dX9_append_0 : decode cX9_append 0 = .ok (.aload_n 0, 1) := by decide +kernel
theorem dX9_append_1 : decode cX9_append 1 = .ok (.iconst 0, 1) := by decide +kernel
theorem dX9_append_2 : decode cX9_append 2 = .ok (.putfield 31, 3) := by decide +kernel
theorem dX9_append_5 : decode cX9_append 5 = .ok (.iload_n 1, 1) := by decide +kernel
theorem dX9_append_6 : decode cX9_append 6 = .ok (.bipush 33, 2) := by decide +kernel
theorem dX9_append_8 : decode cX9_append 8 = .ok (.bipush 126, 2) := by decide +kernel
theorem dX9_append_10 : decode cX9_append 10 = .ok (.invokestatic 42, 3) := by decide +kernel
theorem dX9_append_13 : decode cX9_append 13 = .ok (.ifCond .ne 9, 3) := by decide +kernel
theorem dX9_append_16 : decode cX9_append 16 = .ok (.aload_n 0, 1) := by decide +kernel
theorem dX9_append_17 : decode cX9_append 17 = .ok (.iconst 1, 1) := by decide +kernel
theorem dX9_append_18 : decode cX9_append 18 = .ok (.invokevirtual 142, 3) := by decide +kernel
theorem dX9_append_21 : decode cX9_append 21 = .ok (.ireturn, 1) := by decide +kernel
theorem dX9_append_22 : decode cX9_append 22 = .ok (.aload_n 0, 1) := by decide +kernel
theorem dX9_append_23 : decode cX9_append 23 = .ok (.getfield 179, 3) := by decide +kernel
theorem dX9_append_26 : decode cX9_append 26 = .ok (.bipush 60, 2) := by decide +kernel
theorem dX9_append_28 : decode cX9_append 28 = .ok (.if_icmp .ne 9, 3) := by decide +kernel
theorem dX9_append_31 : decode cX9_append 31 = .ok (.aload_n 0, 1) := by decide +kernel
theorem dX9_append_32 : decode cX9_append 32 = .ok (.iconst 2, 1) := by decide +kernel
theorem dX9_append_33 : decode cX9_append 33 = .ok (.invokevirtual 142, 3) := by decide +kernel
theorem dX9_append_36 : decode cX9_append 36 = .ok (.ireturn, 1) := by decide +kernel
theorem dX9_append_37 : decode cX9_append 37 = .ok (.aload_n 0, 1) := by decide +kernel
theorem dX9_append_38 : decode cX9_append 38 = .ok (.getfield 22, 3) := by decide +kernel
theorem dX9_append_41 : decode cX9_append 41 = .ok (.aload_n 0, 1) := by decide +kernel
theorem dX9_append_42 : decode cX9_append 42 = .ok (.getfield 179, 3) := by decide +kernel
theorem dX9_append_45 : decode cX9_append 45 = .ok (.iload_n 1, 1) := by decide +kernel
theorem dX9_append_46 : decode cX9_append 46 = .ok (.iastore, 1) := by decide +kernel
theorem dX9_append_47 : decode cX9_append 47 = .ok (.aload_n 0, 1) := by decide +kernel
theorem dX9_append_48 : decode cX9_append 48 = .ok (.dup, 1) := by decide +kernel
theorem dX9_append_49 : decode cX9_append 49 = .ok (.getfield 179, 3) := by decide +kernel
theorem dX9_append_52 : decode cX9_append 52 = .ok (.iconst 1, 1) := by decide +kernel
theorem dX9_append_53 : decode cX9_append 53 = .ok (.iadd, 1) := by decide +kernel
theorem dX9_append_54 : decode cX9_append 54 = .ok (.putfield 179, 3) := by decide +kernel
theorem dX9_append_57 : decode cX9_append 57 = .ok (.aload_n 0, 1) := by decide +kernel
theorem dX9_append_58 : decode cX9_append 58 = .ok (.getfield 179, 3) := by decide +kernel
theorem dX9_append_61 : decode cX9_append 61 = .ok (.ireturn, 1) := by decide +kernel
theorem dX9_clearBuffer_0 : decode cX9_clearBuffer 0 = .ok (.aload_n 0, 1) := by decide +kernel
theorem dX9_clearBuffer_1 : decode cX9_clearBuffer 1 = .ok (.iconst 0, 1) := by decide +kernel
theorem dX9_clearBuffer_2 : decode cX9_clearBuffer 2 = .ok (.putfield 31, 3) := by decide +kernel
theorem dX9_clearBuffer_5 : decode cX9_clearBuffer 5 = .ok (.aload_n 0, 1) := by decide +kernel
theorem dX9_clearBuffer_6 : decode cX9_clearBuffer 6 = .ok (.getfield 179, 3) := by decide +kernel
theorem dX9_clearBuffer_9 : decode cX9_clearBuffer 9 = .ok (.istore_n 1, 1) := by decide +kernel
theorem dX9_clearBuffer_10 : decode cX9_clearBuffer 10 = .ok (.aload_n 0, 1) := by decide +kernel
theorem dX9_clearBuffer_11 : decode cX9_clearBuffer 11 = .ok (.iconst 0, 1) := by decide +kernel
theorem dX9_clearBuffer_12 : decode cX9_clearBuffer 12 = .ok (.putfield 179, 3) := by decide +kernel
theorem dX9_clearBuffer_15 : decode cX9_clearBuffer 15 = .ok (.iload_n 1, 1) := by decide +kernel
theorem dX9_clearBuffer_16 : decode cX9_clearBuffer 16 = .ok (.ireturn, 1) := by decide +kernel
theorem dX9_here_0 : decode cX9_here 0 = .ok (.aload_n 0, 1) := by decide +kernel
theorem dX9_here_1 : decode cX9_here 1 = .ok (.getfield 182, 3) := by decide +kernel
theorem dX9_here_4 : decode cX9_here 4 = .ok (.aload_n 0, 1) := by decide +kernel
theorem dX9_here_5 : decode cX9_here 5 = .ok (.getfield 179, 3) := by decide +kernel
theorem dX9_here_8 : decode cX9_here 8 = .ok (.if_icmp .ge 15, 3) := by decide +kernel
theorem dX9_here_11 : decode cX9_here 11 = .ok (.aload_n 0, 1) := by decide +kernel
theorem dX9_here_12 : decode cX9_here 12 = .ok (.getfield 22, 3) := by decide +kernel
theorem dX9_here_15 : decode cX9_here 15 = .ok (.aload_n 0, 1) := by decide +kernel
theorem dX9_here_16 : decode cX9_here 16 = .ok (.getfield 182, 3) := by decide +kernel
theorem dX9_here_19 : decode cX9_here 19 = .ok (.iaload, 1) := by decide +kernel
theorem dX9_here_20 : decode cX9_here 20 = .ok (.goto 4, 3) := by decide +kernel
theorem dX9_here_23 : decode cX9_here 23 = .ok (.iconst (-1), 1) := by decide +kernel
theorem dX9_here_24 : decode cX9_here 24 = .ok (.ireturn, 1) := by decide +kernel
theorem dX9_takes_0 : decode cX9_takes 0 = .ok (.aload_n 0, 1) := by decide +kernel
theorem dX9_takes_1 : decode cX9_takes 1 = .ok (.aload_n 0, 1) := by decide +kernel
theorem dX9_takes_2 : decode cX9_takes 2 = .ok (.getfield 185, 3) := by decide +kernel
theorem dX9_takes_5 : decode cX9_takes 5 = .ok (.ifCond .eq 11, 3) := by decide +kernel
theorem dX9_takes_8 : decode cX9_takes 8 = .ok (.iload_n 1, 1) := by decide +kernel
theorem dX9_takes_9 : decode cX9_takes 9 = .ok (.ifCond .eq 7, 3) := by decide +kernel
theorem dX9_takes_12 : decode cX9_takes 12 = .ok (.iconst 1, 1) := by decide +kernel
theorem dX9_takes_13 : decode cX9_takes 13 = .ok (.goto 4, 3) := by decide +kernel
theorem dX9_takes_16 : decode cX9_takes 16 = .ok (.iconst 0, 1) := by decide +kernel
theorem dX9_takes_17 : decode cX9_takes 17 = .ok (.putfield 185, 3) := by decide +kernel
theorem dX9_takes_20 : decode cX9_takes 20 = .ok (.aload_n 0, 1) := by decide +kernel
theorem dX9_takes_21 : decode cX9_takes 21 = .ok (.dup, 1) := by decide +kernel
theorem dX9_takes_22 : decode cX9_takes 22 = .ok (.getfield 182, 3) := by decide +kernel
theorem dX9_takes_25 : decode cX9_takes 25 = .ok (.aload_n 0, 1) := by decide +kernel
theorem dX9_takes_26 : decode cX9_takes 26 = .ok (.getfield 185, 3) := by decide +kernel
theorem dX9_takes_29 : decode cX9_takes 29 = .ok (.ifCond .eq 7, 3) := by decide +kernel
theorem dX9_takes_32 : decode cX9_takes 32 = .ok (.iconst 1, 1) := by decide +kernel
theorem dX9_takes_33 : decode cX9_takes 33 = .ok (.goto 4, 3) := by decide +kernel
theorem dX9_takes_36 : decode cX9_takes 36 = .ok (.iconst 0, 1) := by decide +kernel
theorem dX9_takes_37 : decode cX9_takes 37 = .ok (.iadd, 1) := by decide +kernel
theorem dX9_takes_38 : decode cX9_takes 38 = .ok (.putfield 182, 3) := by decide +kernel
theorem dX9_takes_41 : decode cX9_takes 41 = .ok (.return_, 1) := by decide +kernel
theorem dX9_takesNumber_0 : decode cX9_takesNumber 0 = .ok (.aload_n 0, 1) := by decide +kernel
theorem dX9_takesNumber_1 : decode cX9_takesNumber 1 = .ok (.aload_n 0, 1) := by decide +kernel
theorem dX9_takesNumber_2 : decode cX9_takesNumber 2 = .ok (.invokevirtual 189, 3) := by decide +kernel
theorem dX9_takesNumber_5 : decode cX9_takesNumber 5 = .ok (.bipush 48, 2) := by decide +kernel
theorem dX9_takesNumber_7 : decode cX9_takesNumber 7 = .ok (.isub, 1) := by decide +kernel
theorem dX9_takesNumber_8 : decode cX9_takesNumber 8 = .ok (.putfield 192, 3) := by decide +kernel
theorem dX9_takesNumber_11 : decode cX9_takesNumber 11 = .ok (.aload_n 0, 1) := by decide +kernel
theorem dX9_takesNumber_12 : decode cX9_takesNumber 12 = .ok (.aload_n 0, 1) := by decide +kernel
theorem dX9_takesNumber_13 : decode cX9_takesNumber 13 = .ok (.invokevirtual 189, 3) := by decide +kernel
theorem dX9_takesNumber_16 : decode cX9_takesNumber 16 = .ok (.bipush 48, 2) := by decide +kernel
theorem dX9_takesNumber_18 : decode cX9_takesNumber 18 = .ok (.bipush 57, 2) := by decide +kernel
theorem dX9_takesNumber_20 : decode cX9_takesNumber 20 = .ok (.invokestatic 42, 3) := by decide +kernel
theorem dX9_takesNumber_23 : decode cX9_takesNumber 23 = .ok (.ifCond .eq 23, 3) := by decide +kernel
theorem dX9_takesNumber_26 : decode cX9_takesNumber 26 = .ok (.aload_n 0, 1) := by decide +kernel
theorem dX9_takesNumber_27 : decode cX9_takesNumber 27 = .ok (.getfield 192, 3) := by decide +kernel
theorem dX9_takesNumber_30 : decode cX9_takesNumber 30 = .ok (.iload_n 1, 1) := by decide +kernel
theorem dX9_takesNumber_31 : decode cX9_takesNumber 31 = .ok (.if_icmp .lt 15, 3) := by decide +kernel
theorem dX9_takesNumber_34 : decode cX9_takesNumber 34 = .ok (.aload_n 0, 1) := by decide +kernel
theorem dX9_takesNumber_35 : decode cX9_takesNumber 35 = .ok (.getfield 192, 3) := by decide +kernel
theorem dX9_takesNumber_38 : decode cX9_takesNumber 38 = .ok (.iload_n 2, 1) := by decide +kernel
theorem dX9_takesNumber_39 : decode cX9_takesNumber 39 = .ok (.if_icmp .gt 7, 3) := by decide +kernel
theorem dX9_takesNumber_42 : decode cX9_takesNumber 42 = .ok (.iconst 1, 1) := by decide +kernel
theorem dX9_takesNumber_43 : decode cX9_takesNumber 43 = .ok (.goto 4, 3) := by decide +kernel
theorem dX9_takesNumber_46 : decode cX9_takesNumber 46 = .ok (.iconst 0, 1) := by decide +kernel
theorem dX9_takesNumber_47 : decode cX9_takesNumber 47 = .ok (.invokevirtual 195, 3) := by decide +kernel
theorem dX9_takesNumber_50 : decode cX9_takesNumber 50 = .ok (.aload_n 0, 1) := by decide +kernel
theorem dX9_takesNumber_51 : decode cX9_takesNumber 51 = .ok (.getfield 185, 3) := by decide +kernel
theorem dX9_takesNumber_54 : decode cX9_takesNumber 54 = .ok (.ifCond .eq 75, 3) := by decide +kernel
theorem dX9_takesNumber_57 : decode cX9_takesNumber 57 = .ok (.aload_n 0, 1) := by decide +kernel
theorem dX9_takesNumber_58 : decode cX9_takesNumber 58 = .ok (.getfield 192, 3) := by decide +kernel
theorem dX9_takesNumber_61 : decode cX9_takesNumber 61 = .ok (.ifCond .le 68, 3) := by decide +kernel
theorem dX9_takesNumber_64 : decode cX9_takesNumber 64 = .ok (.aload_n 0, 1) := by decide +kernel
theorem dX9_takesNumber_65 : decode cX9_takesNumber 65 = .ok (.invokevirtual 189, 3) := by decide +kernel
theorem dX9_takesNumber_68 : decode cX9_takesNumber 68 = .ok (.bipush 48, 2) := by decide +kernel
theorem dX9_takesNumber_70 : decode cX9_takesNumber 70 = .ok (.bipush 57, 2) := by decide +kernel
theorem dX9_takesNumber_72 : decode cX9_takesNumber 72 = .ok (.invokestatic 42, 3) := by decide +kernel
theorem dX9_takesNumber_75 : decode cX9_takesNumber 75 = .ok (.ifCond .eq 54, 3) := by decide +kernel
theorem dX9_takesNumber_78 : decode cX9_takesNumber 78 = .ok (.bipush 10, 2) := by decide +kernel
theorem dX9_takesNumber_80 : decode cX9_takesNumber 80 = .ok (.aload_n 0, 1) := by decide +kernel
theorem dX9_takesNumber_81 : decode cX9_takesNumber 81 = .ok (.getfield 192, 3) := by decide +kernel
theorem dX9_takesNumber_84 : decode cX9_takesNumber 84 = .ok (.imul, 1) := by decide +kernel
theorem dX9_takesNumber_85 : decode cX9_takesNumber 85 = .ok (.aload_n 0, 1) := by decide +kernel
theorem dX9_takesNumber_86 : decode cX9_takesNumber 86 = .ok (.invokevirtual 189, 3) := by decide +kernel
theorem dX9_takesNumber_89 : decode cX9_takesNumber 89 = .ok (.iadd, 1) := by decide +kernel
theorem dX9_takesNumber_90 : decode cX9_takesNumber 90 = .ok (.bipush 48, 2) := by decide +kernel
theorem dX9_takesNumber_92 : decode cX9_takesNumber 92 = .ok (.isub, 1) := by decide +kernel
theorem dX9_takesNumber_93 : decode cX9_takesNumber 93 = .ok (.iload_n 2, 1) := by decide +kernel
theorem dX9_takesNumber_94 : decode cX9_takesNumber 94 = .ok (.if_icmp .gt 35, 3) := by decide +kernel
theorem dX9_takesNumber_97 : decode cX9_takesNumber 97 = .ok (.aload_n 0, 1) := by decide +kernel
theorem dX9_takesNumber_98 : decode cX9_takesNumber 98 = .ok (.bipush 10, 2) := by decide +kernel
theorem dX9_takesNumber_100 : decode cX9_takesNumber 100 = .ok (.aload_n 0, 1) := by decide +kernel
theorem dX9_takesNumber_101 : decode cX9_takesNumber 101 = .ok (.getfield 192, 3) := by decide +kernel
theorem dX9_takesNumber_104 : decode cX9_takesNumber 104 = .ok (.imul, 1) := by decide +kernel
theorem dX9_takesNumber_105 : decode cX9_takesNumber 105 = .ok (.aload_n 0, 1) := by decide +kernel
theorem dX9_takesNumber_106 : decode cX9_takesNumber 106 = .ok (.invokevirtual 189, 3) := by decide +kernel
theorem dX9_takesNumber_109 : decode cX9_takesNumber 109 = .ok (.iadd, 1) := by decide +kernel
theorem dX9_takesNumber_110 : decode cX9_takesNumber 110 = .ok (.bipush 48, 2) := by decide +kernel
theorem dX9_takesNumber_112 : decode cX9_takesNumber 112 = .ok (.isub, 1) := by decide +kernel
theorem dX9_takesNumber_113 : decode cX9_takesNumber 113 = .ok (.putfield 192, 3) := by decide +kernel
theorem dX9_takesNumber_116 : decode cX9_takesNumber 116 = .ok (.aload_n 0, 1) := by decide +kernel
theorem dX9_takesNumber_117 : decode cX9_takesNumber 117 = .ok (.dup, 1) := by decide +kernel
theorem dX9_takesNumber_118 : decode cX9_takesNumber 118 = .ok (.getfield 182, 3) := by decide +kernel
theorem dX9_takesNumber_121 : decode cX9_takesNumber 121 = .ok (.iconst 1, 1) := by decide +kernel
theorem dX9_takesNumber_122 : decode cX9_takesNumber 122 = .ok (.iadd, 1) := by decide +kernel
theorem dX9_takesNumber_123 : decode cX9_takesNumber 123 = .ok (.putfield 182, 3) := by decide +kernel
theorem dX9_takesNumber_126 : decode cX9_takesNumber 126 = .ok (.goto (-76), 3) := by decide +kernel
theorem dX9_takesNumber_129 : decode cX9_takesNumber 129 = .ok (.return_, 1) := by decide +kernel
theorem dX9_figure_0 : decode cX9_figure 0 = .ok (.iload_n 0, 1) := by decide +kernel
theorem dX9_figure_1 : decode cX9_figure 1 = .ok (.bipush 48, 2) := by decide +kernel
theorem dX9_figure_3 : decode cX9_figure 3 = .ok (.bipush 57, 2) := by decide +kernel
theorem dX9_figure_5 : decode cX9_figure 5 = .ok (.invokestatic 42, 3) := by decide +kernel
theorem dX9_figure_8 : decode cX9_figure 8 = .ok (.ifCond .eq 10, 3) := by decide +kernel
theorem dX9_figure_11 : decode cX9_figure 11 = .ok (.iload_n 0, 1) := by decide +kernel
theorem dX9_figure_12 : decode cX9_figure 12 = .ok (.bipush 48, 2) := by decide +kernel
theorem dX9_figure_14 : decode cX9_figure 14 = .ok (.isub, 1) := by decide +kernel
theorem dX9_figure_15 : decode cX9_figure 15 = .ok (.goto 25, 3) := by decide +kernel
theorem dX9_figure_18 : decode cX9_figure 18 = .ok (.iload_n 0, 1) := by decide +kernel
theorem dX9_figure_19 : decode cX9_figure 19 = .ok (.bipush 97, 2) := by decide +kernel
theorem dX9_figure_21 : decode cX9_figure 21 = .ok (.bipush 102, 2) := by decide +kernel
theorem dX9_figure_23 : decode cX9_figure 23 = .ok (.invokestatic 42, 3) := by decide +kernel
theorem dX9_figure_26 : decode cX9_figure 26 = .ok (.ifCond .eq 13, 3) := by decide +kernel
theorem dX9_figure_29 : decode cX9_figure 29 = .ok (.iload_n 0, 1) := by decide +kernel
theorem dX9_figure_30 : decode cX9_figure 30 = .ok (.bipush 97, 2) := by decide +kernel
theorem dX9_figure_32 : decode cX9_figure 32 = .ok (.isub, 1) := by decide +kernel
theorem dX9_figure_33 : decode cX9_figure 33 = .ok (.bipush 10, 2) := by decide +kernel
theorem dX9_figure_35 : decode cX9_figure 35 = .ok (.iadd, 1) := by decide +kernel
theorem dX9_figure_36 : decode cX9_figure 36 = .ok (.goto 4, 3) := by decide +kernel
theorem dX9_figure_39 : decode cX9_figure 39 = .ok (.iconst (-1), 1) := by decide +kernel
theorem dX9_figure_40 : decode cX9_figure 40 = .ok (.ireturn, 1) := by decide +kernel
theorem dX9_takesValue_0 : decode cX9_takesValue 0 = .ok (.aload_n 0, 1) := by decide +kernel
theorem dX9_takesValue_1 : decode cX9_takesValue 1 = .ok (.invokevirtual 189, 3) := by decide +kernel
theorem dX9_takesValue_4 : decode cX9_takesValue 4 = .ok (.invokestatic 199, 3) := by decide +kernel
theorem dX9_takesValue_7 : decode cX9_takesValue 7 = .ok (.istore_n 1, 1) := by decide +kernel
theorem dX9_takesValue_8 : decode cX9_takesValue 8 = .ok (.aload_n 0, 1) := by decide +kernel
theorem dX9_takesValue_9 : decode cX9_takesValue 9 = .ok (.iload_n 1, 1) := by decide +kernel
theorem dX9_takesValue_10 : decode cX9_takesValue 10 = .ok (.ifCond .lt 7, 3) := by decide +kernel
theorem dX9_takesValue_13 : decode cX9_takesValue 13 = .ok (.iconst 1, 1) := by decide +kernel
theorem dX9_takesValue_14 : decode cX9_takesValue 14 = .ok (.goto 4, 3) := by decide +kernel
theorem dX9_takesValue_17 : decode cX9_takesValue 17 = .ok (.iconst 0, 1) := by decide +kernel
theorem dX9_takesValue_18 : decode cX9_takesValue 18 = .ok (.invokevirtual 195, 3) := by decide +kernel
theorem dX9_takesValue_21 : decode cX9_takesValue 21 = .ok (.aload_n 0, 1) := by decide +kernel
theorem dX9_takesValue_22 : decode cX9_takesValue 22 = .ok (.invokevirtual 189, 3) := by decide +kernel
theorem dX9_takesValue_25 : decode cX9_takesValue 25 = .ok (.invokestatic 199, 3) := by decide +kernel
theorem dX9_takesValue_28 : decode cX9_takesValue 28 = .ok (.istore_n 2, 1) := by decide +kernel
theorem dX9_takesValue_29 : decode cX9_takesValue 29 = .ok (.aload_n 0, 1) := by decide +kernel
theorem dX9_takesValue_30 : decode cX9_takesValue 30 = .ok (.iload_n 2, 1) := by decide +kernel
theorem dX9_takesValue_31 : decode cX9_takesValue 31 = .ok (.ifCond .lt 7, 3) := by decide +kernel
theorem dX9_takesValue_34 : decode cX9_takesValue 34 = .ok (.iconst 1, 1) := by decide +kernel
theorem dX9_takesValue_35 : decode cX9_takesValue 35 = .ok (.goto 4, 3) := by decide +kernel
theorem dX9_takesValue_38 : decode cX9_takesValue 38 = .ok (.iconst 0, 1) := by decide +kernel
theorem dX9_takesValue_39 : decode cX9_takesValue 39 = .ok (.invokevirtual 195, 3) := by decide +kernel
theorem dX9_takesValue_42 : decode cX9_takesValue 42 = .ok (.aload_n 0, 1) := by decide +kernel
theorem dX9_takesValue_43 : decode cX9_takesValue 43 = .ok (.getfield 25, 3) := by decide +kernel
theorem dX9_takesValue_46 : decode cX9_takesValue 46 = .ok (.aload_n 0, 1) := by decide +kernel
theorem dX9_takesValue_47 : decode cX9_takesValue 47 = .ok (.getfield 202, 3) := by decide +kernel
theorem dX9_takesValue_50 : decode cX9_takesValue 50 = .ok (.bipush 16, 2) := by decide +kernel
theorem dX9_takesValue_52 : decode cX9_takesValue 52 = .ok (.iload_n 1, 1) := by decide +kernel
theorem dX9_takesValue_53 : decode cX9_takesValue 53 = .ok (.imul, 1) := by decide +kernel
theorem dX9_takesValue_54 : decode cX9_takesValue 54 = .ok (.iload_n 2, 1) := by decide +kernel
theorem dX9_takesValue_55 : decode cX9_takesValue 55 = .ok (.iadd, 1) := by decide +kernel
theorem dX9_takesValue_56 : decode cX9_takesValue 56 = .ok (.iastore, 1) := by decide +kernel
theorem dX9_takesValue_57 : decode cX9_takesValue 57 = .ok (.aload_n 0, 1) := by decide +kernel
theorem dX9_takesValue_58 : decode cX9_takesValue 58 = .ok (.dup, 1) := by decide +kernel
theorem dX9_takesValue_59 : decode cX9_takesValue 59 = .ok (.getfield 202, 3) := by decide +kernel
theorem dX9_takesValue_62 : decode cX9_takesValue 62 = .ok (.iconst 1, 1) := by decide +kernel
theorem dX9_takesValue_63 : decode cX9_takesValue 63 = .ok (.iadd, 1) := by decide +kernel
theorem dX9_takesValue_64 : decode cX9_takesValue 64 = .ok (.putfield 202, 3) := by decide +kernel
theorem dX9_takesValue_67 : decode cX9_takesValue 67 = .ok (.return_, 1) := by decide +kernel
theorem dX9_takesValues_0 : decode cX9_takesValues 0 = .ok (.aload_n 0, 1) := by decide +kernel
theorem dX9_takesValues_1 : decode cX9_takesValues 1 = .ok (.aload_n 0, 1) := by decide +kernel
theorem dX9_takesValues_2 : decode cX9_takesValues 2 = .ok (.invokevirtual 189, 3) := by decide +kernel
theorem dX9_takesValues_5 : decode cX9_takesValues 5 = .ok (.bipush 58, 2) := by decide +kernel
theorem dX9_takesValues_7 : decode cX9_takesValues 7 = .ok (.if_icmp .ne 7, 3) := by decide +kernel
theorem dX9_takesValues_10 : decode cX9_takesValues 10 = .ok (.iconst 1, 1) := by decide +kernel
theorem dX9_takesValues_11 : decode cX9_takesValues 11 = .ok (.goto 4, 3) := by decide +kernel
theorem dX9_takesValues_14 : decode cX9_takesValues 14 = .ok (.iconst 0, 1) := by decide +kernel
theorem dX9_takesValues_15 : decode cX9_takesValues 15 = .ok (.invokevirtual 195, 3) := by decide +kernel
theorem dX9_takesValues_18 : decode cX9_takesValues 18 = .ok (.aload_n 0, 1) := by decide +kernel
theorem dX9_takesValues_19 : decode cX9_takesValues 19 = .ok (.iconst 0, 1) := by decide +kernel
theorem dX9_takesValues_20 : decode cX9_takesValues 20 = .ok (.putfield 202, 3) := by decide +kernel
theorem dX9_takesValues_23 : decode cX9_takesValues 23 = .ok (.aload_n 0, 1) := by decide +kernel
theorem dX9_takesValues_24 : decode cX9_takesValues 24 = .ok (.invokevirtual 205, 3) := by decide +kernel
theorem dX9_takesValues_27 : decode cX9_takesValues 27 = .ok (.aload_n 0, 1) := by decide +kernel
theorem dX9_takesValues_28 : decode cX9_takesValues 28 = .ok (.getfield 185, 3) := by decide +kernel
theorem dX9_takesValues_31 : decode cX9_takesValues 31 = .ok (.ifCond .eq 29, 3) := by decide +kernel
theorem dX9_takesValues_34 : decode cX9_takesValues 34 = .ok (.aload_n 0, 1) := by decide +kernel
theorem dX9_takesValues_35 : decode cX9_takesValues 35 = .ok (.getfield 202, 3) := by decide +kernel
theorem dX9_takesValues_38 : decode cX9_takesValues 38 = .ok (.bipush 8, 2) := by decide +kernel
theorem dX9_takesValues_40 : decode cX9_takesValues 40 = .ok (.if_icmp .ge 20, 3) := by decide +kernel
theorem dX9_takesValues_43 : decode cX9_takesValues 43 = .ok (.aload_n 0, 1) := by decide +kernel
theorem dX9_takesValues_44 : decode cX9_takesValues 44 = .ok (.invokevirtual 189, 3) := by decide +kernel
theorem dX9_takesValues_47 : decode cX9_takesValues 47 = .ok (.invokestatic 199, 3) := by decide +kernel
theorem dX9_takesValues_50 : decode cX9_takesValues 50 = .ok (.ifCond .lt 10, 3) := by decide +kernel
theorem dX9_takesValues_53 : decode cX9_takesValues 53 = .ok (.aload_n 0, 1) := by decide +kernel
theorem dX9_takesValues_54 : decode cX9_takesValues 54 = .ok (.invokevirtual 205, 3) := by decide +kernel
theorem dX9_takesValues_57 : decode cX9_takesValues 57 = .ok (.goto (-30), 3) := by decide +kernel
theorem dX9_takesValues_60 : decode cX9_takesValues 60 = .ok (.return_, 1) := by decide +kernel
theorem dX9_takesPart_0 : decode cX9_takesPart 0 = .ok (.aload_n 0, 1) := by decide +kernel
theorem dX9_takesPart_1 : decode cX9_takesPart 1 = .ok (.aload_n 0, 1) := by decide +kernel
theorem dX9_takesPart_2 : decode cX9_takesPart 2 = .ok (.invokevirtual 189, 3) := by decide +kernel
theorem dX9_takesPart_5 : decode cX9_takesPart 5 = .ok (.putfield 208, 3) := by decide +kernel
theorem dX9_takesPart_8 : decode cX9_takesPart 8 = .ok (.aload_n 0, 1) := by decide +kernel
theorem dX9_takesPart_9 : decode cX9_takesPart 9 = .ok (.aload_n 0, 1) := by decide +kernel
theorem dX9_takesPart_10 : decode cX9_takesPart 10 = .ok (.getfield 208, 3) := by decide +kernel
theorem dX9_takesPart_13 : decode cX9_takesPart 13 = .ok (.bipush 119, 2) := by decide +kernel
theorem dX9_takesPart_15 : decode cX9_takesPart 15 = .ok (.if_icmp .eq 21, 3) := by decide +kernel
theorem dX9_takesPart_18 : decode cX9_takesPart 18 = .ok (.aload_n 0, 1) := by decide +kernel
theorem dX9_takesPart_19 : decode cX9_takesPart 19 = .ok (.getfield 208, 3) := by decide +kernel
theorem dX9_takesPart_22 : decode cX9_takesPart 22 = .ok (.bipush 101, 2) := by decide +kernel
theorem dX9_takesPart_24 : decode cX9_takesPart 24 = .ok (.if_icmp .eq 12, 3) := by decide +kernel
theorem dX9_takesPart_27 : decode cX9_takesPart 27 = .ok (.aload_n 0, 1) := by decide +kernel
theorem dX9_takesPart_28 : decode cX9_takesPart 28 = .ok (.getfield 208, 3) := by decide +kernel
theorem dX9_takesPart_31 : decode cX9_takesPart 31 = .ok (.bipush 116, 2) := by decide +kernel
theorem dX9_takesPart_33 : decode cX9_takesPart 33 = .ok (.if_icmp .ne 7, 3) := by decide +kernel
theorem dX9_takesPart_36 : decode cX9_takesPart 36 = .ok (.iconst 1, 1) := by decide +kernel
theorem dX9_takesPart_37 : decode cX9_takesPart 37 = .ok (.goto 4, 3) := by decide +kernel
theorem dX9_takesPart_40 : decode cX9_takesPart 40 = .ok (.iconst 0, 1) := by decide +kernel
theorem dX9_takesPart_41 : decode cX9_takesPart 41 = .ok (.invokevirtual 195, 3) := by decide +kernel
theorem dX9_takesPart_44 : decode cX9_takesPart 44 = .ok (.aload_n 0, 1) := by decide +kernel
theorem dX9_takesPart_45 : decode cX9_takesPart 45 = .ok (.aload_n 0, 1) := by decide +kernel
theorem dX9_takesPart_46 : decode cX9_takesPart 46 = .ok (.getfield 208, 3) := by decide +kernel
theorem dX9_takesPart_49 : decode cX9_takesPart 49 = .ok (.bipush 116, 2) := by decide +kernel
theorem dX9_takesPart_51 : decode cX9_takesPart 51 = .ok (.if_icmp .ne 7, 3) := by decide +kernel
theorem dX9_takesPart_54 : decode cX9_takesPart 54 = .ok (.iconst 1, 1) := by decide +kernel
theorem dX9_takesPart_55 : decode cX9_takesPart 55 = .ok (.goto 4, 3) := by decide +kernel
theorem dX9_takesPart_58 : decode cX9_takesPart 58 = .ok (.iconst 0, 1) := by decide +kernel
theorem dX9_takesPart_59 : decode cX9_takesPart 59 = .ok (.aload_n 0, 1) := by decide +kernel
theorem dX9_takesPart_60 : decode cX9_takesPart 60 = .ok (.getfield 208, 3) := by decide +kernel
theorem dX9_takesPart_63 : decode cX9_takesPart 63 = .ok (.bipush 119, 2) := by decide +kernel
theorem dX9_takesPart_65 : decode cX9_takesPart 65 = .ok (.if_icmp .ne 9, 3) := by decide +kernel
theorem dX9_takesPart_68 : decode cX9_takesPart 68 = .ok (.sipush 255, 3) := by decide +kernel
theorem dX9_takesPart_71 : decode cX9_takesPart 71 = .ok (.goto 19, 3) := by decide +kernel
theorem dX9_takesPart_74 : decode cX9_takesPart 74 = .ok (.aload_n 0, 1) := by decide +kernel
theorem dX9_takesPart_75 : decode cX9_takesPart 75 = .ok (.getfield 208, 3) := by decide +kernel
theorem dX9_takesPart_78 : decode cX9_takesPart 78 = .ok (.bipush 101, 2) := by decide +kernel
theorem dX9_takesPart_80 : decode cX9_takesPart 80 = .ok (.if_icmp .ne 8, 3) := by decide +kernel
theorem dX9_takesPart_83 : decode cX9_takesPart 83 = .ok (.bipush 7, 2) := by decide +kernel
theorem dX9_takesPart_85 : decode cX9_takesPart 85 = .ok (.goto 5, 3) := by decide +kernel
theorem dX9_takesPart_88 : decode cX9_takesPart 88 = .ok (.bipush 99, 2) := by decide +kernel
theorem dX9_takesPart_90 : decode cX9_takesPart 90 = .ok (.invokevirtual 211, 3) := by decide +kernel
theorem dX9_takesPart_93 : decode cX9_takesPart 93 = .ok (.aload_n 0, 1) := by decide +kernel
theorem dX9_takesPart_94 : decode cX9_takesPart 94 = .ok (.getfield 208, 3) := by decide +kernel
theorem dX9_takesPart_97 : decode cX9_takesPart 97 = .ok (.bipush 119, 2) := by decide +kernel
theorem dX9_takesPart_99 : decode cX9_takesPart 99 = .ok (.if_icmp .ne 7, 3) := by decide +kernel
theorem dX9_takesPart_102 : decode cX9_takesPart 102 = .ok (.aload_n 0, 1) := by decide +kernel
theorem dX9_takesPart_103 : decode cX9_takesPart 103 = .ok (.invokevirtual 214, 3) := by decide +kernel
theorem dX9_takesPart_106 : decode cX9_takesPart 106 = .ok (.aload_n 0, 1) := by decide +kernel
theorem dX9_takesPart_107 : decode cX9_takesPart 107 = .ok (.iconst 5, 1) := by decide +kernel
theorem dX9_takesPart_108 : decode cX9_takesPart 108 = .ok (.putfield 217, 3) := by decide +kernel
theorem dX9_takesPart_111 : decode cX9_takesPart 111 = .ok (.aload_n 0, 1) := by decide +kernel
theorem dX9_takesPart_112 : decode cX9_takesPart 112 = .ok (.getfield 185, 3) := by decide +kernel
theorem dX9_takesPart_115 : decode cX9_takesPart 115 = .ok (.ifCond .eq 57, 3) := by decide +kernel
theorem dX9_takesPart_118 : decode cX9_takesPart 118 = .ok (.aload_n 0, 1) := by decide +kernel
theorem dX9_takesPart_119 : decode cX9_takesPart 119 = .ok (.getfield 208, 3) := by decide +kernel
theorem dX9_takesPart_122 : decode cX9_takesPart 122 = .ok (.bipush 116, 2) := by decide +kernel
theorem dX9_takesPart_124 : decode cX9_takesPart 124 = .ok (.if_icmp .eq 48, 3) := by decide +kernel
theorem dX9_takesPart_127 : decode cX9_takesPart 127 = .ok (.aload_n 0, 1) := by decide +kernel
theorem dX9_takesPart_128 : decode cX9_takesPart 128 = .ok (.invokevirtual 189, 3) := by decide +kernel
theorem dX9_takesPart_131 : decode cX9_takesPart 131 = .ok (.bipush 33, 2) := by decide +kernel
theorem dX9_takesPart_133 : decode cX9_takesPart 133 = .ok (.if_icmp .ne 39, 3) := by decide +kernel
theorem dX9_takesPart_136 : decode cX9_takesPart 136 = .ok (.aload_n 0, 1) := by decide +kernel
theorem dX9_takesPart_137 : decode cX9_takesPart 137 = .ok (.dup, 1) := by decide +kernel
theorem dX9_takesPart_138 : decode cX9_takesPart 138 = .ok (.getfield 182, 3) := by decide +kernel
theorem dX9_takesPart_141 : decode cX9_takesPart 141 = .ok (.iconst 1, 1) := by decide +kernel
theorem dX9_takesPart_142 : decode cX9_takesPart 142 = .ok (.iadd, 1) := by decide +kernel
theorem dX9_takesPart_143 : decode cX9_takesPart 143 = .ok (.putfield 182, 3) := by decide +kernel
theorem dX9_takesPart_146 : decode cX9_takesPart 146 = .ok (.aload_n 0, 1) := by decide +kernel
theorem dX9_takesPart_147 : decode cX9_takesPart 147 = .ok (.aload_n 0, 1) := by decide +kernel
theorem dX9_takesPart_148 : decode cX9_takesPart 148 = .ok (.invokevirtual 189, 3) := by decide +kernel
theorem dX9_takesPart_151 : decode cX9_takesPart 151 = .ok (.bipush 48, 2) := by decide +kernel
theorem dX9_takesPart_153 : decode cX9_takesPart 153 = .ok (.isub, 1) := by decide +kernel
theorem dX9_takesPart_154 : decode cX9_takesPart 154 = .ok (.putfield 217, 3) := by decide +kernel
theorem dX9_takesPart_157 : decode cX9_takesPart 157 = .ok (.aload_n 0, 1) := by decide +kernel
theorem dX9_takesPart_158 : decode cX9_takesPart 158 = .ok (.aload_n 0, 1) := by decide +kernel
theorem dX9_takesPart_159 : decode cX9_takesPart 159 = .ok (.invokevirtual 189, 3) := by decide +kernel
theorem dX9_takesPart_162 : decode cX9_takesPart 162 = .ok (.bipush 48, 2) := by decide +kernel
theorem dX9_takesPart_164 : decode cX9_takesPart 164 = .ok (.bipush 57, 2) := by decide +kernel
theorem dX9_takesPart_166 : decode cX9_takesPart 166 = .ok (.invokestatic 42, 3) := by decide +kernel
theorem dX9_takesPart_169 : decode cX9_takesPart 169 = .ok (.invokevirtual 195, 3) := by decide +kernel
theorem dX9_takesPart_172 : decode cX9_takesPart 172 = .ok (.return_, 1) := by decide +kernel
theorem dX9_isText_0 : decode cX9_isText 0 = .ok (.aload_n 0, 1) := by decide +kernel
theorem dX9_isText_1 : decode cX9_isText 1 = .ok (.iconst 0, 1) := by decide +kernel
theorem dX9_isText_2 : decode cX9_isText 2 = .ok (.putfield 182, 3) := by decide +kernel
theorem dX9_isText_5 : decode cX9_isText 5 = .ok (.aload_n 0, 1) := by decide +kernel
theorem dX9_isText_6 : decode cX9_isText 6 = .ok (.iconst 1, 1) := by decide +kernel
theorem dX9_isText_7 : decode cX9_isText 7 = .ok (.putfield 185, 3) := by decide +kernel
theorem dX9_isText_10 : decode cX9_isText 10 = .ok (.aload_n 0, 1) := by decide +kernel
theorem dX9_isText_11 : decode cX9_isText 11 = .ok (.invokevirtual 220, 3) := by decide +kernel
theorem dX9_isText_14 : decode cX9_isText 14 = .ok (.aload_n 0, 1) := by decide +kernel
theorem dX9_isText_15 : decode cX9_isText 15 = .ok (.getfield 185, 3) := by decide +kernel
theorem dX9_isText_18 : decode cX9_isText 18 = .ok (.ifCond .eq 46, 3) := by decide +kernel
theorem dX9_isText_21 : decode cX9_isText 21 = .ok (.aload_n 0, 1) := by decide +kernel
theorem dX9_isText_22 : decode cX9_isText 22 = .ok (.getfield 182, 3) := by decide +kernel
theorem dX9_isText_25 : decode cX9_isText 25 = .ok (.aload_n 0, 1) := by decide +kernel
theorem dX9_isText_26 : decode cX9_isText 26 = .ok (.getfield 179, 3) := by decide +kernel
theorem dX9_isText_29 : decode cX9_isText 29 = .ok (.if_icmp .ge 35, 3) := by decide +kernel
theorem dX9_isText_32 : decode cX9_isText 32 = .ok (.aload_n 0, 1) := by decide +kernel
theorem dX9_isText_33 : decode cX9_isText 33 = .ok (.aload_n 0, 1) := by decide +kernel
theorem dX9_isText_34 : decode cX9_isText 34 = .ok (.invokevirtual 189, 3) := by decide +kernel
theorem dX9_isText_37 : decode cX9_isText 37 = .ok (.bipush 59, 2) := by decide +kernel
theorem dX9_isText_39 : decode cX9_isText 39 = .ok (.if_icmp .ne 7, 3) := by decide +kernel
theorem dX9_isText_42 : decode cX9_isText 42 = .ok (.iconst 1, 1) := by decide +kernel
theorem dX9_isText_43 : decode cX9_isText 43 = .ok (.goto 4, 3) := by decide +kernel
theorem dX9_isText_46 : decode cX9_isText 46 = .ok (.iconst 0, 1) := by decide +kernel
theorem dX9_isText_47 : decode cX9_isText 47 = .ok (.invokevirtual 195, 3) := by decide +kernel
theorem dX9_isText_50 : decode cX9_isText 50 = .ok (.aload_n 0, 1) := by decide +kernel
theorem dX9_isText_51 : decode cX9_isText 51 = .ok (.getfield 185, 3) := by decide +kernel
theorem dX9_isText_54 : decode cX9_isText 54 = .ok (.ifCond .eq (-40), 3) := by decide +kernel
theorem dX9_isText_57 : decode cX9_isText 57 = .ok (.aload_n 0, 1) := by decide +kernel
theorem dX9_isText_58 : decode cX9_isText 58 = .ok (.invokevirtual 220, 3) := by decide +kernel
theorem dX9_isText_61 : decode cX9_isText 61 = .ok (.goto (-47), 3) := by decide +kernel
theorem dX9_isText_64 : decode cX9_isText 64 = .ok (.aload_n 0, 1) := by decide +kernel
theorem dX9_isText_65 : decode cX9_isText 65 = .ok (.getfield 185, 3) := by decide +kernel
theorem dX9_isText_68 : decode cX9_isText 68 = .ok (.ireturn, 1) := by decide +kernel
theorem dX9_firstError_0 : decode cX9_firstError 0 = .ok (.aload_n 0, 1) := by decide +kernel
theorem dX9_firstError_1 : decode cX9_firstError 1 = .ok (.iconst 0, 1) := by decide +kernel
theorem dX9_firstError_2 : decode cX9_firstError 2 = .ok (.putfield 31, 3) := by decide +kernel
theorem dX9_firstError_5 : decode cX9_firstError 5 = .ok (.aload_n 0, 1) := by decide +kernel
theorem dX9_firstError_6 : decode cX9_firstError 6 = .ok (.invokevirtual 223, 3) := by decide +kernel
theorem dX9_firstError_9 : decode cX9_firstError 9 = .ok (.ifCond .eq 10, 3) := by decide +kernel
theorem dX9_firstError_12 : decode cX9_firstError 12 = .ok (.aload_n 0, 1) := by decide +kernel
theorem dX9_firstError_13 : decode cX9_firstError 13 = .ok (.getfield 179, 3) := by decide +kernel
theorem dX9_firstError_16 : decode cX9_firstError 16 = .ok (.goto 7, 3) := by decide +kernel
theorem dX9_firstError_19 : decode cX9_firstError 19 = .ok (.aload_n 0, 1) := by decide +kernel
theorem dX9_firstError_20 : decode cX9_firstError 20 = .ok (.getfield 182, 3) := by decide +kernel
theorem dX9_firstError_23 : decode cX9_firstError 23 = .ok (.ireturn, 1) := by decide +kernel
theorem dX9_doesPart_0 : decode cX9_doesPart 0 = .ok (.aload_n 0, 1) := by decide +kernel
theorem dX9_doesPart_1 : decode cX9_doesPart 1 = .ok (.getfield 208, 3) := by decide +kernel
theorem dX9_doesPart_4 : decode cX9_doesPart 4 = .ok (.bipush 116, 2) := by decide +kernel
theorem dX9_doesPart_6 : decode cX9_doesPart 6 = .ok (.if_icmp .ne 14, 3) := by decide +kernel
theorem dX9_doesPart_9 : decode cX9_doesPart 9 = .ok (.aload_n 0, 1) := by decide +kernel
theorem dX9_doesPart_10 : decode cX9_doesPart 10 = .ok (.aload_n 0, 1) := by decide +kernel
theorem dX9_doesPart_11 : decode cX9_doesPart 11 = .ok (.getfield 192, 3) := by decide +kernel
theorem dX9_doesPart_14 : decode cX9_doesPart 14 = .ok (.invokevirtual 173, 3) := by decide +kernel
theorem dX9_doesPart_17 : decode cX9_doesPart 17 = .ok (.istore_n 1, 1) := by decide +kernel
theorem dX9_doesPart_18 : decode cX9_doesPart 18 = .ok (.iconst 1, 1) := by decide +kernel
theorem dX9_doesPart_19 : decode cX9_doesPart 19 = .ok (.ireturn, 1) := by decide +kernel
theorem dX9_doesPart_20 : decode cX9_doesPart 20 = .ok (.aload_n 0, 1) := by decide +kernel
theorem dX9_doesPart_21 : decode cX9_doesPart 21 = .ok (.getfield 7, 3) := by decide +kernel
theorem dX9_doesPart_24 : decode cX9_doesPart 24 = .ok (.sipush 580, 3) := by decide +kernel
theorem dX9_doesPart_27 : decode cX9_doesPart 27 = .ok (.iaload, 1) := by decide +kernel
theorem dX9_doesPart_28 : decode cX9_doesPart 28 = .ok (.bipush 10, 2) := by decide +kernel
theorem dX9_doesPart_30 : decode cX9_doesPart 30 = .ok (.if_icmp .ne 5, 3) := by decide +kernel
theorem dX9_doesPart_33 : decode cX9_doesPart 33 = .ok (.iconst 0, 1) := by decide +kernel
theorem dX9_doesPart_34 : decode cX9_doesPart 34 = .ok (.ireturn, 1) := by decide +kernel
theorem dX9_doesPart_35 : decode cX9_doesPart 35 = .ok (.aload_n 0, 1) := by decide +kernel
theorem dX9_doesPart_36 : decode cX9_doesPart 36 = .ok (.aload_n 0, 1) := by decide +kernel
theorem dX9_doesPart_37 : decode cX9_doesPart 37 = .ok (.getfield 208, 3) := by decide +kernel
theorem dX9_doesPart_40 : decode cX9_doesPart 40 = .ok (.bipush 119, 2) := by decide +kernel
theorem dX9_doesPart_42 : decode cX9_doesPart 42 = .ok (.if_icmp .ne 7, 3) := by decide +kernel
theorem dX9_doesPart_45 : decode cX9_doesPart 45 = .ok (.iconst 0, 1) := by decide +kernel
theorem dX9_doesPart_46 : decode cX9_doesPart 46 = .ok (.goto 4, 3) := by decide +kernel
theorem dX9_doesPart_49 : decode cX9_doesPart 49 = .ok (.iconst 1, 1) := by decide +kernel
theorem dX9_doesPart_50 : decode cX9_doesPart 50 = .ok (.aload_n 0, 1) := by decide +kernel
theorem dX9_doesPart_51 : decode cX9_doesPart 51 = .ok (.getfield 192, 3) := by decide +kernel
theorem dX9_doesPart_54 : decode cX9_doesPart 54 = .ok (.aload_n 0, 1) := by decide +kernel
theorem dX9_doesPart_55 : decode cX9_doesPart 55 = .ok (.getfield 217, 3) := by decide +kernel
theorem dX9_doesPart_58 : decode cX9_doesPart 58 = .ok (.invokevirtual 166, 3) := by decide +kernel
theorem dX9_doesPart_61 : decode cX9_doesPart 61 = .ok (.istore_n 1, 1) := by decide +kernel
theorem dX9_doesPart_62 : decode cX9_doesPart 62 = .ok (.iconst 0, 1) := by decide +kernel
theorem dX9_doesPart_63 : decode cX9_doesPart 63 = .ok (.istore_n 2, 1) := by decide +kernel
theorem dX9_doesPart_64 : decode cX9_doesPart 64 = .ok (.iload_n 2, 1) := by decide +kernel
theorem dX9_doesPart_65 : decode cX9_doesPart 65 = .ok (.aload_n 0, 1) := by decide +kernel
theorem dX9_doesPart_66 : decode cX9_doesPart 66 = .ok (.getfield 202, 3) := by decide +kernel
theorem dX9_doesPart_69 : decode cX9_doesPart 69 = .ok (.if_icmp .ge 46, 3) := by decide +kernel
theorem dX9_doesPart_72 : decode cX9_doesPart 72 = .ok (.aload_n 0, 1) := by decide +kernel
theorem dX9_doesPart_73 : decode cX9_doesPart 73 = .ok (.getfield 208, 3) := by decide +kernel
theorem dX9_doesPart_76 : decode cX9_doesPart 76 = .ok (.bipush 119, 2) := by decide +kernel
theorem dX9_doesPart_78 : decode cX9_doesPart 78 = .ok (.if_icmp .ne 37, 3) := by decide +kernel
theorem dX9_doesPart_81 : decode cX9_doesPart 81 = .ok (.aload_n 0, 1) := by decide +kernel
theorem dX9_doesPart_82 : decode cX9_doesPart 82 = .ok (.getfield 7, 3) := by decide +kernel
theorem dX9_doesPart_85 : decode cX9_doesPart 85 = .ok (.iload_n 1, 1) := by decide +kernel
theorem dX9_doesPart_86 : decode cX9_doesPart 86 = .ok (.bipush 6, 2) := by decide +kernel
theorem dX9_doesPart_88 : decode cX9_doesPart 88 = .ok (.iadd, 1) := by decide +kernel
theorem dX9_doesPart_89 : decode cX9_doesPart 89 = .ok (.iload_n 2, 1) := by decide +kernel
theorem dX9_doesPart_90 : decode cX9_doesPart 90 = .ok (.iadd, 1) := by decide +kernel
theorem dX9_doesPart_91 : decode cX9_doesPart 91 = .ok (.aload_n 0, 1) := by decide +kernel
theorem dX9_doesPart_92 : decode cX9_doesPart 92 = .ok (.getfield 25, 3) := by decide +kernel
theorem dX9_doesPart_95 : decode cX9_doesPart 95 = .ok (.iload_n 2, 1) := by decide +kernel
theorem dX9_doesPart_96 : decode cX9_doesPart 96 = .ok (.iaload, 1) := by decide +kernel
theorem dX9_doesPart_97 : decode cX9_doesPart 97 = .ok (.iastore, 1) := by decide +kernel
theorem dX9_doesPart_98 : decode cX9_doesPart 98 = .ok (.aload_n 0, 1) := by decide +kernel
theorem dX9_doesPart_99 : decode cX9_doesPart 99 = .ok (.getfield 7, 3) := by decide +kernel
theorem dX9_doesPart_102 : decode cX9_doesPart 102 = .ok (.iload_n 1, 1) := by decide +kernel
theorem dX9_doesPart_103 : decode cX9_doesPart 103 = .ok (.iconst 5, 1) := by decide +kernel
theorem dX9_doesPart_104 : decode cX9_doesPart 104 = .ok (.iadd, 1) := by decide +kernel
theorem dX9_doesPart_105 : decode cX9_doesPart 105 = .ok (.iload_n 2, 1) := by decide +kernel
theorem dX9_doesPart_106 : decode cX9_doesPart 106 = .ok (.iconst 1, 1) := by decide +kernel
theorem dX9_doesPart_107 : decode cX9_doesPart 107 = .ok (.iadd, 1) := by decide +kernel
theorem dX9_doesPart_108 : decode cX9_doesPart 108 = .ok (.iastore, 1) := by decide +kernel
theorem dX9_doesPart_109 : decode cX9_doesPart 109 = .ok (.iinc 2 1, 3) := by decide +kernel
theorem dX9_doesPart_112 : decode cX9_doesPart 112 = .ok (.goto (-48), 3) := by decide +kernel
theorem dX9_doesPart_115 : decode cX9_doesPart 115 = .ok (.iconst 1, 1) := by decide +kernel
theorem dX9_doesPart_116 : decode cX9_doesPart 116 = .ok (.ireturn, 1) := by decide +kernel
theorem dX9_obey_0 : decode cX9_obey 0 = .ok (.aload_n 0, 1) := by decide +kernel
theorem dX9_obey_1 : decode cX9_obey 1 = .ok (.iconst 0, 1) := by decide +kernel
theorem dX9_obey_2 : decode cX9_obey 2 = .ok (.putfield 31, 3) := by decide +kernel
theorem dX9_obey_5 : decode cX9_obey 5 = .ok (.aload_n 0, 1) := by decide +kernel
theorem dX9_obey_6 : decode cX9_obey 6 = .ok (.invokevirtual 223, 3) := by decide +kernel
theorem dX9_obey_9 : decode cX9_obey 9 = .ok (.ifCond .ne 9, 3) := by decide +kernel
theorem dX9_obey_12 : decode cX9_obey 12 = .ok (.aload_n 0, 1) := by decide +kernel
theorem dX9_obey_13 : decode cX9_obey 13 = .ok (.iconst 1, 1) := by decide +kernel
theorem dX9_obey_14 : decode cX9_obey 14 = .ok (.invokevirtual 142, 3) := by decide +kernel
theorem dX9_obey_17 : decode cX9_obey 17 = .ok (.ireturn, 1) := by decide +kernel
theorem dX9_obey_18 : decode cX9_obey 18 = .ok (.aload_n 0, 1) := by decide +kernel
theorem dX9_obey_19 : decode cX9_obey 19 = .ok (.invokevirtual 145, 3) := by decide +kernel
theorem dX9_obey_22 : decode cX9_obey 22 = .ok (.aload_n 0, 1) := by decide +kernel
theorem dX9_obey_23 : decode cX9_obey 23 = .ok (.iconst 0, 1) := by decide +kernel
theorem dX9_obey_24 : decode cX9_obey 24 = .ok (.putfield 182, 3) := by decide +kernel
theorem dX9_obey_27 : decode cX9_obey 27 = .ok (.iconst 0, 1) := by decide +kernel
theorem dX9_obey_28 : decode cX9_obey 28 = .ok (.istore_n 1, 1) := by decide +kernel
theorem dX9_obey_29 : decode cX9_obey 29 = .ok (.iconst 1, 1) := by decide +kernel
theorem dX9_obey_30 : decode cX9_obey 30 = .ok (.istore_n 2, 1) := by decide +kernel
theorem dX9_obey_31 : decode cX9_obey 31 = .ok (.iload_n 2, 1) := by decide +kernel
theorem dX9_obey_32 : decode cX9_obey 32 = .ok (.ifCond .eq 48, 3) := by decide +kernel
theorem dX9_obey_35 : decode cX9_obey 35 = .ok (.aload_n 0, 1) := by decide +kernel
theorem dX9_obey_36 : decode cX9_obey 36 = .ok (.getfield 182, 3) := by decide +kernel
theorem dX9_obey_39 : decode cX9_obey 39 = .ok (.aload_n 0, 1) := by decide +kernel
theorem dX9_obey_40 : decode cX9_obey 40 = .ok (.getfield 179, 3) := by decide +kernel
theorem dX9_obey_43 : decode cX9_obey 43 = .ok (.if_icmp .ge 37, 3) := by decide +kernel
theorem dX9_obey_46 : decode cX9_obey 46 = .ok (.aload_n 0, 1) := by decide +kernel
theorem dX9_obey_47 : decode cX9_obey 47 = .ok (.invokevirtual 220, 3) := by decide +kernel
theorem dX9_obey_50 : decode cX9_obey 50 = .ok (.aload_n 0, 1) := by decide +kernel
theorem dX9_obey_51 : decode cX9_obey 51 = .ok (.dup, 1) := by decide +kernel
theorem dX9_obey_52 : decode cX9_obey 52 = .ok (.getfield 182, 3) := by decide +kernel
theorem dX9_obey_55 : decode cX9_obey 55 = .ok (.iconst 1, 1) := by decide +kernel
theorem dX9_obey_56 : decode cX9_obey 56 = .ok (.iadd, 1) := by decide +kernel
theorem dX9_obey_57 : decode cX9_obey 57 = .ok (.putfield 182, 3) := by decide +kernel
theorem dX9_obey_60 : decode cX9_obey 60 = .ok (.aload_n 0, 1) := by decide +kernel
theorem dX9_obey_61 : decode cX9_obey 61 = .ok (.invokevirtual 226, 3) := by decide +kernel
theorem dX9_obey_64 : decode cX9_obey 64 = .ok (.istore_n 2, 1) := by decide +kernel
theorem dX9_obey_65 : decode cX9_obey 65 = .ok (.iload_n 1, 1) := by decide +kernel
theorem dX9_obey_66 : decode cX9_obey 66 = .ok (.iload_n 2, 1) := by decide +kernel
theorem dX9_obey_67 : decode cX9_obey 67 = .ok (.ifCond .eq 7, 3) := by decide +kernel
theorem dX9_obey_70 : decode cX9_obey 70 = .ok (.iconst 1, 1) := by decide +kernel
theorem dX9_obey_71 : decode cX9_obey 71 = .ok (.goto 4, 3) := by decide +kernel
theorem dX9_obey_74 : decode cX9_obey 74 = .ok (.iconst 0, 1) := by decide +kernel
theorem dX9_obey_75 : decode cX9_obey 75 = .ok (.iadd, 1) := by decide +kernel
theorem dX9_obey_76 : decode cX9_obey 76 = .ok (.istore_n 1, 1) := by decide +kernel
theorem dX9_obey_77 : decode cX9_obey 77 = .ok (.goto (-46), 3) := by decide +kernel
theorem dX9_obey_80 : decode cX9_obey 80 = .ok (.aload_n 0, 1) := by decide +kernel
theorem dX9_obey_81 : decode cX9_obey 81 = .ok (.iconst 0, 1) := by decide +kernel
theorem dX9_obey_82 : decode cX9_obey 82 = .ok (.putfield 179, 3) := by decide +kernel
theorem dX9_obey_85 : decode cX9_obey 85 = .ok (.iload_n 1, 1) := by decide +kernel
theorem dX9_obey_86 : decode cX9_obey 86 = .ok (.ireturn, 1) := by decide +kernel
theorem dX9_keep_0 : decode cX9_keep 0 = .ok (.aload_n 0, 1) := by decide +kernel
theorem dX9_keep_1 : decode cX9_keep 1 = .ok (.iconst 0, 1) := by decide +kernel
theorem dX9_keep_2 : decode cX9_keep 2 = .ok (.putfield 31, 3) := by decide +kernel
theorem dX9_keep_5 : decode cX9_keep 5 = .ok (.aload_n 0, 1) := by decide +kernel
theorem dX9_keep_6 : decode cX9_keep 6 = .ok (.getfield 7, 3) := by decide +kernel
theorem dX9_keep_9 : decode cX9_keep 9 = .ok (.iconst 0, 1) := by decide +kernel
theorem dX9_keep_10 : decode cX9_keep 10 = .ok (.aload_n 0, 1) := by decide +kernel
theorem dX9_keep_11 : decode cX9_keep 11 = .ok (.getfield 19, 3) := by decide +kernel
theorem dX9_keep_14 : decode cX9_keep 14 = .ok (.iconst 0, 1) := by decide +kernel
theorem dX9_keep_15 : decode cX9_keep 15 = .ok (.invokestatic 38, 3) := by decide +kernel
theorem dX9_keep_18 : decode cX9_keep 18 = .ok (.aload_n 0, 1) := by decide +kernel
theorem dX9_keep_19 : decode cX9_keep 19 = .ok (.iconst 1, 1) := by decide +kernel
theorem dX9_keep_20 : decode cX9_keep 20 = .ok (.putfield 229, 3) := by decide +kernel
theorem dX9_keep_23 : decode cX9_keep 23 = .ok (.aload_n 0, 1) := by decide +kernel
theorem dX9_keep_24 : decode cX9_keep 24 = .ok (.getfield 7, 3) := by decide +kernel
theorem dX9_keep_27 : decode cX9_keep 27 = .ok (.sipush 561, 3) := by decide +kernel
theorem dX9_keep_30 : decode cX9_keep 30 = .ok (.iaload, 1) := by decide +kernel
theorem dX9_keep_31 : decode cX9_keep 31 = .ok (.ireturn, 1) := by decide +kernel
theorem dX9_goBack_0 : decode cX9_goBack 0 = .ok (.aload_n 0, 1) := by decide +kernel
theorem dX9_goBack_1 : decode cX9_goBack 1 = .ok (.iconst 0, 1) := by decide +kernel
theorem dX9_goBack_2 : decode cX9_goBack 2 = .ok (.putfield 31, 3) := by decide +kernel
theorem dX9_goBack_5 : decode cX9_goBack 5 = .ok (.aload_n 0, 1) := by decide +kernel
theorem dX9_goBack_6 : decode cX9_goBack 6 = .ok (.getfield 229, 3) := by decide +kernel
theorem dX9_goBack_9 : decode cX9_goBack 9 = .ok (.ifCond .ne 9, 3) := by decide +kernel
theorem dX9_goBack_12 : decode cX9_goBack 12 = .ok (.aload_n 0, 1) := by decide +kernel
theorem dX9_goBack_13 : decode cX9_goBack 13 = .ok (.iconst 1, 1) := by decide +kernel
theorem dX9_goBack_14 : decode cX9_goBack 14 = .ok (.invokevirtual 142, 3) := by decide +kernel
theorem dX9_goBack_17 : decode cX9_goBack 17 = .ok (.ireturn, 1) := by decide +kernel
theorem dX9_goBack_18 : decode cX9_goBack 18 = .ok (.aload_n 0, 1) := by decide +kernel
theorem dX9_goBack_19 : decode cX9_goBack 19 = .ok (.invokevirtual 145, 3) := by decide +kernel
theorem dX9_goBack_22 : decode cX9_goBack 22 = .ok (.aload_n 0, 1) := by decide +kernel
theorem dX9_goBack_23 : decode cX9_goBack 23 = .ok (.getfield 19, 3) := by decide +kernel
theorem dX9_goBack_26 : decode cX9_goBack 26 = .ok (.iconst 0, 1) := by decide +kernel
theorem dX9_goBack_27 : decode cX9_goBack 27 = .ok (.aload_n 0, 1) := by decide +kernel
theorem dX9_goBack_28 : decode cX9_goBack 28 = .ok (.getfield 7, 3) := by decide +kernel
theorem dX9_goBack_31 : decode cX9_goBack 31 = .ok (.iconst 0, 1) := by decide +kernel
theorem dX9_goBack_32 : decode cX9_goBack 32 = .ok (.invokestatic 38, 3) := by decide +kernel
theorem dX9_goBack_35 : decode cX9_goBack 35 = .ok (.aload_n 0, 1) := by decide +kernel
theorem dX9_goBack_36 : decode cX9_goBack 36 = .ok (.getfield 7, 3) := by decide +kernel
theorem dX9_goBack_39 : decode cX9_goBack 39 = .ok (.sipush 561, 3) := by decide +kernel
theorem dX9_goBack_42 : decode cX9_goBack 42 = .ok (.iaload, 1) := by decide +kernel
theorem dX9_goBack_43 : decode cX9_goBack 43 = .ok (.ireturn, 1) := by decide +kernel
theorem dX9_undo_0 : decode cX9_undo 0 = .ok (.aload_n 0, 1) := by decide +kernel
theorem dX9_undo_1 : decode cX9_undo 1 = .ok (.iconst 0, 1) := by decide +kernel
theorem dX9_undo_2 : decode cX9_undo 2 = .ok (.putfield 31, 3) := by decide +kernel
theorem dX9_undo_5 : decode cX9_undo 5 = .ok (.aload_n 0, 1) := by decide +kernel
theorem dX9_undo_6 : decode cX9_undo 6 = .ok (.getfield 35, 3) := by decide +kernel
theorem dX9_undo_9 : decode cX9_undo 9 = .ok (.ifCond .ne 9, 3) := by decide +kernel
theorem dX9_undo_12 : decode cX9_undo 12 = .ok (.aload_n 0, 1) := by decide +kernel
theorem dX9_undo_13 : decode cX9_undo 13 = .ok (.iconst 1, 1) := by decide +kernel
theorem dX9_undo_14 : decode cX9_undo 14 = .ok (.invokevirtual 142, 3) := by decide +kernel
theorem dX9_undo_17 : decode cX9_undo 17 = .ok (.ireturn, 1) := by decide +kernel
theorem dX9_undo_18 : decode cX9_undo 18 = .ok (.aload_n 0, 1) := by decide +kernel
theorem dX9_undo_19 : decode cX9_undo 19 = .ok (.dup, 1) := by decide +kernel
theorem dX9_undo_20 : decode cX9_undo 20 = .ok (.getfield 35, 3) := by decide +kernel
theorem dX9_undo_23 : decode cX9_undo 23 = .ok (.iconst 1, 1) := by decide +kernel
theorem dX9_undo_24 : decode cX9_undo 24 = .ok (.isub, 1) := by decide +kernel
theorem dX9_undo_25 : decode cX9_undo 25 = .ok (.putfield 35, 3) := by decide +kernel
theorem dX9_undo_28 : decode cX9_undo 28 = .ok (.aload_n 0, 1) := by decide +kernel
theorem dX9_undo_29 : decode cX9_undo 29 = .ok (.getfield 16, 3) := by decide +kernel
theorem dX9_undo_32 : decode cX9_undo 32 = .ok (.sipush 797, 3) := by decide +kernel
theorem dX9_undo_35 : decode cX9_undo 35 = .ok (.aload_n 0, 1) := by decide +kernel
theorem dX9_undo_36 : decode cX9_undo 36 = .ok (.getfield 35, 3) := by decide +kernel
theorem dX9_undo_39 : decode cX9_undo 39 = .ok (.imul, 1) := by decide +kernel
theorem dX9_undo_40 : decode cX9_undo 40 = .ok (.aload_n 0, 1) := by decide +kernel
theorem dX9_undo_41 : decode cX9_undo 41 = .ok (.getfield 7, 3) := by decide +kernel
theorem dX9_undo_44 : decode cX9_undo 44 = .ok (.iconst 0, 1) := by decide +kernel
theorem dX9_undo_45 : decode cX9_undo 45 = .ok (.invokestatic 38, 3) := by decide +kernel
theorem dX9_undo_48 : decode cX9_undo 48 = .ok (.aload_n 0, 1) := by decide +kernel
theorem dX9_undo_49 : decode cX9_undo 49 = .ok (.getfield 35, 3) := by decide +kernel
theorem dX9_undo_52 : decode cX9_undo 52 = .ok (.ireturn, 1) := by decide +kernel
theorem dX9_isHidden_0 : decode cX9_isHidden 0 = .ok (.aload_n 0, 1) := by decide +kernel
theorem dX9_isHidden_1 : decode cX9_isHidden 1 = .ok (.invokevirtual 116, 3) := by decide +kernel
theorem dX9_isHidden_4 : decode cX9_isHidden 4 = .ok (.ifCond .ne 48, 3) := by decide +kernel
theorem dX9_isHidden_7 : decode cX9_isHidden 7 = .ok (.aload_n 0, 1) := by decide +kernel
theorem dX9_isHidden_8 : decode cX9_isHidden 8 = .ok (.iconst 0, 1) := by decide +kernel
theorem dX9_isHidden_9 : decode cX9_isHidden 9 = .ok (.invokevirtual 50, 3) := by decide +kernel
theorem dX9_isHidden_12 : decode cX9_isHidden 12 = .ok (.iconst 1, 1) := by decide +kernel
theorem dX9_isHidden_13 : decode cX9_isHidden 13 = .ok (.if_icmp .ne 18, 3) := by decide +kernel
theorem dX9_isHidden_16 : decode cX9_isHidden 16 = .ok (.aload_n 0, 1) := by decide +kernel
theorem dX9_isHidden_17 : decode cX9_isHidden 17 = .ok (.iconst 1, 1) := by decide +kernel
theorem dX9_isHidden_18 : decode cX9_isHidden 18 = .ok (.invokevirtual 50, 3) := by decide +kernel
theorem dX9_isHidden_21 : decode cX9_isHidden 21 = .ok (.bipush 8, 2) := by decide +kernel
theorem dX9_isHidden_23 : decode cX9_isHidden 23 = .ok (.idiv, 1) := by decide +kernel
theorem dX9_isHidden_24 : decode cX9_isHidden 24 = .ok (.iload_n 1, 1) := by decide +kernel
theorem dX9_isHidden_25 : decode cX9_isHidden 25 = .ok (.bipush 8, 2) := by decide +kernel
theorem dX9_isHidden_27 : decode cX9_isHidden 27 = .ok (.idiv, 1) := by decide +kernel
theorem dX9_isHidden_28 : decode cX9_isHidden 28 = .ok (.if_icmp .eq 24, 3) := by decide +kernel
theorem dX9_isHidden_31 : decode cX9_isHidden 31 = .ok (.aload_n 0, 1) := by decide +kernel
theorem dX9_isHidden_32 : decode cX9_isHidden 32 = .ok (.iconst 0, 1) := by decide +kernel
theorem dX9_isHidden_33 : decode cX9_isHidden 33 = .ok (.invokevirtual 50, 3) := by decide +kernel
theorem dX9_isHidden_36 : decode cX9_isHidden 36 = .ok (.iconst 2, 1) := by decide +kernel
theorem dX9_isHidden_37 : decode cX9_isHidden 37 = .ok (.if_icmp .ne 19, 3) := by decide +kernel
theorem dX9_isHidden_40 : decode cX9_isHidden 40 = .ok (.aload_n 0, 1) := by decide +kernel
theorem dX9_isHidden_41 : decode cX9_isHidden 41 = .ok (.iconst 1, 1) := by decide +kernel
theorem dX9_isHidden_42 : decode cX9_isHidden 42 = .ok (.invokevirtual 50, 3) := by decide +kernel
theorem dX9_isHidden_45 : decode cX9_isHidden 45 = .ok (.iload_n 1, 1) := by decide +kernel
theorem dX9_isHidden_46 : decode cX9_isHidden 46 = .ok (.bipush 32, 2) := by decide +kernel
theorem dX9_isHidden_48 : decode cX9_isHidden 48 = .ok (.idiv, 1) := by decide +kernel
theorem dX9_isHidden_49 : decode cX9_isHidden 49 = .ok (.if_icmp .ne 7, 3) := by decide +kernel
theorem dX9_isHidden_52 : decode cX9_isHidden 52 = .ok (.iconst 1, 1) := by decide +kernel
theorem dX9_isHidden_53 : decode cX9_isHidden 53 = .ok (.goto 4, 3) := by decide +kernel
theorem dX9_isHidden_56 : decode cX9_isHidden 56 = .ok (.iconst 0, 1) := by decide +kernel
theorem dX9_isHidden_57 : decode cX9_isHidden 57 = .ok (.ireturn, 1) := by decide +kernel
theorem dX9_read_0 : decode cX9_read 0 = .ok (.aload_n 0, 1) := by decide +kernel
theorem dX9_read_1 : decode cX9_read 1 = .ok (.iconst 0, 1) := by decide +kernel
theorem dX9_read_2 : decode cX9_read 2 = .ok (.putfield 31, 3) := by decide +kernel
theorem dX9_read_5 : decode cX9_read 5 = .ok (.iload_n 1, 1) := by decide +kernel
theorem dX9_read_6 : decode cX9_read 6 = .ok (.invokestatic 151, 3) := by decide +kernel
theorem dX9_read_9 : decode cX9_read 9 = .ok (.ifCond .ne 9, 3) := by decide +kernel
theorem dX9_read_12 : decode cX9_read 12 = .ok (.aload_n 0, 1) := by decide +kernel
theorem dX9_read_13 : decode cX9_read 13 = .ok (.iconst 1, 1) := by decide +kernel
theorem dX9_read_14 : decode cX9_read 14 = .ok (.invokevirtual 142, 3) := by decide +kernel
theorem dX9_read_17 : decode cX9_read 17 = .ok (.ireturn, 1) := by decide +kernel
theorem dX9_read_18 : decode cX9_read 18 = .ok (.aload_n 0, 1) := by decide +kernel
theorem dX9_read_19 : decode cX9_read 19 = .ok (.iload_n 1, 1) := by decide +kernel
theorem dX9_read_20 : decode cX9_read 20 = .ok (.invokevirtual 232, 3) := by decide +kernel
theorem dX9_read_23 : decode cX9_read 23 = .ok (.ifCond .eq 11, 3) := by decide +kernel
theorem dX9_read_26 : decode cX9_read 26 = .ok (.aload_n 0, 1) := by decide +kernel
theorem dX9_read_27 : decode cX9_read 27 = .ok (.iconst 2, 1) := by decide +kernel
theorem dX9_read_28 : decode cX9_read 28 = .ok (.invokevirtual 142, 3) := by decide +kernel
theorem dX9_read_31 : decode cX9_read 31 = .ok (.goto 9, 3) := by decide +kernel
theorem dX9_read_34 : decode cX9_read 34 = .ok (.aload_n 0, 1) := by decide +kernel
theorem dX9_read_35 : decode cX9_read 35 = .ok (.getfield 7, 3) := by decide +kernel
theorem dX9_read_38 : decode cX9_read 38 = .ok (.iload_n 1, 1) := by decide +kernel
theorem dX9_read_39 : decode cX9_read 39 = .ok (.iaload, 1) := by decide +kernel
theorem dX9_read_40 : decode cX9_read 40 = .ok (.ireturn, 1) := by decide +kernel
theorem dX9_loadedFor_0 : decode cX9_loadedFor 0 = .ok (.iload_n 1, 1) := by decide +kernel
theorem dX9_loadedFor_1 : decode cX9_loadedFor 1 = .ok (.aload_n 0, 1) := by decide +kernel
theorem dX9_loadedFor_2 : decode cX9_loadedFor 2 = .ok (.getfield 7, 3) := by decide +kernel
theorem dX9_loadedFor_5 : decode cX9_loadedFor 5 = .ok (.sipush 567, 3) := by decide +kernel
theorem dX9_loadedFor_8 : decode cX9_loadedFor 8 = .ok (.iaload, 1) := by decide +kernel
theorem dX9_loadedFor_9 : decode cX9_loadedFor 9 = .ok (.if_icmp .lt 7, 3) := by decide +kernel
theorem dX9_loadedFor_12 : decode cX9_loadedFor 12 = .ok (.iconst (-1), 1) := by decide +kernel
theorem dX9_loadedFor_13 : decode cX9_loadedFor 13 = .ok (.goto 35, 3) := by decide +kernel
theorem dX9_loadedFor_16 : decode cX9_loadedFor 16 = .ok (.aload_n 0, 1) := by decide +kernel
theorem dX9_loadedFor_17 : decode cX9_loadedFor 17 = .ok (.getfield 7, 3) := by decide +kernel
theorem dX9_loadedFor_20 : decode cX9_loadedFor 20 = .ok (.sipush 568, 3) := by decide +kernel
theorem dX9_loadedFor_23 : decode cX9_loadedFor 23 = .ok (.iload_n 1, 1) := by decide +kernel
theorem dX9_loadedFor_24 : decode cX9_loadedFor 24 = .ok (.bipush 8, 2) := by decide +kernel
theorem dX9_loadedFor_26 : decode cX9_loadedFor 26 = .ok (.iadd, 1) := by decide +kernel
theorem dX9_loadedFor_27 : decode cX9_loadedFor 27 = .ok (.aload_n 0, 1) := by decide +kernel
theorem dX9_loadedFor_28 : decode cX9_loadedFor 28 = .ok (.getfield 7, 3) := by decide +kernel
theorem dX9_loadedFor_31 : decode cX9_loadedFor 31 = .ok (.sipush 567, 3) := by decide +kernel
theorem dX9_loadedFor_34 : decode cX9_loadedFor 34 = .ok (.iaload, 1) := by decide +kernel
theorem dX9_loadedFor_35 : decode cX9_loadedFor 35 = .ok (.if_icmp .ge 10, 3) := by decide +kernel
theorem dX9_loadedFor_38 : decode cX9_loadedFor 38 = .ok (.iload_n 1, 1) := by decide +kernel
theorem dX9_loadedFor_39 : decode cX9_loadedFor 39 = .ok (.bipush 8, 2) := by decide +kernel
theorem dX9_loadedFor_41 : decode cX9_loadedFor 41 = .ok (.iadd, 1) := by decide +kernel
theorem dX9_loadedFor_42 : decode cX9_loadedFor 42 = .ok (.goto 4, 3) := by decide +kernel
theorem dX9_loadedFor_45 : decode cX9_loadedFor 45 = .ok (.iload_n 1, 1) := by decide +kernel
theorem dX9_loadedFor_46 : decode cX9_loadedFor 46 = .ok (.iadd, 1) := by decide +kernel
theorem dX9_loadedFor_47 : decode cX9_loadedFor 47 = .ok (.iaload, 1) := by decide +kernel
theorem dX9_loadedFor_48 : decode cX9_loadedFor 48 = .ok (.ireturn, 1) := by decide +kernel
theorem dX9_cellTold_0 : decode cX9_cellTold 0 = .ok (.iload_n 2, 1) := by decide +kernel
theorem dX9_cellTold_1 : decode cX9_cellTold 1 = .ok (.tableswitch 59 0 2 #[27, 34, 45], 27) := by decide +kernel
theorem dX9_cellTold_28 : decode cX9_cellTold 28 = .ok (.aload_n 0, 1) := by decide +kernel
theorem dX9_cellTold_29 : decode cX9_cellTold 29 = .ok (.getfield 7, 3) := by decide +kernel
theorem dX9_cellTold_32 : decode cX9_cellTold 32 = .ok (.iload_n 1, 1) := by decide +kernel
theorem dX9_cellTold_33 : decode cX9_cellTold 33 = .ok (.iaload, 1) := by decide +kernel
theorem dX9_cellTold_34 : decode cX9_cellTold 34 = .ok (.ireturn, 1) := by decide +kernel
theorem dX9_cellTold_35 : decode cX9_cellTold 35 = .ok (.aload_n 0, 1) := by decide +kernel
theorem dX9_cellTold_36 : decode cX9_cellTold 36 = .ok (.getfield 7, 3) := by decide +kernel
theorem dX9_cellTold_39 : decode cX9_cellTold 39 = .ok (.sipush 256, 3) := by decide +kernel
theorem dX9_cellTold_42 : decode cX9_cellTold 42 = .ok (.iload_n 1, 1) := by decide +kernel
theorem dX9_cellTold_43 : decode cX9_cellTold 43 = .ok (.iadd, 1) := by decide +kernel
theorem dX9_cellTold_44 : decode cX9_cellTold 44 = .ok (.iaload, 1) := by decide +kernel
theorem dX9_cellTold_45 : decode cX9_cellTold 45 = .ok (.ireturn, 1) := by decide +kernel
theorem dX9_cellTold_46 : decode cX9_cellTold 46 = .ok (.aload_n 0, 1) := by decide +kernel
theorem dX9_cellTold_47 : decode cX9_cellTold 47 = .ok (.getfield 7, 3) := by decide +kernel
theorem dX9_cellTold_50 : decode cX9_cellTold 50 = .ok (.sipush 512, 3) := by decide +kernel
theorem dX9_cellTold_53 : decode cX9_cellTold 53 = .ok (.iload_n 1, 1) := by decide +kernel
theorem dX9_cellTold_54 : decode cX9_cellTold 54 = .ok (.bipush 8, 2) := by decide +kernel
theorem dX9_cellTold_56 : decode cX9_cellTold 56 = .ok (.idiv, 1) := by decide +kernel
theorem dX9_cellTold_57 : decode cX9_cellTold 57 = .ok (.iadd, 1) := by decide +kernel
theorem dX9_cellTold_58 : decode cX9_cellTold 58 = .ok (.iaload, 1) := by decide +kernel
theorem dX9_cellTold_59 : decode cX9_cellTold 59 = .ok (.ireturn, 1) := by decide +kernel
theorem dX9_cellTold_60 : decode cX9_cellTold 60 = .ok (.aload_n 0, 1) := by decide +kernel
theorem dX9_cellTold_61 : decode cX9_cellTold 61 = .ok (.iload_n 1, 1) := by decide +kernel
theorem dX9_cellTold_62 : decode cX9_cellTold 62 = .ok (.bipush 8, 2) := by decide +kernel
theorem dX9_cellTold_64 : decode cX9_cellTold 64 = .ok (.irem, 1) := by decide +kernel
theorem dX9_cellTold_65 : decode cX9_cellTold 65 = .ok (.invokevirtual 235, 3) := by decide +kernel
theorem dX9_cellTold_68 : decode cX9_cellTold 68 = .ok (.ireturn, 1) := by decide +kernel
theorem dX9_cell_0 : decode cX9_cell 0 = .ok (.aload_n 0, 1) := by decide +kernel
theorem dX9_cell_1 : decode cX9_cell 1 = .ok (.iconst 0, 1) := by decide +kernel
theorem dX9_cell_2 : decode cX9_cell 2 = .ok (.putfield 31, 3) := by decide +kernel
theorem dX9_cell_5 : decode cX9_cell 5 = .ok (.iload_n 1, 1) := by decide +kernel
theorem dX9_cell_6 : decode cX9_cell 6 = .ok (.invokestatic 151, 3) := by decide +kernel
theorem dX9_cell_9 : decode cX9_cell 9 = .ok (.ifCond .ne 9, 3) := by decide +kernel
theorem dX9_cell_12 : decode cX9_cell 12 = .ok (.aload_n 0, 1) := by decide +kernel
theorem dX9_cell_13 : decode cX9_cell 13 = .ok (.iconst 1, 1) := by decide +kernel
theorem dX9_cell_14 : decode cX9_cell 14 = .ok (.invokevirtual 142, 3) := by decide +kernel
theorem dX9_cell_17 : decode cX9_cell 17 = .ok (.ireturn, 1) := by decide +kernel
theorem dX9_cell_18 : decode cX9_cell 18 = .ok (.iload_n 2, 1) := by decide +kernel
theorem dX9_cell_19 : decode cX9_cell 19 = .ok (.iconst 0, 1) := by decide +kernel
theorem dX9_cell_20 : decode cX9_cell 20 = .ok (.iconst 3, 1) := by decide +kernel
theorem dX9_cell_21 : decode cX9_cell 21 = .ok (.invokestatic 42, 3) := by decide +kernel
theorem dX9_cell_24 : decode cX9_cell 24 = .ok (.ifCond .eq 12, 3) := by decide +kernel
theorem dX9_cell_27 : decode cX9_cell 27 = .ok (.aload_n 0, 1) := by decide +kernel
theorem dX9_cell_28 : decode cX9_cell 28 = .ok (.iload_n 1, 1) := by decide +kernel
theorem dX9_cell_29 : decode cX9_cell 29 = .ok (.iload_n 2, 1) := by decide +kernel
theorem dX9_cell_30 : decode cX9_cell 30 = .ok (.invokevirtual 238, 3) := by decide +kernel
theorem dX9_cell_33 : decode cX9_cell 33 = .ok (.goto 8, 3) := by decide +kernel
theorem dX9_cell_36 : decode cX9_cell 36 = .ok (.aload_n 0, 1) := by decide +kernel
theorem dX9_cell_37 : decode cX9_cell 37 = .ok (.iconst 2, 1) := by decide +kernel
theorem dX9_cell_38 : decode cX9_cell 38 = .ok (.invokevirtual 142, 3) := by decide +kernel
theorem dX9_cell_41 : decode cX9_cell 41 = .ok (.ireturn, 1) := by decide +kernel
theorem dX9_onesFrom_0 : decode cX9_onesFrom 0 = .ok (.iconst 0, 1) := by decide +kernel
theorem dX9_onesFrom_1 : decode cX9_onesFrom 1 = .ok (.istore_n 3, 1) := by decide +kernel
theorem dX9_onesFrom_2 : decode cX9_onesFrom 2 = .ok (.iload_n 1, 1) := by decide +kernel
theorem dX9_onesFrom_3 : decode cX9_onesFrom 3 = .ok (.istore 4, 2) := by decide +kernel
theorem dX9_onesFrom_5 : decode cX9_onesFrom 5 = .ok (.iload 4, 2) := by decide +kernel
theorem dX9_onesFrom_7 : decode cX9_onesFrom 7 = .ok (.iload_n 2, 1) := by decide +kernel
theorem dX9_onesFrom_8 : decode cX9_onesFrom 8 = .ok (.if_icmp .ge 22, 3) := by decide +kernel
theorem dX9_onesFrom_11 : decode cX9_onesFrom 11 = .ok (.iload_n 3, 1) := by decide +kernel
theorem dX9_onesFrom_12 : decode cX9_onesFrom 12 = .ok (.aload_n 0, 1) := by decide +kernel
theorem dX9_onesFrom_13 : decode cX9_onesFrom 13 = .ok (.getfield 7, 3) := by decide +kernel
theorem dX9_onesFrom_16 : decode cX9_onesFrom 16 = .ok (.iload 4, 2) := by decide +kernel
theorem dX9_onesFrom_18 : decode cX9_onesFrom 18 = .ok (.iaload, 1) := by decide +kernel
theorem dX9_onesFrom_19 : decode cX9_onesFrom 19 = .ok (.invokestatic 78, 3) := by decide +kernel
theorem dX9_onesFrom_22 : decode cX9_onesFrom 22 = .ok (.iadd, 1) := by decide +kernel
theorem dX9_onesFrom_23 : decode cX9_onesFrom 23 = .ok (.istore_n 3, 1) := by decide +kernel
theorem dX9_onesFrom_24 : decode cX9_onesFrom 24 = .ok (.iinc 4 1, 3) := by decide +kernel
theorem dX9_onesFrom_27 : decode cX9_onesFrom 27 = .ok (.goto (-22), 3) := by decide +kernel
theorem dX9_onesFrom_30 : decode cX9_onesFrom 30 = .ok (.iload_n 3, 1) := by decide +kernel
theorem dX9_onesFrom_31 : decode cX9_onesFrom 31 = .ok (.ireturn, 1) := by decide +kernel
theorem dX9_usedPages_0 : decode cX9_usedPages 0 = .ok (.iconst 0, 1) := by decide +kernel
theorem dX9_usedPages_1 : decode cX9_usedPages 1 = .ok (.istore_n 2, 1) := by decide +kernel
theorem dX9_usedPages_2 : decode cX9_usedPages 2 = .ok (.iconst 4, 1) := by decide +kernel
theorem dX9_usedPages_3 : decode cX9_usedPages 3 = .ok (.iload_n 1, 1) := by decide +kernel
theorem dX9_usedPages_4 : decode cX9_usedPages 4 = .ok (.imul, 1) := by decide +kernel
theorem dX9_usedPages_5 : decode cX9_usedPages 5 = .ok (.istore_n 3, 1) := by decide +kernel
theorem dX9_usedPages_6 : decode cX9_usedPages 6 = .ok (.iload_n 3, 1) := by decide +kernel
theorem dX9_usedPages_7 : decode cX9_usedPages 7 = .ok (.iconst 4, 1) := by decide +kernel
theorem dX9_usedPages_8 : decode cX9_usedPages 8 = .ok (.iload_n 1, 1) := by decide +kernel
theorem dX9_usedPages_9 : decode cX9_usedPages 9 = .ok (.imul, 1) := by decide +kernel
theorem dX9_usedPages_10 : decode cX9_usedPages 10 = .ok (.iconst 4, 1) := by decide +kernel
theorem dX9_usedPages_11 : decode cX9_usedPages 11 = .ok (.iadd, 1) := by decide +kernel
theorem dX9_usedPages_12 : decode cX9_usedPages 12 = .ok (.if_icmp .ge 37, 3) := by decide +kernel
theorem dX9_usedPages_15 : decode cX9_usedPages 15 = .ok (.iload_n 2, 1) := by decide +kernel
theorem dX9_usedPages_16 : decode cX9_usedPages 16 = .ok (.aload_n 0, 1) := by decide +kernel
theorem dX9_usedPages_17 : decode cX9_usedPages 17 = .ok (.bipush 8, 2) := by decide +kernel
theorem dX9_usedPages_19 : decode cX9_usedPages 19 = .ok (.iload_n 3, 1) := by decide +kernel
theorem dX9_usedPages_20 : decode cX9_usedPages 20 = .ok (.imul, 1) := by decide +kernel
theorem dX9_usedPages_21 : decode cX9_usedPages 21 = .ok (.bipush 8, 2) := by decide +kernel
theorem dX9_usedPages_23 : decode cX9_usedPages 23 = .ok (.iload_n 3, 1) := by decide +kernel
theorem dX9_usedPages_24 : decode cX9_usedPages 24 = .ok (.imul, 1) := by decide +kernel
theorem dX9_usedPages_25 : decode cX9_usedPages 25 = .ok (.bipush 8, 2) := by decide +kernel
theorem dX9_usedPages_27 : decode cX9_usedPages 27 = .ok (.iadd, 1) := by decide +kernel
theorem dX9_usedPages_28 : decode cX9_usedPages 28 = .ok (.invokevirtual 241, 3) := by decide +kernel
theorem dX9_usedPages_31 : decode cX9_usedPages 31 = .ok (.bipush 64, 2) := by decide +kernel
theorem dX9_usedPages_33 : decode cX9_usedPages 33 = .ok (.if_icmp .ge 7, 3) := by decide +kernel
theorem dX9_usedPages_36 : decode cX9_usedPages 36 = .ok (.iconst 1, 1) := by decide +kernel
theorem dX9_usedPages_37 : decode cX9_usedPages 37 = .ok (.goto 4, 3) := by decide +kernel
theorem dX9_usedPages_40 : decode cX9_usedPages 40 = .ok (.iconst 0, 1) := by decide +kernel
theorem dX9_usedPages_41 : decode cX9_usedPages 41 = .ok (.iadd, 1) := by decide +kernel
theorem dX9_usedPages_42 : decode cX9_usedPages 42 = .ok (.istore_n 2, 1) := by decide +kernel
theorem dX9_usedPages_43 : decode cX9_usedPages 43 = .ok (.iinc 3 1, 3) := by decide +kernel
theorem dX9_usedPages_46 : decode cX9_usedPages 46 = .ok (.goto (-40), 3) := by decide +kernel
theorem dX9_usedPages_49 : decode cX9_usedPages 49 = .ok (.iload_n 2, 1) := by decide +kernel
theorem dX9_usedPages_50 : decode cX9_usedPages 50 = .ok (.ireturn, 1) := by decide +kernel
theorem dX9_unsurePages_0 : decode cX9_unsurePages 0 = .ok (.iconst 0, 1) := by decide +kernel
theorem dX9_unsurePages_1 : decode cX9_unsurePages 1 = .ok (.istore_n 3, 1) := by decide +kernel
theorem dX9_unsurePages_2 : decode cX9_unsurePages 2 = .ok (.iload_n 1, 1) := by decide +kernel
theorem dX9_unsurePages_3 : decode cX9_unsurePages 3 = .ok (.istore 4, 2) := by decide +kernel
theorem dX9_unsurePages_5 : decode cX9_unsurePages 5 = .ok (.iload 4, 2) := by decide +kernel
theorem dX9_unsurePages_7 : decode cX9_unsurePages 7 = .ok (.iload_n 2, 1) := by decide +kernel
theorem dX9_unsurePages_8 : decode cX9_unsurePages 8 = .ok (.if_icmp .ge 23, 3) := by decide +kernel
theorem dX9_unsurePages_11 : decode cX9_unsurePages 11 = .ok (.iload_n 3, 1) := by decide +kernel
theorem dX9_unsurePages_12 : decode cX9_unsurePages 12 = .ok (.aload_n 0, 1) := by decide +kernel
theorem dX9_unsurePages_13 : decode cX9_unsurePages 13 = .ok (.getfield 7, 3) := by decide +kernel
theorem dX9_unsurePages_16 : decode cX9_unsurePages 16 = .ok (.sipush 512, 3) := by decide +kernel
theorem dX9_unsurePages_19 : decode cX9_unsurePages 19 = .ok (.iload 4, 2) := by decide +kernel
theorem dX9_unsurePages_21 : decode cX9_unsurePages 21 = .ok (.iadd, 1) := by decide +kernel
theorem dX9_unsurePages_22 : decode cX9_unsurePages 22 = .ok (.iaload, 1) := by decide +kernel
theorem dX9_unsurePages_23 : decode cX9_unsurePages 23 = .ok (.iadd, 1) := by decide +kernel
theorem dX9_unsurePages_24 : decode cX9_unsurePages 24 = .ok (.istore_n 3, 1) := by decide +kernel
theorem dX9_unsurePages_25 : decode cX9_unsurePages 25 = .ok (.iinc 4 1, 3) := by decide +kernel
theorem dX9_unsurePages_28 : decode cX9_unsurePages 28 = .ok (.goto (-23), 3) := by decide +kernel
theorem dX9_unsurePages_31 : decode cX9_unsurePages 31 = .ok (.iload_n 3, 1) := by decide +kernel
theorem dX9_unsurePages_32 : decode cX9_unsurePages 32 = .ok (.ireturn, 1) := by decide +kernel
theorem dX9_ordersFor_0 : decode cX9_ordersFor 0 = .ok (.iconst 0, 1) := by decide +kernel
theorem dX9_ordersFor_1 : decode cX9_ordersFor 1 = .ok (.istore_n 2, 1) := by decide +kernel
theorem dX9_ordersFor_2 : decode cX9_ordersFor 2 = .ok (.iconst 0, 1) := by decide +kernel
theorem dX9_ordersFor_3 : decode cX9_ordersFor 3 = .ok (.istore_n 3, 1) := by decide +kernel
theorem dX9_ordersFor_4 : decode cX9_ordersFor 4 = .ok (.iload_n 3, 1) := by decide +kernel
theorem dX9_ordersFor_5 : decode cX9_ordersFor 5 = .ok (.aload_n 0, 1) := by decide +kernel
theorem dX9_ordersFor_6 : decode cX9_ordersFor 6 = .ok (.getfield 7, 3) := by decide +kernel
theorem dX9_ordersFor_9 : decode cX9_ordersFor 9 = .ok (.sipush 580, 3) := by decide +kernel
theorem dX9_ordersFor_12 : decode cX9_ordersFor 12 = .ok (.iaload, 1) := by decide +kernel
theorem dX9_ordersFor_13 : decode cX9_ordersFor 13 = .ok (.if_icmp .ge 26, 3) := by decide +kernel
theorem dX9_ordersFor_16 : decode cX9_ordersFor 16 = .ok (.iload_n 2, 1) := by decide +kernel
theorem dX9_ordersFor_17 : decode cX9_ordersFor 17 = .ok (.aload_n 0, 1) := by decide +kernel
theorem dX9_ordersFor_18 : decode cX9_ordersFor 18 = .ok (.iload_n 3, 1) := by decide +kernel
theorem dX9_ordersFor_19 : decode cX9_ordersFor 19 = .ok (.invokevirtual 96, 3) := by decide +kernel
theorem dX9_ordersFor_22 : decode cX9_ordersFor 22 = .ok (.iload_n 1, 1) := by decide +kernel
theorem dX9_ordersFor_23 : decode cX9_ordersFor 23 = .ok (.if_icmp .ne 7, 3) := by decide +kernel
theorem dX9_ordersFor_26 : decode cX9_ordersFor 26 = .ok (.iconst 1, 1) := by decide +kernel
theorem dX9_ordersFor_27 : decode cX9_ordersFor 27 = .ok (.goto 4, 3) := by decide +kernel
theorem dX9_ordersFor_30 : decode cX9_ordersFor 30 = .ok (.iconst 0, 1) := by decide +kernel
theorem dX9_ordersFor_31 : decode cX9_ordersFor 31 = .ok (.iadd, 1) := by decide +kernel
theorem dX9_ordersFor_32 : decode cX9_ordersFor 32 = .ok (.istore_n 2, 1) := by decide +kernel
theorem dX9_ordersFor_33 : decode cX9_ordersFor 33 = .ok (.iinc 3 1, 3) := by decide +kernel
theorem dX9_ordersFor_36 : decode cX9_ordersFor 36 = .ok (.goto (-32), 3) := by decide +kernel
theorem dX9_ordersFor_39 : decode cX9_ordersFor 39 = .ok (.iload_n 2, 1) := by decide +kernel
theorem dX9_ordersFor_40 : decode cX9_ordersFor 40 = .ok (.ireturn, 1) := by decide +kernel
theorem dX9_sectorTold_0 : decode cX9_sectorTold 0 = .ok (.iload_n 2, 1) := by decide +kernel
theorem dX9_sectorTold_1 : decode cX9_sectorTold 1 = .ok (.tableswitch 105 0 5 #[39, 50, 64, 80, 86, 99], 39) := by decide +kernel
theorem dX9_sectorTold_40 : decode cX9_sectorTold 40 = .ok (.aload_n 0, 1) := by decide +kernel
theorem dX9_sectorTold_41 : decode cX9_sectorTold 41 = .ok (.getfield 7, 3) := by decide +kernel
theorem dX9_sectorTold_44 : decode cX9_sectorTold 44 = .ok (.sipush 544, 3) := by decide +kernel
theorem dX9_sectorTold_47 : decode cX9_sectorTold 47 = .ok (.iload_n 1, 1) := by decide +kernel
theorem dX9_sectorTold_48 : decode cX9_sectorTold 48 = .ok (.iadd, 1) := by decide +kernel
theorem dX9_sectorTold_49 : decode cX9_sectorTold 49 = .ok (.iaload, 1) := by decide +kernel
theorem dX9_sectorTold_50 : decode cX9_sectorTold 50 = .ok (.ireturn, 1) := by decide +kernel
theorem dX9_sectorTold_51 : decode cX9_sectorTold 51 = .ok (.aload_n 0, 1) := by decide +kernel
theorem dX9_sectorTold_52 : decode cX9_sectorTold 52 = .ok (.iload_n 1, 1) := by decide +kernel
theorem dX9_sectorTold_53 : decode cX9_sectorTold 53 = .ok (.invokevirtual 99, 3) := by decide +kernel
theorem dX9_sectorTold_56 : decode cX9_sectorTold 56 = .ok (.ifCond .eq 7, 3) := by decide +kernel
theorem dX9_sectorTold_59 : decode cX9_sectorTold 59 = .ok (.iconst 1, 1) := by decide +kernel
theorem dX9_sectorTold_60 : decode cX9_sectorTold 60 = .ok (.goto 4, 3) := by decide +kernel
theorem dX9_sectorTold_63 : decode cX9_sectorTold 63 = .ok (.iconst 0, 1) := by decide +kernel
theorem dX9_sectorTold_64 : decode cX9_sectorTold 64 = .ok (.ireturn, 1) := by decide +kernel
theorem dX9_sectorTold_65 : decode cX9_sectorTold 65 = .ok (.aload_n 0, 1) := by decide +kernel
theorem dX9_sectorTold_66 : decode cX9_sectorTold 66 = .ok (.bipush 32, 2) := by decide +kernel
theorem dX9_sectorTold_68 : decode cX9_sectorTold 68 = .ok (.iload_n 1, 1) := by decide +kernel
theorem dX9_sectorTold_69 : decode cX9_sectorTold 69 = .ok (.imul, 1) := by decide +kernel
theorem dX9_sectorTold_70 : decode cX9_sectorTold 70 = .ok (.bipush 32, 2) := by decide +kernel
theorem dX9_sectorTold_72 : decode cX9_sectorTold 72 = .ok (.iload_n 1, 1) := by decide +kernel
theorem dX9_sectorTold_73 : decode cX9_sectorTold 73 = .ok (.imul, 1) := by decide +kernel
theorem dX9_sectorTold_74 : decode cX9_sectorTold 74 = .ok (.bipush 32, 2) := by decide +kernel
theorem dX9_sectorTold_76 : decode cX9_sectorTold 76 = .ok (.iadd, 1) := by decide +kernel
theorem dX9_sectorTold_77 : decode cX9_sectorTold 77 = .ok (.invokevirtual 241, 3) := by decide +kernel
theorem dX9_sectorTold_80 : decode cX9_sectorTold 80 = .ok (.ireturn, 1) := by decide +kernel
theorem dX9_sectorTold_81 : decode cX9_sectorTold 81 = .ok (.aload_n 0, 1) := by decide +kernel
theorem dX9_sectorTold_82 : decode cX9_sectorTold 82 = .ok (.iload_n 1, 1) := by decide +kernel
theorem dX9_sectorTold_83 : decode cX9_sectorTold 83 = .ok (.invokevirtual 244, 3) := by decide +kernel
theorem dX9_sectorTold_86 : decode cX9_sectorTold 86 = .ok (.ireturn, 1) := by decide +kernel
theorem dX9_sectorTold_87 : decode cX9_sectorTold 87 = .ok (.aload_n 0, 1) := by decide +kernel
theorem dX9_sectorTold_88 : decode cX9_sectorTold 88 = .ok (.iconst 4, 1) := by decide +kernel
theorem dX9_sectorTold_89 : decode cX9_sectorTold 89 = .ok (.iload_n 1, 1) := by decide +kernel
theorem dX9_sectorTold_90 : decode cX9_sectorTold 90 = .ok (.imul, 1) := by decide +kernel
theorem dX9_sectorTold_91 : decode cX9_sectorTold 91 = .ok (.iconst 4, 1) := by decide +kernel
theorem dX9_sectorTold_92 : decode cX9_sectorTold 92 = .ok (.iload_n 1, 1) := by decide +kernel
theorem dX9_sectorTold_93 : decode cX9_sectorTold 93 = .ok (.imul, 1) := by decide +kernel
theorem dX9_sectorTold_94 : decode cX9_sectorTold 94 = .ok (.iconst 4, 1) := by decide +kernel
theorem dX9_sectorTold_95 : decode cX9_sectorTold 95 = .ok (.iadd, 1) := by decide +kernel
theorem dX9_sectorTold_96 : decode cX9_sectorTold 96 = .ok (.invokevirtual 247, 3) := by decide +kernel
theorem dX9_sectorTold_99 : decode cX9_sectorTold 99 = .ok (.ireturn, 1) := by decide +kernel
theorem dX9_sectorTold_100 : decode cX9_sectorTold 100 = .ok (.aload_n 0, 1) := by decide +kernel
theorem dX9_sectorTold_101 : decode cX9_sectorTold 101 = .ok (.iload_n 1, 1) := by decide +kernel
theorem dX9_sectorTold_102 : decode cX9_sectorTold 102 = .ok (.invokevirtual 65, 3) := by decide +kernel
theorem dX9_sectorTold_105 : decode cX9_sectorTold 105 = .ok (.ireturn, 1) := by decide +kernel
theorem dX9_sectorTold_106 : decode cX9_sectorTold 106 = .ok (.aload_n 0, 1) := by decide +kernel
theorem dX9_sectorTold_107 : decode cX9_sectorTold 107 = .ok (.iload_n 1, 1) := by decide +kernel
theorem dX9_sectorTold_108 : decode cX9_sectorTold 108 = .ok (.invokevirtual 250, 3) := by decide +kernel
theorem dX9_sectorTold_111 : decode cX9_sectorTold 111 = .ok (.ireturn, 1) := by decide +kernel
theorem dX9_sector_0 : decode cX9_sector 0 = .ok (.aload_n 0, 1) := by decide +kernel
theorem dX9_sector_1 : decode cX9_sector 1 = .ok (.iconst 0, 1) := by decide +kernel
theorem dX9_sector_2 : decode cX9_sector 2 = .ok (.putfield 31, 3) := by decide +kernel
theorem dX9_sector_5 : decode cX9_sector 5 = .ok (.iload_n 1, 1) := by decide +kernel
theorem dX9_sector_6 : decode cX9_sector 6 = .ok (.invokestatic 157, 3) := by decide +kernel
theorem dX9_sector_9 : decode cX9_sector 9 = .ok (.ifCond .ne 9, 3) := by decide +kernel
theorem dX9_sector_12 : decode cX9_sector 12 = .ok (.aload_n 0, 1) := by decide +kernel
theorem dX9_sector_13 : decode cX9_sector 13 = .ok (.iconst 1, 1) := by decide +kernel
theorem dX9_sector_14 : decode cX9_sector 14 = .ok (.invokevirtual 142, 3) := by decide +kernel
theorem dX9_sector_17 : decode cX9_sector 17 = .ok (.ireturn, 1) := by decide +kernel
theorem dX9_sector_18 : decode cX9_sector 18 = .ok (.iload_n 2, 1) := by decide +kernel
theorem dX9_sector_19 : decode cX9_sector 19 = .ok (.iconst 0, 1) := by decide +kernel
theorem dX9_sector_20 : decode cX9_sector 20 = .ok (.bipush 6, 2) := by decide +kernel
theorem dX9_sector_22 : decode cX9_sector 22 = .ok (.invokestatic 42, 3) := by decide +kernel
theorem dX9_sector_25 : decode cX9_sector 25 = .ok (.ifCond .eq 12, 3) := by decide +kernel
theorem dX9_sector_28 : decode cX9_sector 28 = .ok (.aload_n 0, 1) := by decide +kernel
theorem dX9_sector_29 : decode cX9_sector 29 = .ok (.iload_n 1, 1) := by decide +kernel
theorem dX9_sector_30 : decode cX9_sector 30 = .ok (.iload_n 2, 1) := by decide +kernel
theorem dX9_sector_31 : decode cX9_sector 31 = .ok (.invokevirtual 253, 3) := by decide +kernel
theorem dX9_sector_34 : decode cX9_sector 34 = .ok (.goto 8, 3) := by decide +kernel
theorem dX9_sector_37 : decode cX9_sector 37 = .ok (.aload_n 0, 1) := by decide +kernel
theorem dX9_sector_38 : decode cX9_sector 38 = .ok (.iconst 2, 1) := by decide +kernel
theorem dX9_sector_39 : decode cX9_sector 39 = .ok (.invokevirtual 142, 3) := by decide +kernel
theorem dX9_sector_42 : decode cX9_sector 42 = .ok (.ireturn, 1) := by decide +kernel
theorem dX9_workTold_0 : decode cX9_workTold 0 = .ok (.sipush 581, 3) := by decide +kernel
theorem dX9_workTold_3 : decode cX9_workTold 3 = .ok (.bipush 18, 2) := by decide +kernel
theorem dX9_workTold_5 : decode cX9_workTold 5 = .ok (.iload_n 1, 1) := by decide +kernel
theorem dX9_workTold_6 : decode cX9_workTold 6 = .ok (.imul, 1) := by decide +kernel
theorem dX9_workTold_7 : decode cX9_workTold 7 = .ok (.iadd, 1) := by decide +kernel
theorem dX9_workTold_8 : decode cX9_workTold 8 = .ok (.istore_n 3, 1) := by decide +kernel
theorem dX9_workTold_9 : decode cX9_workTold 9 = .ok (.aload_n 0, 1) := by decide +kernel
theorem dX9_workTold_10 : decode cX9_workTold 10 = .ok (.getfield 7, 3) := by decide +kernel
theorem dX9_workTold_13 : decode cX9_workTold 13 = .ok (.iload_n 3, 1) := by decide +kernel
theorem dX9_workTold_14 : decode cX9_workTold 14 = .ok (.iconst 0, 1) := by decide +kernel
theorem dX9_workTold_15 : decode cX9_workTold 15 = .ok (.iadd, 1) := by decide +kernel
theorem dX9_workTold_16 : decode cX9_workTold 16 = .ok (.iaload, 1) := by decide +kernel
theorem dX9_workTold_17 : decode cX9_workTold 17 = .ok (.ifCond .le 7, 3) := by decide +kernel
theorem dX9_workTold_20 : decode cX9_workTold 20 = .ok (.iconst 1, 1) := by decide +kernel
theorem dX9_workTold_21 : decode cX9_workTold 21 = .ok (.goto 4, 3) := by decide +kernel
theorem dX9_workTold_24 : decode cX9_workTold 24 = .ok (.iconst 0, 1) := by decide +kernel
theorem dX9_workTold_25 : decode cX9_workTold 25 = .ok (.istore 4, 2) := by decide +kernel
theorem dX9_workTold_27 : decode cX9_workTold 27 = .ok (.iload_n 2, 1) := by decide +kernel
theorem dX9_workTold_28 : decode cX9_workTold 28 = .ok (.tableswitch 95 0 3 #[32, 41, 59, 77], 32) := by decide +kernel
theorem dX9_workTold_60 : decode cX9_workTold 60 = .ok (.aload_n 0, 1) := by decide +kernel
theorem dX9_workTold_61 : decode cX9_workTold 61 = .ok (.getfield 7, 3) := by decide +kernel
theorem dX9_workTold_64 : decode cX9_workTold 64 = .ok (.iload_n 3, 1) := by decide +kernel
theorem dX9_workTold_65 : decode cX9_workTold 65 = .ok (.iconst 0, 1) := by decide +kernel
theorem dX9_workTold_66 : decode cX9_workTold 66 = .ok (.iadd, 1) := by decide +kernel
theorem dX9_workTold_67 : decode cX9_workTold 67 = .ok (.iaload, 1) := by decide +kernel
theorem dX9_workTold_68 : decode cX9_workTold 68 = .ok (.ireturn, 1) := by decide +kernel
theorem dX9_workTold_69 : decode cX9_workTold 69 = .ok (.iload 4, 2) := by decide +kernel
theorem dX9_workTold_71 : decode cX9_workTold 71 = .ok (.ifCond .eq 14, 3) := by decide +kernel
theorem dX9_workTold_74 : decode cX9_workTold 74 = .ok (.aload_n 0, 1) := by decide +kernel
theorem dX9_workTold_75 : decode cX9_workTold 75 = .ok (.getfield 7, 3) := by decide +kernel
theorem dX9_workTold_78 : decode cX9_workTold 78 = .ok (.iload_n 3, 1) := by decide +kernel
theorem dX9_workTold_79 : decode cX9_workTold 79 = .ok (.iconst 1, 1) := by decide +kernel
theorem dX9_workTold_80 : decode cX9_workTold 80 = .ok (.iadd, 1) := by decide +kernel
theorem dX9_workTold_81 : decode cX9_workTold 81 = .ok (.iaload, 1) := by decide +kernel
theorem dX9_workTold_82 : decode cX9_workTold 82 = .ok (.goto 4, 3) := by decide +kernel
theorem dX9_workTold_85 : decode cX9_workTold 85 = .ok (.iconst (-1), 1) := by decide +kernel
theorem dX9_workTold_86 : decode cX9_workTold 86 = .ok (.ireturn, 1) := by decide +kernel
theorem dX9_workTold_87 : decode cX9_workTold 87 = .ok (.aload_n 0, 1) := by decide +kernel
theorem dX9_workTold_88 : decode cX9_workTold 88 = .ok (.getfield 7, 3) := by decide +kernel
theorem dX9_workTold_91 : decode cX9_workTold 91 = .ok (.iload_n 3, 1) := by decide +kernel
theorem dX9_workTold_92 : decode cX9_workTold 92 = .ok (.iconst 3, 1) := by decide +kernel
theorem dX9_workTold_93 : decode cX9_workTold 93 = .ok (.iadd, 1) := by decide +kernel
theorem dX9_workTold_94 : decode cX9_workTold 94 = .ok (.iaload, 1) := by decide +kernel
theorem dX9_workTold_95 : decode cX9_workTold 95 = .ok (.aload_n 0, 1) := by decide +kernel
theorem dX9_workTold_96 : decode cX9_workTold 96 = .ok (.getfield 7, 3) := by decide +kernel
theorem dX9_workTold_99 : decode cX9_workTold 99 = .ok (.iload_n 3, 1) := by decide +kernel
theorem dX9_workTold_100 : decode cX9_workTold 100 = .ok (.iconst 2, 1) := by decide +kernel
theorem dX9_workTold_101 : decode cX9_workTold 101 = .ok (.iadd, 1) := by decide +kernel
theorem dX9_workTold_102 : decode cX9_workTold 102 = .ok (.iaload, 1) := by decide +kernel
theorem dX9_workTold_103 : decode cX9_workTold 103 = .ok (.isub, 1) := by decide +kernel
theorem dX9_workTold_104 : decode cX9_workTold 104 = .ok (.ireturn, 1) := by decide +kernel
theorem dX9_workTold_105 : decode cX9_workTold 105 = .ok (.iload 4, 2) := by decide +kernel
theorem dX9_workTold_107 : decode cX9_workTold 107 = .ok (.ifCond .eq 14, 3) := by decide +kernel
theorem dX9_workTold_110 : decode cX9_workTold 110 = .ok (.aload_n 0, 1) := by decide +kernel
theorem dX9_workTold_111 : decode cX9_workTold 111 = .ok (.getfield 7, 3) := by decide +kernel
theorem dX9_workTold_114 : decode cX9_workTold 114 = .ok (.iload_n 3, 1) := by decide +kernel
theorem dX9_workTold_115 : decode cX9_workTold 115 = .ok (.iconst 5, 1) := by decide +kernel
theorem dX9_workTold_116 : decode cX9_workTold 116 = .ok (.iadd, 1) := by decide +kernel
theorem dX9_workTold_117 : decode cX9_workTold 117 = .ok (.iaload, 1) := by decide +kernel
theorem dX9_workTold_118 : decode cX9_workTold 118 = .ok (.goto 4, 3) := by decide +kernel
theorem dX9_workTold_121 : decode cX9_workTold 121 = .ok (.iconst (-1), 1) := by decide +kernel
theorem dX9_workTold_122 : decode cX9_workTold 122 = .ok (.ireturn, 1) := by decide +kernel
theorem dX9_workTold_123 : decode cX9_workTold 123 = .ok (.aload_n 0, 1) := by decide +kernel
theorem dX9_workTold_124 : decode cX9_workTold 124 = .ok (.getfield 7, 3) := by decide +kernel
theorem dX9_workTold_127 : decode cX9_workTold 127 = .ok (.iload_n 3, 1) := by decide +kernel
theorem dX9_workTold_128 : decode cX9_workTold 128 = .ok (.bipush 6, 2) := by decide +kernel
theorem dX9_workTold_130 : decode cX9_workTold 130 = .ok (.iadd, 1) := by decide +kernel
theorem dX9_workTold_131 : decode cX9_workTold 131 = .ok (.iaload, 1) := by decide +kernel
theorem dX9_workTold_132 : decode cX9_workTold 132 = .ok (.ireturn, 1) := by decide +kernel
theorem dX9_work_0 : decode cX9_work 0 = .ok (.aload_n 0, 1) := by decide +kernel
theorem dX9_work_1 : decode cX9_work 1 = .ok (.iconst 0, 1) := by decide +kernel
theorem dX9_work_2 : decode cX9_work 2 = .ok (.putfield 31, 3) := by decide +kernel
theorem dX9_work_5 : decode cX9_work 5 = .ok (.iload_n 1, 1) := by decide +kernel
theorem dX9_work_6 : decode cX9_work 6 = .ok (.iconst 0, 1) := by decide +kernel
theorem dX9_work_7 : decode cX9_work 7 = .ok (.iconst 1, 1) := by decide +kernel
theorem dX9_work_8 : decode cX9_work 8 = .ok (.invokestatic 42, 3) := by decide +kernel
theorem dX9_work_11 : decode cX9_work 11 = .ok (.ifCond .eq 21, 3) := by decide +kernel
theorem dX9_work_14 : decode cX9_work 14 = .ok (.iload_n 2, 1) := by decide +kernel
theorem dX9_work_15 : decode cX9_work 15 = .ok (.iconst 0, 1) := by decide +kernel
theorem dX9_work_16 : decode cX9_work 16 = .ok (.iconst 4, 1) := by decide +kernel
theorem dX9_work_17 : decode cX9_work 17 = .ok (.invokestatic 42, 3) := by decide +kernel
theorem dX9_work_20 : decode cX9_work 20 = .ok (.ifCond .eq 12, 3) := by decide +kernel
theorem dX9_work_23 : decode cX9_work 23 = .ok (.aload_n 0, 1) := by decide +kernel
theorem dX9_work_24 : decode cX9_work 24 = .ok (.iload_n 1, 1) := by decide +kernel
theorem dX9_work_25 : decode cX9_work 25 = .ok (.iload_n 2, 1) := by decide +kernel
theorem dX9_work_26 : decode cX9_work 26 = .ok (.invokevirtual 256, 3) := by decide +kernel
theorem dX9_work_29 : decode cX9_work 29 = .ok (.goto 8, 3) := by decide +kernel
theorem dX9_work_32 : decode cX9_work 32 = .ok (.aload_n 0, 1) := by decide +kernel
theorem dX9_work_33 : decode cX9_work 33 = .ok (.iconst 1, 1) := by decide +kernel
theorem dX9_work_34 : decode cX9_work 34 = .ok (.invokevirtual 142, 3) := by decide +kernel
theorem dX9_work_37 : decode cX9_work 37 = .ok (.ireturn, 1) := by decide +kernel
theorem dX9_orderTold_0 : decode cX9_orderTold 0 = .ok (.iload_n 2, 1) := by decide +kernel
theorem dX9_orderTold_1 : decode cX9_orderTold 1 = .ok (.iconst 4, 1) := by decide +kernel
theorem dX9_orderTold_2 : decode cX9_orderTold 2 = .ok (.if_icmp .ne 21, 3) := by decide +kernel
theorem dX9_orderTold_5 : decode cX9_orderTold 5 = .ok (.aload_n 0, 1) := by decide +kernel
theorem dX9_orderTold_6 : decode cX9_orderTold 6 = .ok (.getfield 7, 3) := by decide +kernel
theorem dX9_orderTold_9 : decode cX9_orderTold 9 = .ok (.sipush 561, 3) := by decide +kernel
theorem dX9_orderTold_12 : decode cX9_orderTold 12 = .ok (.iaload, 1) := by decide +kernel
theorem dX9_orderTold_13 : decode cX9_orderTold 13 = .ok (.aload_n 0, 1) := by decide +kernel
theorem dX9_orderTold_14 : decode cX9_orderTold 14 = .ok (.iload_n 1, 1) := by decide +kernel
theorem dX9_orderTold_15 : decode cX9_orderTold 15 = .ok (.iconst 4, 1) := by decide +kernel
theorem dX9_orderTold_16 : decode cX9_orderTold 16 = .ok (.invokevirtual 53, 3) := by decide +kernel
theorem dX9_orderTold_19 : decode cX9_orderTold 19 = .ok (.isub, 1) := by decide +kernel
theorem dX9_orderTold_20 : decode cX9_orderTold 20 = .ok (.goto 9, 3) := by decide +kernel
theorem dX9_orderTold_23 : decode cX9_orderTold 23 = .ok (.aload_n 0, 1) := by decide +kernel
theorem dX9_orderTold_24 : decode cX9_orderTold 24 = .ok (.iload_n 1, 1) := by decide +kernel
theorem dX9_orderTold_25 : decode cX9_orderTold 25 = .ok (.iload_n 2, 1) := by decide +kernel
theorem dX9_orderTold_26 : decode cX9_orderTold 26 = .ok (.invokevirtual 53, 3) := by decide +kernel
theorem dX9_orderTold_29 : decode cX9_orderTold 29 = .ok (.ireturn, 1) := by decide +kernel
theorem dX9_order_0 : decode cX9_order 0 = .ok (.aload_n 0, 1) := by decide +kernel
theorem dX9_order_1 : decode cX9_order 1 = .ok (.iconst 0, 1) := by decide +kernel
theorem dX9_order_2 : decode cX9_order 2 = .ok (.putfield 31, 3) := by decide +kernel
theorem dX9_order_5 : decode cX9_order 5 = .ok (.iload_n 1, 1) := by decide +kernel
theorem dX9_order_6 : decode cX9_order 6 = .ok (.iconst 0, 1) := by decide +kernel
theorem dX9_order_7 : decode cX9_order 7 = .ok (.aload_n 0, 1) := by decide +kernel
theorem dX9_order_8 : decode cX9_order 8 = .ok (.getfield 7, 3) := by decide +kernel
theorem dX9_order_11 : decode cX9_order 11 = .ok (.sipush 580, 3) := by decide +kernel
theorem dX9_order_14 : decode cX9_order 14 = .ok (.iaload, 1) := by decide +kernel
theorem dX9_order_15 : decode cX9_order 15 = .ok (.iconst 1, 1) := by decide +kernel
theorem dX9_order_16 : decode cX9_order 16 = .ok (.isub, 1) := by decide +kernel
theorem dX9_order_17 : decode cX9_order 17 = .ok (.invokestatic 42, 3) := by decide +kernel
theorem dX9_order_20 : decode cX9_order 20 = .ok (.ifCond .ne 9, 3) := by decide +kernel
theorem dX9_order_23 : decode cX9_order 23 = .ok (.aload_n 0, 1) := by decide +kernel
theorem dX9_order_24 : decode cX9_order 24 = .ok (.iconst 1, 1) := by decide +kernel
theorem dX9_order_25 : decode cX9_order 25 = .ok (.invokevirtual 142, 3) := by decide +kernel
theorem dX9_order_28 : decode cX9_order 28 = .ok (.ireturn, 1) := by decide +kernel
theorem dX9_order_29 : decode cX9_order 29 = .ok (.iload_n 2, 1) := by decide +kernel
theorem dX9_order_30 : decode cX9_order 30 = .ok (.iconst 0, 1) := by decide +kernel
theorem dX9_order_31 : decode cX9_order 31 = .ok (.iconst 5, 1) := by decide +kernel
theorem dX9_order_32 : decode cX9_order 32 = .ok (.invokestatic 42, 3) := by decide +kernel
theorem dX9_order_35 : decode cX9_order 35 = .ok (.ifCond .eq 12, 3) := by decide +kernel
theorem dX9_order_38 : decode cX9_order 38 = .ok (.aload_n 0, 1) := by decide +kernel
theorem dX9_order_39 : decode cX9_order 39 = .ok (.iload_n 1, 1) := by decide +kernel
theorem dX9_order_40 : decode cX9_order 40 = .ok (.iload_n 2, 1) := by decide +kernel
theorem dX9_order_41 : decode cX9_order 41 = .ok (.invokevirtual 259, 3) := by decide +kernel
theorem dX9_order_44 : decode cX9_order 44 = .ok (.goto 8, 3) := by decide +kernel
theorem dX9_order_47 : decode cX9_order 47 = .ok (.aload_n 0, 1) := by decide +kernel
theorem dX9_order_48 : decode cX9_order 48 = .ok (.iconst 2, 1) := by decide +kernel
theorem dX9_order_49 : decode cX9_order 49 = .ok (.invokevirtual 142, 3) := by decide +kernel
theorem dX9_order_52 : decode cX9_order 52 = .ok (.ireturn, 1) := by decide +kernel
theorem dX9_erasures_0 : decode cX9_erasures 0 = .ok (.iconst 0, 1) := by decide +kernel
theorem dX9_erasures_1 : decode cX9_erasures 1 = .ok (.istore_n 1, 1) := by decide +kernel
theorem dX9_erasures_2 : decode cX9_erasures 2 = .ok (.iconst 0, 1) := by decide +kernel
theorem dX9_erasures_3 : decode cX9_erasures 3 = .ok (.istore_n 2, 1) := by decide +kernel
theorem dX9_erasures_4 : decode cX9_erasures 4 = .ok (.iload_n 2, 1) := by decide +kernel
theorem dX9_erasures_5 : decode cX9_erasures 5 = .ok (.bipush 8, 2) := by decide +kernel
theorem dX9_erasures_7 : decode cX9_erasures 7 = .ok (.if_icmp .ge 22, 3) := by decide +kernel
theorem dX9_erasures_10 : decode cX9_erasures 10 = .ok (.iload_n 1, 1) := by decide +kernel
theorem dX9_erasures_11 : decode cX9_erasures 11 = .ok (.aload_n 0, 1) := by decide +kernel
theorem dX9_erasures_12 : decode cX9_erasures 12 = .ok (.getfield 7, 3) := by decide +kernel
theorem dX9_erasures_15 : decode cX9_erasures 15 = .ok (.sipush 544, 3) := by decide +kernel
theorem dX9_erasures_18 : decode cX9_erasures 18 = .ok (.iload_n 2, 1) := by decide +kernel
theorem dX9_erasures_19 : decode cX9_erasures 19 = .ok (.iadd, 1) := by decide +kernel
theorem dX9_erasures_20 : decode cX9_erasures 20 = .ok (.iaload, 1) := by decide +kernel
theorem dX9_erasures_21 : decode cX9_erasures 21 = .ok (.iadd, 1) := by decide +kernel
theorem dX9_erasures_22 : decode cX9_erasures 22 = .ok (.istore_n 1, 1) := by decide +kernel
theorem dX9_erasures_23 : decode cX9_erasures 23 = .ok (.iinc 2 1, 3) := by decide +kernel
theorem dX9_erasures_26 : decode cX9_erasures 26 = .ok (.goto (-22), 3) := by decide +kernel
theorem dX9_erasures_29 : decode cX9_erasures 29 = .ok (.iload_n 1, 1) := by decide +kernel
theorem dX9_erasures_30 : decode cX9_erasures 30 = .ok (.ireturn, 1) := by decide +kernel
theorem dX9_stuckBits_0 : decode cX9_stuckBits 0 = .ok (.iconst 0, 1) := by decide +kernel
theorem dX9_stuckBits_1 : decode cX9_stuckBits 1 = .ok (.istore_n 1, 1) := by decide +kernel
theorem dX9_stuckBits_2 : decode cX9_stuckBits 2 = .ok (.iconst 0, 1) := by decide +kernel
theorem dX9_stuckBits_3 : decode cX9_stuckBits 3 = .ok (.istore_n 2, 1) := by decide +kernel
theorem dX9_stuckBits_4 : decode cX9_stuckBits 4 = .ok (.iload_n 2, 1) := by decide +kernel
theorem dX9_stuckBits_5 : decode cX9_stuckBits 5 = .ok (.sipush 256, 3) := by decide +kernel
theorem dX9_stuckBits_8 : decode cX9_stuckBits 8 = .ok (.if_icmp .ge 25, 3) := by decide +kernel
theorem dX9_stuckBits_11 : decode cX9_stuckBits 11 = .ok (.iload_n 1, 1) := by decide +kernel
theorem dX9_stuckBits_12 : decode cX9_stuckBits 12 = .ok (.aload_n 0, 1) := by decide +kernel
theorem dX9_stuckBits_13 : decode cX9_stuckBits 13 = .ok (.getfield 7, 3) := by decide +kernel
theorem dX9_stuckBits_16 : decode cX9_stuckBits 16 = .ok (.sipush 256, 3) := by decide +kernel
theorem dX9_stuckBits_19 : decode cX9_stuckBits 19 = .ok (.iload_n 2, 1) := by decide +kernel
theorem dX9_stuckBits_20 : decode cX9_stuckBits 20 = .ok (.iadd, 1) := by decide +kernel
theorem dX9_stuckBits_21 : decode cX9_stuckBits 21 = .ok (.iaload, 1) := by decide +kernel
theorem dX9_stuckBits_22 : decode cX9_stuckBits 22 = .ok (.invokestatic 78, 3) := by decide +kernel
theorem dX9_stuckBits_25 : decode cX9_stuckBits 25 = .ok (.iadd, 1) := by decide +kernel
theorem dX9_stuckBits_26 : decode cX9_stuckBits 26 = .ok (.istore_n 1, 1) := by decide +kernel
theorem dX9_stuckBits_27 : decode cX9_stuckBits 27 = .ok (.iinc 2 1, 3) := by decide +kernel
theorem dX9_stuckBits_30 : decode cX9_stuckBits 30 = .ok (.goto (-26), 3) := by decide +kernel
theorem dX9_stuckBits_33 : decode cX9_stuckBits 33 = .ok (.iload_n 1, 1) := by decide +kernel
theorem dX9_stuckBits_34 : decode cX9_stuckBits 34 = .ok (.ireturn, 1) := by decide +kernel
theorem dX9_counted_0 : decode cX9_counted 0 = .ok (.iload_n 1, 1) := by decide +kernel
theorem dX9_counted_1 : decode cX9_counted 1 = .ok (.tableswitch 178 0 14 #[75, 84, 84, 84, 84, 97, 106, 111, 120, 129, 138, 147, 156, 161, 169], 75) := by decide +kernel
theorem dX9_counted_76 : decode cX9_counted 76 = .ok (.aload_n 0, 1) := by decide +kernel
theorem dX9_counted_77 : decode cX9_counted 77 = .ok (.getfield 7, 3) := by decide +kernel
theorem dX9_counted_80 : decode cX9_counted 80 = .ok (.sipush 561, 3) := by decide +kernel
theorem dX9_counted_83 : decode cX9_counted 83 = .ok (.iaload, 1) := by decide +kernel
theorem dX9_counted_84 : decode cX9_counted 84 = .ok (.ireturn, 1) := by decide +kernel
theorem dX9_counted_85 : decode cX9_counted 85 = .ok (.aload_n 0, 1) := by decide +kernel
theorem dX9_counted_86 : decode cX9_counted 86 = .ok (.getfield 7, 3) := by decide +kernel
theorem dX9_counted_89 : decode cX9_counted 89 = .ok (.sipush 552, 3) := by decide +kernel
theorem dX9_counted_92 : decode cX9_counted 92 = .ok (.iload_n 1, 1) := by decide +kernel
theorem dX9_counted_93 : decode cX9_counted 93 = .ok (.iadd, 1) := by decide +kernel
theorem dX9_counted_94 : decode cX9_counted 94 = .ok (.iconst 1, 1) := by decide +kernel
theorem dX9_counted_95 : decode cX9_counted 95 = .ok (.isub, 1) := by decide +kernel
theorem dX9_counted_96 : decode cX9_counted 96 = .ok (.iaload, 1) := by decide +kernel
theorem dX9_counted_97 : decode cX9_counted 97 = .ok (.ireturn, 1) := by decide +kernel
theorem dX9_counted_98 : decode cX9_counted 98 = .ok (.aload_n 0, 1) := by decide +kernel
theorem dX9_counted_99 : decode cX9_counted 99 = .ok (.iconst 0, 1) := by decide +kernel
theorem dX9_counted_100 : decode cX9_counted 100 = .ok (.sipush 256, 3) := by decide +kernel
theorem dX9_counted_103 : decode cX9_counted 103 = .ok (.invokevirtual 241, 3) := by decide +kernel
theorem dX9_counted_106 : decode cX9_counted 106 = .ok (.ireturn, 1) := by decide +kernel
theorem dX9_counted_107 : decode cX9_counted 107 = .ok (.aload_n 0, 1) := by decide +kernel
theorem dX9_counted_108 : decode cX9_counted 108 = .ok (.invokevirtual 262, 3) := by decide +kernel
theorem dX9_counted_111 : decode cX9_counted 111 = .ok (.ireturn, 1) := by decide +kernel
theorem dX9_counted_112 : decode cX9_counted 112 = .ok (.aload_n 0, 1) := by decide +kernel
theorem dX9_counted_113 : decode cX9_counted 113 = .ok (.getfield 7, 3) := by decide +kernel
theorem dX9_counted_116 : decode cX9_counted 116 = .ok (.sipush 562, 3) := by decide +kernel
theorem dX9_counted_119 : decode cX9_counted 119 = .ok (.iaload, 1) := by decide +kernel
theorem dX9_counted_120 : decode cX9_counted 120 = .ok (.ireturn, 1) := by decide +kernel
theorem dX9_counted_121 : decode cX9_counted 121 = .ok (.aload_n 0, 1) := by decide +kernel
theorem dX9_counted_122 : decode cX9_counted 122 = .ok (.getfield 7, 3) := by decide +kernel
theorem dX9_counted_125 : decode cX9_counted 125 = .ok (.sipush 563, 3) := by decide +kernel
theorem dX9_counted_128 : decode cX9_counted 128 = .ok (.iaload, 1) := by decide +kernel
theorem dX9_counted_129 : decode cX9_counted 129 = .ok (.ireturn, 1) := by decide +kernel
theorem dX9_counted_130 : decode cX9_counted 130 = .ok (.aload_n 0, 1) := by decide +kernel
theorem dX9_counted_131 : decode cX9_counted 131 = .ok (.getfield 7, 3) := by decide +kernel
theorem dX9_counted_134 : decode cX9_counted 134 = .ok (.sipush 564, 3) := by decide +kernel
theorem dX9_counted_137 : decode cX9_counted 137 = .ok (.iaload, 1) := by decide +kernel
theorem dX9_counted_138 : decode cX9_counted 138 = .ok (.ireturn, 1) := by decide +kernel
theorem dX9_counted_139 : decode cX9_counted 139 = .ok (.aload_n 0, 1) := by decide +kernel
theorem dX9_counted_140 : decode cX9_counted 140 = .ok (.getfield 7, 3) := by decide +kernel
theorem dX9_counted_143 : decode cX9_counted 143 = .ok (.sipush 580, 3) := by decide +kernel
theorem dX9_counted_146 : decode cX9_counted 146 = .ok (.iaload, 1) := by decide +kernel
theorem dX9_counted_147 : decode cX9_counted 147 = .ok (.ireturn, 1) := by decide +kernel
theorem dX9_counted_148 : decode cX9_counted 148 = .ok (.aload_n 0, 1) := by decide +kernel
theorem dX9_counted_149 : decode cX9_counted 149 = .ok (.getfield 7, 3) := by decide +kernel
theorem dX9_counted_152 : decode cX9_counted 152 = .ok (.sipush 567, 3) := by decide +kernel
theorem dX9_counted_155 : decode cX9_counted 155 = .ok (.iaload, 1) := by decide +kernel
theorem dX9_counted_156 : decode cX9_counted 156 = .ok (.ireturn, 1) := by decide +kernel
theorem dX9_counted_157 : decode cX9_counted 157 = .ok (.aload_n 0, 1) := by decide +kernel
theorem dX9_counted_158 : decode cX9_counted 158 = .ok (.invokevirtual 265, 3) := by decide +kernel
theorem dX9_counted_161 : decode cX9_counted 161 = .ok (.ireturn, 1) := by decide +kernel
theorem dX9_counted_162 : decode cX9_counted 162 = .ok (.aload_n 0, 1) := by decide +kernel
theorem dX9_counted_163 : decode cX9_counted 163 = .ok (.iconst 0, 1) := by decide +kernel
theorem dX9_counted_164 : decode cX9_counted 164 = .ok (.bipush 32, 2) := by decide +kernel
theorem dX9_counted_166 : decode cX9_counted 166 = .ok (.invokevirtual 247, 3) := by decide +kernel
theorem dX9_counted_169 : decode cX9_counted 169 = .ok (.ireturn, 1) := by decide +kernel
theorem dX9_counted_170 : decode cX9_counted 170 = .ok (.aload_n 0, 1) := by decide +kernel
theorem dX9_counted_171 : decode cX9_counted 171 = .ok (.getfield 7, 3) := by decide +kernel
theorem dX9_counted_174 : decode cX9_counted 174 = .ok (.sipush 565, 3) := by decide +kernel
theorem dX9_counted_177 : decode cX9_counted 177 = .ok (.iaload, 1) := by decide +kernel
theorem dX9_counted_178 : decode cX9_counted 178 = .ok (.ireturn, 1) := by decide +kernel
theorem dX9_counted_179 : decode cX9_counted 179 = .ok (.aload_n 0, 1) := by decide +kernel
theorem dX9_counted_180 : decode cX9_counted 180 = .ok (.getfield 35, 3) := by decide +kernel
theorem dX9_counted_183 : decode cX9_counted 183 = .ok (.ireturn, 1) := by decide +kernel
theorem dX9_count_0 : decode cX9_count 0 = .ok (.aload_n 0, 1) := by decide +kernel
theorem dX9_count_1 : decode cX9_count 1 = .ok (.iconst 0, 1) := by decide +kernel
theorem dX9_count_2 : decode cX9_count 2 = .ok (.putfield 31, 3) := by decide +kernel
theorem dX9_count_5 : decode cX9_count 5 = .ok (.iload_n 1, 1) := by decide +kernel
theorem dX9_count_6 : decode cX9_count 6 = .ok (.iconst 0, 1) := by decide +kernel
theorem dX9_count_7 : decode cX9_count 7 = .ok (.bipush 15, 2) := by decide +kernel
theorem dX9_count_9 : decode cX9_count 9 = .ok (.invokestatic 42, 3) := by decide +kernel
theorem dX9_count_12 : decode cX9_count 12 = .ok (.ifCond .eq 11, 3) := by decide +kernel
theorem dX9_count_15 : decode cX9_count 15 = .ok (.aload_n 0, 1) := by decide +kernel
theorem dX9_count_16 : decode cX9_count 16 = .ok (.iload_n 1, 1) := by decide +kernel
theorem dX9_count_17 : decode cX9_count 17 = .ok (.invokevirtual 268, 3) := by decide +kernel
theorem dX9_count_20 : decode cX9_count 20 = .ok (.goto 8, 3) := by decide +kernel
theorem dX9_count_23 : decode cX9_count 23 = .ok (.aload_n 0, 1) := by decide +kernel
theorem dX9_count_24 : decode cX9_count 24 = .ok (.iconst 1, 1) := by decide +kernel
theorem dX9_count_25 : decode cX9_count 25 = .ok (.invokevirtual 142, 3) := by decide +kernel
theorem dX9_count_28 : decode cX9_count 28 = .ok (.ireturn, 1) := by decide +kernel
theorem dX9_setting_0 : decode cX9_setting 0 = .ok (.aload_n 0, 1) := by decide +kernel
theorem dX9_setting_1 : decode cX9_setting 1 = .ok (.iconst 0, 1) := by decide +kernel
theorem dX9_setting_2 : decode cX9_setting 2 = .ok (.putfield 31, 3) := by decide +kernel
theorem dX9_setting_5 : decode cX9_setting 5 = .ok (.iload_n 1, 1) := by decide +kernel
theorem dX9_setting_6 : decode cX9_setting 6 = .ok (.iconst 0, 1) := by decide +kernel
theorem dX9_setting_7 : decode cX9_setting 7 = .ok (.iconst 4, 1) := by decide +kernel
theorem dX9_setting_8 : decode cX9_setting 8 = .ok (.invokestatic 42, 3) := by decide +kernel
theorem dX9_setting_11 : decode cX9_setting 11 = .ok (.ifCond .eq 16, 3) := by decide +kernel
theorem dX9_setting_14 : decode cX9_setting 14 = .ok (.aload_n 0, 1) := by decide +kernel
theorem dX9_setting_15 : decode cX9_setting 15 = .ok (.getfield 7, 3) := by decide +kernel
theorem dX9_setting_18 : decode cX9_setting 18 = .ok (.sipush 556, 3) := by decide +kernel
theorem dX9_setting_21 : decode cX9_setting 21 = .ok (.iload_n 1, 1) := by decide +kernel
theorem dX9_setting_22 : decode cX9_setting 22 = .ok (.iadd, 1) := by decide +kernel
theorem dX9_setting_23 : decode cX9_setting 23 = .ok (.iaload, 1) := by decide +kernel
theorem dX9_setting_24 : decode cX9_setting 24 = .ok (.goto 8, 3) := by decide +kernel
theorem dX9_setting_27 : decode cX9_setting 27 = .ok (.aload_n 0, 1) := by decide +kernel
theorem dX9_setting_28 : decode cX9_setting 28 = .ok (.iconst 1, 1) := by decide +kernel
theorem dX9_setting_29 : decode cX9_setting 29 = .ok (.invokevirtual 142, 3) := by decide +kernel
theorem dX9_setting_32 : decode cX9_setting 32 = .ok (.ireturn, 1) := by decide +kernel
theorem dX9_why_0 : decode cX9_why 0 = .ok (.aload_n 0, 1) := by decide +kernel
theorem dX9_why_1 : decode cX9_why 1 = .ok (.iconst 0, 1) := by decide +kernel
theorem dX9_why_2 : decode cX9_why 2 = .ok (.putfield 31, 3) := by decide +kernel
theorem dX9_why_5 : decode cX9_why 5 = .ok (.iload_n 1, 1) := by decide +kernel
theorem dX9_why_6 : decode cX9_why 6 = .ok (.iconst 1, 1) := by decide +kernel
theorem dX9_why_7 : decode cX9_why 7 = .ok (.iconst 3, 1) := by decide +kernel
theorem dX9_why_8 : decode cX9_why 8 = .ok (.invokestatic 42, 3) := by decide +kernel
theorem dX9_why_11 : decode cX9_why 11 = .ok (.ifCond .ne 9, 3) := by decide +kernel
theorem dX9_why_14 : decode cX9_why 14 = .ok (.aload_n 0, 1) := by decide +kernel
theorem dX9_why_15 : decode cX9_why 15 = .ok (.iconst 1, 1) := by decide +kernel
theorem dX9_why_16 : decode cX9_why 16 = .ok (.invokevirtual 142, 3) := by decide +kernel
theorem dX9_why_19 : decode cX9_why 19 = .ok (.ireturn, 1) := by decide +kernel
theorem dX9_why_20 : decode cX9_why 20 = .ok (.iload_n 2, 1) := by decide +kernel
theorem dX9_why_21 : decode cX9_why 21 = .ok (.iconst 0, 1) := by decide +kernel
theorem dX9_why_22 : decode cX9_why 22 = .ok (.iload_n 1, 1) := by decide +kernel
theorem dX9_why_23 : decode cX9_why 23 = .ok (.iconst 1, 1) := by decide +kernel
theorem dX9_why_24 : decode cX9_why 24 = .ok (.if_icmp .ne 9, 3) := by decide +kernel
theorem dX9_why_27 : decode cX9_why 27 = .ok (.sipush 255, 3) := by decide +kernel
theorem dX9_why_30 : decode cX9_why 30 = .ok (.goto 14, 3) := by decide +kernel
theorem dX9_why_33 : decode cX9_why 33 = .ok (.iload_n 1, 1) := by decide +kernel
theorem dX9_why_34 : decode cX9_why 34 = .ok (.iconst 2, 1) := by decide +kernel
theorem dX9_why_35 : decode cX9_why 35 = .ok (.if_icmp .ne 8, 3) := by decide +kernel
theorem dX9_why_38 : decode cX9_why 38 = .ok (.bipush 7, 2) := by decide +kernel
theorem dX9_why_40 : decode cX9_why 40 = .ok (.goto 4, 3) := by decide +kernel
theorem dX9_why_43 : decode cX9_why 43 = .ok (.iconst 4, 1) := by decide +kernel
theorem dX9_why_44 : decode cX9_why 44 = .ok (.invokestatic 42, 3) := by decide +kernel
theorem dX9_why_47 : decode cX9_why 47 = .ok (.ifCond .eq 12, 3) := by decide +kernel
theorem dX9_why_50 : decode cX9_why 50 = .ok (.aload_n 0, 1) := by decide +kernel
theorem dX9_why_51 : decode cX9_why 51 = .ok (.iload_n 1, 1) := by decide +kernel
theorem dX9_why_52 : decode cX9_why 52 = .ok (.iload_n 2, 1) := by decide +kernel
theorem dX9_why_53 : decode cX9_why 53 = .ok (.invokevirtual 154, 3) := by decide +kernel
theorem dX9_why_56 : decode cX9_why 56 = .ok (.goto 8, 3) := by decide +kernel
theorem dX9_why_59 : decode cX9_why 59 = .ok (.aload_n 0, 1) := by decide +kernel
theorem dX9_why_60 : decode cX9_why 60 = .ok (.iconst 2, 1) := by decide +kernel
theorem dX9_why_61 : decode cX9_why 61 = .ok (.invokevirtual 142, 3) := by decide +kernel
theorem dX9_why_64 : decode cX9_why 64 = .ok (.ireturn, 1) := by decide +kernel
theorem dX9_missesAt_0 : decode cX9_missesAt 0 = .ok (.iconst 0, 1) := by decide +kernel
theorem dX9_missesAt_1 : decode cX9_missesAt 1 = .ok (.istore_n 2, 1) := by decide +kernel
theorem dX9_missesAt_2 : decode cX9_missesAt 2 = .ok (.iconst 0, 1) := by decide +kernel
theorem dX9_missesAt_3 : decode cX9_missesAt 3 = .ok (.istore_n 3, 1) := by decide +kernel
theorem dX9_missesAt_4 : decode cX9_missesAt 4 = .ok (.iload_n 3, 1) := by decide +kernel
theorem dX9_missesAt_5 : decode cX9_missesAt 5 = .ok (.bipush 8, 2) := by decide +kernel
theorem dX9_missesAt_7 : decode cX9_missesAt 7 = .ok (.if_icmp .ge 61, 3) := by decide +kernel
theorem dX9_missesAt_10 : decode cX9_missesAt 10 = .ok (.aload_n 0, 1) := by decide +kernel
theorem dX9_missesAt_11 : decode cX9_missesAt 11 = .ok (.iload_n 3, 1) := by decide +kernel
theorem dX9_missesAt_12 : decode cX9_missesAt 12 = .ok (.invokevirtual 235, 3) := by decide +kernel
theorem dX9_missesAt_15 : decode cX9_missesAt 15 = .ok (.istore 4, 2) := by decide +kernel
theorem dX9_missesAt_17 : decode cX9_missesAt 17 = .ok (.aload_n 0, 1) := by decide +kernel
theorem dX9_missesAt_18 : decode cX9_missesAt 18 = .ok (.getfield 7, 3) := by decide +kernel
theorem dX9_missesAt_21 : decode cX9_missesAt 21 = .ok (.iload_n 1, 1) := by decide +kernel
theorem dX9_missesAt_22 : decode cX9_missesAt 22 = .ok (.bipush 8, 2) := by decide +kernel
theorem dX9_missesAt_24 : decode cX9_missesAt 24 = .ok (.idiv, 1) := by decide +kernel
theorem dX9_missesAt_25 : decode cX9_missesAt 25 = .ok (.bipush 8, 2) := by decide +kernel
theorem dX9_missesAt_27 : decode cX9_missesAt 27 = .ok (.imul, 1) := by decide +kernel
theorem dX9_missesAt_28 : decode cX9_missesAt 28 = .ok (.iload_n 1, 1) := by decide +kernel
theorem dX9_missesAt_29 : decode cX9_missesAt 29 = .ok (.iload_n 3, 1) := by decide +kernel
theorem dX9_missesAt_30 : decode cX9_missesAt 30 = .ok (.iadd, 1) := by decide +kernel
theorem dX9_missesAt_31 : decode cX9_missesAt 31 = .ok (.bipush 8, 2) := by decide +kernel
theorem dX9_missesAt_33 : decode cX9_missesAt 33 = .ok (.irem, 1) := by decide +kernel
theorem dX9_missesAt_34 : decode cX9_missesAt 34 = .ok (.iadd, 1) := by decide +kernel
theorem dX9_missesAt_35 : decode cX9_missesAt 35 = .ok (.iaload, 1) := by decide +kernel
theorem dX9_missesAt_36 : decode cX9_missesAt 36 = .ok (.istore 5, 2) := by decide +kernel
theorem dX9_missesAt_38 : decode cX9_missesAt 38 = .ok (.iload_n 2, 1) := by decide +kernel
theorem dX9_missesAt_39 : decode cX9_missesAt 39 = .ok (.iload 4, 2) := by decide +kernel
theorem dX9_missesAt_41 : decode cX9_missesAt 41 = .ok (.iconst (-1), 1) := by decide +kernel
theorem dX9_missesAt_42 : decode cX9_missesAt 42 = .ok (.if_icmp .eq 17, 3) := by decide +kernel
theorem dX9_missesAt_45 : decode cX9_missesAt 45 = .ok (.iload 5, 2) := by decide +kernel
theorem dX9_missesAt_47 : decode cX9_missesAt 47 = .ok (.iload 4, 2) := by decide +kernel
theorem dX9_missesAt_49 : decode cX9_missesAt 49 = .ok (.iand, 1) := by decide +kernel
theorem dX9_missesAt_50 : decode cX9_missesAt 50 = .ok (.iload 4, 2) := by decide +kernel
theorem dX9_missesAt_52 : decode cX9_missesAt 52 = .ok (.if_icmp .eq 7, 3) := by decide +kernel
theorem dX9_missesAt_55 : decode cX9_missesAt 55 = .ok (.iconst 1, 1) := by decide +kernel
theorem dX9_missesAt_56 : decode cX9_missesAt 56 = .ok (.goto 4, 3) := by decide +kernel
theorem dX9_missesAt_59 : decode cX9_missesAt 59 = .ok (.iconst 0, 1) := by decide +kernel
theorem dX9_missesAt_60 : decode cX9_missesAt 60 = .ok (.iadd, 1) := by decide +kernel
theorem dX9_missesAt_61 : decode cX9_missesAt 61 = .ok (.istore_n 2, 1) := by decide +kernel
theorem dX9_missesAt_62 : decode cX9_missesAt 62 = .ok (.iinc 3 1, 3) := by decide +kernel
theorem dX9_missesAt_65 : decode cX9_missesAt 65 = .ok (.goto (-61), 3) := by decide +kernel
theorem dX9_missesAt_68 : decode cX9_missesAt 68 = .ok (.iload_n 2, 1) := by decide +kernel
theorem dX9_missesAt_69 : decode cX9_missesAt 69 = .ok (.ireturn, 1) := by decide +kernel
theorem dX9_misses_0 : decode cX9_misses 0 = .ok (.aload_n 0, 1) := by decide +kernel
theorem dX9_misses_1 : decode cX9_misses 1 = .ok (.iconst 0, 1) := by decide +kernel
theorem dX9_misses_2 : decode cX9_misses 2 = .ok (.putfield 31, 3) := by decide +kernel
theorem dX9_misses_5 : decode cX9_misses 5 = .ok (.iload_n 1, 1) := by decide +kernel
theorem dX9_misses_6 : decode cX9_misses 6 = .ok (.invokestatic 151, 3) := by decide +kernel
theorem dX9_misses_9 : decode cX9_misses 9 = .ok (.ifCond .eq 11, 3) := by decide +kernel
theorem dX9_misses_12 : decode cX9_misses 12 = .ok (.aload_n 0, 1) := by decide +kernel
theorem dX9_misses_13 : decode cX9_misses 13 = .ok (.iload_n 1, 1) := by decide +kernel
theorem dX9_misses_14 : decode cX9_misses 14 = .ok (.invokevirtual 271, 3) := by decide +kernel
theorem dX9_misses_17 : decode cX9_misses 17 = .ok (.goto 8, 3) := by decide +kernel
theorem dX9_misses_20 : decode cX9_misses 20 = .ok (.aload_n 0, 1) := by decide +kernel
theorem dX9_misses_21 : decode cX9_misses 21 = .ok (.iconst 1, 1) := by decide +kernel
theorem dX9_misses_22 : decode cX9_misses 22 = .ok (.invokevirtual 142, 3) := by decide +kernel
theorem dX9_misses_25 : decode cX9_misses 25 = .ok (.ireturn, 1) := by decide +kernel
theorem dX9_fitting_0 : decode cX9_fitting 0 = .ok (.iconst 0, 1) := by decide +kernel
theorem dX9_fitting_1 : decode cX9_fitting 1 = .ok (.istore_n 1, 1) := by decide +kernel
theorem dX9_fitting_2 : decode cX9_fitting 2 = .ok (.iload_n 1, 1) := by decide +kernel
theorem dX9_fitting_3 : decode cX9_fitting 3 = .ok (.sipush 256, 3) := by decide +kernel
theorem dX9_fitting_6 : decode cX9_fitting 6 = .ok (.if_icmp .ge 30, 3) := by decide +kernel
theorem dX9_fitting_9 : decode cX9_fitting 9 = .ok (.aload_n 0, 1) := by decide +kernel
theorem dX9_fitting_10 : decode cX9_fitting 10 = .ok (.iload_n 1, 1) := by decide +kernel
theorem dX9_fitting_11 : decode cX9_fitting 11 = .ok (.bipush 32, 2) := by decide +kernel
theorem dX9_fitting_13 : decode cX9_fitting 13 = .ok (.idiv, 1) := by decide +kernel
theorem dX9_fitting_14 : decode cX9_fitting 14 = .ok (.invokevirtual 99, 3) := by decide +kernel
theorem dX9_fitting_17 : decode cX9_fitting 17 = .ok (.ifCond .ne 13, 3) := by decide +kernel
theorem dX9_fitting_20 : decode cX9_fitting 20 = .ok (.aload_n 0, 1) := by decide +kernel
theorem dX9_fitting_21 : decode cX9_fitting 21 = .ok (.iload_n 1, 1) := by decide +kernel
theorem dX9_fitting_22 : decode cX9_fitting 22 = .ok (.invokevirtual 271, 3) := by decide +kernel
theorem dX9_fitting_25 : decode cX9_fitting 25 = .ok (.ifCond .ne 5, 3) := by decide +kernel
theorem dX9_fitting_28 : decode cX9_fitting 28 = .ok (.iload_n 1, 1) := by decide +kernel
theorem dX9_fitting_29 : decode cX9_fitting 29 = .ok (.ireturn, 1) := by decide +kernel
theorem dX9_fitting_30 : decode cX9_fitting 30 = .ok (.iinc 1 1, 3) := by decide +kernel
theorem dX9_fitting_33 : decode cX9_fitting 33 = .ok (.goto (-31), 3) := by decide +kernel
theorem dX9_fitting_36 : decode cX9_fitting 36 = .ok (.iconst (-1), 1) := by decide +kernel
theorem dX9_fitting_37 : decode cX9_fitting 37 = .ok (.ireturn, 1) := by decide +kernel
theorem dX9_fits_0 : decode cX9_fits 0 = .ok (.aload_n 0, 1) := by decide +kernel
theorem dX9_fits_1 : decode cX9_fits 1 = .ok (.iconst 0, 1) := by decide +kernel
theorem dX9_fits_2 : decode cX9_fits 2 = .ok (.putfield 31, 3) := by decide +kernel
theorem dX9_fits_5 : decode cX9_fits 5 = .ok (.aload_n 0, 1) := by decide +kernel
theorem dX9_fits_6 : decode cX9_fits 6 = .ok (.invokevirtual 274, 3) := by decide +kernel
theorem dX9_fits_9 : decode cX9_fits 9 = .ok (.ireturn, 1) := by decide +kernel
theorem dX9_isFree_0 : decode cX9_isFree 0 = .ok (.aload_n 0, 1) := by decide +kernel
theorem dX9_isFree_1 : decode cX9_isFree 1 = .ok (.invokevirtual 116, 3) := by decide +kernel
theorem dX9_isFree_4 : decode cX9_isFree 4 = .ok (.ifCond .ne 32, 3) := by decide +kernel
theorem dX9_isFree_7 : decode cX9_isFree 7 = .ok (.aload_n 0, 1) := by decide +kernel
theorem dX9_isFree_8 : decode cX9_isFree 8 = .ok (.invokevirtual 103, 3) := by decide +kernel
theorem dX9_isFree_11 : decode cX9_isFree 11 = .ok (.ifCond .eq 13, 3) := by decide +kernel
theorem dX9_isFree_14 : decode cX9_isFree 14 = .ok (.aload_n 0, 1) := by decide +kernel
theorem dX9_isFree_15 : decode cX9_isFree 15 = .ok (.bipush 6, 2) := by decide +kernel
theorem dX9_isFree_17 : decode cX9_isFree 17 = .ok (.invokevirtual 50, 3) := by decide +kernel
theorem dX9_isFree_20 : decode cX9_isFree 20 = .ok (.iconst 1, 1) := by decide +kernel
theorem dX9_isFree_21 : decode cX9_isFree 21 = .ok (.if_icmp .eq 15, 3) := by decide +kernel
theorem dX9_isFree_24 : decode cX9_isFree 24 = .ok (.aload_n 0, 1) := by decide +kernel
theorem dX9_isFree_25 : decode cX9_isFree 25 = .ok (.invokevirtual 122, 3) := by decide +kernel
theorem dX9_isFree_28 : decode cX9_isFree 28 = .ok (.iconst (-1), 1) := by decide +kernel
theorem dX9_isFree_29 : decode cX9_isFree 29 = .ok (.if_icmp .ne 7, 3) := by decide +kernel
theorem dX9_isFree_32 : decode cX9_isFree 32 = .ok (.iconst 1, 1) := by decide +kernel
theorem dX9_isFree_33 : decode cX9_isFree 33 = .ok (.goto 4, 3) := by decide +kernel
theorem dX9_isFree_36 : decode cX9_isFree 36 = .ok (.iconst 0, 1) := by decide +kernel
theorem dX9_isFree_37 : decode cX9_isFree 37 = .ok (.ireturn, 1) := by decide +kernel
theorem dX9_freeTicks_0 : decode cX9_freeTicks 0 = .ok (.aload_n 0, 1) := by decide +kernel
theorem dX9_freeTicks_1 : decode cX9_freeTicks 1 = .ok (.getfield 7, 3) := by decide +kernel
theorem dX9_freeTicks_4 : decode cX9_freeTicks 4 = .ok (.iconst 0, 1) := by decide +kernel
theorem dX9_freeTicks_5 : decode cX9_freeTicks 5 = .ok (.aload_n 0, 1) := by decide +kernel
theorem dX9_freeTicks_6 : decode cX9_freeTicks 6 = .ok (.getfield 13, 3) := by decide +kernel
theorem dX9_freeTicks_9 : decode cX9_freeTicks 9 = .ok (.iconst 0, 1) := by decide +kernel
theorem dX9_freeTicks_10 : decode cX9_freeTicks 10 = .ok (.invokestatic 38, 3) := by decide +kernel
theorem dX9_freeTicks_13 : decode cX9_freeTicks 13 = .ok (.iconst 0, 1) := by decide +kernel
theorem dX9_freeTicks_14 : decode cX9_freeTicks 14 = .ok (.istore_n 1, 1) := by decide +kernel
theorem dX9_freeTicks_15 : decode cX9_freeTicks 15 = .ok (.iload_n 1, 1) := by decide +kernel
theorem dX9_freeTicks_16 : decode cX9_freeTicks 16 = .ok (.sipush 1000, 3) := by decide +kernel
theorem dX9_freeTicks_19 : decode cX9_freeTicks 19 = .ok (.if_icmp .gt 21, 3) := by decide +kernel
theorem dX9_freeTicks_22 : decode cX9_freeTicks 22 = .ok (.aload_n 0, 1) := by decide +kernel
theorem dX9_freeTicks_23 : decode cX9_freeTicks 23 = .ok (.invokevirtual 277, 3) := by decide +kernel
theorem dX9_freeTicks_26 : decode cX9_freeTicks 26 = .ok (.ifCond .ne 14, 3) := by decide +kernel
theorem dX9_freeTicks_29 : decode cX9_freeTicks 29 = .ok (.aload_n 0, 1) := by decide +kernel
theorem dX9_freeTicks_30 : decode cX9_freeTicks 30 = .ok (.invokevirtual 132, 3) := by decide +kernel
theorem dX9_freeTicks_33 : decode cX9_freeTicks 33 = .ok (.istore_n 2, 1) := by decide +kernel
theorem dX9_freeTicks_34 : decode cX9_freeTicks 34 = .ok (.iinc 1 1, 3) := by decide +kernel
theorem dX9_freeTicks_37 : decode cX9_freeTicks 37 = .ok (.goto (-22), 3) := by decide +kernel
theorem dX9_freeTicks_40 : decode cX9_freeTicks 40 = .ok (.aload_n 0, 1) := by decide +kernel
theorem dX9_freeTicks_41 : decode cX9_freeTicks 41 = .ok (.getfield 13, 3) := by decide +kernel
theorem dX9_freeTicks_44 : decode cX9_freeTicks 44 = .ok (.iconst 0, 1) := by decide +kernel
theorem dX9_freeTicks_45 : decode cX9_freeTicks 45 = .ok (.aload_n 0, 1) := by decide +kernel
theorem dX9_freeTicks_46 : decode cX9_freeTicks 46 = .ok (.getfield 7, 3) := by decide +kernel
theorem dX9_freeTicks_49 : decode cX9_freeTicks 49 = .ok (.iconst 0, 1) := by decide +kernel
theorem dX9_freeTicks_50 : decode cX9_freeTicks 50 = .ok (.invokestatic 38, 3) := by decide +kernel
theorem dX9_freeTicks_53 : decode cX9_freeTicks 53 = .ok (.iload_n 1, 1) := by decide +kernel
theorem dX9_freeTicks_54 : decode cX9_freeTicks 54 = .ok (.sipush 1000, 3) := by decide +kernel
theorem dX9_freeTicks_57 : decode cX9_freeTicks 57 = .ok (.if_icmp .le 7, 3) := by decide +kernel
theorem dX9_freeTicks_60 : decode cX9_freeTicks 60 = .ok (.iconst (-1), 1) := by decide +kernel
theorem dX9_freeTicks_61 : decode cX9_freeTicks 61 = .ok (.goto 4, 3) := by decide +kernel
theorem dX9_freeTicks_64 : decode cX9_freeTicks 64 = .ok (.iload_n 1, 1) := by decide +kernel
theorem dX9_freeTicks_65 : decode cX9_freeTicks 65 = .ok (.ireturn, 1) := by decide +kernel
theorem dX9_freeIn_0 : decode cX9_freeIn 0 = .ok (.aload_n 0, 1) := by decide +kernel
theorem dX9_freeIn_1 : decode cX9_freeIn 1 = .ok (.iconst 0, 1) := by decide +kernel
theorem dX9_freeIn_2 : decode cX9_freeIn 2 = .ok (.putfield 31, 3) := by decide +kernel
theorem dX9_freeIn_5 : decode cX9_freeIn 5 = .ok (.aload_n 0, 1) := by decide +kernel
theorem dX9_freeIn_6 : decode cX9_freeIn 6 = .ok (.invokevirtual 280, 3) := by decide +kernel
theorem dX9_freeIn_9 : decode cX9_freeIn 9 = .ok (.ireturn, 1) := by decide +kernel
theorem dX9_leastErased_0 : decode cX9_leastErased 0 = .ok (.iconst (-1), 1) := by decide +kernel
theorem dX9_leastErased_1 : decode cX9_leastErased 1 = .ok (.istore_n 1, 1) := by decide +kernel
theorem dX9_leastErased_2 : decode cX9_leastErased 2 = .ok (.iconst 0, 1) := by decide +kernel
theorem dX9_leastErased_3 : decode cX9_leastErased 3 = .ok (.istore_n 2, 1) := by decide +kernel
theorem dX9_leastErased_4 : decode cX9_leastErased 4 = .ok (.iload_n 2, 1) := by decide +kernel
theorem dX9_leastErased_5 : decode cX9_leastErased 5 = .ok (.bipush 8, 2) := by decide +kernel
theorem dX9_leastErased_7 : decode cX9_leastErased 7 = .ok (.if_icmp .ge 51, 3) := by decide +kernel
theorem dX9_leastErased_10 : decode cX9_leastErased 10 = .ok (.aload_n 0, 1) := by decide +kernel
theorem dX9_leastErased_11 : decode cX9_leastErased 11 = .ok (.iload_n 2, 1) := by decide +kernel
theorem dX9_leastErased_12 : decode cX9_leastErased 12 = .ok (.invokevirtual 99, 3) := by decide +kernel
theorem dX9_leastErased_15 : decode cX9_leastErased 15 = .ok (.ifCond .ne 35, 3) := by decide +kernel
theorem dX9_leastErased_18 : decode cX9_leastErased 18 = .ok (.iload_n 1, 1) := by decide +kernel
theorem dX9_leastErased_19 : decode cX9_leastErased 19 = .ok (.iconst (-1), 1) := by decide +kernel
theorem dX9_leastErased_20 : decode cX9_leastErased 20 = .ok (.if_icmp .eq 26, 3) := by decide +kernel
theorem dX9_leastErased_23 : decode cX9_leastErased 23 = .ok (.aload_n 0, 1) := by decide +kernel
theorem dX9_leastErased_24 : decode cX9_leastErased 24 = .ok (.getfield 7, 3) := by decide +kernel
theorem dX9_leastErased_27 : decode cX9_leastErased 27 = .ok (.sipush 544, 3) := by decide +kernel
theorem dX9_leastErased_30 : decode cX9_leastErased 30 = .ok (.iload_n 2, 1) := by decide +kernel
theorem dX9_leastErased_31 : decode cX9_leastErased 31 = .ok (.iadd, 1) := by decide +kernel
theorem dX9_leastErased_32 : decode cX9_leastErased 32 = .ok (.iaload, 1) := by decide +kernel
theorem dX9_leastErased_33 : decode cX9_leastErased 33 = .ok (.aload_n 0, 1) := by decide +kernel
theorem dX9_leastErased_34 : decode cX9_leastErased 34 = .ok (.getfield 7, 3) := by decide +kernel
theorem dX9_leastErased_37 : decode cX9_leastErased 37 = .ok (.sipush 544, 3) := by decide +kernel
theorem dX9_leastErased_40 : decode cX9_leastErased 40 = .ok (.iload_n 1, 1) := by decide +kernel
theorem dX9_leastErased_41 : decode cX9_leastErased 41 = .ok (.iadd, 1) := by decide +kernel
theorem dX9_leastErased_42 : decode cX9_leastErased 42 = .ok (.iaload, 1) := by decide +kernel
theorem dX9_leastErased_43 : decode cX9_leastErased 43 = .ok (.if_icmp .ge 7, 3) := by decide +kernel
theorem dX9_leastErased_46 : decode cX9_leastErased 46 = .ok (.iload_n 2, 1) := by decide +kernel
theorem dX9_leastErased_47 : decode cX9_leastErased 47 = .ok (.goto 4, 3) := by decide +kernel
theorem dX9_leastErased_50 : decode cX9_leastErased 50 = .ok (.iload_n 1, 1) := by decide +kernel
theorem dX9_leastErased_51 : decode cX9_leastErased 51 = .ok (.istore_n 1, 1) := by decide +kernel
theorem dX9_leastErased_52 : decode cX9_leastErased 52 = .ok (.iinc 2 1, 3) := by decide +kernel
theorem dX9_leastErased_55 : decode cX9_leastErased 55 = .ok (.goto (-51), 3) := by decide +kernel
theorem dX9_leastErased_58 : decode cX9_leastErased 58 = .ok (.iload_n 1, 1) := by decide +kernel
theorem dX9_leastErased_59 : decode cX9_leastErased 59 = .ok (.ireturn, 1) := by decide +kernel
theorem dX9_leastWorn_0 : decode cX9_leastWorn 0 = .ok (.aload_n 0, 1) := by decide +kernel
theorem dX9_leastWorn_1 : decode cX9_leastWorn 1 = .ok (.iconst 0, 1) := by decide +kernel
theorem dX9_leastWorn_2 : decode cX9_leastWorn 2 = .ok (.putfield 31, 3) := by decide +kernel
theorem dX9_leastWorn_5 : decode cX9_leastWorn 5 = .ok (.aload_n 0, 1) := by decide +kernel
theorem dX9_leastWorn_6 : decode cX9_leastWorn 6 = .ok (.invokevirtual 283, 3) := by decide +kernel
theorem dX9_leastWorn_9 : decode cX9_leastWorn 9 = .ok (.ireturn, 1) := by decide +kernel
theorem dX9_mostHeld_0 : decode cX9_mostHeld 0 = .ok (.iconst 0, 1) := by decide +kernel
theorem dX9_mostHeld_1 : decode cX9_mostHeld 1 = .ok (.istore_n 1, 1) := by decide +kernel
theorem dX9_mostHeld_2 : decode cX9_mostHeld 2 = .ok (.iload_n 1, 1) := by decide +kernel
theorem dX9_mostHeld_3 : decode cX9_mostHeld 3 = .ok (.sipush 256, 3) := by decide +kernel
theorem dX9_mostHeld_6 : decode cX9_mostHeld 6 = .ok (.if_icmp .ge 16, 3) := by decide +kernel
theorem dX9_mostHeld_9 : decode cX9_mostHeld 9 = .ok (.aload_n 0, 1) := by decide +kernel
theorem dX9_mostHeld_10 : decode cX9_mostHeld 10 = .ok (.getfield 28, 3) := by decide +kernel
theorem dX9_mostHeld_13 : decode cX9_mostHeld 13 = .ok (.iload_n 1, 1) := by decide +kernel
theorem dX9_mostHeld_14 : decode cX9_mostHeld 14 = .ok (.iconst 0, 1) := by decide +kernel
theorem dX9_mostHeld_15 : decode cX9_mostHeld 15 = .ok (.iastore, 1) := by decide +kernel
theorem dX9_mostHeld_16 : decode cX9_mostHeld 16 = .ok (.iinc 1 1, 3) := by decide +kernel
theorem dX9_mostHeld_19 : decode cX9_mostHeld 19 = .ok (.goto (-17), 3) := by decide +kernel
theorem dX9_mostHeld_22 : decode cX9_mostHeld 22 = .ok (.iconst 0, 1) := by decide +kernel
theorem dX9_mostHeld_23 : decode cX9_mostHeld 23 = .ok (.istore_n 1, 1) := by decide +kernel
theorem dX9_mostHeld_24 : decode cX9_mostHeld 24 = .ok (.iload_n 1, 1) := by decide +kernel
theorem dX9_mostHeld_25 : decode cX9_mostHeld 25 = .ok (.sipush 256, 3) := by decide +kernel
theorem dX9_mostHeld_28 : decode cX9_mostHeld 28 = .ok (.if_icmp .ge 24, 3) := by decide +kernel
theorem dX9_mostHeld_31 : decode cX9_mostHeld 31 = .ok (.aload_n 0, 1) := by decide +kernel
theorem dX9_mostHeld_32 : decode cX9_mostHeld 32 = .ok (.getfield 28, 3) := by decide +kernel
theorem dX9_mostHeld_35 : decode cX9_mostHeld 35 = .ok (.aload_n 0, 1) := by decide +kernel
theorem dX9_mostHeld_36 : decode cX9_mostHeld 36 = .ok (.getfield 7, 3) := by decide +kernel
theorem dX9_mostHeld_39 : decode cX9_mostHeld 39 = .ok (.iload_n 1, 1) := by decide +kernel
theorem dX9_mostHeld_40 : decode cX9_mostHeld 40 = .ok (.iaload, 1) := by decide +kernel
theorem dX9_mostHeld_41 : decode cX9_mostHeld 41 = .ok (.dup2, 1) := by decide +kernel
theorem dX9_mostHeld_42 : decode cX9_mostHeld 42 = .ok (.iaload, 1) := by decide +kernel
theorem dX9_mostHeld_43 : decode cX9_mostHeld 43 = .ok (.iconst 1, 1) := by decide +kernel
theorem dX9_mostHeld_44 : decode cX9_mostHeld 44 = .ok (.iadd, 1) := by decide +kernel
theorem dX9_mostHeld_45 : decode cX9_mostHeld 45 = .ok (.iastore, 1) := by decide +kernel
theorem dX9_mostHeld_46 : decode cX9_mostHeld 46 = .ok (.iinc 1 1, 3) := by decide +kernel
theorem dX9_mostHeld_49 : decode cX9_mostHeld 49 = .ok (.goto (-25), 3) := by decide +kernel
theorem dX9_mostHeld_52 : decode cX9_mostHeld 52 = .ok (.iconst 0, 1) := by decide +kernel
theorem dX9_mostHeld_53 : decode cX9_mostHeld 53 = .ok (.istore_n 1, 1) := by decide +kernel
theorem dX9_mostHeld_54 : decode cX9_mostHeld 54 = .ok (.iconst 1, 1) := by decide +kernel
theorem dX9_mostHeld_55 : decode cX9_mostHeld 55 = .ok (.istore_n 2, 1) := by decide +kernel
theorem dX9_mostHeld_56 : decode cX9_mostHeld 56 = .ok (.iload_n 2, 1) := by decide +kernel
theorem dX9_mostHeld_57 : decode cX9_mostHeld 57 = .ok (.sipush 256, 3) := by decide +kernel
theorem dX9_mostHeld_60 : decode cX9_mostHeld 60 = .ok (.if_icmp .ge 30, 3) := by decide +kernel
theorem dX9_mostHeld_63 : decode cX9_mostHeld 63 = .ok (.aload_n 0, 1) := by decide +kernel
theorem dX9_mostHeld_64 : decode cX9_mostHeld 64 = .ok (.getfield 28, 3) := by decide +kernel
theorem dX9_mostHeld_67 : decode cX9_mostHeld 67 = .ok (.iload_n 2, 1) := by decide +kernel
theorem dX9_mostHeld_68 : decode cX9_mostHeld 68 = .ok (.iaload, 1) := by decide +kernel
theorem dX9_mostHeld_69 : decode cX9_mostHeld 69 = .ok (.aload_n 0, 1) := by decide +kernel
theorem dX9_mostHeld_70 : decode cX9_mostHeld 70 = .ok (.getfield 28, 3) := by decide +kernel
theorem dX9_mostHeld_73 : decode cX9_mostHeld 73 = .ok (.iload_n 1, 1) := by decide +kernel
theorem dX9_mostHeld_74 : decode cX9_mostHeld 74 = .ok (.iaload, 1) := by decide +kernel
theorem dX9_mostHeld_75 : decode cX9_mostHeld 75 = .ok (.if_icmp .le 7, 3) := by decide +kernel
theorem dX9_mostHeld_78 : decode cX9_mostHeld 78 = .ok (.iload_n 2, 1) := by decide +kernel
theorem dX9_mostHeld_79 : decode cX9_mostHeld 79 = .ok (.goto 4, 3) := by decide +kernel
theorem dX9_mostHeld_82 : decode cX9_mostHeld 82 = .ok (.iload_n 1, 1) := by decide +kernel
theorem dX9_mostHeld_83 : decode cX9_mostHeld 83 = .ok (.istore_n 1, 1) := by decide +kernel
theorem dX9_mostHeld_84 : decode cX9_mostHeld 84 = .ok (.iinc 2 1, 3) := by decide +kernel
theorem dX9_mostHeld_87 : decode cX9_mostHeld 87 = .ok (.goto (-31), 3) := by decide +kernel
theorem dX9_mostHeld_90 : decode cX9_mostHeld 90 = .ok (.iload_n 1, 1) := by decide +kernel
theorem dX9_mostHeld_91 : decode cX9_mostHeld 91 = .ok (.ireturn, 1) := by decide +kernel
theorem dX9_commonest_0 : decode cX9_commonest 0 = .ok (.aload_n 0, 1) := by decide +kernel
theorem dX9_commonest_1 : decode cX9_commonest 1 = .ok (.iconst 0, 1) := by decide +kernel
theorem dX9_commonest_2 : decode cX9_commonest 2 = .ok (.putfield 31, 3) := by decide +kernel
theorem dX9_commonest_5 : decode cX9_commonest 5 = .ok (.aload_n 0, 1) := by decide +kernel
theorem dX9_commonest_6 : decode cX9_commonest 6 = .ok (.invokevirtual 286, 3) := by decide +kernel
theorem dX9_commonest_9 : decode cX9_commonest 9 = .ok (.ireturn, 1) := by decide +kernel
theorem dX9_share_0 : decode cX9_share 0 = .ok (.aload_n 0, 1) := by decide +kernel
theorem dX9_share_1 : decode cX9_share 1 = .ok (.iconst 0, 1) := by decide +kernel
theorem dX9_share_2 : decode cX9_share 2 = .ok (.sipush 256, 3) := by decide +kernel
theorem dX9_share_5 : decode cX9_share 5 = .ok (.invokevirtual 241, 3) := by decide +kernel
theorem dX9_share_8 : decode cX9_share 8 = .ok (.i2d, 1) := by decide +kernel
theorem dX9_share_9 : decode cX9_share 9 = .ok (.ldc2_w 289, 3) := by decide +kernel
theorem dX9_share_12 : decode cX9_share 12 = .ok (.ddiv, 1) := by decide +kernel
theorem dX9_share_13 : decode cX9_share 13 = .ok (.dreturn, 1) := by decide +kernel
theorem dX9_onesShare_0 : decode cX9_onesShare 0 = .ok (.aload_n 0, 1) := by decide +kernel
theorem dX9_onesShare_1 : decode cX9_onesShare 1 = .ok (.iconst 0, 1) := by decide +kernel
theorem dX9_onesShare_2 : decode cX9_onesShare 2 = .ok (.putfield 31, 3) := by decide +kernel
theorem dX9_onesShare_5 : decode cX9_onesShare 5 = .ok (.aload_n 0, 1) := by decide +kernel
theorem dX9_onesShare_6 : decode cX9_onesShare 6 = .ok (.invokevirtual 291, 3) := by decide +kernel
theorem dX9_onesShare_9 : decode cX9_onesShare 9 = .ok (.dreturn, 1) := by decide +kernel
theorem dX9_wear_0 : decode cX9_wear 0 = .ok (.aload_n 0, 1) := by decide +kernel
theorem dX9_wear_1 : decode cX9_wear 1 = .ok (.invokevirtual 262, 3) := by decide +kernel
theorem dX9_wear_4 : decode cX9_wear 4 = .ok (.i2f, 1) := by decide +kernel
theorem dX9_wear_5 : decode cX9_wear 5 = .ok (.ldc_w 295, 3) := by decide +kernel
theorem dX9_wear_8 : decode cX9_wear 8 = .ok (.fdiv, 1) := by decide +kernel
theorem dX9_wear_9 : decode cX9_wear 9 = .ok (.freturn, 1) := by decide +kernel
theorem dX9_meanWear_0 : decode cX9_meanWear 0 = .ok (.aload_n 0, 1) := by decide +kernel
theorem dX9_meanWear_1 : decode cX9_meanWear 1 = .ok (.iconst 0, 1) := by decide +kernel
theorem dX9_meanWear_2 : decode cX9_meanWear 2 = .ok (.putfield 31, 3) := by decide +kernel
theorem dX9_meanWear_5 : decode cX9_meanWear 5 = .ok (.aload_n 0, 1) := by decide +kernel
theorem dX9_meanWear_6 : decode cX9_meanWear 6 = .ok (.invokevirtual 296, 3) := by decide +kernel
theorem dX9_meanWear_9 : decode cX9_meanWear 9 = .ok (.freturn, 1) := by decide +kernel
theorem dX9_digest_0 : decode cX9_digest 0 = .ok (.aload_n 0, 1) := by decide +kernel
theorem dX9_digest_1 : decode cX9_digest 1 = .ok (.iconst 0, 1) := by decide +kernel
theorem dX9_digest_2 : decode cX9_digest 2 = .ok (.putfield 31, 3) := by decide +kernel
theorem dX9_digest_5 : decode cX9_digest 5 = .ok (.ldc2_w 300, 3) := by decide +kernel
theorem dX9_digest_8 : decode cX9_digest 8 = .ok (.lstore_n 1, 1) := by decide +kernel
theorem dX9_digest_9 : decode cX9_digest 9 = .ok (.iconst 0, 1) := by decide +kernel
theorem dX9_digest_10 : decode cX9_digest 10 = .ok (.istore_n 3, 1) := by decide +kernel
theorem dX9_digest_11 : decode cX9_digest 11 = .ok (.iload_n 3, 1) := by decide +kernel
theorem dX9_digest_12 : decode cX9_digest 12 = .ok (.bipush 16, 2) := by decide +kernel
theorem dX9_digest_14 : decode cX9_digest 14 = .ok (.if_icmp .ge 22, 3) := by decide +kernel
theorem dX9_digest_17 : decode cX9_digest 17 = .ok (.ldc2_w 302, 3) := by decide +kernel
theorem dX9_digest_20 : decode cX9_digest 20 = .ok (.lload_n 1, 1) := by decide +kernel
theorem dX9_digest_21 : decode cX9_digest 21 = .ok (.lmul, 1) := by decide +kernel
theorem dX9_digest_22 : decode cX9_digest 22 = .ok (.aload_n 0, 1) := by decide +kernel
theorem dX9_digest_23 : decode cX9_digest 23 = .ok (.iload_n 3, 1) := by decide +kernel
theorem dX9_digest_24 : decode cX9_digest 24 = .ok (.invokevirtual 268, 3) := by decide +kernel
theorem dX9_digest_27 : decode cX9_digest 27 = .ok (.i2l, 1) := by decide +kernel
theorem dX9_digest_28 : decode cX9_digest 28 = .ok (.ladd, 1) := by decide +kernel
theorem dX9_digest_29 : decode cX9_digest 29 = .ok (.lstore_n 1, 1) := by decide +kernel
theorem dX9_digest_30 : decode cX9_digest 30 = .ok (.iinc 3 1, 3) := by decide +kernel
theorem dX9_digest_33 : decode cX9_digest 33 = .ok (.goto (-22), 3) := by decide +kernel
theorem dX9_digest_36 : decode cX9_digest 36 = .ok (.iconst 0, 1) := by decide +kernel
theorem dX9_digest_37 : decode cX9_digest 37 = .ok (.istore_n 3, 1) := by decide +kernel
theorem dX9_digest_38 : decode cX9_digest 38 = .ok (.iload_n 3, 1) := by decide +kernel
theorem dX9_digest_39 : decode cX9_digest 39 = .ok (.iconst 5, 1) := by decide +kernel
theorem dX9_digest_40 : decode cX9_digest 40 = .ok (.if_icmp .ge 27, 3) := by decide +kernel
theorem dX9_digest_43 : decode cX9_digest 43 = .ok (.ldc2_w 302, 3) := by decide +kernel
theorem dX9_digest_46 : decode cX9_digest 46 = .ok (.lload_n 1, 1) := by decide +kernel
theorem dX9_digest_47 : decode cX9_digest 47 = .ok (.lmul, 1) := by decide +kernel
theorem dX9_digest_48 : decode cX9_digest 48 = .ok (.aload_n 0, 1) := by decide +kernel
theorem dX9_digest_49 : decode cX9_digest 49 = .ok (.getfield 7, 3) := by decide +kernel
theorem dX9_digest_52 : decode cX9_digest 52 = .ok (.sipush 556, 3) := by decide +kernel
theorem dX9_digest_55 : decode cX9_digest 55 = .ok (.iload_n 3, 1) := by decide +kernel
theorem dX9_digest_56 : decode cX9_digest 56 = .ok (.iadd, 1) := by decide +kernel
theorem dX9_digest_57 : decode cX9_digest 57 = .ok (.iaload, 1) := by decide +kernel
theorem dX9_digest_58 : decode cX9_digest 58 = .ok (.i2l, 1) := by decide +kernel
theorem dX9_digest_59 : decode cX9_digest 59 = .ok (.ladd, 1) := by decide +kernel
theorem dX9_digest_60 : decode cX9_digest 60 = .ok (.lstore_n 1, 1) := by decide +kernel
theorem dX9_digest_61 : decode cX9_digest 61 = .ok (.iinc 3 1, 3) := by decide +kernel
theorem dX9_digest_64 : decode cX9_digest 64 = .ok (.goto (-26), 3) := by decide +kernel
theorem dX9_digest_67 : decode cX9_digest 67 = .ok (.iconst 0, 1) := by decide +kernel
theorem dX9_digest_68 : decode cX9_digest 68 = .ok (.istore_n 3, 1) := by decide +kernel
theorem dX9_digest_69 : decode cX9_digest 69 = .ok (.iload_n 3, 1) := by decide +kernel
theorem dX9_digest_70 : decode cX9_digest 70 = .ok (.sipush 256, 3) := by decide +kernel
theorem dX9_digest_73 : decode cX9_digest 73 = .ok (.if_icmp .ge 39, 3) := by decide +kernel
theorem dX9_digest_76 : decode cX9_digest 76 = .ok (.ldc2_w 302, 3) := by decide +kernel
theorem dX9_digest_79 : decode cX9_digest 79 = .ok (.ldc2_w 302, 3) := by decide +kernel
theorem dX9_digest_82 : decode cX9_digest 82 = .ok (.lload_n 1, 1) := by decide +kernel
theorem dX9_digest_83 : decode cX9_digest 83 = .ok (.lmul, 1) := by decide +kernel
theorem dX9_digest_84 : decode cX9_digest 84 = .ok (.aload_n 0, 1) := by decide +kernel
theorem dX9_digest_85 : decode cX9_digest 85 = .ok (.getfield 7, 3) := by decide +kernel
theorem dX9_digest_88 : decode cX9_digest 88 = .ok (.iload_n 3, 1) := by decide +kernel
theorem dX9_digest_89 : decode cX9_digest 89 = .ok (.iaload, 1) := by decide +kernel
theorem dX9_digest_90 : decode cX9_digest 90 = .ok (.i2l, 1) := by decide +kernel
theorem dX9_digest_91 : decode cX9_digest 91 = .ok (.ladd, 1) := by decide +kernel
theorem dX9_digest_92 : decode cX9_digest 92 = .ok (.lmul, 1) := by decide +kernel
theorem dX9_digest_93 : decode cX9_digest 93 = .ok (.aload_n 0, 1) := by decide +kernel
theorem dX9_digest_94 : decode cX9_digest 94 = .ok (.getfield 7, 3) := by decide +kernel
theorem dX9_digest_97 : decode cX9_digest 97 = .ok (.sipush 256, 3) := by decide +kernel
theorem dX9_digest_100 : decode cX9_digest 100 = .ok (.iload_n 3, 1) := by decide +kernel
theorem dX9_digest_101 : decode cX9_digest 101 = .ok (.iadd, 1) := by decide +kernel
theorem dX9_digest_102 : decode cX9_digest 102 = .ok (.iaload, 1) := by decide +kernel
theorem dX9_digest_103 : decode cX9_digest 103 = .ok (.i2l, 1) := by decide +kernel
theorem dX9_digest_104 : decode cX9_digest 104 = .ok (.ladd, 1) := by decide +kernel
theorem dX9_digest_105 : decode cX9_digest 105 = .ok (.lstore_n 1, 1) := by decide +kernel
theorem dX9_digest_106 : decode cX9_digest 106 = .ok (.iinc 3 1, 3) := by decide +kernel
theorem dX9_digest_109 : decode cX9_digest 109 = .ok (.goto (-40), 3) := by decide +kernel
theorem dX9_digest_112 : decode cX9_digest 112 = .ok (.iconst 0, 1) := by decide +kernel
theorem dX9_digest_113 : decode cX9_digest 113 = .ok (.istore_n 3, 1) := by decide +kernel
theorem dX9_digest_114 : decode cX9_digest 114 = .ok (.iload_n 3, 1) := by decide +kernel
theorem dX9_digest_115 : decode cX9_digest 115 = .ok (.bipush 56, 2) := by decide +kernel
theorem dX9_digest_117 : decode cX9_digest 117 = .ok (.if_icmp .ge 29, 3) := by decide +kernel
theorem dX9_digest_120 : decode cX9_digest 120 = .ok (.ldc2_w 302, 3) := by decide +kernel
theorem dX9_digest_123 : decode cX9_digest 123 = .ok (.lload_n 1, 1) := by decide +kernel
theorem dX9_digest_124 : decode cX9_digest 124 = .ok (.lmul, 1) := by decide +kernel
theorem dX9_digest_125 : decode cX9_digest 125 = .ok (.aload_n 0, 1) := by decide +kernel
theorem dX9_digest_126 : decode cX9_digest 126 = .ok (.iload_n 3, 1) := by decide +kernel
theorem dX9_digest_127 : decode cX9_digest 127 = .ok (.bipush 7, 2) := by decide +kernel
theorem dX9_digest_129 : decode cX9_digest 129 = .ok (.idiv, 1) := by decide +kernel
theorem dX9_digest_130 : decode cX9_digest 130 = .ok (.iload_n 3, 1) := by decide +kernel
theorem dX9_digest_131 : decode cX9_digest 131 = .ok (.bipush 7, 2) := by decide +kernel
theorem dX9_digest_133 : decode cX9_digest 133 = .ok (.irem, 1) := by decide +kernel
theorem dX9_digest_134 : decode cX9_digest 134 = .ok (.invokevirtual 253, 3) := by decide +kernel
theorem dX9_digest_137 : decode cX9_digest 137 = .ok (.i2l, 1) := by decide +kernel
theorem dX9_digest_138 : decode cX9_digest 138 = .ok (.ladd, 1) := by decide +kernel
theorem dX9_digest_139 : decode cX9_digest 139 = .ok (.lstore_n 1, 1) := by decide +kernel
theorem dX9_digest_140 : decode cX9_digest 140 = .ok (.iinc 3 1, 3) := by decide +kernel
theorem dX9_digest_143 : decode cX9_digest 143 = .ok (.goto (-29), 3) := by decide +kernel
theorem dX9_digest_146 : decode cX9_digest 146 = .ok (.iconst 0, 1) := by decide +kernel
theorem dX9_digest_147 : decode cX9_digest 147 = .ok (.istore_n 3, 1) := by decide +kernel
theorem dX9_digest_148 : decode cX9_digest 148 = .ok (.iload_n 3, 1) := by decide +kernel
theorem dX9_digest_149 : decode cX9_digest 149 = .ok (.bipush 10, 2) := by decide +kernel
theorem dX9_digest_151 : decode cX9_digest 151 = .ok (.if_icmp .ge 27, 3) := by decide +kernel
theorem dX9_digest_154 : decode cX9_digest 154 = .ok (.ldc2_w 302, 3) := by decide +kernel
theorem dX9_digest_157 : decode cX9_digest 157 = .ok (.lload_n 1, 1) := by decide +kernel
theorem dX9_digest_158 : decode cX9_digest 158 = .ok (.lmul, 1) := by decide +kernel
theorem dX9_digest_159 : decode cX9_digest 159 = .ok (.aload_n 0, 1) := by decide +kernel
theorem dX9_digest_160 : decode cX9_digest 160 = .ok (.iload_n 3, 1) := by decide +kernel
theorem dX9_digest_161 : decode cX9_digest 161 = .ok (.iconst 5, 1) := by decide +kernel
theorem dX9_digest_162 : decode cX9_digest 162 = .ok (.idiv, 1) := by decide +kernel
theorem dX9_digest_163 : decode cX9_digest 163 = .ok (.iload_n 3, 1) := by decide +kernel
theorem dX9_digest_164 : decode cX9_digest 164 = .ok (.iconst 5, 1) := by decide +kernel
theorem dX9_digest_165 : decode cX9_digest 165 = .ok (.irem, 1) := by decide +kernel
theorem dX9_digest_166 : decode cX9_digest 166 = .ok (.invokevirtual 256, 3) := by decide +kernel
theorem dX9_digest_169 : decode cX9_digest 169 = .ok (.i2l, 1) := by decide +kernel
theorem dX9_digest_170 : decode cX9_digest 170 = .ok (.ladd, 1) := by decide +kernel
theorem dX9_digest_171 : decode cX9_digest 171 = .ok (.lstore_n 1, 1) := by decide +kernel
theorem dX9_digest_172 : decode cX9_digest 172 = .ok (.iinc 3 1, 3) := by decide +kernel
theorem dX9_digest_175 : decode cX9_digest 175 = .ok (.goto (-27), 3) := by decide +kernel
theorem dX9_digest_178 : decode cX9_digest 178 = .ok (.iconst 0, 1) := by decide +kernel
theorem dX9_digest_179 : decode cX9_digest 179 = .ok (.istore_n 3, 1) := by decide +kernel
theorem dX9_digest_180 : decode cX9_digest 180 = .ok (.iload_n 3, 1) := by decide +kernel
theorem dX9_digest_181 : decode cX9_digest 181 = .ok (.bipush 6, 2) := by decide +kernel
theorem dX9_digest_183 : decode cX9_digest 183 = .ok (.aload_n 0, 1) := by decide +kernel
theorem dX9_digest_184 : decode cX9_digest 184 = .ok (.getfield 7, 3) := by decide +kernel
theorem dX9_digest_187 : decode cX9_digest 187 = .ok (.sipush 580, 3) := by decide +kernel
theorem dX9_digest_190 : decode cX9_digest 190 = .ok (.iaload, 1) := by decide +kernel
theorem dX9_digest_191 : decode cX9_digest 191 = .ok (.imul, 1) := by decide +kernel
theorem dX9_digest_192 : decode cX9_digest 192 = .ok (.if_icmp .ge 29, 3) := by decide +kernel
theorem dX9_digest_195 : decode cX9_digest 195 = .ok (.ldc2_w 302, 3) := by decide +kernel
theorem dX9_digest_198 : decode cX9_digest 198 = .ok (.lload_n 1, 1) := by decide +kernel
theorem dX9_digest_199 : decode cX9_digest 199 = .ok (.lmul, 1) := by decide +kernel
theorem dX9_digest_200 : decode cX9_digest 200 = .ok (.aload_n 0, 1) := by decide +kernel
theorem dX9_digest_201 : decode cX9_digest 201 = .ok (.iload_n 3, 1) := by decide +kernel
theorem dX9_digest_202 : decode cX9_digest 202 = .ok (.bipush 6, 2) := by decide +kernel
theorem dX9_digest_204 : decode cX9_digest 204 = .ok (.idiv, 1) := by decide +kernel
theorem dX9_digest_205 : decode cX9_digest 205 = .ok (.iload_n 3, 1) := by decide +kernel
theorem dX9_digest_206 : decode cX9_digest 206 = .ok (.bipush 6, 2) := by decide +kernel
theorem dX9_digest_208 : decode cX9_digest 208 = .ok (.irem, 1) := by decide +kernel
theorem dX9_digest_209 : decode cX9_digest 209 = .ok (.invokevirtual 259, 3) := by decide +kernel
theorem dX9_digest_212 : decode cX9_digest 212 = .ok (.i2l, 1) := by decide +kernel
theorem dX9_digest_213 : decode cX9_digest 213 = .ok (.ladd, 1) := by decide +kernel
theorem dX9_digest_214 : decode cX9_digest 214 = .ok (.lstore_n 1, 1) := by decide +kernel
theorem dX9_digest_215 : decode cX9_digest 215 = .ok (.iinc 3 1, 3) := by decide +kernel
theorem dX9_digest_218 : decode cX9_digest 218 = .ok (.goto (-38), 3) := by decide +kernel
theorem dX9_digest_221 : decode cX9_digest 221 = .ok (.iconst 0, 1) := by decide +kernel
theorem dX9_digest_222 : decode cX9_digest 222 = .ok (.istore_n 3, 1) := by decide +kernel
theorem dX9_digest_223 : decode cX9_digest 223 = .ok (.iload_n 3, 1) := by decide +kernel
theorem dX9_digest_224 : decode cX9_digest 224 = .ok (.aload_n 0, 1) := by decide +kernel
theorem dX9_digest_225 : decode cX9_digest 225 = .ok (.getfield 7, 3) := by decide +kernel
theorem dX9_digest_228 : decode cX9_digest 228 = .ok (.sipush 567, 3) := by decide +kernel
theorem dX9_digest_231 : decode cX9_digest 231 = .ok (.iaload, 1) := by decide +kernel
theorem dX9_digest_232 : decode cX9_digest 232 = .ok (.if_icmp .ge 27, 3) := by decide +kernel
theorem dX9_digest_235 : decode cX9_digest 235 = .ok (.ldc2_w 302, 3) := by decide +kernel
theorem dX9_digest_238 : decode cX9_digest 238 = .ok (.lload_n 1, 1) := by decide +kernel
theorem dX9_digest_239 : decode cX9_digest 239 = .ok (.lmul, 1) := by decide +kernel
theorem dX9_digest_240 : decode cX9_digest 240 = .ok (.aload_n 0, 1) := by decide +kernel
theorem dX9_digest_241 : decode cX9_digest 241 = .ok (.getfield 7, 3) := by decide +kernel
theorem dX9_digest_244 : decode cX9_digest 244 = .ok (.sipush 568, 3) := by decide +kernel
theorem dX9_digest_247 : decode cX9_digest 247 = .ok (.iload_n 3, 1) := by decide +kernel
theorem dX9_digest_248 : decode cX9_digest 248 = .ok (.iadd, 1) := by decide +kernel
theorem dX9_digest_249 : decode cX9_digest 249 = .ok (.iaload, 1) := by decide +kernel
theorem dX9_digest_250 : decode cX9_digest 250 = .ok (.i2l, 1) := by decide +kernel
theorem dX9_digest_251 : decode cX9_digest 251 = .ok (.ladd, 1) := by decide +kernel
theorem dX9_digest_252 : decode cX9_digest 252 = .ok (.lstore_n 1, 1) := by decide +kernel
theorem dX9_digest_253 : decode cX9_digest 253 = .ok (.iinc 3 1, 3) := by decide +kernel
theorem dX9_digest_256 : decode cX9_digest 256 = .ok (.goto (-33), 3) := by decide +kernel
theorem dX9_digest_259 : decode cX9_digest 259 = .ok (.iconst 1, 1) := by decide +kernel
theorem dX9_digest_260 : decode cX9_digest 260 = .ok (.istore_n 3, 1) := by decide +kernel
theorem dX9_digest_261 : decode cX9_digest 261 = .ok (.iload_n 3, 1) := by decide +kernel
theorem dX9_digest_262 : decode cX9_digest 262 = .ok (.iconst 4, 1) := by decide +kernel
theorem dX9_digest_263 : decode cX9_digest 263 = .ok (.if_icmp .ge 23, 3) := by decide +kernel
theorem dX9_digest_266 : decode cX9_digest 266 = .ok (.ldc2_w 302, 3) := by decide +kernel
theorem dX9_digest_269 : decode cX9_digest 269 = .ok (.lload_n 1, 1) := by decide +kernel
theorem dX9_digest_270 : decode cX9_digest 270 = .ok (.lmul, 1) := by decide +kernel
theorem dX9_digest_271 : decode cX9_digest 271 = .ok (.aload_n 0, 1) := by decide +kernel
theorem dX9_digest_272 : decode cX9_digest 272 = .ok (.iload_n 3, 1) := by decide +kernel
theorem dX9_digest_273 : decode cX9_digest 273 = .ok (.iconst 0, 1) := by decide +kernel
theorem dX9_digest_274 : decode cX9_digest 274 = .ok (.invokevirtual 154, 3) := by decide +kernel
theorem dX9_digest_277 : decode cX9_digest 277 = .ok (.i2l, 1) := by decide +kernel
theorem dX9_digest_278 : decode cX9_digest 278 = .ok (.ladd, 1) := by decide +kernel
theorem dX9_digest_279 : decode cX9_digest 279 = .ok (.lstore_n 1, 1) := by decide +kernel
theorem dX9_digest_280 : decode cX9_digest 280 = .ok (.iinc 3 1, 3) := by decide +kernel
theorem dX9_digest_283 : decode cX9_digest 283 = .ok (.goto (-22), 3) := by decide +kernel
theorem dX9_digest_286 : decode cX9_digest 286 = .ok (.ldc2_w 302, 3) := by decide +kernel
theorem dX9_digest_289 : decode cX9_digest 289 = .ok (.ldc2_w 302, 3) := by decide +kernel
theorem dX9_digest_292 : decode cX9_digest 292 = .ok (.ldc2_w 302, 3) := by decide +kernel
theorem dX9_digest_295 : decode cX9_digest 295 = .ok (.lload_n 1, 1) := by decide +kernel
theorem dX9_digest_296 : decode cX9_digest 296 = .ok (.lmul, 1) := by decide +kernel
theorem dX9_digest_297 : decode cX9_digest 297 = .ok (.aload_n 0, 1) := by decide +kernel
theorem dX9_digest_298 : decode cX9_digest 298 = .ok (.iconst 0, 1) := by decide +kernel
theorem dX9_digest_299 : decode cX9_digest 299 = .ok (.invokevirtual 271, 3) := by decide +kernel
theorem dX9_digest_302 : decode cX9_digest 302 = .ok (.i2l, 1) := by decide +kernel
theorem dX9_digest_303 : decode cX9_digest 303 = .ok (.ladd, 1) := by decide +kernel
theorem dX9_digest_304 : decode cX9_digest 304 = .ok (.lmul, 1) := by decide +kernel
theorem dX9_digest_305 : decode cX9_digest 305 = .ok (.aload_n 0, 1) := by decide +kernel
theorem dX9_digest_306 : decode cX9_digest 306 = .ok (.invokevirtual 274, 3) := by decide +kernel
theorem dX9_digest_309 : decode cX9_digest 309 = .ok (.i2l, 1) := by decide +kernel
theorem dX9_digest_310 : decode cX9_digest 310 = .ok (.ladd, 1) := by decide +kernel
theorem dX9_digest_311 : decode cX9_digest 311 = .ok (.lmul, 1) := by decide +kernel
theorem dX9_digest_312 : decode cX9_digest 312 = .ok (.aload_n 0, 1) := by decide +kernel
theorem dX9_digest_313 : decode cX9_digest 313 = .ok (.invokevirtual 280, 3) := by decide +kernel
theorem dX9_digest_316 : decode cX9_digest 316 = .ok (.i2l, 1) := by decide +kernel
theorem dX9_digest_317 : decode cX9_digest 317 = .ok (.ladd, 1) := by decide +kernel
theorem dX9_digest_318 : decode cX9_digest 318 = .ok (.lstore_n 1, 1) := by decide +kernel
theorem dX9_digest_319 : decode cX9_digest 319 = .ok (.ldc2_w 302, 3) := by decide +kernel
theorem dX9_digest_322 : decode cX9_digest 322 = .ok (.ldc2_w 302, 3) := by decide +kernel
theorem dX9_digest_325 : decode cX9_digest 325 = .ok (.lload_n 1, 1) := by decide +kernel
theorem dX9_digest_326 : decode cX9_digest 326 = .ok (.lmul, 1) := by decide +kernel
theorem dX9_digest_327 : decode cX9_digest 327 = .ok (.aload_n 0, 1) := by decide +kernel
theorem dX9_digest_328 : decode cX9_digest 328 = .ok (.invokevirtual 283, 3) := by decide +kernel
theorem dX9_digest_331 : decode cX9_digest 331 = .ok (.i2l, 1) := by decide +kernel
theorem dX9_digest_332 : decode cX9_digest 332 = .ok (.ladd, 1) := by decide +kernel
theorem dX9_digest_333 : decode cX9_digest 333 = .ok (.lmul, 1) := by decide +kernel
theorem dX9_digest_334 : decode cX9_digest 334 = .ok (.aload_n 0, 1) := by decide +kernel
theorem dX9_digest_335 : decode cX9_digest 335 = .ok (.invokevirtual 286, 3) := by decide +kernel
theorem dX9_digest_338 : decode cX9_digest 338 = .ok (.i2l, 1) := by decide +kernel
theorem dX9_digest_339 : decode cX9_digest 339 = .ok (.ladd, 1) := by decide +kernel
theorem dX9_digest_340 : decode cX9_digest 340 = .ok (.lstore_n 1, 1) := by decide +kernel
theorem dX9_digest_341 : decode cX9_digest 341 = .ok (.ldc2_w 302, 3) := by decide +kernel
theorem dX9_digest_344 : decode cX9_digest 344 = .ok (.ldc2_w 302, 3) := by decide +kernel
theorem dX9_digest_347 : decode cX9_digest 347 = .ok (.lload_n 1, 1) := by decide +kernel
theorem dX9_digest_348 : decode cX9_digest 348 = .ok (.lmul, 1) := by decide +kernel
theorem dX9_digest_349 : decode cX9_digest 349 = .ok (.aload_n 0, 1) := by decide +kernel
theorem dX9_digest_350 : decode cX9_digest 350 = .ok (.invokevirtual 291, 3) := by decide +kernel
theorem dX9_digest_353 : decode cX9_digest 353 = .ok (.invokestatic 304, 3) := by decide +kernel
theorem dX9_digest_356 : decode cX9_digest 356 = .ok (.ladd, 1) := by decide +kernel
theorem dX9_digest_357 : decode cX9_digest 357 = .ok (.lmul, 1) := by decide +kernel
theorem dX9_digest_358 : decode cX9_digest 358 = .ok (.aload_n 0, 1) := by decide +kernel
theorem dX9_digest_359 : decode cX9_digest 359 = .ok (.invokevirtual 296, 3) := by decide +kernel
theorem dX9_digest_362 : decode cX9_digest 362 = .ok (.invokestatic 310, 3) := by decide +kernel
theorem dX9_digest_365 : decode cX9_digest 365 = .ok (.i2l, 1) := by decide +kernel
theorem dX9_digest_366 : decode cX9_digest 366 = .ok (.ladd, 1) := by decide +kernel
theorem dX9_digest_367 : decode cX9_digest 367 = .ok (.lstore_n 1, 1) := by decide +kernel
theorem dX9_digest_368 : decode cX9_digest 368 = .ok (.ldc2_w 302, 3) := by decide +kernel
theorem dX9_digest_371 : decode cX9_digest 371 = .ok (.ldc2_w 302, 3) := by decide +kernel
theorem dX9_digest_374 : decode cX9_digest 374 = .ok (.lload_n 1, 1) := by decide +kernel
theorem dX9_digest_375 : decode cX9_digest 375 = .ok (.lmul, 1) := by decide +kernel
theorem dX9_digest_376 : decode cX9_digest 376 = .ok (.aload_n 0, 1) := by decide +kernel
theorem dX9_digest_377 : decode cX9_digest 377 = .ok (.getfield 229, 3) := by decide +kernel
theorem dX9_digest_380 : decode cX9_digest 380 = .ok (.ifCond .eq 7, 3) := by decide +kernel
theorem dX9_digest_383 : decode cX9_digest 383 = .ok (.iconst 1, 1) := by decide +kernel
theorem dX9_digest_384 : decode cX9_digest 384 = .ok (.goto 4, 3) := by decide +kernel
theorem dX9_digest_387 : decode cX9_digest 387 = .ok (.iconst 0, 1) := by decide +kernel
theorem dX9_digest_388 : decode cX9_digest 388 = .ok (.i2l, 1) := by decide +kernel
theorem dX9_digest_389 : decode cX9_digest 389 = .ok (.ladd, 1) := by decide +kernel
theorem dX9_digest_390 : decode cX9_digest 390 = .ok (.lmul, 1) := by decide +kernel
theorem dX9_digest_391 : decode cX9_digest 391 = .ok (.aload_n 0, 1) := by decide +kernel
theorem dX9_digest_392 : decode cX9_digest 392 = .ok (.getfield 179, 3) := by decide +kernel
theorem dX9_digest_395 : decode cX9_digest 395 = .ok (.i2l, 1) := by decide +kernel
theorem dX9_digest_396 : decode cX9_digest 396 = .ok (.ladd, 1) := by decide +kernel
theorem dX9_digest_397 : decode cX9_digest 397 = .ok (.lstore_n 1, 1) := by decide +kernel
theorem dX9_digest_398 : decode cX9_digest 398 = .ok (.iconst 0, 1) := by decide +kernel
theorem dX9_digest_399 : decode cX9_digest 399 = .ok (.istore_n 3, 1) := by decide +kernel
theorem dX9_digest_400 : decode cX9_digest 400 = .ok (.iload_n 3, 1) := by decide +kernel
theorem dX9_digest_401 : decode cX9_digest 401 = .ok (.aload_n 0, 1) := by decide +kernel
theorem dX9_digest_402 : decode cX9_digest 402 = .ok (.getfield 179, 3) := by decide +kernel
theorem dX9_digest_405 : decode cX9_digest 405 = .ok (.if_icmp .ge 23, 3) := by decide +kernel
theorem dX9_digest_408 : decode cX9_digest 408 = .ok (.ldc2_w 302, 3) := by decide +kernel
theorem dX9_digest_411 : decode cX9_digest 411 = .ok (.lload_n 1, 1) := by decide +kernel
theorem dX9_digest_412 : decode cX9_digest 412 = .ok (.lmul, 1) := by decide +kernel
theorem dX9_digest_413 : decode cX9_digest 413 = .ok (.aload_n 0, 1) := by decide +kernel
theorem dX9_digest_414 : decode cX9_digest 414 = .ok (.getfield 22, 3) := by decide +kernel
theorem dX9_digest_417 : decode cX9_digest 417 = .ok (.iload_n 3, 1) := by decide +kernel
theorem dX9_digest_418 : decode cX9_digest 418 = .ok (.iaload, 1) := by decide +kernel
theorem dX9_digest_419 : decode cX9_digest 419 = .ok (.i2l, 1) := by decide +kernel
theorem dX9_digest_420 : decode cX9_digest 420 = .ok (.ladd, 1) := by decide +kernel
theorem dX9_digest_421 : decode cX9_digest 421 = .ok (.lstore_n 1, 1) := by decide +kernel
theorem dX9_digest_422 : decode cX9_digest 422 = .ok (.iinc 3 1, 3) := by decide +kernel
theorem dX9_digest_425 : decode cX9_digest 425 = .ok (.goto (-25), 3) := by decide +kernel
theorem dX9_digest_428 : decode cX9_digest 428 = .ok (.lload_n 1, 1) := by decide +kernel
theorem dX9_digest_429 : decode cX9_digest 429 = .ok (.lreturn, 1) := by decide +kernel
