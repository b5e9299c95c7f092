theorem dX8_undo_28 : decode cX8_undo 28 = .ok (.bipush 61, 2) := by decide +kernel
theorem dX8_undo_30 : decode cX8_undo 30 = .ok (.if_icmp .ge 29, 3) := by decide +kernel
theorem dX8_undo_33 : decode cX8_undo 33 = .ok (.aload_n 0, 1) := by decide +kernel
theorem dX8_undo_34 : decode cX8_undo 34 = .ok (.getfield 16, 3) := by decide +kernel
theorem dX8_undo_37 : decode cX8_undo 37 = .ok (.iload_n 1, 1) := by decide +kernel
theorem dX8_undo_38 : decode cX8_undo 38 = .ok (.aload_n 0, 1) := by decide +kernel
theorem dX8_undo_39 : decode cX8_undo 39 = .ok (.getfield 22, 3) := by decide +kernel
theorem dX8_undo_42 : decode cX8_undo 42 = .ok (.bipush 61, 2) := by decide +kernel
theorem dX8_undo_44 : decode cX8_undo 44 = .ok (.aload_n 0, 1) := by decide +kernel
theorem dX8_undo_45 : decode cX8_undo 45 = .ok (.getfield 106, 3) := by decide +kernel
theorem dX8_undo_48 : decode cX8_undo 48 = .ok (.imul, 1) := by decide +kernel
theorem dX8_undo_49 : decode cX8_undo 49 = .ok (.iload_n 1, 1) := by decide +kernel
theorem dX8_undo_50 : decode cX8_undo 50 = .ok (.iadd, 1) := by decide +kernel
theorem dX8_undo_51 : decode cX8_undo 51 = .ok (.iaload, 1) := by decide +kernel
theorem dX8_undo_52 : decode cX8_undo 52 = .ok (.iastore, 1) := by decide +kernel
theorem dX8_undo_53 : decode cX8_undo 53 = .ok (.iinc 1 1, 3) := by decide +kernel
theorem dX8_undo_56 : decode cX8_undo 56 = .ok (.goto (-29), 3) := by decide +kernel
theorem dX8_undo_59 : decode cX8_undo 59 = .ok (.aload_n 0, 1) := by decide +kernel
theorem dX8_undo_60 : decode cX8_undo 60 = .ok (.getfield 106, 3) := by decide +kernel
theorem dX8_undo_63 : decode cX8_undo 63 = .ok (.ireturn, 1) := by decide +kernel
theorem dX8_step_0 : decode cX8_step 0 = .ok (.aload_n 0, 1) := by decide +kernel
theorem dX8_step_1 : decode cX8_step 1 = .ok (.getfield 16, 3) := by decide +kernel
theorem dX8_step_4 : decode cX8_step 4 = .ok (.bipush 13, 2) := by decide +kernel
theorem dX8_step_6 : decode cX8_step 6 = .ok (.iload_n 1, 1) := by decide +kernel
theorem dX8_step_7 : decode cX8_step 7 = .ok (.iadd, 1) := by decide +kernel
theorem dX8_step_8 : decode cX8_step 8 = .ok (.iaload, 1) := by decide +kernel
theorem dX8_step_9 : decode cX8_step 9 = .ok (.istore_n 3, 1) := by decide +kernel
theorem dX8_step_10 : decode cX8_step 10 = .ok (.iload_n 3, 1) := by decide +kernel
theorem dX8_step_11 : decode cX8_step 11 = .ok (.ifCond .ne 7, 3) := by decide +kernel
theorem dX8_step_14 : decode cX8_step 14 = .ok (.iload_n 1, 1) := by decide +kernel
theorem dX8_step_15 : decode cX8_step 15 = .ok (.goto 18, 3) := by decide +kernel
theorem dX8_step_18 : decode cX8_step 18 = .ok (.aload_n 0, 1) := by decide +kernel
theorem dX8_step_19 : decode cX8_step 19 = .ok (.getfield 16, 3) := by decide +kernel
theorem dX8_step_22 : decode cX8_step 22 = .ok (.bipush 25, 2) := by decide +kernel
theorem dX8_step_24 : decode cX8_step 24 = .ok (.iconst 3, 1) := by decide +kernel
theorem dX8_step_25 : decode cX8_step 25 = .ok (.iload_n 1, 1) := by decide +kernel
theorem dX8_step_26 : decode cX8_step 26 = .ok (.imul, 1) := by decide +kernel
theorem dX8_step_27 : decode cX8_step 27 = .ok (.iadd, 1) := by decide +kernel
theorem dX8_step_28 : decode cX8_step 28 = .ok (.iload_n 2, 1) := by decide +kernel
theorem dX8_step_29 : decode cX8_step 29 = .ok (.iload_n 3, 1) := by decide +kernel
theorem dX8_step_30 : decode cX8_step 30 = .ok (.irem, 1) := by decide +kernel
theorem dX8_step_31 : decode cX8_step 31 = .ok (.iadd, 1) := by decide +kernel
theorem dX8_step_32 : decode cX8_step 32 = .ok (.iaload, 1) := by decide +kernel
theorem dX8_step_33 : decode cX8_step 33 = .ok (.ireturn, 1) := by decide +kernel
theorem dX8_areChoices_0 : decode cX8_areChoices 0 = .ok (.iload_n 1, 1) := by decide +kernel
theorem dX8_areChoices_1 : decode cX8_areChoices 1 = .ok (.ifCond .lt 17, 3) := by decide +kernel
theorem dX8_areChoices_4 : decode cX8_areChoices 4 = .ok (.iload_n 1, 1) := by decide +kernel
theorem dX8_areChoices_5 : decode cX8_areChoices 5 = .ok (.bipush 10, 2) := by decide +kernel
theorem dX8_areChoices_7 : decode cX8_areChoices 7 = .ok (.iload_n 0, 1) := by decide +kernel
theorem dX8_areChoices_8 : decode cX8_areChoices 8 = .ok (.invokestatic 216, 3) := by decide +kernel
theorem dX8_areChoices_11 : decode cX8_areChoices 11 = .ok (.if_icmp .ge 7, 3) := by decide +kernel
theorem dX8_areChoices_14 : decode cX8_areChoices 14 = .ok (.iconst 1, 1) := by decide +kernel
theorem dX8_areChoices_15 : decode cX8_areChoices 15 = .ok (.goto 4, 3) := by decide +kernel
theorem dX8_areChoices_18 : decode cX8_areChoices 18 = .ok (.iconst 0, 1) := by decide +kernel
theorem dX8_areChoices_19 : decode cX8_areChoices 19 = .ok (.istore_n 2, 1) := by decide +kernel
theorem dX8_areChoices_20 : decode cX8_areChoices 20 = .ok (.iload_n 1, 1) := by decide +kernel
theorem dX8_areChoices_21 : decode cX8_areChoices 21 = .ok (.istore_n 3, 1) := by decide +kernel
theorem dX8_areChoices_22 : decode cX8_areChoices 22 = .ok (.iload_n 3, 1) := by decide +kernel
theorem dX8_areChoices_23 : decode cX8_areChoices 23 = .ok (.ifCond .le 29, 3) := by decide +kernel
theorem dX8_areChoices_26 : decode cX8_areChoices 26 = .ok (.iload_n 2, 1) := by decide +kernel
theorem dX8_areChoices_27 : decode cX8_areChoices 27 = .ok (.ifCond .eq 15, 3) := by decide +kernel
theorem dX8_areChoices_30 : decode cX8_areChoices 30 = .ok (.iload_n 3, 1) := by decide +kernel
theorem dX8_areChoices_31 : decode cX8_areChoices 31 = .ok (.bipush 10, 2) := by decide +kernel
theorem dX8_areChoices_33 : decode cX8_areChoices 33 = .ok (.irem, 1) := by decide +kernel
theorem dX8_areChoices_34 : decode cX8_areChoices 34 = .ok (.iconst 3, 1) := by decide +kernel
theorem dX8_areChoices_35 : decode cX8_areChoices 35 = .ok (.if_icmp .ge 7, 3) := by decide +kernel
theorem dX8_areChoices_38 : decode cX8_areChoices 38 = .ok (.iconst 1, 1) := by decide +kernel
theorem dX8_areChoices_39 : decode cX8_areChoices 39 = .ok (.goto 4, 3) := by decide +kernel
theorem dX8_areChoices_42 : decode cX8_areChoices 42 = .ok (.iconst 0, 1) := by decide +kernel
theorem dX8_areChoices_43 : decode cX8_areChoices 43 = .ok (.istore_n 2, 1) := by decide +kernel
theorem dX8_areChoices_44 : decode cX8_areChoices 44 = .ok (.iload_n 3, 1) := by decide +kernel
theorem dX8_areChoices_45 : decode cX8_areChoices 45 = .ok (.bipush 10, 2) := by decide +kernel
theorem dX8_areChoices_47 : decode cX8_areChoices 47 = .ok (.idiv, 1) := by decide +kernel
theorem dX8_areChoices_48 : decode cX8_areChoices 48 = .ok (.istore_n 3, 1) := by decide +kernel
theorem dX8_areChoices_49 : decode cX8_areChoices 49 = .ok (.goto (-27), 3) := by decide +kernel
theorem dX8_areChoices_52 : decode cX8_areChoices 52 = .ok (.iload_n 2, 1) := by decide +kernel
theorem dX8_areChoices_53 : decode cX8_areChoices 53 = .ok (.ireturn, 1) := by decide +kernel
theorem dX8_runs_0 : decode cX8_runs 0 = .ok (.iconst 0, 1) := by decide +kernel
theorem dX8_runs_1 : decode cX8_runs 1 = .ok (.istore_n 3, 1) := by decide +kernel
theorem dX8_runs_2 : decode cX8_runs 2 = .ok (.iload_n 1, 1) := by decide +kernel
theorem dX8_runs_3 : decode cX8_runs 3 = .ok (.iconst 1, 1) := by decide +kernel
theorem dX8_runs_4 : decode cX8_runs 4 = .ok (.isub, 1) := by decide +kernel
theorem dX8_runs_5 : decode cX8_runs 5 = .ok (.istore 4, 2) := by decide +kernel
theorem dX8_runs_7 : decode cX8_runs 7 = .ok (.iload 4, 2) := by decide +kernel
theorem dX8_runs_9 : decode cX8_runs 9 = .ok (.ifCond .lt 27, 3) := by decide +kernel
theorem dX8_runs_12 : decode cX8_runs 12 = .ok (.aload_n 0, 1) := by decide +kernel
theorem dX8_runs_13 : decode cX8_runs 13 = .ok (.iload_n 3, 1) := by decide +kernel
theorem dX8_runs_14 : decode cX8_runs 14 = .ok (.iload_n 2, 1) := by decide +kernel
theorem dX8_runs_15 : decode cX8_runs 15 = .ok (.bipush 10, 2) := by decide +kernel
theorem dX8_runs_17 : decode cX8_runs 17 = .ok (.iload 4, 2) := by decide +kernel
theorem dX8_runs_19 : decode cX8_runs 19 = .ok (.invokestatic 216, 3) := by decide +kernel
theorem dX8_runs_22 : decode cX8_runs 22 = .ok (.idiv, 1) := by decide +kernel
theorem dX8_runs_23 : decode cX8_runs 23 = .ok (.bipush 10, 2) := by decide +kernel
theorem dX8_runs_25 : decode cX8_runs 25 = .ok (.irem, 1) := by decide +kernel
theorem dX8_runs_26 : decode cX8_runs 26 = .ok (.invokevirtual 219, 3) := by decide +kernel
theorem dX8_runs_29 : decode cX8_runs 29 = .ok (.istore_n 3, 1) := by decide +kernel
theorem dX8_runs_30 : decode cX8_runs 30 = .ok (.iinc 4 (-1), 3) := by decide +kernel
theorem dX8_runs_33 : decode cX8_runs 33 = .ok (.goto (-26), 3) := by decide +kernel
theorem dX8_runs_36 : decode cX8_runs 36 = .ok (.iload_n 3, 1) := by decide +kernel
theorem dX8_runs_37 : decode cX8_runs 37 = .ok (.ireturn, 1) := by decide +kernel
theorem dX8_run_0 : decode cX8_run 0 = .ok (.aload_n 0, 1) := by decide +kernel
theorem dX8_run_1 : decode cX8_run 1 = .ok (.iconst 0, 1) := by decide +kernel
theorem dX8_run_2 : decode cX8_run 2 = .ok (.putfield 68, 3) := by decide +kernel
theorem dX8_run_5 : decode cX8_run 5 = .ok (.aload_n 0, 1) := by decide +kernel
theorem dX8_run_6 : decode cX8_run 6 = .ok (.getfield 16, 3) := by decide +kernel
theorem dX8_run_9 : decode cX8_run 9 = .ok (.iconst 0, 1) := by decide +kernel
theorem dX8_run_10 : decode cX8_run 10 = .ok (.iaload, 1) := by decide +kernel
theorem dX8_run_11 : decode cX8_run 11 = .ok (.ifCond .ne 6, 3) := by decide +kernel
theorem dX8_run_14 : decode cX8_run 14 = .ok (.bipush (-3), 2) := by decide +kernel
theorem dX8_run_16 : decode cX8_run 16 = .ok (.ireturn, 1) := by decide +kernel
theorem dX8_run_17 : decode cX8_run 17 = .ok (.iload_n 1, 1) := by decide +kernel
theorem dX8_run_18 : decode cX8_run 18 = .ok (.i2l, 1) := by decide +kernel
theorem dX8_run_19 : decode cX8_run 19 = .ok (.lconst 0, 1) := by decide +kernel
theorem dX8_run_20 : decode cX8_run 20 = .ok (.ldc2_w 96, 3) := by decide +kernel
theorem dX8_run_23 : decode cX8_run 23 = .ok (.invokestatic 72, 3) := by decide +kernel
theorem dX8_run_26 : decode cX8_run 26 = .ok (.ifCond .eq 21, 3) := by decide +kernel
theorem dX8_run_29 : decode cX8_run 29 = .ok (.iload_n 1, 1) := by decide +kernel
theorem dX8_run_30 : decode cX8_run 30 = .ok (.iload_n 2, 1) := by decide +kernel
theorem dX8_run_31 : decode cX8_run 31 = .ok (.invokestatic 222, 3) := by decide +kernel
theorem dX8_run_34 : decode cX8_run 34 = .ok (.ifCond .eq 13, 3) := by decide +kernel
theorem dX8_run_37 : decode cX8_run 37 = .ok (.iload_n 3, 1) := by decide +kernel
theorem dX8_run_38 : decode cX8_run 38 = .ok (.i2l, 1) := by decide +kernel
theorem dX8_run_39 : decode cX8_run 39 = .ok (.lconst 0, 1) := by decide +kernel
theorem dX8_run_40 : decode cX8_run 40 = .ok (.lconst 1, 1) := by decide +kernel
theorem dX8_run_41 : decode cX8_run 41 = .ok (.invokestatic 72, 3) := by decide +kernel
theorem dX8_run_44 : decode cX8_run 44 = .ok (.ifCond .ne 6, 3) := by decide +kernel
theorem dX8_run_47 : decode cX8_run 47 = .ok (.bipush (-2), 2) := by decide +kernel
theorem dX8_run_49 : decode cX8_run 49 = .ok (.ireturn, 1) := by decide +kernel
theorem dX8_run_50 : decode cX8_run 50 = .ok (.aload_n 0, 1) := by decide +kernel
theorem dX8_run_51 : decode cX8_run 51 = .ok (.iload_n 1, 1) := by decide +kernel
theorem dX8_run_52 : decode cX8_run 52 = .ok (.iload_n 2, 1) := by decide +kernel
theorem dX8_run_53 : decode cX8_run 53 = .ok (.invokevirtual 225, 3) := by decide +kernel
theorem dX8_run_56 : decode cX8_run 56 = .ok (.istore 4, 2) := by decide +kernel
theorem dX8_run_58 : decode cX8_run 58 = .ok (.iload_n 3, 1) := by decide +kernel
theorem dX8_run_59 : decode cX8_run 59 = .ok (.ifCond .ne 8, 3) := by decide +kernel
theorem dX8_run_62 : decode cX8_run 62 = .ok (.iload 4, 2) := by decide +kernel
theorem dX8_run_64 : decode cX8_run 64 = .ok (.goto 12, 3) := by decide +kernel
theorem dX8_run_67 : decode cX8_run 67 = .ok (.aload_n 0, 1) := by decide +kernel
theorem dX8_run_68 : decode cX8_run 68 = .ok (.getfield 16, 3) := by decide +kernel
theorem dX8_run_71 : decode cX8_run 71 = .ok (.iconst 1, 1) := by decide +kernel
theorem dX8_run_72 : decode cX8_run 72 = .ok (.iload 4, 2) := by decide +kernel
theorem dX8_run_74 : decode cX8_run 74 = .ok (.iadd, 1) := by decide +kernel
theorem dX8_run_75 : decode cX8_run 75 = .ok (.iaload, 1) := by decide +kernel
theorem dX8_run_76 : decode cX8_run 76 = .ok (.ireturn, 1) := by decide +kernel
theorem dX8_begin_0 : decode cX8_begin 0 = .ok (.iconst 0, 1) := by decide +kernel
theorem dX8_begin_1 : decode cX8_begin 1 = .ok (.istore_n 1, 1) := by decide +kernel
theorem dX8_begin_2 : decode cX8_begin 2 = .ok (.iload_n 1, 1) := by decide +kernel
theorem dX8_begin_3 : decode cX8_begin 3 = .ok (.bipush 61, 2) := by decide +kernel
theorem dX8_begin_5 : decode cX8_begin 5 = .ok (.if_icmp .ge 21, 3) := by decide +kernel
theorem dX8_begin_8 : decode cX8_begin 8 = .ok (.aload_n 0, 1) := by decide +kernel
theorem dX8_begin_9 : decode cX8_begin 9 = .ok (.getfield 19, 3) := by decide +kernel
theorem dX8_begin_12 : decode cX8_begin 12 = .ok (.iload_n 1, 1) := by decide +kernel
theorem dX8_begin_13 : decode cX8_begin 13 = .ok (.aload_n 0, 1) := by decide +kernel
theorem dX8_begin_14 : decode cX8_begin 14 = .ok (.getfield 16, 3) := by decide +kernel
theorem dX8_begin_17 : decode cX8_begin 17 = .ok (.iload_n 1, 1) := by decide +kernel
theorem dX8_begin_18 : decode cX8_begin 18 = .ok (.iaload, 1) := by decide +kernel
theorem dX8_begin_19 : decode cX8_begin 19 = .ok (.iastore, 1) := by decide +kernel
theorem dX8_begin_20 : decode cX8_begin 20 = .ok (.iinc 1 1, 3) := by decide +kernel
theorem dX8_begin_23 : decode cX8_begin 23 = .ok (.goto (-21), 3) := by decide +kernel
theorem dX8_begin_26 : decode cX8_begin 26 = .ok (.return_, 1) := by decide +kernel
theorem dX8_would_0 : decode cX8_would 0 = .ok (.aload_n 0, 1) := by decide +kernel
theorem dX8_would_1 : decode cX8_would 1 = .ok (.iconst 0, 1) := by decide +kernel
theorem dX8_would_2 : decode cX8_would 2 = .ok (.putfield 68, 3) := by decide +kernel
theorem dX8_would_5 : decode cX8_would 5 = .ok (.iload_n 1, 1) := by decide +kernel
theorem dX8_would_6 : decode cX8_would 6 = .ok (.i2l, 1) := by decide +kernel
theorem dX8_would_7 : decode cX8_would 7 = .ok (.lconst 0, 1) := by decide +kernel
theorem dX8_would_8 : decode cX8_would 8 = .ok (.ldc2_w 228, 3) := by decide +kernel
theorem dX8_would_11 : decode cX8_would 11 = .ok (.invokestatic 72, 3) := by decide +kernel
theorem dX8_would_14 : decode cX8_would 14 = .ok (.ifCond .ne 6, 3) := by decide +kernel
theorem dX8_would_17 : decode cX8_would 17 = .ok (.bipush (-2), 2) := by decide +kernel
theorem dX8_would_19 : decode cX8_would 19 = .ok (.ireturn, 1) := by decide +kernel
theorem dX8_would_20 : decode cX8_would 20 = .ok (.aload_n 0, 1) := by decide +kernel
theorem dX8_would_21 : decode cX8_would 21 = .ok (.invokevirtual 230, 3) := by decide +kernel
theorem dX8_would_24 : decode cX8_would 24 = .ok (.aload_n 0, 1) := by decide +kernel
theorem dX8_would_25 : decode cX8_would 25 = .ok (.aload_n 0, 1) := by decide +kernel
theorem dX8_would_26 : decode cX8_would 26 = .ok (.getfield 19, 3) := by decide +kernel
theorem dX8_would_29 : decode cX8_would 29 = .ok (.invokevirtual 213, 3) := by decide +kernel
theorem dX8_would_32 : decode cX8_would 32 = .ok (.istore_n 2, 1) := by decide +kernel
theorem dX8_would_33 : decode cX8_would 33 = .ok (.iload_n 1, 1) := by decide +kernel
theorem dX8_would_34 : decode cX8_would 34 = .ok (.ifCond .ne 5, 3) := by decide +kernel
theorem dX8_would_37 : decode cX8_would 37 = .ok (.iload_n 2, 1) := by decide +kernel
theorem dX8_would_38 : decode cX8_would 38 = .ok (.ireturn, 1) := by decide +kernel
theorem dX8_would_39 : decode cX8_would 39 = .ok (.aload_n 0, 1) := by decide +kernel
theorem dX8_would_40 : decode cX8_would 40 = .ok (.aload_n 0, 1) := by decide +kernel
theorem dX8_would_41 : decode cX8_would 41 = .ok (.getfield 19, 3) := by decide +kernel
theorem dX8_would_44 : decode cX8_would 44 = .ok (.invokevirtual 156, 3) := by decide +kernel
theorem dX8_would_47 : decode cX8_would 47 = .ok (.iload_n 1, 1) := by decide +kernel
theorem dX8_would_48 : decode cX8_would 48 = .ok (.iconst 1, 1) := by decide +kernel
theorem dX8_would_49 : decode cX8_would 49 = .ok (.if_icmp .ne 12, 3) := by decide +kernel
theorem dX8_would_52 : decode cX8_would 52 = .ok (.aload_n 0, 1) := by decide +kernel
theorem dX8_would_53 : decode cX8_would 53 = .ok (.getfield 19, 3) := by decide +kernel
theorem dX8_would_56 : decode cX8_would 56 = .ok (.iconst 0, 1) := by decide +kernel
theorem dX8_would_57 : decode cX8_would 57 = .ok (.iaload, 1) := by decide +kernel
theorem dX8_would_58 : decode cX8_would 58 = .ok (.goto 17, 3) := by decide +kernel
theorem dX8_would_61 : decode cX8_would 61 = .ok (.aload_n 0, 1) := by decide +kernel
theorem dX8_would_62 : decode cX8_would 62 = .ok (.invokevirtual 204, 3) := by decide +kernel
theorem dX8_would_65 : decode cX8_would 65 = .ok (.bipush (-9), 2) := by decide +kernel
theorem dX8_would_67 : decode cX8_would 67 = .ok (.if_icmp .ne 7, 3) := by decide +kernel
theorem dX8_would_70 : decode cX8_would 70 = .ok (.iconst 1, 1) := by decide +kernel
theorem dX8_would_71 : decode cX8_would 71 = .ok (.goto 4, 3) := by decide +kernel
theorem dX8_would_74 : decode cX8_would 74 = .ok (.iconst 0, 1) := by decide +kernel
theorem dX8_would_75 : decode cX8_would 75 = .ok (.ireturn, 1) := by decide +kernel
theorem dX8_longPower_0 : decode cX8_longPower 0 = .ok (.lconst 1, 1) := by decide +kernel
theorem dX8_longPower_1 : decode cX8_longPower 1 = .ok (.lstore_n 3, 1) := by decide +kernel
theorem dX8_longPower_2 : decode cX8_longPower 2 = .ok (.iconst 0, 1) := by decide +kernel
theorem dX8_longPower_3 : decode cX8_longPower 3 = .ok (.istore 5, 2) := by decide +kernel
theorem dX8_longPower_5 : decode cX8_longPower 5 = .ok (.iload 5, 2) := by decide +kernel
theorem dX8_longPower_7 : decode cX8_longPower 7 = .ok (.iload_n 2, 1) := by decide +kernel
theorem dX8_longPower_8 : decode cX8_longPower 8 = .ok (.if_icmp .ge 13, 3) := by decide +kernel
theorem dX8_longPower_11 : decode cX8_longPower 11 = .ok (.lload_n 3, 1) := by decide +kernel
theorem dX8_longPower_12 : decode cX8_longPower 12 = .ok (.lload_n 0, 1) := by decide +kernel
theorem dX8_longPower_13 : decode cX8_longPower 13 = .ok (.lmul, 1) := by decide +kernel
theorem dX8_longPower_14 : decode cX8_longPower 14 = .ok (.lstore_n 3, 1) := by decide +kernel
theorem dX8_longPower_15 : decode cX8_longPower 15 = .ok (.iinc 5 1, 3) := by decide +kernel
theorem dX8_longPower_18 : decode cX8_longPower 18 = .ok (.goto (-13), 3) := by decide +kernel
theorem dX8_longPower_21 : decode cX8_longPower 21 = .ok (.lload_n 3, 1) := by decide +kernel
theorem dX8_longPower_22 : decode cX8_longPower 22 = .ok (.lreturn, 1) := by decide +kernel
theorem dX8_adds_0 : decode cX8_adds 0 = .ok (.iload_n 1, 1) := by decide +kernel
theorem dX8_adds_1 : decode cX8_adds 1 = .ok (.aload_n 0, 1) := by decide +kernel
theorem dX8_adds_2 : decode cX8_adds 2 = .ok (.getfield 19, 3) := by decide +kernel
theorem dX8_adds_5 : decode cX8_adds 5 = .ok (.iconst 0, 1) := by decide +kernel
theorem dX8_adds_6 : decode cX8_adds 6 = .ok (.iaload, 1) := by decide +kernel
theorem dX8_adds_7 : decode cX8_adds 7 = .ok (.if_icmp .ge 30, 3) := by decide +kernel
theorem dX8_adds_10 : decode cX8_adds 10 = .ok (.iload_n 2, 1) := by decide +kernel
theorem dX8_adds_11 : decode cX8_adds 11 = .ok (.aload_n 0, 1) := by decide +kernel
theorem dX8_adds_12 : decode cX8_adds 12 = .ok (.getfield 19, 3) := by decide +kernel
theorem dX8_adds_15 : decode cX8_adds 15 = .ok (.iconst 0, 1) := by decide +kernel
theorem dX8_adds_16 : decode cX8_adds 16 = .ok (.iaload, 1) := by decide +kernel
theorem dX8_adds_17 : decode cX8_adds 17 = .ok (.if_icmp .ge 20, 3) := by decide +kernel
theorem dX8_adds_20 : decode cX8_adds 20 = .ok (.aload_n 0, 1) := by decide +kernel
theorem dX8_adds_21 : decode cX8_adds 21 = .ok (.getfield 19, 3) := by decide +kernel
theorem dX8_adds_24 : decode cX8_adds 24 = .ok (.bipush 13, 2) := by decide +kernel
theorem dX8_adds_26 : decode cX8_adds 26 = .ok (.iload_n 1, 1) := by decide +kernel
theorem dX8_adds_27 : decode cX8_adds 27 = .ok (.iadd, 1) := by decide +kernel
theorem dX8_adds_28 : decode cX8_adds 28 = .ok (.iaload, 1) := by decide +kernel
theorem dX8_adds_29 : decode cX8_adds 29 = .ok (.iconst 3, 1) := by decide +kernel
theorem dX8_adds_30 : decode cX8_adds 30 = .ok (.if_icmp .ge 7, 3) := by decide +kernel
theorem dX8_adds_33 : decode cX8_adds 33 = .ok (.iconst 1, 1) := by decide +kernel
theorem dX8_adds_34 : decode cX8_adds 34 = .ok (.goto 4, 3) := by decide +kernel
theorem dX8_adds_37 : decode cX8_adds 37 = .ok (.iconst 0, 1) := by decide +kernel
theorem dX8_adds_38 : decode cX8_adds 38 = .ok (.istore_n 3, 1) := by decide +kernel
theorem dX8_adds_39 : decode cX8_adds 39 = .ok (.iload_n 3, 1) := by decide +kernel
theorem dX8_adds_40 : decode cX8_adds 40 = .ok (.ifCond .eq 12, 3) := by decide +kernel
theorem dX8_adds_43 : decode cX8_adds 43 = .ok (.aload_n 0, 1) := by decide +kernel
theorem dX8_adds_44 : decode cX8_adds 44 = .ok (.getfield 19, 3) := by decide +kernel
theorem dX8_adds_47 : decode cX8_adds 47 = .ok (.iload_n 1, 1) := by decide +kernel
theorem dX8_adds_48 : decode cX8_adds 48 = .ok (.iload_n 2, 1) := by decide +kernel
theorem dX8_adds_49 : decode cX8_adds 49 = .ok (.invokestatic 193, 3) := by decide +kernel
theorem dX8_adds_52 : decode cX8_adds 52 = .ok (.iload_n 3, 1) := by decide +kernel
theorem dX8_adds_53 : decode cX8_adds 53 = .ok (.ireturn, 1) := by decide +kernel
theorem dX8_cuts_0 : decode cX8_cuts 0 = .ok (.iload_n 1, 1) := by decide +kernel
theorem dX8_cuts_1 : decode cX8_cuts 1 = .ok (.aload_n 0, 1) := by decide +kernel
theorem dX8_cuts_2 : decode cX8_cuts 2 = .ok (.getfield 19, 3) := by decide +kernel
theorem dX8_cuts_5 : decode cX8_cuts 5 = .ok (.iconst 0, 1) := by decide +kernel
theorem dX8_cuts_6 : decode cX8_cuts 6 = .ok (.iaload, 1) := by decide +kernel
theorem dX8_cuts_7 : decode cX8_cuts 7 = .ok (.if_icmp .ge 20, 3) := by decide +kernel
theorem dX8_cuts_10 : decode cX8_cuts 10 = .ok (.iload_n 2, 1) := by decide +kernel
theorem dX8_cuts_11 : decode cX8_cuts 11 = .ok (.aload_n 0, 1) := by decide +kernel
theorem dX8_cuts_12 : decode cX8_cuts 12 = .ok (.getfield 19, 3) := by decide +kernel
theorem dX8_cuts_15 : decode cX8_cuts 15 = .ok (.bipush 13, 2) := by decide +kernel
theorem dX8_cuts_17 : decode cX8_cuts 17 = .ok (.iload_n 1, 1) := by decide +kernel
theorem dX8_cuts_18 : decode cX8_cuts 18 = .ok (.iadd, 1) := by decide +kernel
theorem dX8_cuts_19 : decode cX8_cuts 19 = .ok (.iaload, 1) := by decide +kernel
theorem dX8_cuts_20 : decode cX8_cuts 20 = .ok (.if_icmp .ge 7, 3) := by decide +kernel
theorem dX8_cuts_23 : decode cX8_cuts 23 = .ok (.iconst 1, 1) := by decide +kernel
theorem dX8_cuts_24 : decode cX8_cuts 24 = .ok (.goto 4, 3) := by decide +kernel
theorem dX8_cuts_27 : decode cX8_cuts 27 = .ok (.iconst 0, 1) := by decide +kernel
theorem dX8_cuts_28 : decode cX8_cuts 28 = .ok (.istore_n 3, 1) := by decide +kernel
theorem dX8_cuts_29 : decode cX8_cuts 29 = .ok (.iload_n 3, 1) := by decide +kernel
theorem dX8_cuts_30 : decode cX8_cuts 30 = .ok (.ifCond .eq 13, 3) := by decide +kernel
theorem dX8_cuts_33 : decode cX8_cuts 33 = .ok (.aload_n 0, 1) := by decide +kernel
theorem dX8_cuts_34 : decode cX8_cuts 34 = .ok (.getfield 19, 3) := by decide +kernel
theorem dX8_cuts_37 : decode cX8_cuts 37 = .ok (.iload_n 1, 1) := by decide +kernel
theorem dX8_cuts_38 : decode cX8_cuts 38 = .ok (.iload_n 2, 1) := by decide +kernel
theorem dX8_cuts_39 : decode cX8_cuts 39 = .ok (.invokestatic 197, 3) := by decide +kernel
theorem dX8_cuts_42 : decode cX8_cuts 42 = .ok (.pop, 1) := by decide +kernel
theorem dX8_cuts_43 : decode cX8_cuts 43 = .ok (.iload_n 3, 1) := by decide +kernel
theorem dX8_cuts_44 : decode cX8_cuts 44 = .ok (.ireturn, 1) := by decide +kernel
theorem dX8_splits_0 : decode cX8_splits 0 = .ok (.iload_n 1, 1) := by decide +kernel
theorem dX8_splits_1 : decode cX8_splits 1 = .ok (.aload_n 0, 1) := by decide +kernel
theorem dX8_splits_2 : decode cX8_splits 2 = .ok (.getfield 19, 3) := by decide +kernel
theorem dX8_splits_5 : decode cX8_splits 5 = .ok (.iconst 0, 1) := by decide +kernel
theorem dX8_splits_6 : decode cX8_splits 6 = .ok (.iaload, 1) := by decide +kernel
theorem dX8_splits_7 : decode cX8_splits 7 = .ok (.if_icmp .ge 40, 3) := by decide +kernel
theorem dX8_splits_10 : decode cX8_splits 10 = .ok (.iload_n 2, 1) := by decide +kernel
theorem dX8_splits_11 : decode cX8_splits 11 = .ok (.aload_n 0, 1) := by decide +kernel
theorem dX8_splits_12 : decode cX8_splits 12 = .ok (.getfield 19, 3) := by decide +kernel
theorem dX8_splits_15 : decode cX8_splits 15 = .ok (.iconst 0, 1) := by decide +kernel
theorem dX8_splits_16 : decode cX8_splits 16 = .ok (.iaload, 1) := by decide +kernel
theorem dX8_splits_17 : decode cX8_splits 17 = .ok (.if_icmp .ge 30, 3) := by decide +kernel
theorem dX8_splits_20 : decode cX8_splits 20 = .ok (.aload_n 0, 1) := by decide +kernel
theorem dX8_splits_21 : decode cX8_splits 21 = .ok (.getfield 19, 3) := by decide +kernel
theorem dX8_splits_24 : decode cX8_splits 24 = .ok (.iconst 0, 1) := by decide +kernel
theorem dX8_splits_25 : decode cX8_splits 25 = .ok (.iaload, 1) := by decide +kernel
theorem dX8_splits_26 : decode cX8_splits 26 = .ok (.bipush 12, 2) := by decide +kernel
theorem dX8_splits_28 : decode cX8_splits 28 = .ok (.if_icmp .ge 19, 3) := by decide +kernel
theorem dX8_splits_31 : decode cX8_splits 31 = .ok (.aload_n 0, 1) := by decide +kernel
theorem dX8_splits_32 : decode cX8_splits 32 = .ok (.getfield 19, 3) := by decide +kernel
theorem dX8_splits_35 : decode cX8_splits 35 = .ok (.iload_n 1, 1) := by decide +kernel
theorem dX8_splits_36 : decode cX8_splits 36 = .ok (.iload_n 2, 1) := by decide +kernel
theorem dX8_splits_37 : decode cX8_splits 37 = .ok (.invokestatic 116, 3) := by decide +kernel
theorem dX8_splits_40 : decode cX8_splits 40 = .ok (.ifCond .eq 7, 3) := by decide +kernel
theorem dX8_splits_43 : decode cX8_splits 43 = .ok (.iconst 1, 1) := by decide +kernel
theorem dX8_splits_44 : decode cX8_splits 44 = .ok (.goto 4, 3) := by decide +kernel
theorem dX8_splits_47 : decode cX8_splits 47 = .ok (.iconst 0, 1) := by decide +kernel
theorem dX8_splits_48 : decode cX8_splits 48 = .ok (.istore_n 3, 1) := by decide +kernel
theorem dX8_splits_49 : decode cX8_splits 49 = .ok (.iload_n 3, 1) := by decide +kernel
theorem dX8_splits_50 : decode cX8_splits 50 = .ok (.ifCond .eq 13, 3) := by decide +kernel
theorem dX8_splits_53 : decode cX8_splits 53 = .ok (.aload_n 0, 1) := by decide +kernel
theorem dX8_splits_54 : decode cX8_splits 54 = .ok (.getfield 19, 3) := by decide +kernel
theorem dX8_splits_57 : decode cX8_splits 57 = .ok (.iload_n 1, 1) := by decide +kernel
theorem dX8_splits_58 : decode cX8_splits 58 = .ok (.iload_n 2, 1) := by decide +kernel
theorem dX8_splits_59 : decode cX8_splits 59 = .ok (.invokestatic 201, 3) := by decide +kernel
theorem dX8_splits_62 : decode cX8_splits 62 = .ok (.pop, 1) := by decide +kernel
theorem dX8_splits_63 : decode cX8_splits 63 = .ok (.iload_n 3, 1) := by decide +kernel
theorem dX8_splits_64 : decode cX8_splits 64 = .ok (.ireturn, 1) := by decide +kernel
theorem dX8_isSo_0 : decode cX8_isSo 0 = .ok (.aload_n 0, 1) := by decide +kernel
theorem dX8_isSo_1 : decode cX8_isSo 1 = .ok (.aload_n 0, 1) := by decide +kernel
theorem dX8_isSo_2 : decode cX8_isSo 2 = .ok (.getfield 19, 3) := by decide +kernel
theorem dX8_isSo_5 : decode cX8_isSo 5 = .ok (.invokevirtual 156, 3) := by decide +kernel
theorem dX8_isSo_8 : decode cX8_isSo 8 = .ok (.iload_n 1, 1) := by decide +kernel
theorem dX8_isSo_9 : decode cX8_isSo 9 = .ok (.iconst 4, 1) := by decide +kernel
theorem dX8_isSo_10 : decode cX8_isSo 10 = .ok (.if_icmp .ne 28, 3) := by decide +kernel
theorem dX8_isSo_13 : decode cX8_isSo 13 = .ok (.iload_n 2, 1) := by decide +kernel
theorem dX8_isSo_14 : decode cX8_isSo 14 = .ok (.ifCond .ne 22, 3) := by decide +kernel
theorem dX8_isSo_17 : decode cX8_isSo 17 = .ok (.iload_n 3, 1) := by decide +kernel
theorem dX8_isSo_18 : decode cX8_isSo 18 = .ok (.ifCond .ne 18, 3) := by decide +kernel
theorem dX8_isSo_21 : decode cX8_isSo 21 = .ok (.aload_n 0, 1) := by decide +kernel
theorem dX8_isSo_22 : decode cX8_isSo 22 = .ok (.aload_n 0, 1) := by decide +kernel
theorem dX8_isSo_23 : decode cX8_isSo 23 = .ok (.getfield 19, 3) := by decide +kernel
theorem dX8_isSo_26 : decode cX8_isSo 26 = .ok (.invokevirtual 169, 3) := by decide +kernel
theorem dX8_isSo_29 : decode cX8_isSo 29 = .ok (.ifCond .eq 7, 3) := by decide +kernel
theorem dX8_isSo_32 : decode cX8_isSo 32 = .ok (.iconst 1, 1) := by decide +kernel
theorem dX8_isSo_33 : decode cX8_isSo 33 = .ok (.goto 4, 3) := by decide +kernel
theorem dX8_isSo_36 : decode cX8_isSo 36 = .ok (.iconst 0, 1) := by decide +kernel
theorem dX8_isSo_37 : decode cX8_isSo 37 = .ok (.ireturn, 1) := by decide +kernel
theorem dX8_isSo_38 : decode cX8_isSo 38 = .ok (.iload_n 2, 1) := by decide +kernel
theorem dX8_isSo_39 : decode cX8_isSo 39 = .ok (.aload_n 0, 1) := by decide +kernel
theorem dX8_isSo_40 : decode cX8_isSo 40 = .ok (.getfield 19, 3) := by decide +kernel
theorem dX8_isSo_43 : decode cX8_isSo 43 = .ok (.iconst 0, 1) := by decide +kernel
theorem dX8_isSo_44 : decode cX8_isSo 44 = .ok (.iaload, 1) := by decide +kernel
theorem dX8_isSo_45 : decode cX8_isSo 45 = .ok (.if_icmp .lt 5, 3) := by decide +kernel
theorem dX8_isSo_48 : decode cX8_isSo 48 = .ok (.iconst 0, 1) := by decide +kernel
theorem dX8_isSo_49 : decode cX8_isSo 49 = .ok (.ireturn, 1) := by decide +kernel
theorem dX8_isSo_50 : decode cX8_isSo 50 = .ok (.iload_n 1, 1) := by decide +kernel
theorem dX8_isSo_51 : decode cX8_isSo 51 = .ok (.tableswitch 82 5 7 #[25, 41, 56], 25) := by decide +kernel
theorem dX8_isSo_76 : decode cX8_isSo 76 = .ok (.aload_n 0, 1) := by decide +kernel
theorem dX8_isSo_77 : decode cX8_isSo 77 = .ok (.getfield 56, 3) := by decide +kernel
theorem dX8_isSo_80 : decode cX8_isSo 80 = .ok (.iload_n 2, 1) := by decide +kernel
theorem dX8_isSo_81 : decode cX8_isSo 81 = .ok (.iaload, 1) := by decide +kernel
theorem dX8_isSo_82 : decode cX8_isSo 82 = .ok (.iload_n 3, 1) := by decide +kernel
theorem dX8_isSo_83 : decode cX8_isSo 83 = .ok (.if_icmp .ne 7, 3) := by decide +kernel
theorem dX8_isSo_86 : decode cX8_isSo 86 = .ok (.iconst 1, 1) := by decide +kernel
theorem dX8_isSo_87 : decode cX8_isSo 87 = .ok (.goto 4, 3) := by decide +kernel
theorem dX8_isSo_90 : decode cX8_isSo 90 = .ok (.iconst 0, 1) := by decide +kernel
theorem dX8_isSo_91 : decode cX8_isSo 91 = .ok (.ireturn, 1) := by decide +kernel
theorem dX8_isSo_92 : decode cX8_isSo 92 = .ok (.aload_n 0, 1) := by decide +kernel
theorem dX8_isSo_93 : decode cX8_isSo 93 = .ok (.iload_n 2, 1) := by decide +kernel
theorem dX8_isSo_94 : decode cX8_isSo 94 = .ok (.invokevirtual 153, 3) := by decide +kernel
theorem dX8_isSo_97 : decode cX8_isSo 97 = .ok (.iload_n 3, 1) := by decide +kernel
theorem dX8_isSo_98 : decode cX8_isSo 98 = .ok (.if_icmp .ne 7, 3) := by decide +kernel
theorem dX8_isSo_101 : decode cX8_isSo 101 = .ok (.iconst 1, 1) := by decide +kernel
theorem dX8_isSo_102 : decode cX8_isSo 102 = .ok (.goto 4, 3) := by decide +kernel
theorem dX8_isSo_105 : decode cX8_isSo 105 = .ok (.iconst 0, 1) := by decide +kernel
theorem dX8_isSo_106 : decode cX8_isSo 106 = .ok (.ireturn, 1) := by decide +kernel
theorem dX8_isSo_107 : decode cX8_isSo 107 = .ok (.iload_n 3, 1) := by decide +kernel
theorem dX8_isSo_108 : decode cX8_isSo 108 = .ok (.aload_n 0, 1) := by decide +kernel
theorem dX8_isSo_109 : decode cX8_isSo 109 = .ok (.getfield 19, 3) := by decide +kernel
theorem dX8_isSo_112 : decode cX8_isSo 112 = .ok (.iconst 0, 1) := by decide +kernel
theorem dX8_isSo_113 : decode cX8_isSo 113 = .ok (.iaload, 1) := by decide +kernel
theorem dX8_isSo_114 : decode cX8_isSo 114 = .ok (.if_icmp .ge 17, 3) := by decide +kernel
theorem dX8_isSo_117 : decode cX8_isSo 117 = .ok (.aload_n 0, 1) := by decide +kernel
theorem dX8_isSo_118 : decode cX8_isSo 118 = .ok (.getfield 53, 3) := by decide +kernel
theorem dX8_isSo_121 : decode cX8_isSo 121 = .ok (.iload_n 3, 1) := by decide +kernel
theorem dX8_isSo_122 : decode cX8_isSo 122 = .ok (.iaload, 1) := by decide +kernel
theorem dX8_isSo_123 : decode cX8_isSo 123 = .ok (.iload_n 2, 1) := by decide +kernel
theorem dX8_isSo_124 : decode cX8_isSo 124 = .ok (.if_icmp .ne 7, 3) := by decide +kernel
theorem dX8_isSo_127 : decode cX8_isSo 127 = .ok (.iconst 1, 1) := by decide +kernel
theorem dX8_isSo_128 : decode cX8_isSo 128 = .ok (.goto 4, 3) := by decide +kernel
theorem dX8_isSo_131 : decode cX8_isSo 131 = .ok (.iconst 0, 1) := by decide +kernel
theorem dX8_isSo_132 : decode cX8_isSo 132 = .ok (.ireturn, 1) := by decide +kernel
theorem dX8_isSo_133 : decode cX8_isSo 133 = .ok (.iload_n 1, 1) := by decide +kernel
theorem dX8_isSo_134 : decode cX8_isSo 134 = .ok (.bipush 8, 2) := by decide +kernel
theorem dX8_isSo_136 : decode cX8_isSo 136 = .ok (.if_icmp .ne 32, 3) := by decide +kernel
theorem dX8_isSo_139 : decode cX8_isSo 139 = .ok (.iload_n 3, 1) := by decide +kernel
theorem dX8_isSo_140 : decode cX8_isSo 140 = .ok (.aload_n 0, 1) := by decide +kernel
theorem dX8_isSo_141 : decode cX8_isSo 141 = .ok (.getfield 19, 3) := by decide +kernel
theorem dX8_isSo_144 : decode cX8_isSo 144 = .ok (.iconst 0, 1) := by decide +kernel
theorem dX8_isSo_145 : decode cX8_isSo 145 = .ok (.iaload, 1) := by decide +kernel
theorem dX8_isSo_146 : decode cX8_isSo 146 = .ok (.if_icmp .ge 22, 3) := by decide +kernel
theorem dX8_isSo_149 : decode cX8_isSo 149 = .ok (.aload_n 0, 1) := by decide +kernel
theorem dX8_isSo_150 : decode cX8_isSo 150 = .ok (.getfield 19, 3) := by decide +kernel
theorem dX8_isSo_153 : decode cX8_isSo 153 = .ok (.iload_n 2, 1) := by decide +kernel
theorem dX8_isSo_154 : decode cX8_isSo 154 = .ok (.invokestatic 150, 3) := by decide +kernel
theorem dX8_isSo_157 : decode cX8_isSo 157 = .ok (.iload_n 3, 1) := by decide +kernel
theorem dX8_isSo_158 : decode cX8_isSo 158 = .ok (.invokestatic 123, 3) := by decide +kernel
theorem dX8_isSo_161 : decode cX8_isSo 161 = .ok (.ifCond .eq 7, 3) := by decide +kernel
theorem dX8_isSo_164 : decode cX8_isSo 164 = .ok (.iconst 1, 1) := by decide +kernel
theorem dX8_isSo_165 : decode cX8_isSo 165 = .ok (.goto 4, 3) := by decide +kernel
theorem dX8_isSo_168 : decode cX8_isSo 168 = .ok (.iconst 0, 1) := by decide +kernel
theorem dX8_isSo_169 : decode cX8_isSo 169 = .ok (.ireturn, 1) := by decide +kernel
theorem dX8_does_0 : decode cX8_does 0 = .ok (.iload_n 1, 1) := by decide +kernel
theorem dX8_does_1 : decode cX8_does 1 = .ok (.bipush 100, 2) := by decide +kernel
theorem dX8_does_3 : decode cX8_does 3 = .ok (.idiv, 1) := by decide +kernel
theorem dX8_does_4 : decode cX8_does 4 = .ok (.istore_n 2, 1) := by decide +kernel
theorem dX8_does_5 : decode cX8_does 5 = .ok (.iload_n 1, 1) := by decide +kernel
theorem dX8_does_6 : decode cX8_does 6 = .ok (.bipush 10, 2) := by decide +kernel
theorem dX8_does_8 : decode cX8_does 8 = .ok (.idiv, 1) := by decide +kernel
theorem dX8_does_9 : decode cX8_does 9 = .ok (.bipush 10, 2) := by decide +kernel
theorem dX8_does_11 : decode cX8_does 11 = .ok (.irem, 1) := by decide +kernel
theorem dX8_does_12 : decode cX8_does 12 = .ok (.istore_n 3, 1) := by decide +kernel
theorem dX8_does_13 : decode cX8_does 13 = .ok (.iload_n 1, 1) := by decide +kernel
theorem dX8_does_14 : decode cX8_does 14 = .ok (.bipush 10, 2) := by decide +kernel
theorem dX8_does_16 : decode cX8_does 16 = .ok (.irem, 1) := by decide +kernel
theorem dX8_does_17 : decode cX8_does 17 = .ok (.istore 4, 2) := by decide +kernel
theorem dX8_does_19 : decode cX8_does 19 = .ok (.iload_n 2, 1) := by decide +kernel
theorem dX8_does_20 : decode cX8_does 20 = .ok (.tableswitch 52 1 3 #[28, 36, 44], 28) := by decide +kernel
theorem dX8_does_48 : decode cX8_does 48 = .ok (.aload_n 0, 1) := by decide +kernel
theorem dX8_does_49 : decode cX8_does 49 = .ok (.iload_n 3, 1) := by decide +kernel
theorem dX8_does_50 : decode cX8_does 50 = .ok (.iload 4, 2) := by decide +kernel
theorem dX8_does_52 : decode cX8_does 52 = .ok (.invokevirtual 233, 3) := by decide +kernel
theorem dX8_does_55 : decode cX8_does 55 = .ok (.ireturn, 1) := by decide +kernel
theorem dX8_does_56 : decode cX8_does 56 = .ok (.aload_n 0, 1) := by decide +kernel
theorem dX8_does_57 : decode cX8_does 57 = .ok (.iload_n 3, 1) := by decide +kernel
theorem dX8_does_58 : decode cX8_does 58 = .ok (.iload 4, 2) := by decide +kernel
theorem dX8_does_60 : decode cX8_does 60 = .ok (.invokevirtual 236, 3) := by decide +kernel
theorem dX8_does_63 : decode cX8_does 63 = .ok (.ireturn, 1) := by decide +kernel
theorem dX8_does_64 : decode cX8_does 64 = .ok (.aload_n 0, 1) := by decide +kernel
theorem dX8_does_65 : decode cX8_does 65 = .ok (.iload_n 3, 1) := by decide +kernel
theorem dX8_does_66 : decode cX8_does 66 = .ok (.iload 4, 2) := by decide +kernel
theorem dX8_does_68 : decode cX8_does 68 = .ok (.invokevirtual 239, 3) := by decide +kernel
theorem dX8_does_71 : decode cX8_does 71 = .ok (.ireturn, 1) := by decide +kernel
theorem dX8_does_72 : decode cX8_does 72 = .ok (.aload_n 0, 1) := by decide +kernel
theorem dX8_does_73 : decode cX8_does 73 = .ok (.iload_n 2, 1) := by decide +kernel
theorem dX8_does_74 : decode cX8_does 74 = .ok (.iload_n 3, 1) := by decide +kernel
theorem dX8_does_75 : decode cX8_does 75 = .ok (.iload 4, 2) := by decide +kernel
theorem dX8_does_77 : decode cX8_does 77 = .ok (.invokevirtual 242, 3) := by decide +kernel
theorem dX8_does_80 : decode cX8_does 80 = .ok (.ireturn, 1) := by decide +kernel
theorem dX8_judge_0 : decode cX8_judge 0 = .ok (.aload_n 0, 1) := by decide +kernel
theorem dX8_judge_1 : decode cX8_judge 1 = .ok (.iconst 0, 1) := by decide +kernel
theorem dX8_judge_2 : decode cX8_judge 2 = .ok (.putfield 68, 3) := by decide +kernel
theorem dX8_judge_5 : decode cX8_judge 5 = .ok (.iload_n 1, 1) := by decide +kernel
theorem dX8_judge_6 : decode cX8_judge 6 = .ok (.i2l, 1) := by decide +kernel
theorem dX8_judge_7 : decode cX8_judge 7 = .ok (.lconst 1, 1) := by decide +kernel
theorem dX8_judge_8 : decode cX8_judge 8 = .ok (.ldc2_w 246, 3) := by decide +kernel
theorem dX8_judge_11 : decode cX8_judge 11 = .ok (.invokestatic 72, 3) := by decide +kernel
theorem dX8_judge_14 : decode cX8_judge 14 = .ok (.ifCond .eq 20, 3) := by decide +kernel
theorem dX8_judge_17 : decode cX8_judge 17 = .ok (.lload_n 2, 1) := by decide +kernel
theorem dX8_judge_18 : decode cX8_judge 18 = .ok (.lconst 0, 1) := by decide +kernel
theorem dX8_judge_19 : decode cX8_judge 19 = .ok (.ldc2_w 248, 3) := by decide +kernel
theorem dX8_judge_22 : decode cX8_judge 22 = .ok (.iload_n 1, 1) := by decide +kernel
theorem dX8_judge_23 : decode cX8_judge 23 = .ok (.invokestatic 250, 3) := by decide +kernel
theorem dX8_judge_26 : decode cX8_judge 26 = .ok (.lconst 1, 1) := by decide +kernel
theorem dX8_judge_27 : decode cX8_judge 27 = .ok (.lsub, 1) := by decide +kernel
theorem dX8_judge_28 : decode cX8_judge 28 = .ok (.invokestatic 72, 3) := by decide +kernel
theorem dX8_judge_31 : decode cX8_judge 31 = .ok (.ifCond .ne 6, 3) := by decide +kernel
theorem dX8_judge_34 : decode cX8_judge 34 = .ok (.bipush (-2), 2) := by decide +kernel
theorem dX8_judge_36 : decode cX8_judge 36 = .ok (.ireturn, 1) := by decide +kernel
theorem dX8_judge_37 : decode cX8_judge 37 = .ok (.aload_n 0, 1) := by decide +kernel
theorem dX8_judge_38 : decode cX8_judge 38 = .ok (.invokevirtual 230, 3) := by decide +kernel
theorem dX8_judge_41 : decode cX8_judge 41 = .ok (.iconst 0, 1) := by decide +kernel
theorem dX8_judge_42 : decode cX8_judge 42 = .ok (.istore 4, 2) := by decide +kernel
theorem dX8_judge_44 : decode cX8_judge 44 = .ok (.iload 4, 2) := by decide +kernel
theorem dX8_judge_46 : decode cX8_judge 46 = .ok (.iload_n 1, 1) := by decide +kernel
theorem dX8_judge_47 : decode cX8_judge 47 = .ok (.if_icmp .ge 38, 3) := by decide +kernel
theorem dX8_judge_50 : decode cX8_judge 50 = .ok (.aload_n 0, 1) := by decide +kernel
theorem dX8_judge_51 : decode cX8_judge 51 = .ok (.lload_n 2, 1) := by decide +kernel
theorem dX8_judge_52 : decode cX8_judge 52 = .ok (.ldc2_w 248, 3) := by decide +kernel
theorem dX8_judge_55 : decode cX8_judge 55 = .ok (.iload_n 1, 1) := by decide +kernel
theorem dX8_judge_56 : decode cX8_judge 56 = .ok (.iconst 1, 1) := by decide +kernel
theorem dX8_judge_57 : decode cX8_judge 57 = .ok (.isub, 1) := by decide +kernel
theorem dX8_judge_58 : decode cX8_judge 58 = .ok (.iload 4, 2) := by decide +kernel
theorem dX8_judge_60 : decode cX8_judge 60 = .ok (.isub, 1) := by decide +kernel
theorem dX8_judge_61 : decode cX8_judge 61 = .ok (.invokestatic 250, 3) := by decide +kernel
theorem dX8_judge_64 : decode cX8_judge 64 = .ok (.ldiv, 1) := by decide +kernel
theorem dX8_judge_65 : decode cX8_judge 65 = .ok (.ldc2_w 248, 3) := by decide +kernel
theorem dX8_judge_68 : decode cX8_judge 68 = .ok (.lrem, 1) := by decide +kernel
theorem dX8_judge_69 : decode cX8_judge 69 = .ok (.l2i, 1) := by decide +kernel
theorem dX8_judge_70 : decode cX8_judge 70 = .ok (.invokevirtual 254, 3) := by decide +kernel
theorem dX8_judge_73 : decode cX8_judge 73 = .ok (.ifCond .ne 6, 3) := by decide +kernel
theorem dX8_judge_76 : decode cX8_judge 76 = .ok (.iload 4, 2) := by decide +kernel
theorem dX8_judge_78 : decode cX8_judge 78 = .ok (.ireturn, 1) := by decide +kernel
theorem dX8_judge_79 : decode cX8_judge 79 = .ok (.iinc 4 1, 3) := by decide +kernel
theorem dX8_judge_82 : decode cX8_judge 82 = .ok (.goto (-38), 3) := by decide +kernel
theorem dX8_judge_85 : decode cX8_judge 85 = .ok (.bipush (-9), 2) := by decide +kernel
theorem dX8_judge_87 : decode cX8_judge 87 = .ok (.ireturn, 1) := by decide +kernel
theorem dX8_ways_0 : decode cX8_ways 0 = .ok (.iconst 1, 1) := by decide +kernel
theorem dX8_ways_1 : decode cX8_ways 1 = .ok (.istore_n 1, 1) := by decide +kernel
theorem dX8_ways_2 : decode cX8_ways 2 = .ok (.iconst 2, 1) := by decide +kernel
theorem dX8_ways_3 : decode cX8_ways 3 = .ok (.istore_n 2, 1) := by decide +kernel
theorem dX8_ways_4 : decode cX8_ways 4 = .ok (.iload_n 2, 1) := by decide +kernel
theorem dX8_ways_5 : decode cX8_ways 5 = .ok (.iload_n 0, 1) := by decide +kernel
theorem dX8_ways_6 : decode cX8_ways 6 = .ok (.if_icmp .gt 13, 3) := by decide +kernel
theorem dX8_ways_9 : decode cX8_ways 9 = .ok (.iload_n 1, 1) := by decide +kernel
theorem dX8_ways_10 : decode cX8_ways 10 = .ok (.iload_n 2, 1) := by decide +kernel
theorem dX8_ways_11 : decode cX8_ways 11 = .ok (.imul, 1) := by decide +kernel
theorem dX8_ways_12 : decode cX8_ways 12 = .ok (.istore_n 1, 1) := by decide +kernel
theorem dX8_ways_13 : decode cX8_ways 13 = .ok (.iinc 2 1, 3) := by decide +kernel
theorem dX8_ways_16 : decode cX8_ways 16 = .ok (.goto (-12), 3) := by decide +kernel
theorem dX8_ways_19 : decode cX8_ways 19 = .ok (.iload_n 1, 1) := by decide +kernel
theorem dX8_ways_20 : decode cX8_ways 20 = .ok (.ireturn, 1) := by decide +kernel
theorem dX8_divisor_0 : decode cX8_divisor 0 = .ok (.iload_n 0, 1) := by decide +kernel
theorem dX8_divisor_1 : decode cX8_divisor 1 = .ok (.ifCond .ge 8, 3) := by decide +kernel
theorem dX8_divisor_4 : decode cX8_divisor 4 = .ok (.iload_n 0, 1) := by decide +kernel
theorem dX8_divisor_5 : decode cX8_divisor 5 = .ok (.ineg, 1) := by decide +kernel
theorem dX8_divisor_6 : decode cX8_divisor 6 = .ok (.goto 4, 3) := by decide +kernel
theorem dX8_divisor_9 : decode cX8_divisor 9 = .ok (.iload_n 0, 1) := by decide +kernel
theorem dX8_divisor_10 : decode cX8_divisor 10 = .ok (.istore_n 2, 1) := by decide +kernel
theorem dX8_divisor_11 : decode cX8_divisor 11 = .ok (.iload_n 1, 1) := by decide +kernel
theorem dX8_divisor_12 : decode cX8_divisor 12 = .ok (.istore_n 3, 1) := by decide +kernel
theorem dX8_divisor_13 : decode cX8_divisor 13 = .ok (.iload_n 3, 1) := by decide +kernel
theorem dX8_divisor_14 : decode cX8_divisor 14 = .ok (.ifCond .eq 16, 3) := by decide +kernel
theorem dX8_divisor_17 : decode cX8_divisor 17 = .ok (.iload_n 2, 1) := by decide +kernel
theorem dX8_divisor_18 : decode cX8_divisor 18 = .ok (.iload_n 3, 1) := by decide +kernel
theorem dX8_divisor_19 : decode cX8_divisor 19 = .ok (.irem, 1) := by decide +kernel
theorem dX8_divisor_20 : decode cX8_divisor 20 = .ok (.istore 4, 2) := by decide +kernel
theorem dX8_divisor_22 : decode cX8_divisor 22 = .ok (.iload_n 3, 1) := by decide +kernel
theorem dX8_divisor_23 : decode cX8_divisor 23 = .ok (.istore_n 2, 1) := by decide +kernel
theorem dX8_divisor_24 : decode cX8_divisor 24 = .ok (.iload 4, 2) := by decide +kernel
theorem dX8_divisor_26 : decode cX8_divisor 26 = .ok (.istore_n 3, 1) := by decide +kernel
theorem dX8_divisor_27 : decode cX8_divisor 27 = .ok (.goto (-14), 3) := by decide +kernel
theorem dX8_divisor_30 : decode cX8_divisor 30 = .ok (.iload_n 2, 1) := by decide +kernel
theorem dX8_divisor_31 : decode cX8_divisor 31 = .ok (.ireturn, 1) := by decide +kernel
theorem dX8_fraction_0 : decode cX8_fraction 0 = .ok (.iload_n 0, 1) := by decide +kernel
theorem dX8_fraction_1 : decode cX8_fraction 1 = .ok (.iload_n 1, 1) := by decide +kernel
theorem dX8_fraction_2 : decode cX8_fraction 2 = .ok (.invokestatic 257, 3) := by decide +kernel
theorem dX8_fraction_5 : decode cX8_fraction 5 = .ok (.istore_n 3, 1) := by decide +kernel
theorem dX8_fraction_6 : decode cX8_fraction 6 = .ok (.iload_n 2, 1) := by decide +kernel
theorem dX8_fraction_7 : decode cX8_fraction 7 = .ok (.ifCond .eq 9, 3) := by decide +kernel
theorem dX8_fraction_10 : decode cX8_fraction 10 = .ok (.iload_n 0, 1) := by decide +kernel
theorem dX8_fraction_11 : decode cX8_fraction 11 = .ok (.iload_n 3, 1) := by decide +kernel
theorem dX8_fraction_12 : decode cX8_fraction 12 = .ok (.idiv, 1) := by decide +kernel
theorem dX8_fraction_13 : decode cX8_fraction 13 = .ok (.goto 6, 3) := by decide +kernel
theorem dX8_fraction_16 : decode cX8_fraction 16 = .ok (.iload_n 1, 1) := by decide +kernel
theorem dX8_fraction_17 : decode cX8_fraction 17 = .ok (.iload_n 3, 1) := by decide +kernel
theorem dX8_fraction_18 : decode cX8_fraction 18 = .ok (.idiv, 1) := by decide +kernel
theorem dX8_fraction_19 : decode cX8_fraction 19 = .ok (.ireturn, 1) := by decide +kernel
theorem dX8_keepArcs_0 : decode cX8_keepArcs 0 = .ok (.aload_n 0, 1) := by decide +kernel
theorem dX8_keepArcs_1 : decode cX8_keepArcs 1 = .ok (.invokevirtual 230, 3) := by decide +kernel
theorem dX8_keepArcs_4 : decode cX8_keepArcs 4 = .ok (.aload_n 0, 1) := by decide +kernel
theorem dX8_keepArcs_5 : decode cX8_keepArcs 5 = .ok (.getfield 19, 3) := by decide +kernel
theorem dX8_keepArcs_8 : decode cX8_keepArcs 8 = .ok (.bipush 13, 2) := by decide +kernel
theorem dX8_keepArcs_10 : decode cX8_keepArcs 10 = .ok (.iload_n 1, 1) := by decide +kernel
theorem dX8_keepArcs_11 : decode cX8_keepArcs 11 = .ok (.iadd, 1) := by decide +kernel
theorem dX8_keepArcs_12 : decode cX8_keepArcs 12 = .ok (.iconst 0, 1) := by decide +kernel
theorem dX8_keepArcs_13 : decode cX8_keepArcs 13 = .ok (.iastore, 1) := by decide +kernel
theorem dX8_keepArcs_14 : decode cX8_keepArcs 14 = .ok (.iconst 0, 1) := by decide +kernel
theorem dX8_keepArcs_15 : decode cX8_keepArcs 15 = .ok (.istore_n 3, 1) := by decide +kernel
theorem dX8_keepArcs_16 : decode cX8_keepArcs 16 = .ok (.iload_n 3, 1) := by decide +kernel
theorem dX8_keepArcs_17 : decode cX8_keepArcs 17 = .ok (.aload_n 0, 1) := by decide +kernel
theorem dX8_keepArcs_18 : decode cX8_keepArcs 18 = .ok (.getfield 16, 3) := by decide +kernel
theorem dX8_keepArcs_21 : decode cX8_keepArcs 21 = .ok (.bipush 13, 2) := by decide +kernel
theorem dX8_keepArcs_23 : decode cX8_keepArcs 23 = .ok (.iload_n 1, 1) := by decide +kernel
theorem dX8_keepArcs_24 : decode cX8_keepArcs 24 = .ok (.iadd, 1) := by decide +kernel
theorem dX8_keepArcs_25 : decode cX8_keepArcs 25 = .ok (.iaload, 1) := by decide +kernel
theorem dX8_keepArcs_26 : decode cX8_keepArcs 26 = .ok (.if_icmp .ge 38, 3) := by decide +kernel
theorem dX8_keepArcs_29 : decode cX8_keepArcs 29 = .ok (.iload_n 2, 1) := by decide +kernel
theorem dX8_keepArcs_30 : decode cX8_keepArcs 30 = .ok (.iload_n 3, 1) := by decide +kernel
theorem dX8_keepArcs_31 : decode cX8_keepArcs 31 = .ok (.invokestatic 123, 3) := by decide +kernel
theorem dX8_keepArcs_34 : decode cX8_keepArcs 34 = .ok (.ifCond .eq 24, 3) := by decide +kernel
theorem dX8_keepArcs_37 : decode cX8_keepArcs 37 = .ok (.aload_n 0, 1) := by decide +kernel
theorem dX8_keepArcs_38 : decode cX8_keepArcs 38 = .ok (.getfield 19, 3) := by decide +kernel
theorem dX8_keepArcs_41 : decode cX8_keepArcs 41 = .ok (.iload_n 1, 1) := by decide +kernel
theorem dX8_keepArcs_42 : decode cX8_keepArcs 42 = .ok (.aload_n 0, 1) := by decide +kernel
theorem dX8_keepArcs_43 : decode cX8_keepArcs 43 = .ok (.getfield 16, 3) := by decide +kernel
theorem dX8_keepArcs_46 : decode cX8_keepArcs 46 = .ok (.bipush 25, 2) := by decide +kernel
theorem dX8_keepArcs_48 : decode cX8_keepArcs 48 = .ok (.iconst 3, 1) := by decide +kernel
theorem dX8_keepArcs_49 : decode cX8_keepArcs 49 = .ok (.iload_n 1, 1) := by decide +kernel
theorem dX8_keepArcs_50 : decode cX8_keepArcs 50 = .ok (.imul, 1) := by decide +kernel
theorem dX8_keepArcs_51 : decode cX8_keepArcs 51 = .ok (.iadd, 1) := by decide +kernel
theorem dX8_keepArcs_52 : decode cX8_keepArcs 52 = .ok (.iload_n 3, 1) := by decide +kernel
theorem dX8_keepArcs_53 : decode cX8_keepArcs 53 = .ok (.iadd, 1) := by decide +kernel
theorem dX8_keepArcs_54 : decode cX8_keepArcs 54 = .ok (.iaload, 1) := by decide +kernel
theorem dX8_keepArcs_55 : decode cX8_keepArcs 55 = .ok (.invokestatic 193, 3) := by decide +kernel
theorem dX8_keepArcs_58 : decode cX8_keepArcs 58 = .ok (.iinc 3 1, 3) := by decide +kernel
theorem dX8_keepArcs_61 : decode cX8_keepArcs 61 = .ok (.goto (-45), 3) := by decide +kernel
theorem dX8_keepArcs_64 : decode cX8_keepArcs 64 = .ok (.return_, 1) := by decide +kernel
theorem dX8_share_0 : decode cX8_share 0 = .ok (.aload_n 0, 1) := by decide +kernel
theorem dX8_share_1 : decode cX8_share 1 = .ok (.iconst 0, 1) := by decide +kernel
theorem dX8_share_2 : decode cX8_share 2 = .ok (.putfield 68, 3) := by decide +kernel
theorem dX8_share_5 : decode cX8_share 5 = .ok (.aload_n 0, 1) := by decide +kernel
theorem dX8_share_6 : decode cX8_share 6 = .ok (.iload_n 1, 1) := by decide +kernel
theorem dX8_share_7 : decode cX8_share 7 = .ok (.iload_n 2, 1) := by decide +kernel
theorem dX8_share_8 : decode cX8_share 8 = .ok (.invokevirtual 179, 3) := by decide +kernel
theorem dX8_share_11 : decode cX8_share 11 = .ok (.ifCond .eq 5, 3) := by decide +kernel
theorem dX8_share_14 : decode cX8_share 14 = .ok (.iconst (-1), 1) := by decide +kernel
theorem dX8_share_15 : decode cX8_share 15 = .ok (.ireturn, 1) := by decide +kernel
theorem dX8_share_16 : decode cX8_share 16 = .ok (.aload_n 0, 1) := by decide +kernel
theorem dX8_share_17 : decode cX8_share 17 = .ok (.getfield 16, 3) := by decide +kernel
theorem dX8_share_20 : decode cX8_share 20 = .ok (.bipush 13, 2) := by decide +kernel
theorem dX8_share_22 : decode cX8_share 22 = .ok (.iload_n 1, 1) := by decide +kernel
theorem dX8_share_23 : decode cX8_share 23 = .ok (.iadd, 1) := by decide +kernel
theorem dX8_share_24 : decode cX8_share 24 = .ok (.iaload, 1) := by decide +kernel
theorem dX8_share_25 : decode cX8_share 25 = .ok (.istore 4, 2) := by decide +kernel
theorem dX8_share_27 : decode cX8_share 27 = .ok (.iconst 0, 1) := by decide +kernel
theorem dX8_share_28 : decode cX8_share 28 = .ok (.istore 5, 2) := by decide +kernel
theorem dX8_share_30 : decode cX8_share 30 = .ok (.iload 5, 2) := by decide +kernel
theorem dX8_share_32 : decode cX8_share 32 = .ok (.iconst 1, 1) := by decide +kernel
theorem dX8_share_33 : decode cX8_share 33 = .ok (.iload 4, 2) := by decide +kernel
theorem dX8_share_35 : decode cX8_share 35 = .ok (.ishl, 1) := by decide +kernel
theorem dX8_share_36 : decode cX8_share 36 = .ok (.if_icmp .ge 36, 3) := by decide +kernel
theorem dX8_share_39 : decode cX8_share 39 = .ok (.aload_n 0, 1) := by decide +kernel
theorem dX8_share_40 : decode cX8_share 40 = .ok (.iload_n 1, 1) := by decide +kernel
theorem dX8_share_41 : decode cX8_share 41 = .ok (.iload 5, 2) := by decide +kernel
theorem dX8_share_43 : decode cX8_share 43 = .ok (.invokevirtual 260, 3) := by decide +kernel
theorem dX8_share_46 : decode cX8_share 46 = .ok (.aload_n 0, 1) := by decide +kernel
theorem dX8_share_47 : decode cX8_share 47 = .ok (.aload_n 0, 1) := by decide +kernel
theorem dX8_share_48 : decode cX8_share 48 = .ok (.getfield 19, 3) := by decide +kernel
theorem dX8_share_51 : decode cX8_share 51 = .ok (.invokevirtual 156, 3) := by decide +kernel
theorem dX8_share_54 : decode cX8_share 54 = .ok (.aload_n 0, 1) := by decide +kernel
theorem dX8_share_55 : decode cX8_share 55 = .ok (.getfield 65, 3) := by decide +kernel
theorem dX8_share_58 : decode cX8_share 58 = .ok (.iload 5, 2) := by decide +kernel
theorem dX8_share_60 : decode cX8_share 60 = .ok (.aload_n 0, 1) := by decide +kernel
theorem dX8_share_61 : decode cX8_share 61 = .ok (.iconst 1, 1) := by decide +kernel
theorem dX8_share_62 : decode cX8_share 62 = .ok (.invokevirtual 163, 3) := by decide +kernel
theorem dX8_share_65 : decode cX8_share 65 = .ok (.iastore, 1) := by decide +kernel
theorem dX8_share_66 : decode cX8_share 66 = .ok (.iinc 5 1, 3) := by decide +kernel
theorem dX8_share_69 : decode cX8_share 69 = .ok (.goto (-39), 3) := by decide +kernel
theorem dX8_share_72 : decode cX8_share 72 = .ok (.iconst 0, 1) := by decide +kernel
theorem dX8_share_73 : decode cX8_share 73 = .ok (.istore 5, 2) := by decide +kernel
theorem dX8_share_75 : decode cX8_share 75 = .ok (.iconst 0, 1) := by decide +kernel
theorem dX8_share_76 : decode cX8_share 76 = .ok (.istore 6, 2) := by decide +kernel
theorem dX8_share_78 : decode cX8_share 78 = .ok (.iload 6, 2) := by decide +kernel
theorem dX8_share_80 : decode cX8_share 80 = .ok (.iconst 1, 1) := by decide +kernel
theorem dX8_share_81 : decode cX8_share 81 = .ok (.iload 4, 2) := by decide +kernel
theorem dX8_share_83 : decode cX8_share 83 = .ok (.ishl, 1) := by decide +kernel
theorem dX8_share_84 : decode cX8_share 84 = .ok (.if_icmp .ge 66, 3) := by decide +kernel
theorem dX8_share_87 : decode cX8_share 87 = .ok (.iload 6, 2) := by decide +kernel
theorem dX8_share_89 : decode cX8_share 89 = .ok (.iload_n 2, 1) := by decide +kernel
theorem dX8_share_90 : decode cX8_share 90 = .ok (.invokestatic 123, 3) := by decide +kernel
theorem dX8_share_93 : decode cX8_share 93 = .ok (.ifCond .ne 51, 3) := by decide +kernel
theorem dX8_share_96 : decode cX8_share 96 = .ok (.iload 6, 2) := by decide +kernel
theorem dX8_share_98 : decode cX8_share 98 = .ok (.invokestatic 263, 3) := by decide +kernel
theorem dX8_share_101 : decode cX8_share 101 = .ok (.istore 7, 2) := by decide +kernel
theorem dX8_share_103 : decode cX8_share 103 = .ok (.iload 5, 2) := by decide +kernel
theorem dX8_share_105 : decode cX8_share 105 = .ok (.iload 7, 2) := by decide +kernel
theorem dX8_share_107 : decode cX8_share 107 = .ok (.invokestatic 266, 3) := by decide +kernel
theorem dX8_share_110 : decode cX8_share 110 = .ok (.iload 4, 2) := by decide +kernel
theorem dX8_share_112 : decode cX8_share 112 = .ok (.iconst 1, 1) := by decide +kernel
theorem dX8_share_113 : decode cX8_share 113 = .ok (.isub, 1) := by decide +kernel
theorem dX8_share_114 : decode cX8_share 114 = .ok (.iload 7, 2) := by decide +kernel
theorem dX8_share_116 : decode cX8_share 116 = .ok (.isub, 1) := by decide +kernel
theorem dX8_share_117 : decode cX8_share 117 = .ok (.invokestatic 266, 3) := by decide +kernel
theorem dX8_share_120 : decode cX8_share 120 = .ok (.imul, 1) := by decide +kernel
theorem dX8_share_121 : decode cX8_share 121 = .ok (.aload_n 0, 1) := by decide +kernel
theorem dX8_share_122 : decode cX8_share 122 = .ok (.getfield 65, 3) := by decide +kernel
theorem dX8_share_125 : decode cX8_share 125 = .ok (.iload 6, 2) := by decide +kernel
theorem dX8_share_127 : decode cX8_share 127 = .ok (.iconst 1, 1) := by decide +kernel
theorem dX8_share_128 : decode cX8_share 128 = .ok (.iload_n 2, 1) := by decide +kernel
theorem dX8_share_129 : decode cX8_share 129 = .ok (.ishl, 1) := by decide +kernel
theorem dX8_share_130 : decode cX8_share 130 = .ok (.ior, 1) := by decide +kernel
theorem dX8_share_131 : decode cX8_share 131 = .ok (.iaload, 1) := by decide +kernel
theorem dX8_share_132 : decode cX8_share 132 = .ok (.aload_n 0, 1) := by decide +kernel
theorem dX8_share_133 : decode cX8_share 133 = .ok (.getfield 65, 3) := by decide +kernel
theorem dX8_share_136 : decode cX8_share 136 = .ok (.iload 6, 2) := by decide +kernel
theorem dX8_share_138 : decode cX8_share 138 = .ok (.iaload, 1) := by decide +kernel
theorem dX8_share_139 : decode cX8_share 139 = .ok (.isub, 1) := by decide +kernel
theorem dX8_share_140 : decode cX8_share 140 = .ok (.imul, 1) := by decide +kernel
theorem dX8_share_141 : decode cX8_share 141 = .ok (.iadd, 1) := by decide +kernel
theorem dX8_share_142 : decode cX8_share 142 = .ok (.istore 5, 2) := by decide +kernel
theorem dX8_share_144 : decode cX8_share 144 = .ok (.iinc 6 1, 3) := by decide +kernel
theorem dX8_share_147 : decode cX8_share 147 = .ok (.goto (-69), 3) := by decide +kernel
theorem dX8_share_150 : decode cX8_share 150 = .ok (.iload 5, 2) := by decide +kernel
theorem dX8_share_152 : decode cX8_share 152 = .ok (.iload 4, 2) := by decide +kernel
theorem dX8_share_154 : decode cX8_share 154 = .ok (.invokestatic 266, 3) := by decide +kernel
theorem dX8_share_157 : decode cX8_share 157 = .ok (.iload_n 3, 1) := by decide +kernel
theorem dX8_share_158 : decode cX8_share 158 = .ok (.invokestatic 269, 3) := by decide +kernel
theorem dX8_share_161 : decode cX8_share 161 = .ok (.ireturn, 1) := by decide +kernel
theorem dX8_see_0 : decode cX8_see 0 = .ok (.aload_n 0, 1) := by decide +kernel
theorem dX8_see_1 : decode cX8_see 1 = .ok (.iconst 0, 1) := by decide +kernel
theorem dX8_see_2 : decode cX8_see 2 = .ok (.putfield 68, 3) := by decide +kernel
theorem dX8_see_5 : decode cX8_see 5 = .ok (.iload_n 1, 1) := by decide +kernel
theorem dX8_see_6 : decode cX8_see 6 = .ok (.i2l, 1) := by decide +kernel
theorem dX8_see_7 : decode cX8_see 7 = .ok (.lconst 0, 1) := by decide +kernel
theorem dX8_see_8 : decode cX8_see 8 = .ok (.ldc2_w 246, 3) := by decide +kernel
theorem dX8_see_11 : decode cX8_see 11 = .ok (.invokestatic 72, 3) := by decide +kernel
theorem dX8_see_14 : decode cX8_see 14 = .ok (.ifCond .eq 27, 3) := by decide +kernel
theorem dX8_see_17 : decode cX8_see 17 = .ok (.iload_n 2, 1) := by decide +kernel
theorem dX8_see_18 : decode cX8_see 18 = .ok (.i2l, 1) := by decide +kernel
theorem dX8_see_19 : decode cX8_see 19 = .ok (.ldc2_w 92, 3) := by decide +kernel
theorem dX8_see_22 : decode cX8_see 22 = .ok (.ldc2_w 94, 3) := by decide +kernel
theorem dX8_see_25 : decode cX8_see 25 = .ok (.invokestatic 72, 3) := by decide +kernel
theorem dX8_see_28 : decode cX8_see 28 = .ok (.ifCond .eq 13, 3) := by decide +kernel
theorem dX8_see_31 : decode cX8_see 31 = .ok (.iload_n 3, 1) := by decide +kernel
theorem dX8_see_32 : decode cX8_see 32 = .ok (.i2l, 1) := by decide +kernel
theorem dX8_see_33 : decode cX8_see 33 = .ok (.lconst 0, 1) := by decide +kernel
theorem dX8_see_34 : decode cX8_see 34 = .ok (.lconst 1, 1) := by decide +kernel
theorem dX8_see_35 : decode cX8_see 35 = .ok (.invokestatic 72, 3) := by decide +kernel
theorem dX8_see_38 : decode cX8_see 38 = .ok (.ifCond .ne 6, 3) := by decide +kernel
theorem dX8_see_41 : decode cX8_see 41 = .ok (.bipush (-2), 2) := by decide +kernel
theorem dX8_see_43 : decode cX8_see 43 = .ok (.ireturn, 1) := by decide +kernel
theorem dX8_see_44 : decode cX8_see 44 = .ok (.aload_n 0, 1) := by decide +kernel
theorem dX8_see_45 : decode cX8_see 45 = .ok (.getfield 176, 3) := by decide +kernel
theorem dX8_see_48 : decode cX8_see 48 = .ok (.bipush 6, 2) := by decide +kernel
theorem dX8_see_50 : decode cX8_see 50 = .ok (.if_icmp .ne 6, 3) := by decide +kernel
theorem dX8_see_53 : decode cX8_see 53 = .ok (.bipush (-4), 2) := by decide +kernel
theorem dX8_see_55 : decode cX8_see 55 = .ok (.ireturn, 1) := by decide +kernel
theorem dX8_see_56 : decode cX8_see 56 = .ok (.aload_n 0, 1) := by decide +kernel
theorem dX8_see_57 : decode cX8_see 57 = .ok (.getfield 32, 3) := by decide +kernel
theorem dX8_see_60 : decode cX8_see 60 = .ok (.aload_n 0, 1) := by decide +kernel
theorem dX8_see_61 : decode cX8_see 61 = .ok (.getfield 176, 3) := by decide +kernel
theorem dX8_see_64 : decode cX8_see 64 = .ok (.iload_n 1, 1) := by decide +kernel
theorem dX8_see_65 : decode cX8_see 65 = .ok (.iastore, 1) := by decide +kernel
theorem dX8_see_66 : decode cX8_see 66 = .ok (.aload_n 0, 1) := by decide +kernel
theorem dX8_see_67 : decode cX8_see 67 = .ok (.getfield 35, 3) := by decide +kernel
theorem dX8_see_70 : decode cX8_see 70 = .ok (.aload_n 0, 1) := by decide +kernel
theorem dX8_see_71 : decode cX8_see 71 = .ok (.getfield 176, 3) := by decide +kernel
theorem dX8_see_74 : decode cX8_see 74 = .ok (.iload_n 2, 1) := by decide +kernel
theorem dX8_see_75 : decode cX8_see 75 = .ok (.iastore, 1) := by decide +kernel
theorem dX8_see_76 : decode cX8_see 76 = .ok (.aload_n 0, 1) := by decide +kernel
theorem dX8_see_77 : decode cX8_see 77 = .ok (.getfield 38, 3) := by decide +kernel
theorem dX8_see_80 : decode cX8_see 80 = .ok (.aload_n 0, 1) := by decide +kernel
theorem dX8_see_81 : decode cX8_see 81 = .ok (.getfield 176, 3) := by decide +kernel
theorem dX8_see_84 : decode cX8_see 84 = .ok (.iload_n 3, 1) := by decide +kernel
theorem dX8_see_85 : decode cX8_see 85 = .ok (.iastore, 1) := by decide +kernel
theorem dX8_see_86 : decode cX8_see 86 = .ok (.aload_n 0, 1) := by decide +kernel
theorem dX8_see_87 : decode cX8_see 87 = .ok (.dup, 1) := by decide +kernel
theorem dX8_see_88 : decode cX8_see 88 = .ok (.getfield 176, 3) := by decide +kernel
theorem dX8_see_91 : decode cX8_see 91 = .ok (.iconst 1, 1) := by decide +kernel
theorem dX8_see_92 : decode cX8_see 92 = .ok (.iadd, 1) := by decide +kernel
theorem dX8_see_93 : decode cX8_see 93 = .ok (.putfield 176, 3) := by decide +kernel
theorem dX8_see_96 : decode cX8_see 96 = .ok (.aload_n 0, 1) := by decide +kernel
theorem dX8_see_97 : decode cX8_see 97 = .ok (.getfield 176, 3) := by decide +kernel
theorem dX8_see_100 : decode cX8_see 100 = .ok (.ireturn, 1) := by decide +kernel
theorem dX8_unsee_0 : decode cX8_unsee 0 = .ok (.aload_n 0, 1) := by decide +kernel
theorem dX8_unsee_1 : decode cX8_unsee 1 = .ok (.iconst 0, 1) := by decide +kernel
theorem dX8_unsee_2 : decode cX8_unsee 2 = .ok (.putfield 68, 3) := by decide +kernel
theorem dX8_unsee_5 : decode cX8_unsee 5 = .ok (.aload_n 0, 1) := by decide +kernel
theorem dX8_unsee_6 : decode cX8_unsee 6 = .ok (.getfield 176, 3) := by decide +kernel
theorem dX8_unsee_9 : decode cX8_unsee 9 = .ok (.istore_n 1, 1) := by decide +kernel
theorem dX8_unsee_10 : decode cX8_unsee 10 = .ok (.aload_n 0, 1) := by decide +kernel
theorem dX8_unsee_11 : decode cX8_unsee 11 = .ok (.iconst 0, 1) := by decide +kernel
theorem dX8_unsee_12 : decode cX8_unsee 12 = .ok (.putfield 176, 3) := by decide +kernel
theorem dX8_unsee_15 : decode cX8_unsee 15 = .ok (.iload_n 1, 1) := by decide +kernel
theorem dX8_unsee_16 : decode cX8_unsee 16 = .ok (.ireturn, 1) := by decide +kernel
theorem dX8_actBehind_0 : decode cX8_actBehind 0 = .ok (.iconst 0, 1) := by decide +kernel
theorem dX8_actBehind_1 : decode cX8_actBehind 1 = .ok (.istore_n 3, 1) := by decide +kernel
theorem dX8_actBehind_2 : decode cX8_actBehind 2 = .ok (.iconst 0, 1) := by decide +kernel
theorem dX8_actBehind_3 : decode cX8_actBehind 3 = .ok (.istore 4, 2) := by decide +kernel
theorem dX8_actBehind_5 : decode cX8_actBehind 5 = .ok (.iload 4, 2) := by decide +kernel
theorem dX8_actBehind_7 : decode cX8_actBehind 7 = .ok (.iload_n 2, 1) := by decide +kernel
theorem dX8_actBehind_8 : decode cX8_actBehind 8 = .ok (.if_icmp .ge 27, 3) := by decide +kernel
theorem dX8_actBehind_11 : decode cX8_actBehind 11 = .ok (.aload_n 0, 1) := by decide +kernel
theorem dX8_actBehind_12 : decode cX8_actBehind 12 = .ok (.iload_n 3, 1) := by decide +kernel
theorem dX8_actBehind_13 : decode cX8_actBehind 13 = .ok (.iload_n 1, 1) := by decide +kernel
theorem dX8_actBehind_14 : decode cX8_actBehind 14 = .ok (.iconst 3, 1) := by decide +kernel
theorem dX8_actBehind_15 : decode cX8_actBehind 15 = .ok (.iconst 3, 1) := by decide +kernel
theorem dX8_actBehind_16 : decode cX8_actBehind 16 = .ok (.iload 4, 2) := by decide +kernel
theorem dX8_actBehind_18 : decode cX8_actBehind 18 = .ok (.isub, 1) := by decide +kernel
theorem dX8_actBehind_19 : decode cX8_actBehind 19 = .ok (.invokestatic 216, 3) := by decide +kernel
theorem dX8_actBehind_22 : decode cX8_actBehind 22 = .ok (.idiv, 1) := by decide +kernel
theorem dX8_actBehind_23 : decode cX8_actBehind 23 = .ok (.iconst 3, 1) := by decide +kernel
theorem dX8_actBehind_24 : decode cX8_actBehind 24 = .ok (.irem, 1) := by decide +kernel
theorem dX8_actBehind_25 : decode cX8_actBehind 25 = .ok (.invokevirtual 219, 3) := by decide +kernel
theorem dX8_actBehind_28 : decode cX8_actBehind 28 = .ok (.istore_n 3, 1) := by decide +kernel
theorem dX8_actBehind_29 : decode cX8_actBehind 29 = .ok (.iinc 4 1, 3) := by decide +kernel
theorem dX8_actBehind_32 : decode cX8_actBehind 32 = .ok (.goto (-27), 3) := by decide +kernel
theorem dX8_actBehind_35 : decode cX8_actBehind 35 = .ok (.aload_n 0, 1) := by decide +kernel
theorem dX8_actBehind_36 : decode cX8_actBehind 36 = .ok (.getfield 16, 3) := by decide +kernel
theorem dX8_actBehind_39 : decode cX8_actBehind 39 = .ok (.iconst 1, 1) := by decide +kernel
theorem dX8_actBehind_40 : decode cX8_actBehind 40 = .ok (.iload_n 3, 1) := by decide +kernel
theorem dX8_actBehind_41 : decode cX8_actBehind 41 = .ok (.iadd, 1) := by decide +kernel
theorem dX8_actBehind_42 : decode cX8_actBehind 42 = .ok (.iaload, 1) := by decide +kernel
theorem dX8_actBehind_43 : decode cX8_actBehind 43 = .ok (.ireturn, 1) := by decide +kernel
theorem dX8_figures_0 : decode cX8_figures 0 = .ok (.iload_n 0, 1) := by decide +kernel
theorem dX8_figures_1 : decode cX8_figures 1 = .ok (.bipush 27, 2) := by decide +kernel
theorem dX8_figures_3 : decode cX8_figures 3 = .ok (.idiv, 1) := by decide +kernel
theorem dX8_figures_4 : decode cX8_figures 4 = .ok (.sipush 1000, 3) := by decide +kernel
theorem dX8_figures_7 : decode cX8_figures 7 = .ok (.imul, 1) := by decide +kernel
theorem dX8_figures_8 : decode cX8_figures 8 = .ok (.iload_n 0, 1) := by decide +kernel
theorem dX8_figures_9 : decode cX8_figures 9 = .ok (.bipush 9, 2) := by decide +kernel
theorem dX8_figures_11 : decode cX8_figures 11 = .ok (.idiv, 1) := by decide +kernel
theorem dX8_figures_12 : decode cX8_figures 12 = .ok (.iconst 3, 1) := by decide +kernel
theorem dX8_figures_13 : decode cX8_figures 13 = .ok (.irem, 1) := by decide +kernel
theorem dX8_figures_14 : decode cX8_figures 14 = .ok (.bipush 100, 2) := by decide +kernel
theorem dX8_figures_16 : decode cX8_figures 16 = .ok (.imul, 1) := by decide +kernel
theorem dX8_figures_17 : decode cX8_figures 17 = .ok (.iadd, 1) := by decide +kernel
theorem dX8_figures_18 : decode cX8_figures 18 = .ok (.iload_n 0, 1) := by decide +kernel
theorem dX8_figures_19 : decode cX8_figures 19 = .ok (.iconst 3, 1) := by decide +kernel
theorem dX8_figures_20 : decode cX8_figures 20 = .ok (.idiv, 1) := by decide +kernel
theorem dX8_figures_21 : decode cX8_figures 21 = .ok (.iconst 3, 1) := by decide +kernel
theorem dX8_figures_22 : decode cX8_figures 22 = .ok (.irem, 1) := by decide +kernel
theorem dX8_figures_23 : decode cX8_figures 23 = .ok (.bipush 10, 2) := by decide +kernel
theorem dX8_figures_25 : decode cX8_figures 25 = .ok (.imul, 1) := by decide +kernel
theorem dX8_figures_26 : decode cX8_figures 26 = .ok (.iadd, 1) := by decide +kernel
theorem dX8_figures_27 : decode cX8_figures 27 = .ok (.iload_n 0, 1) := by decide +kernel
theorem dX8_figures_28 : decode cX8_figures 28 = .ok (.iconst 3, 1) := by decide +kernel
theorem dX8_figures_29 : decode cX8_figures 29 = .ok (.irem, 1) := by decide +kernel
theorem dX8_figures_30 : decode cX8_figures 30 = .ok (.iadd, 1) := by decide +kernel
theorem dX8_figures_31 : decode cX8_figures 31 = .ok (.ireturn, 1) := by decide +kernel
theorem dX8_rows_0 : decode cX8_rows 0 = .ok (.aload_n 0, 1) := by decide +kernel
theorem dX8_rows_1 : decode cX8_rows 1 = .ok (.iconst 0, 1) := by decide +kernel
theorem dX8_rows_2 : decode cX8_rows 2 = .ok (.putfield 68, 3) := by decide +kernel
theorem dX8_rows_5 : decode cX8_rows 5 = .ok (.iload_n 1, 1) := by decide +kernel
theorem dX8_rows_6 : decode cX8_rows 6 = .ok (.i2l, 1) := by decide +kernel
theorem dX8_rows_7 : decode cX8_rows 7 = .ok (.lconst 0, 1) := by decide +kernel
theorem dX8_rows_8 : decode cX8_rows 8 = .ok (.lconst 1, 1) := by decide +kernel
theorem dX8_rows_9 : decode cX8_rows 9 = .ok (.invokestatic 72, 3) := by decide +kernel
theorem dX8_rows_12 : decode cX8_rows 12 = .ok (.ifCond .ne 6, 3) := by decide +kernel
theorem dX8_rows_15 : decode cX8_rows 15 = .ok (.bipush (-2), 2) := by decide +kernel
theorem dX8_rows_17 : decode cX8_rows 17 = .ok (.ireturn, 1) := by decide +kernel
theorem dX8_rows_18 : decode cX8_rows 18 = .ok (.aload_n 0, 1) := by decide +kernel
theorem dX8_rows_19 : decode cX8_rows 19 = .ok (.getfield 16, 3) := by decide +kernel
theorem dX8_rows_22 : decode cX8_rows 22 = .ok (.iconst 0, 1) := by decide +kernel
theorem dX8_rows_23 : decode cX8_rows 23 = .ok (.iaload, 1) := by decide +kernel
theorem dX8_rows_24 : decode cX8_rows 24 = .ok (.ifCond .ne 6, 3) := by decide +kernel
theorem dX8_rows_27 : decode cX8_rows 27 = .ok (.bipush (-3), 2) := by decide +kernel
theorem dX8_rows_29 : decode cX8_rows 29 = .ok (.ireturn, 1) := by decide +kernel
theorem dX8_rows_30 : decode cX8_rows 30 = .ok (.aload_n 0, 1) := by decide +kernel
theorem dX8_rows_31 : decode cX8_rows 31 = .ok (.iconst 0, 1) := by decide +kernel
theorem dX8_rows_32 : decode cX8_rows 32 = .ok (.putfield 273, 3) := by decide +kernel
theorem dX8_rows_35 : decode cX8_rows 35 = .ok (.aload_n 0, 1) := by decide +kernel
theorem dX8_rows_36 : decode cX8_rows 36 = .ok (.bipush (-9), 2) := by decide +kernel
theorem dX8_rows_38 : decode cX8_rows 38 = .ok (.putfield 276, 3) := by decide +kernel
theorem dX8_rows_41 : decode cX8_rows 41 = .ok (.iconst 0, 1) := by decide +kernel
theorem dX8_rows_42 : decode cX8_rows 42 = .ok (.istore_n 2, 1) := by decide +kernel
theorem dX8_rows_43 : decode cX8_rows 43 = .ok (.iload_n 2, 1) := by decide +kernel
theorem dX8_rows_44 : decode cX8_rows 44 = .ok (.bipush 81, 2) := by decide +kernel
theorem dX8_rows_46 : decode cX8_rows 46 = .ok (.if_icmp .ge 129, 3) := by decide +kernel
theorem dX8_rows_49 : decode cX8_rows 49 = .ok (.iconst 1, 1) := by decide +kernel
theorem dX8_rows_50 : decode cX8_rows 50 = .ok (.istore_n 3, 1) := by decide +kernel
theorem dX8_rows_51 : decode cX8_rows 51 = .ok (.iconst 0, 1) := by decide +kernel
theorem dX8_rows_52 : decode cX8_rows 52 = .ok (.istore 4, 2) := by decide +kernel
theorem dX8_rows_54 : decode cX8_rows 54 = .ok (.iload 4, 2) := by decide +kernel
theorem dX8_rows_56 : decode cX8_rows 56 = .ok (.aload_n 0, 1) := by decide +kernel
theorem dX8_rows_57 : decode cX8_rows 57 = .ok (.getfield 176, 3) := by decide +kernel
theorem dX8_rows_60 : decode cX8_rows 60 = .ok (.if_icmp .ge 65, 3) := by decide +kernel
theorem dX8_rows_63 : decode cX8_rows 63 = .ok (.iload_n 3, 1) := by decide +kernel
theorem dX8_rows_64 : decode cX8_rows 64 = .ok (.ifCond .eq 53, 3) := by decide +kernel
theorem dX8_rows_67 : decode cX8_rows 67 = .ok (.aload_n 0, 1) := by decide +kernel
theorem dX8_rows_68 : decode cX8_rows 68 = .ok (.iload_n 2, 1) := by decide +kernel
theorem dX8_rows_69 : decode cX8_rows 69 = .ok (.aload_n 0, 1) := by decide +kernel
theorem dX8_rows_70 : decode cX8_rows 70 = .ok (.getfield 32, 3) := by decide +kernel
theorem dX8_rows_73 : decode cX8_rows 73 = .ok (.iload 4, 2) := by decide +kernel
theorem dX8_rows_75 : decode cX8_rows 75 = .ok (.iaload, 1) := by decide +kernel
theorem dX8_rows_76 : decode cX8_rows 76 = .ok (.invokevirtual 279, 3) := by decide +kernel
theorem dX8_rows_79 : decode cX8_rows 79 = .ok (.aload_n 0, 1) := by decide +kernel
theorem dX8_rows_80 : decode cX8_rows 80 = .ok (.getfield 35, 3) := by decide +kernel
theorem dX8_rows_83 : decode cX8_rows 83 = .ok (.iload 4, 2) := by decide +kernel
theorem dX8_rows_85 : decode cX8_rows 85 = .ok (.iaload, 1) := by decide +kernel
theorem dX8_rows_86 : decode cX8_rows 86 = .ok (.if_icmp .ne 7, 3) := by decide +kernel
theorem dX8_rows_89 : decode cX8_rows 89 = .ok (.iconst 1, 1) := by decide +kernel
theorem dX8_rows_90 : decode cX8_rows 90 = .ok (.goto 4, 3) := by decide +kernel
theorem dX8_rows_93 : decode cX8_rows 93 = .ok (.iconst 0, 1) := by decide +kernel
theorem dX8_rows_94 : decode cX8_rows 94 = .ok (.aload_n 0, 1) := by decide +kernel
theorem dX8_rows_95 : decode cX8_rows 95 = .ok (.getfield 38, 3) := by decide +kernel
theorem dX8_rows_98 : decode cX8_rows 98 = .ok (.iload 4, 2) := by decide +kernel
theorem dX8_rows_100 : decode cX8_rows 100 = .ok (.iaload, 1) := by decide +kernel
theorem dX8_rows_101 : decode cX8_rows 101 = .ok (.iconst 1, 1) := by decide +kernel
theorem dX8_rows_102 : decode cX8_rows 102 = .ok (.if_icmp .ne 7, 3) := by decide +kernel
theorem dX8_rows_105 : decode cX8_rows 105 = .ok (.iconst 1, 1) := by decide +kernel
theorem dX8_rows_106 : decode cX8_rows 106 = .ok (.goto 4, 3) := by decide +kernel
theorem dX8_rows_109 : decode cX8_rows 109 = .ok (.iconst 0, 1) := by decide +kernel
theorem dX8_rows_110 : decode cX8_rows 110 = .ok (.if_icmp .ne 7, 3) := by decide +kernel
theorem dX8_rows_113 : decode cX8_rows 113 = .ok (.iconst 1, 1) := by decide +kernel
theorem dX8_rows_114 : decode cX8_rows 114 = .ok (.goto 4, 3) := by decide +kernel
theorem dX8_rows_117 : decode cX8_rows 117 = .ok (.iconst 0, 1) := by decide +kernel
theorem dX8_rows_118 : decode cX8_rows 118 = .ok (.istore_n 3, 1) := by decide +kernel
theorem dX8_rows_119 : decode cX8_rows 119 = .ok (.iinc 4 1, 3) := by decide +kernel
theorem dX8_rows_122 : decode cX8_rows 122 = .ok (.goto (-68), 3) := by decide +kernel
theorem dX8_rows_125 : decode cX8_rows 125 = .ok (.aload_n 0, 1) := by decide +kernel
theorem dX8_rows_126 : decode cX8_rows 126 = .ok (.iload_n 3, 1) := by decide +kernel
theorem dX8_rows_127 : decode cX8_rows 127 = .ok (.ifCond .eq 17, 3) := by decide +kernel
theorem dX8_rows_130 : decode cX8_rows 130 = .ok (.aload_n 0, 1) := by decide +kernel
theorem dX8_rows_131 : decode cX8_rows 131 = .ok (.getfield 273, 3) := by decide +kernel
theorem dX8_rows_134 : decode cX8_rows 134 = .ok (.ifCond .ne 10, 3) := by decide +kernel
theorem dX8_rows_137 : decode cX8_rows 137 = .ok (.iload_n 2, 1) := by decide +kernel
theorem dX8_rows_138 : decode cX8_rows 138 = .ok (.invokestatic 282, 3) := by decide +kernel
theorem dX8_rows_141 : decode cX8_rows 141 = .ok (.goto 7, 3) := by decide +kernel
theorem dX8_rows_144 : decode cX8_rows 144 = .ok (.aload_n 0, 1) := by decide +kernel
theorem dX8_rows_145 : decode cX8_rows 145 = .ok (.getfield 276, 3) := by decide +kernel
theorem dX8_rows_148 : decode cX8_rows 148 = .ok (.putfield 276, 3) := by decide +kernel
theorem dX8_rows_151 : decode cX8_rows 151 = .ok (.aload_n 0, 1) := by decide +kernel
theorem dX8_rows_152 : decode cX8_rows 152 = .ok (.dup, 1) := by decide +kernel
theorem dX8_rows_153 : decode cX8_rows 153 = .ok (.getfield 273, 3) := by decide +kernel
theorem dX8_rows_156 : decode cX8_rows 156 = .ok (.iload_n 3, 1) := by decide +kernel
theorem dX8_rows_157 : decode cX8_rows 157 = .ok (.ifCond .eq 7, 3) := by decide +kernel
theorem dX8_rows_160 : decode cX8_rows 160 = .ok (.iconst 1, 1) := by decide +kernel
theorem dX8_rows_161 : decode cX8_rows 161 = .ok (.goto 4, 3) := by decide +kernel
theorem dX8_rows_164 : decode cX8_rows 164 = .ok (.iconst 0, 1) := by decide +kernel
theorem dX8_rows_165 : decode cX8_rows 165 = .ok (.iadd, 1) := by decide +kernel
theorem dX8_rows_166 : decode cX8_rows 166 = .ok (.putfield 273, 3) := by decide +kernel
theorem dX8_rows_169 : decode cX8_rows 169 = .ok (.iinc 2 1, 3) := by decide +kernel
theorem dX8_rows_172 : decode cX8_rows 172 = .ok (.goto (-129), 3) := by decide +kernel
theorem dX8_rows_175 : decode cX8_rows 175 = .ok (.iload_n 1, 1) := by decide +kernel
theorem dX8_rows_176 : decode cX8_rows 176 = .ok (.ifCond .ne 10, 3) := by decide +kernel
theorem dX8_rows_179 : decode cX8_rows 179 = .ok (.aload_n 0, 1) := by decide +kernel
theorem dX8_rows_180 : decode cX8_rows 180 = .ok (.getfield 273, 3) := by decide +kernel
theorem dX8_rows_183 : decode cX8_rows 183 = .ok (.goto 7, 3) := by decide +kernel
theorem dX8_rows_186 : decode cX8_rows 186 = .ok (.aload_n 0, 1) := by decide +kernel
theorem dX8_rows_187 : decode cX8_rows 187 = .ok (.getfield 276, 3) := by decide +kernel
theorem dX8_rows_190 : decode cX8_rows 190 = .ok (.ireturn, 1) := by decide +kernel
theorem dX8_torn_0 : decode cX8_torn 0 = .ok (.aload_n 0, 1) := by decide +kernel
theorem dX8_torn_1 : decode cX8_torn 1 = .ok (.iconst 0, 1) := by decide +kernel
theorem dX8_torn_2 : decode cX8_torn 2 = .ok (.putfield 68, 3) := by decide +kernel
theorem dX8_torn_5 : decode cX8_torn 5 = .ok (.aload_n 0, 1) := by decide +kernel
theorem dX8_torn_6 : decode cX8_torn 6 = .ok (.iload_n 1, 1) := by decide +kernel
theorem dX8_torn_7 : decode cX8_torn 7 = .ok (.invokevirtual 76, 3) := by decide +kernel
theorem dX8_torn_10 : decode cX8_torn 10 = .ok (.ifCond .eq 5, 3) := by decide +kernel
theorem dX8_torn_13 : decode cX8_torn 13 = .ok (.iconst (-1), 1) := by decide +kernel
theorem dX8_torn_14 : decode cX8_torn 14 = .ok (.ireturn, 1) := by decide +kernel
theorem dX8_torn_15 : decode cX8_torn 15 = .ok (.iload_n 2, 1) := by decide +kernel
theorem dX8_torn_16 : decode cX8_torn 16 = .ok (.i2l, 1) := by decide +kernel
theorem dX8_torn_17 : decode cX8_torn 17 = .ok (.lconst 0, 1) := by decide +kernel
theorem dX8_torn_18 : decode cX8_torn 18 = .ok (.ldc2_w 285, 3) := by decide +kernel
theorem dX8_torn_21 : decode cX8_torn 21 = .ok (.invokestatic 72, 3) := by decide +kernel
theorem dX8_torn_24 : decode cX8_torn 24 = .ok (.ifCond .ne 6, 3) := by decide +kernel
theorem dX8_torn_27 : decode cX8_torn 27 = .ok (.bipush (-2), 2) := by decide +kernel
theorem dX8_torn_29 : decode cX8_torn 29 = .ok (.ireturn, 1) := by decide +kernel
theorem dX8_torn_30 : decode cX8_torn 30 = .ok (.aload_n 0, 1) := by decide +kernel
theorem dX8_torn_31 : decode cX8_torn 31 = .ok (.getfield 16, 3) := by decide +kernel
theorem dX8_torn_34 : decode cX8_torn 34 = .ok (.bipush 13, 2) := by decide +kernel
theorem dX8_torn_36 : decode cX8_torn 36 = .ok (.iload_n 1, 1) := by decide +kernel
theorem dX8_torn_37 : decode cX8_torn 37 = .ok (.iadd, 1) := by decide +kernel
theorem dX8_torn_38 : decode cX8_torn 38 = .ok (.iaload, 1) := by decide +kernel
theorem dX8_torn_39 : decode cX8_torn 39 = .ok (.istore 4, 2) := by decide +kernel
theorem dX8_torn_41 : decode cX8_torn 41 = .ok (.iconst 0, 1) := by decide +kernel
theorem dX8_torn_42 : decode cX8_torn 42 = .ok (.istore 5, 2) := by decide +kernel
theorem dX8_torn_44 : decode cX8_torn 44 = .ok (.iconst 0, 1) := by decide +kernel
theorem dX8_torn_45 : decode cX8_torn 45 = .ok (.istore 6, 2) := by decide +kernel
theorem dX8_torn_47 : decode cX8_torn 47 = .ok (.iload 6, 2) := by decide +kernel
theorem dX8_torn_49 : decode cX8_torn 49 = .ok (.iconst 1, 1) := by decide +kernel
theorem dX8_torn_50 : decode cX8_torn 50 = .ok (.iload 4, 2) := by decide +kernel
theorem dX8_torn_52 : decode cX8_torn 52 = .ok (.ishl, 1) := by decide +kernel
theorem dX8_torn_53 : decode cX8_torn 53 = .ok (.if_icmp .ge 70, 3) := by decide +kernel
theorem dX8_torn_56 : decode cX8_torn 56 = .ok (.aload_n 0, 1) := by decide +kernel
theorem dX8_torn_57 : decode cX8_torn 57 = .ok (.iload_n 1, 1) := by decide +kernel
theorem dX8_torn_58 : decode cX8_torn 58 = .ok (.iload 6, 2) := by decide +kernel
theorem dX8_torn_60 : decode cX8_torn 60 = .ok (.invokevirtual 260, 3) := by decide +kernel
theorem dX8_torn_63 : decode cX8_torn 63 = .ok (.aload_n 0, 1) := by decide +kernel
theorem dX8_torn_64 : decode cX8_torn 64 = .ok (.aload_n 0, 1) := by decide +kernel
theorem dX8_torn_65 : decode cX8_torn 65 = .ok (.getfield 19, 3) := by decide +kernel
theorem dX8_torn_68 : decode cX8_torn 68 = .ok (.invokevirtual 156, 3) := by decide +kernel
theorem dX8_torn_71 : decode cX8_torn 71 = .ok (.iload 6, 2) := by decide +kernel
theorem dX8_torn_73 : decode cX8_torn 73 = .ok (.invokestatic 263, 3) := by decide +kernel
theorem dX8_torn_76 : decode cX8_torn 76 = .ok (.istore 7, 2) := by decide +kernel
theorem dX8_torn_78 : decode cX8_torn 78 = .ok (.iload 5, 2) := by decide +kernel
theorem dX8_torn_80 : decode cX8_torn 80 = .ok (.aload_n 0, 1) := by decide +kernel
theorem dX8_torn_81 : decode cX8_torn 81 = .ok (.aload_n 0, 1) := by decide +kernel
theorem dX8_torn_82 : decode cX8_torn 82 = .ok (.getfield 19, 3) := by decide +kernel
theorem dX8_torn_85 : decode cX8_torn 85 = .ok (.invokevirtual 169, 3) := by decide +kernel
theorem dX8_torn_88 : decode cX8_torn 88 = .ok (.ifCond .eq 25, 3) := by decide +kernel
theorem dX8_torn_91 : decode cX8_torn 91 = .ok (.bipush 10, 2) := by decide +kernel
theorem dX8_torn_93 : decode cX8_torn 93 = .ok (.iload_n 2, 1) := by decide +kernel
theorem dX8_torn_94 : decode cX8_torn 94 = .ok (.isub, 1) := by decide +kernel
theorem dX8_torn_95 : decode cX8_torn 95 = .ok (.iload 7, 2) := by decide +kernel
theorem dX8_torn_97 : decode cX8_torn 97 = .ok (.invokestatic 216, 3) := by decide +kernel
theorem dX8_torn_100 : decode cX8_torn 100 = .ok (.iload_n 2, 1) := by decide +kernel
theorem dX8_torn_101 : decode cX8_torn 101 = .ok (.iload 4, 2) := by decide +kernel
theorem dX8_torn_103 : decode cX8_torn 103 = .ok (.iload 7, 2) := by decide +kernel
theorem dX8_torn_105 : decode cX8_torn 105 = .ok (.isub, 1) := by decide +kernel
theorem dX8_torn_106 : decode cX8_torn 106 = .ok (.invokestatic 216, 3) := by decide +kernel
theorem dX8_torn_109 : decode cX8_torn 109 = .ok (.imul, 1) := by decide +kernel
theorem dX8_torn_110 : decode cX8_torn 110 = .ok (.goto 4, 3) := by decide +kernel
theorem dX8_torn_113 : decode cX8_torn 113 = .ok (.iconst 0, 1) := by decide +kernel
theorem dX8_torn_114 : decode cX8_torn 114 = .ok (.iadd, 1) := by decide +kernel
theorem dX8_torn_115 : decode cX8_torn 115 = .ok (.istore 5, 2) := by decide +kernel
theorem dX8_torn_117 : decode cX8_torn 117 = .ok (.iinc 6 1, 3) := by decide +kernel
theorem dX8_torn_120 : decode cX8_torn 120 = .ok (.goto (-73), 3) := by decide +kernel
theorem dX8_torn_123 : decode cX8_torn 123 = .ok (.iload 5, 2) := by decide +kernel
theorem dX8_torn_125 : decode cX8_torn 125 = .ok (.bipush 10, 2) := by decide +kernel
theorem dX8_torn_127 : decode cX8_torn 127 = .ok (.iload 4, 2) := by decide +kernel
theorem dX8_torn_129 : decode cX8_torn 129 = .ok (.invokestatic 216, 3) := by decide +kernel
theorem dX8_torn_132 : decode cX8_torn 132 = .ok (.iload_n 3, 1) := by decide +kernel
theorem dX8_torn_133 : decode cX8_torn 133 = .ok (.invokestatic 269, 3) := by decide +kernel
theorem dX8_torn_136 : decode cX8_torn 136 = .ok (.ireturn, 1) := by decide +kernel
theorem dX8_seed_0 : decode cX8_seed 0 = .ok (.aload_n 0, 1) := by decide +kernel
theorem dX8_seed_1 : decode cX8_seed 1 = .ok (.iconst 0, 1) := by decide +kernel
theorem dX8_seed_2 : decode cX8_seed 2 = .ok (.putfield 68, 3) := by decide +kernel
theorem dX8_seed_5 : decode cX8_seed 5 = .ok (.aload_n 0, 1) := by decide +kernel
theorem dX8_seed_6 : decode cX8_seed 6 = .ok (.getfield 287, 3) := by decide +kernel
theorem dX8_seed_9 : decode cX8_seed 9 = .ok (.lstore_n 3, 1) := by decide +kernel
theorem dX8_seed_10 : decode cX8_seed 10 = .ok (.aload_n 0, 1) := by decide +kernel
theorem dX8_seed_11 : decode cX8_seed 11 = .ok (.lload_n 1, 1) := by decide +kernel
theorem dX8_seed_12 : decode cX8_seed 12 = .ok (.putfield 287, 3) := by decide +kernel
theorem dX8_seed_15 : decode cX8_seed 15 = .ok (.lload_n 3, 1) := by decide +kernel
theorem dX8_seed_16 : decode cX8_seed 16 = .ok (.lreturn, 1) := by decide +kernel
theorem dX8_drawn_0 : decode cX8_drawn 0 = .ok (.aload_n 0, 1) := by decide +kernel
theorem dX8_drawn_1 : decode cX8_drawn 1 = .ok (.iconst 0, 1) := by decide +kernel
theorem dX8_drawn_2 : decode cX8_drawn 2 = .ok (.putfield 68, 3) := by decide +kernel
theorem dX8_drawn_5 : decode cX8_drawn 5 = .ok (.iload_n 1, 1) := by decide +kernel
theorem dX8_drawn_6 : decode cX8_drawn 6 = .ok (.i2l, 1) := by decide +kernel
theorem dX8_drawn_7 : decode cX8_drawn 7 = .ok (.lconst 1, 1) := by decide +kernel
theorem dX8_drawn_8 : decode cX8_drawn 8 = .ok (.ldc2_w 291, 3) := by decide +kernel
theorem dX8_drawn_11 : decode cX8_drawn 11 = .ok (.invokestatic 72, 3) := by decide +kernel
theorem dX8_drawn_14 : decode cX8_drawn 14 = .ok (.ifCond .ne 6, 3) := by decide +kernel
theorem dX8_drawn_17 : decode cX8_drawn 17 = .ok (.bipush (-2), 2) := by decide +kernel
theorem dX8_drawn_19 : decode cX8_drawn 19 = .ok (.ireturn, 1) := by decide +kernel
theorem dX8_drawn_20 : decode cX8_drawn 20 = .ok (.aload_n 0, 1) := by decide +kernel
theorem dX8_drawn_21 : decode cX8_drawn 21 = .ok (.invokevirtual 230, 3) := by decide +kernel
theorem dX8_drawn_24 : decode cX8_drawn 24 = .ok (.iconst 0, 1) := by decide +kernel
theorem dX8_drawn_25 : decode cX8_drawn 25 = .ok (.istore_n 2, 1) := by decide +kernel
theorem dX8_drawn_26 : decode cX8_drawn 26 = .ok (.iconst 0, 1) := by decide +kernel
theorem dX8_drawn_27 : decode cX8_drawn 27 = .ok (.istore_n 3, 1) := by decide +kernel
theorem dX8_drawn_28 : decode cX8_drawn 28 = .ok (.iload_n 3, 1) := by decide +kernel
theorem dX8_drawn_29 : decode cX8_drawn 29 = .ok (.iload_n 1, 1) := by decide +kernel
theorem dX8_drawn_30 : decode cX8_drawn 30 = .ok (.if_icmp .ge 94, 3) := by decide +kernel
theorem dX8_drawn_33 : decode cX8_drawn 33 = .ok (.aload_n 0, 1) := by decide +kernel
theorem dX8_drawn_34 : decode cX8_drawn 34 = .ok (.aload_n 0, 1) := by decide +kernel
theorem dX8_drawn_35 : decode cX8_drawn 35 = .ok (.getfield 287, 3) := by decide +kernel
theorem dX8_drawn_38 : decode cX8_drawn 38 = .ok (.ldc2_w 293, 3) := by decide +kernel
theorem dX8_drawn_41 : decode cX8_drawn 41 = .ok (.lmul, 1) := by decide +kernel
theorem dX8_drawn_42 : decode cX8_drawn 42 = .ok (.ldc2_w 295, 3) := by decide +kernel
theorem dX8_drawn_45 : decode cX8_drawn 45 = .ok (.ladd, 1) := by decide +kernel
theorem dX8_drawn_46 : decode cX8_drawn 46 = .ok (.putfield 287, 3) := by decide +kernel
theorem dX8_drawn_49 : decode cX8_drawn 49 = .ok (.aload_n 0, 1) := by decide +kernel
theorem dX8_drawn_50 : decode cX8_drawn 50 = .ok (.getfield 287, 3) := by decide +kernel
theorem dX8_drawn_53 : decode cX8_drawn 53 = .ok (.bipush 33, 2) := by decide +kernel
theorem dX8_drawn_55 : decode cX8_drawn 55 = .ok (.lushr, 1) := by decide +kernel
theorem dX8_drawn_56 : decode cX8_drawn 56 = .ok (.l2i, 1) := by decide +kernel
theorem dX8_drawn_57 : decode cX8_drawn 57 = .ok (.istore 4, 2) := by decide +kernel
theorem dX8_drawn_59 : decode cX8_drawn 59 = .ok (.iload 4, 2) := by decide +kernel
theorem dX8_drawn_61 : decode cX8_drawn 61 = .ok (.bipush 64, 2) := by decide +kernel
theorem dX8_drawn_63 : decode cX8_drawn 63 = .ok (.idiv, 1) := by decide +kernel
theorem dX8_drawn_64 : decode cX8_drawn 64 = .ok (.iconst 4, 1) := by decide +kernel
theorem dX8_drawn_65 : decode cX8_drawn 65 = .ok (.irem, 1) := by decide +kernel
theorem dX8_drawn_66 : decode cX8_drawn 66 = .ok (.iconst 3, 1) := by decide +kernel
theorem dX8_drawn_67 : decode cX8_drawn 67 = .ok (.if_icmp .ge 24, 3) := by decide +kernel
theorem dX8_drawn_70 : decode cX8_drawn 70 = .ok (.aload_n 0, 1) := by decide +kernel
theorem dX8_drawn_71 : decode cX8_drawn 71 = .ok (.iload 4, 2) := by decide +kernel
theorem dX8_drawn_73 : decode cX8_drawn 73 = .ok (.bipush 8, 2) := by decide +kernel
theorem dX8_drawn_75 : decode cX8_drawn 75 = .ok (.irem, 1) := by decide +kernel
theorem dX8_drawn_76 : decode cX8_drawn 76 = .ok (.iload 4, 2) := by decide +kernel
theorem dX8_drawn_78 : decode cX8_drawn 78 = .ok (.bipush 8, 2) := by decide +kernel
theorem dX8_drawn_80 : decode cX8_drawn 80 = .ok (.idiv, 1) := by decide +kernel
theorem dX8_drawn_81 : decode cX8_drawn 81 = .ok (.bipush 8, 2) := by decide +kernel
theorem dX8_drawn_83 : decode cX8_drawn 83 = .ok (.irem, 1) := by decide +kernel
theorem dX8_drawn_84 : decode cX8_drawn 84 = .ok (.invokevirtual 233, 3) := by decide +kernel
theorem dX8_drawn_87 : decode cX8_drawn 87 = .ok (.pop, 1) := by decide +kernel
theorem dX8_drawn_88 : decode cX8_drawn 88 = .ok (.goto 14, 3) := by decide +kernel
theorem dX8_drawn_91 : decode cX8_drawn 91 = .ok (.aload_n 0, 1) := by decide +kernel
theorem dX8_drawn_92 : decode cX8_drawn 92 = .ok (.iload 4, 2) := by decide +kernel
theorem dX8_drawn_94 : decode cX8_drawn 94 = .ok (.bipush 8, 2) := by decide +kernel
theorem dX8_drawn_96 : decode cX8_drawn 96 = .ok (.irem, 1) := by decide +kernel
theorem dX8_drawn_97 : decode cX8_drawn 97 = .ok (.iconst 0, 1) := by decide +kernel
theorem dX8_drawn_98 : decode cX8_drawn 98 = .ok (.invokevirtual 236, 3) := by decide +kernel
theorem dX8_drawn_101 : decode cX8_drawn 101 = .ok (.pop, 1) := by decide +kernel
theorem dX8_drawn_102 : decode cX8_drawn 102 = .ok (.aload_n 0, 1) := by decide +kernel
theorem dX8_drawn_103 : decode cX8_drawn 103 = .ok (.aload_n 0, 1) := by decide +kernel
theorem dX8_drawn_104 : decode cX8_drawn 104 = .ok (.getfield 19, 3) := by decide +kernel
theorem dX8_drawn_107 : decode cX8_drawn 107 = .ok (.invokevirtual 156, 3) := by decide +kernel
theorem dX8_drawn_110 : decode cX8_drawn 110 = .ok (.iload_n 2, 1) := by decide +kernel
theorem dX8_drawn_111 : decode cX8_drawn 111 = .ok (.aload_n 0, 1) := by decide +kernel
theorem dX8_drawn_112 : decode cX8_drawn 112 = .ok (.iconst 1, 1) := by decide +kernel
theorem dX8_drawn_113 : decode cX8_drawn 113 = .ok (.invokevirtual 163, 3) := by decide +kernel
theorem dX8_drawn_116 : decode cX8_drawn 116 = .ok (.iadd, 1) := by decide +kernel
theorem dX8_drawn_117 : decode cX8_drawn 117 = .ok (.istore_n 2, 1) := by decide +kernel
theorem dX8_drawn_118 : decode cX8_drawn 118 = .ok (.iinc 3 1, 3) := by decide +kernel
theorem dX8_drawn_121 : decode cX8_drawn 121 = .ok (.goto (-93), 3) := by decide +kernel
theorem dX8_drawn_124 : decode cX8_drawn 124 = .ok (.iload_n 2, 1) := by decide +kernel
theorem dX8_drawn_125 : decode cX8_drawn 125 = .ok (.ireturn, 1) := by decide +kernel
theorem dX8_keep_0 : decode cX8_keep 0 = .ok (.aload_n 0, 1) := by decide +kernel
theorem dX8_keep_1 : decode cX8_keep 1 = .ok (.iconst 0, 1) := by decide +kernel
theorem dX8_keep_2 : decode cX8_keep 2 = .ok (.putfield 68, 3) := by decide +kernel
theorem dX8_keep_5 : decode cX8_keep 5 = .ok (.iload_n 1, 1) := by decide +kernel
theorem dX8_keep_6 : decode cX8_keep 6 = .ok (.i2l, 1) := by decide +kernel
theorem dX8_keep_7 : decode cX8_keep 7 = .ok (.lconst 0, 1) := by decide +kernel
theorem dX8_keep_8 : decode cX8_keep 8 = .ok (.lconst 1, 1) := by decide +kernel
theorem dX8_keep_9 : decode cX8_keep 9 = .ok (.invokestatic 72, 3) := by decide +kernel
theorem dX8_keep_12 : decode cX8_keep 12 = .ok (.ifCond .ne 5, 3) := by decide +kernel
theorem dX8_keep_15 : decode cX8_keep 15 = .ok (.iconst (-1), 1) := by decide +kernel
theorem dX8_keep_16 : decode cX8_keep 16 = .ok (.ireturn, 1) := by decide +kernel
theorem dX8_keep_17 : decode cX8_keep 17 = .ok (.aload_n 0, 1) := by decide +kernel
theorem dX8_keep_18 : decode cX8_keep 18 = .ok (.getfield 28, 3) := by decide +kernel
theorem dX8_keep_21 : decode cX8_keep 21 = .ok (.iload_n 1, 1) := by decide +kernel
theorem dX8_keep_22 : decode cX8_keep 22 = .ok (.iconst 1, 1) := by decide +kernel
theorem dX8_keep_23 : decode cX8_keep 23 = .ok (.bastore, 1) := by decide +kernel
theorem dX8_keep_24 : decode cX8_keep 24 = .ok (.iconst 0, 1) := by decide +kernel
theorem dX8_keep_25 : decode cX8_keep 25 = .ok (.istore_n 2, 1) := by decide +kernel
theorem dX8_keep_26 : decode cX8_keep 26 = .ok (.iload_n 2, 1) := by decide +kernel
theorem dX8_keep_27 : decode cX8_keep 27 = .ok (.bipush 61, 2) := by decide +kernel
theorem dX8_keep_29 : decode cX8_keep 29 = .ok (.if_icmp .ge 26, 3) := by decide +kernel
theorem dX8_keep_32 : decode cX8_keep 32 = .ok (.aload_n 0, 1) := by decide +kernel
theorem dX8_keep_33 : decode cX8_keep 33 = .ok (.getfield 25, 3) := by decide +kernel
theorem dX8_keep_36 : decode cX8_keep 36 = .ok (.bipush 61, 2) := by decide +kernel
theorem dX8_keep_38 : decode cX8_keep 38 = .ok (.iload_n 1, 1) := by decide +kernel
theorem dX8_keep_39 : decode cX8_keep 39 = .ok (.imul, 1) := by decide +kernel
theorem dX8_keep_40 : decode cX8_keep 40 = .ok (.iload_n 2, 1) := by decide +kernel
theorem dX8_keep_41 : decode cX8_keep 41 = .ok (.iadd, 1) := by decide +kernel
theorem dX8_keep_42 : decode cX8_keep 42 = .ok (.aload_n 0, 1) := by decide +kernel
theorem dX8_keep_43 : decode cX8_keep 43 = .ok (.getfield 16, 3) := by decide +kernel
theorem dX8_keep_46 : decode cX8_keep 46 = .ok (.iload_n 2, 1) := by decide +kernel
theorem dX8_keep_47 : decode cX8_keep 47 = .ok (.iaload, 1) := by decide +kernel
theorem dX8_keep_48 : decode cX8_keep 48 = .ok (.iastore, 1) := by decide +kernel
theorem dX8_keep_49 : decode cX8_keep 49 = .ok (.iinc 2 1, 3) := by decide +kernel
theorem dX8_keep_52 : decode cX8_keep 52 = .ok (.goto (-26), 3) := by decide +kernel
theorem dX8_keep_55 : decode cX8_keep 55 = .ok (.aload_n 0, 1) := by decide +kernel
theorem dX8_keep_56 : decode cX8_keep 56 = .ok (.getfield 16, 3) := by decide +kernel
theorem dX8_keep_59 : decode cX8_keep 59 = .ok (.invokestatic 159, 3) := by decide +kernel
theorem dX8_keep_62 : decode cX8_keep 62 = .ok (.ireturn, 1) := by decide +kernel
theorem dX8_again_0 : decode cX8_again 0 = .ok (.aload_n 0, 1) := by decide +kernel
theorem dX8_again_1 : decode cX8_again 1 = .ok (.iconst 0, 1) := by decide +kernel
theorem dX8_again_2 : decode cX8_again 2 = .ok (.putfield 68, 3) := by decide +kernel
theorem dX8_again_5 : decode cX8_again 5 = .ok (.iload_n 1, 1) := by decide +kernel
theorem dX8_again_6 : decode cX8_again 6 = .ok (.i2l, 1) := by decide +kernel
theorem dX8_again_7 : decode cX8_again 7 = .ok (.lconst 0, 1) := by decide +kernel
theorem dX8_again_8 : decode cX8_again 8 = .ok (.lconst 1, 1) := by decide +kernel
theorem dX8_again_9 : decode cX8_again 9 = .ok (.invokestatic 72, 3) := by decide +kernel
theorem dX8_again_12 : decode cX8_again 12 = .ok (.ifCond .ne 5, 3) := by decide +kernel
theorem dX8_again_15 : decode cX8_again 15 = .ok (.iconst (-1), 1) := by decide +kernel
theorem dX8_again_16 : decode cX8_again 16 = .ok (.ireturn, 1) := by decide +kernel
theorem dX8_again_17 : decode cX8_again 17 = .ok (.aload_n 0, 1) := by decide +kernel
theorem dX8_again_18 : decode cX8_again 18 = .ok (.getfield 28, 3) := by decide +kernel
theorem dX8_again_21 : decode cX8_again 21 = .ok (.iload_n 1, 1) := by decide +kernel
theorem dX8_again_22 : decode cX8_again 22 = .ok (.baload, 1) := by decide +kernel
theorem dX8_again_23 : decode cX8_again 23 = .ok (.ifCond .ne 6, 3) := by decide +kernel
theorem dX8_again_26 : decode cX8_again 26 = .ok (.bipush (-3), 2) := by decide +kernel
theorem dX8_again_28 : decode cX8_again 28 = .ok (.ireturn, 1) := by decide +kernel
theorem dX8_again_29 : decode cX8_again 29 = .ok (.iconst 0, 1) := by decide +kernel
theorem dX8_again_30 : decode cX8_again 30 = .ok (.istore_n 2, 1) := by decide +kernel
theorem dX8_again_31 : decode cX8_again 31 = .ok (.iload_n 2, 1) := by decide +kernel
theorem dX8_again_32 : decode cX8_again 32 = .ok (.bipush 61, 2) := by decide +kernel
theorem dX8_again_34 : decode cX8_again 34 = .ok (.if_icmp .ge 26, 3) := by decide +kernel
theorem dX8_again_37 : decode cX8_again 37 = .ok (.aload_n 0, 1) := by decide +kernel
theorem dX8_again_38 : decode cX8_again 38 = .ok (.getfield 16, 3) := by decide +kernel
theorem dX8_again_41 : decode cX8_again 41 = .ok (.iload_n 2, 1) := by decide +kernel
theorem dX8_again_42 : decode cX8_again 42 = .ok (.aload_n 0, 1) := by decide +kernel
theorem dX8_again_43 : decode cX8_again 43 = .ok (.getfield 25, 3) := by decide +kernel
theorem dX8_again_46 : decode cX8_again 46 = .ok (.bipush 61, 2) := by decide +kernel
theorem dX8_again_48 : decode cX8_again 48 = .ok (.iload_n 1, 1) := by decide +kernel
theorem dX8_again_49 : decode cX8_again 49 = .ok (.imul, 1) := by decide +kernel
theorem dX8_again_50 : decode cX8_again 50 = .ok (.iload_n 2, 1) := by decide +kernel
theorem dX8_again_51 : decode cX8_again 51 = .ok (.iadd, 1) := by decide +kernel
theorem dX8_again_52 : decode cX8_again 52 = .ok (.iaload, 1) := by decide +kernel
theorem dX8_again_53 : decode cX8_again 53 = .ok (.iastore, 1) := by decide +kernel
theorem dX8_again_54 : decode cX8_again 54 = .ok (.iinc 2 1, 3) := by decide +kernel
theorem dX8_again_57 : decode cX8_again 57 = .ok (.goto (-26), 3) := by decide +kernel
theorem dX8_again_60 : decode cX8_again 60 = .ok (.aload_n 0, 1) := by decide +kernel
theorem dX8_again_61 : decode cX8_again 61 = .ok (.iconst 0, 1) := by decide +kernel
theorem dX8_again_62 : decode cX8_again 62 = .ok (.putfield 106, 3) := by decide +kernel
theorem dX8_again_65 : decode cX8_again 65 = .ok (.aload_n 0, 1) := by decide +kernel
theorem dX8_again_66 : decode cX8_again 66 = .ok (.getfield 16, 3) := by decide +kernel
theorem dX8_again_69 : decode cX8_again 69 = .ok (.invokestatic 159, 3) := by decide +kernel
theorem dX8_again_72 : decode cX8_again 72 = .ok (.ireturn, 1) := by decide +kernel
theorem dJ6_numberOfTrailingZeros_0f7a4_0 : decode cJ6_numberOfTrailingZeros_0f7a4 0 = .ok (.iload_n 0, 1) := by decide +kernel
theorem dJ6_numberOfTrailingZeros_0f7a4_1 : decode cJ6_numberOfTrailingZeros_0f7a4 1 = .ok (.iconst (-1), 1) := by decide +kernel
theorem dJ6_numberOfTrailingZeros_0f7a4_2 : decode cJ6_numberOfTrailingZeros_0f7a4 2 = .ok (.ixor, 1) := by decide +kernel
theorem dJ6_numberOfTrailingZeros_0f7a4_3 : decode cJ6_numberOfTrailingZeros_0f7a4 3 = .ok (.iload_n 0, 1) := by decide +kernel
theorem dJ6_numberOfTrailingZeros_0f7a4_4 : decode cJ6_numberOfTrailingZeros_0f7a4 4 = .ok (.iconst 1, 1) := by decide +kernel
theorem dJ6_numberOfTrailingZeros_0f7a4_5 : decode cJ6_numberOfTrailingZeros_0f7a4 5 = .ok (.isub, 1) := by decide +kernel
theorem dJ6_numberOfTrailingZeros_0f7a4_6 : decode cJ6_numberOfTrailingZeros_0f7a4 6 = .ok (.iand, 1) := by decide +kernel
theorem dJ6_numberOfTrailingZeros_0f7a4_7 : decode cJ6_numberOfTrailingZeros_0f7a4 7 = .ok (.istore_n 0, 1) := by decide +kernel
theorem dJ6_numberOfTrailingZeros_0f7a4_8 : decode cJ6_numberOfTrailingZeros_0f7a4 8 = .ok (.iload_n 0, 1) := by decide +kernel
theorem dJ6_numberOfTrailingZeros_0f7a4_9 : decode cJ6_numberOfTrailingZeros_0f7a4 9 = .ok (.ifCond .gt 8, 3) := by decide +kernel
theorem dJ6_numberOfTrailingZeros_0f7a4_12 : decode cJ6_numberOfTrailingZeros_0f7a4 12 = .ok (.iload_n 0, 1) := by decide +kernel
theorem dJ6_numberOfTrailingZeros_0f7a4_13 : decode cJ6_numberOfTrailingZeros_0f7a4 13 = .ok (.bipush 32, 2) := by decide +kernel
theorem dJ6_numberOfTrailingZeros_0f7a4_15 : decode cJ6_numberOfTrailingZeros_0f7a4 15 = .ok (.iand, 1) := by decide +kernel
theorem dJ6_numberOfTrailingZeros_0f7a4_16 : decode cJ6_numberOfTrailingZeros_0f7a4 16 = .ok (.ireturn, 1) := by decide +kernel
theorem dJ6_numberOfTrailingZeros_0f7a4_17 : decode cJ6_numberOfTrailingZeros_0f7a4 17 = .ok (.iconst 1, 1) := by decide +kernel
theorem dJ6_numberOfTrailingZeros_0f7a4_18 : decode cJ6_numberOfTrailingZeros_0f7a4 18 = .ok (.istore_n 1, 1) := by decide +kernel
theorem dJ6_numberOfTrailingZeros_0f7a4_19 : decode cJ6_numberOfTrailingZeros_0f7a4 19 = .ok (.iload_n 0, 1) := by decide +kernel
theorem dJ6_numberOfTrailingZeros_0f7a4_20 : decode cJ6_numberOfTrailingZeros_0f7a4 20 = .ok (.ldc_w 264, 3) := by decide +kernel
theorem dJ6_numberOfTrailingZeros_0f7a4_23 : decode cJ6_numberOfTrailingZeros_0f7a4 23 = .ok (.if_icmp .le 11, 3) := by decide +kernel
theorem dJ6_numberOfTrailingZeros_0f7a4_26 : decode cJ6_numberOfTrailingZeros_0f7a4 26 = .ok (.iinc 1 16, 3) := by decide +kernel
theorem dJ6_numberOfTrailingZeros_0f7a4_29 : decode cJ6_numberOfTrailingZeros_0f7a4 29 = .ok (.iload_n 0, 1) := by decide +kernel
theorem dJ6_numberOfTrailingZeros_0f7a4_30 : decode cJ6_numberOfTrailingZeros_0f7a4 30 = .ok (.bipush 16, 2) := by decide +kernel
theorem dJ6_numberOfTrailingZeros_0f7a4_32 : decode cJ6_numberOfTrailingZeros_0f7a4 32 = .ok (.iushr, 1) := by decide +kernel
theorem dJ6_numberOfTrailingZeros_0f7a4_33 : decode cJ6_numberOfTrailingZeros_0f7a4 33 = .ok (.istore_n 0, 1) := by decide +kernel
theorem dJ6_numberOfTrailingZeros_0f7a4_34 : decode cJ6_numberOfTrailingZeros_0f7a4 34 = .ok (.iload_n 0, 1) := by decide +kernel
theorem dJ6_numberOfTrailingZeros_0f7a4_35 : decode cJ6_numberOfTrailingZeros_0f7a4 35 = .ok (.sipush 256, 3) := by decide +kernel
theorem dJ6_numberOfTrailingZeros_0f7a4_38 : decode cJ6_numberOfTrailingZeros_0f7a4 38 = .ok (.if_icmp .le 11, 3) := by decide +kernel
theorem dJ6_numberOfTrailingZeros_0f7a4_41 : decode cJ6_numberOfTrailingZeros_0f7a4 41 = .ok (.iinc 1 8, 3) := by decide +kernel
theorem dJ6_numberOfTrailingZeros_0f7a4_44 : decode cJ6_numberOfTrailingZeros_0f7a4 44 = .ok (.iload_n 0, 1) := by decide +kernel
theorem dJ6_numberOfTrailingZeros_0f7a4_45 : decode cJ6_numberOfTrailingZeros_0f7a4 45 = .ok (.bipush 8, 2) := by decide +kernel
theorem dJ6_numberOfTrailingZeros_0f7a4_47 : decode cJ6_numberOfTrailingZeros_0f7a4 47 = .ok (.iushr, 1) := by decide +kernel
theorem dJ6_numberOfTrailingZeros_0f7a4_48 : decode cJ6_numberOfTrailingZeros_0f7a4 48 = .ok (.istore_n 0, 1) := by decide +kernel
theorem dJ6_numberOfTrailingZeros_0f7a4_49 : decode cJ6_numberOfTrailingZeros_0f7a4 49 = .ok (.iload_n 0, 1) := by decide +kernel
theorem dJ6_numberOfTrailingZeros_0f7a4_50 : decode cJ6_numberOfTrailingZeros_0f7a4 50 = .ok (.bipush 16, 2) := by decide +kernel
theorem dJ6_numberOfTrailingZeros_0f7a4_52 : decode cJ6_numberOfTrailingZeros_0f7a4 52 = .ok (.if_icmp .le 10, 3) := by decide +kernel
theorem dJ6_numberOfTrailingZeros_0f7a4_55 : decode cJ6_numberOfTrailingZeros_0f7a4 55 = .ok (.iinc 1 4, 3) := by decide +kernel
theorem dJ6_numberOfTrailingZeros_0f7a4_58 : decode cJ6_numberOfTrailingZeros_0f7a4 58 = .ok (.iload_n 0, 1) := by decide +kernel
theorem dJ6_numberOfTrailingZeros_0f7a4_59 : decode cJ6_numberOfTrailingZeros_0f7a4 59 = .ok (.iconst 4, 1) := by decide +kernel
theorem dJ6_numberOfTrailingZeros_0f7a4_60 : decode cJ6_numberOfTrailingZeros_0f7a4 60 = .ok (.iushr, 1) := by decide +kernel
theorem dJ6_numberOfTrailingZeros_0f7a4_61 : decode cJ6_numberOfTrailingZeros_0f7a4 61 = .ok (.istore_n 0, 1) := by decide +kernel
theorem dJ6_numberOfTrailingZeros_0f7a4_62 : decode cJ6_numberOfTrailingZeros_0f7a4 62 = .ok (.iload_n 0, 1) := by decide +kernel
theorem dJ6_numberOfTrailingZeros_0f7a4_63 : decode cJ6_numberOfTrailingZeros_0f7a4 63 = .ok (.iconst 4, 1) := by decide +kernel
theorem dJ6_numberOfTrailingZeros_0f7a4_64 : decode cJ6_numberOfTrailingZeros_0f7a4 64 = .ok (.if_icmp .le 10, 3) := by decide +kernel
theorem dJ6_numberOfTrailingZeros_0f7a4_67 : decode cJ6_numberOfTrailingZeros_0f7a4 67 = .ok (.iinc 1 2, 3) := by decide +kernel
theorem dJ6_numberOfTrailingZeros_0f7a4_70 : decode cJ6_numberOfTrailingZeros_0f7a4 70 = .ok (.iload_n 0, 1) := by decide +kernel
theorem dJ6_numberOfTrailingZeros_0f7a4_71 : decode cJ6_numberOfTrailingZeros_0f7a4 71 = .ok (.iconst 2, 1) := by decide +kernel
theorem dJ6_numberOfTrailingZeros_0f7a4_72 : decode cJ6_numberOfTrailingZeros_0f7a4 72 = .ok (.iushr, 1) := by decide +kernel
theorem dJ6_numberOfTrailingZeros_0f7a4_73 : decode cJ6_numberOfTrailingZeros_0f7a4 73 = .ok (.istore_n 0, 1) := by decide +kernel
theorem dJ6_numberOfTrailingZeros_0f7a4_74 : decode cJ6_numberOfTrailingZeros_0f7a4 74 = .ok (.iload_n 1, 1) := by decide +kernel
theorem dJ6_numberOfTrailingZeros_0f7a4_75 : decode cJ6_numberOfTrailingZeros_0f7a4 75 = .ok (.iload_n 0, 1) := by decide +kernel
theorem dJ6_numberOfTrailingZeros_0f7a4_76 : decode cJ6_numberOfTrailingZeros_0f7a4 76 = .ok (.iconst 1, 1) := by decide +kernel
theorem dJ6_numberOfTrailingZeros_0f7a4_77 : decode cJ6_numberOfTrailingZeros_0f7a4 77 = .ok (.iushr, 1) := by decide +kernel
theorem dJ6_numberOfTrailingZeros_0f7a4_78 : decode cJ6_numberOfTrailingZeros_0f7a4 78 = .ok (.iadd, 1) := by decide +kernel
theorem dJ6_numberOfTrailingZeros_0f7a4_79 : decode cJ6_numberOfTrailingZeros_0f7a4 79 = .ok (.ireturn, 1) := by decide +kernel
theorem dJ6_bitCount_0f7a4_0 : decode cJ6_bitCount_0f7a4 0 = .ok (.iload_n 0, 1) := by decide +kernel
theorem dJ6_bitCount_0f7a4_1 : decode cJ6_bitCount_0f7a4 1 = .ok (.iload_n 0, 1) := by decide +kernel
theorem dJ6_bitCount_0f7a4_2 : decode cJ6_bitCount_0f7a4 2 = .ok (.iconst 1, 1) := by decide +kernel
theorem dJ6_bitCount_0f7a4_3 : decode cJ6_bitCount_0f7a4 3 = .ok (.iushr, 1) := by decide +kernel
theorem dJ6_bitCount_0f7a4_4 : decode cJ6_bitCount_0f7a4 4 = .ok (.ldc_w 265, 3) := by decide +kernel
theorem dJ6_bitCount_0f7a4_7 : decode cJ6_bitCount_0f7a4 7 = .ok (.iand, 1) := by decide +kernel
theorem dJ6_bitCount_0f7a4_8 : decode cJ6_bitCount_0f7a4 8 = .ok (.isub, 1) := by decide +kernel
theorem dJ6_bitCount_0f7a4_9 : decode cJ6_bitCount_0f7a4 9 = .ok (.istore_n 0, 1) := by decide +kernel
theorem dJ6_bitCount_0f7a4_10 : decode cJ6_bitCount_0f7a4 10 = .ok (.iload_n 0, 1) := by decide +kernel
theorem dJ6_bitCount_0f7a4_11 : decode cJ6_bitCount_0f7a4 11 = .ok (.ldc_w 266, 3) := by decide +kernel
theorem dJ6_bitCount_0f7a4_14 : decode cJ6_bitCount_0f7a4 14 = .ok (.iand, 1) := by decide +kernel
theorem dJ6_bitCount_0f7a4_15 : decode cJ6_bitCount_0f7a4 15 = .ok (.iload_n 0, 1) := by decide +kernel
