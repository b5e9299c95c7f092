theorem dX5_lastManyEntered_33 : decode cX5_lastManyEntered 33 = .ok (.iinc 1 (-1), 3) := by decide +kernel
theorem dX5_lastManyEntered_36 : decode cX5_lastManyEntered 36 = .ok (.goto (-29), 3) := by decide +kernel
theorem dX5_lastManyEntered_39 : decode cX5_lastManyEntered 39 = .ok (.bipush (-9), 2) := by decide +kernel
theorem dX5_lastManyEntered_41 : decode cX5_lastManyEntered 41 = .ok (.ireturn, 1) := by decide +kernel
theorem dX5_depthOf_0 : decode cX5_depthOf 0 = .ok (.aload_n 0, 1) := by decide +kernel
theorem dX5_depthOf_1 : decode cX5_depthOf 1 = .ok (.getfield 33, 3) := by decide +kernel
theorem dX5_depthOf_4 : decode cX5_depthOf 4 = .ok (.iload_n 1, 1) := by decide +kernel
theorem dX5_depthOf_5 : decode cX5_depthOf 5 = .ok (.iaload, 1) := by decide +kernel
theorem dX5_depthOf_6 : decode cX5_depthOf 6 = .ok (.ifCond .ne 7, 3) := by decide +kernel
theorem dX5_depthOf_9 : decode cX5_depthOf 9 = .ok (.iconst 0, 1) := by decide +kernel
theorem dX5_depthOf_10 : decode cX5_depthOf 10 = .ok (.goto 4, 3) := by decide +kernel
theorem dX5_depthOf_13 : decode cX5_depthOf 13 = .ok (.iconst 1, 1) := by decide +kernel
theorem dX5_depthOf_14 : decode cX5_depthOf 14 = .ok (.istore_n 2, 1) := by decide +kernel
theorem dX5_depthOf_15 : decode cX5_depthOf 15 = .ok (.aload_n 0, 1) := by decide +kernel
theorem dX5_depthOf_16 : decode cX5_depthOf 16 = .ok (.getfield 30, 3) := by decide +kernel
theorem dX5_depthOf_19 : decode cX5_depthOf 19 = .ok (.iload_n 1, 1) := by decide +kernel
theorem dX5_depthOf_20 : decode cX5_depthOf 20 = .ok (.iaload, 1) := by decide +kernel
theorem dX5_depthOf_21 : decode cX5_depthOf 21 = .ok (.istore_n 3, 1) := by decide +kernel
theorem dX5_depthOf_22 : decode cX5_depthOf 22 = .ok (.iconst 0, 1) := by decide +kernel
theorem dX5_depthOf_23 : decode cX5_depthOf 23 = .ok (.istore 4, 2) := by decide +kernel
theorem dX5_depthOf_25 : decode cX5_depthOf 25 = .ok (.iload 4, 2) := by decide +kernel
theorem dX5_depthOf_27 : decode cX5_depthOf 27 = .ok (.bipush 12, 2) := by decide +kernel
theorem dX5_depthOf_29 : decode cX5_depthOf 29 = .ok (.if_icmp .ge 25, 3) := by decide +kernel
theorem dX5_depthOf_32 : decode cX5_depthOf 32 = .ok (.iload_n 3, 1) := by decide +kernel
theorem dX5_depthOf_33 : decode cX5_depthOf 33 = .ok (.bipush (-9), 2) := by decide +kernel
theorem dX5_depthOf_35 : decode cX5_depthOf 35 = .ok (.if_icmp .eq 19, 3) := by decide +kernel
theorem dX5_depthOf_38 : decode cX5_depthOf 38 = .ok (.iinc 2 1, 3) := by decide +kernel
theorem dX5_depthOf_41 : decode cX5_depthOf 41 = .ok (.aload_n 0, 1) := by decide +kernel
theorem dX5_depthOf_42 : decode cX5_depthOf 42 = .ok (.getfield 30, 3) := by decide +kernel
theorem dX5_depthOf_45 : decode cX5_depthOf 45 = .ok (.iload_n 3, 1) := by decide +kernel
theorem dX5_depthOf_46 : decode cX5_depthOf 46 = .ok (.iaload, 1) := by decide +kernel
theorem dX5_depthOf_47 : decode cX5_depthOf 47 = .ok (.istore_n 3, 1) := by decide +kernel
theorem dX5_depthOf_48 : decode cX5_depthOf 48 = .ok (.iinc 4 1, 3) := by decide +kernel
theorem dX5_depthOf_51 : decode cX5_depthOf 51 = .ok (.goto (-26), 3) := by decide +kernel
theorem dX5_depthOf_54 : decode cX5_depthOf 54 = .ok (.iload_n 2, 1) := by decide +kernel
theorem dX5_depthOf_55 : decode cX5_depthOf 55 = .ok (.ireturn, 1) := by decide +kernel
theorem dX5_greatestDepth_0 : decode cX5_greatestDepth 0 = .ok (.iconst 0, 1) := by decide +kernel
theorem dX5_greatestDepth_1 : decode cX5_greatestDepth 1 = .ok (.istore_n 1, 1) := by decide +kernel
theorem dX5_greatestDepth_2 : decode cX5_greatestDepth 2 = .ok (.iconst 0, 1) := by decide +kernel
theorem dX5_greatestDepth_3 : decode cX5_greatestDepth 3 = .ok (.istore_n 2, 1) := by decide +kernel
theorem dX5_greatestDepth_4 : decode cX5_greatestDepth 4 = .ok (.iload_n 2, 1) := by decide +kernel
theorem dX5_greatestDepth_5 : decode cX5_greatestDepth 5 = .ok (.bipush 12, 2) := by decide +kernel
theorem dX5_greatestDepth_7 : decode cX5_greatestDepth 7 = .ok (.if_icmp .ge 19, 3) := by decide +kernel
theorem dX5_greatestDepth_10 : decode cX5_greatestDepth 10 = .ok (.iload_n 1, 1) := by decide +kernel
theorem dX5_greatestDepth_11 : decode cX5_greatestDepth 11 = .ok (.aload_n 0, 1) := by decide +kernel
theorem dX5_greatestDepth_12 : decode cX5_greatestDepth 12 = .ok (.iload_n 2, 1) := by decide +kernel
theorem dX5_greatestDepth_13 : decode cX5_greatestDepth 13 = .ok (.invokevirtual 95, 3) := by decide +kernel
theorem dX5_greatestDepth_16 : decode cX5_greatestDepth 16 = .ok (.invokestatic 98, 3) := by decide +kernel
theorem dX5_greatestDepth_19 : decode cX5_greatestDepth 19 = .ok (.istore_n 1, 1) := by decide +kernel
theorem dX5_greatestDepth_20 : decode cX5_greatestDepth 20 = .ok (.iinc 2 1, 3) := by decide +kernel
theorem dX5_greatestDepth_23 : decode cX5_greatestDepth 23 = .ok (.goto (-19), 3) := by decide +kernel
theorem dX5_greatestDepth_26 : decode cX5_greatestDepth 26 = .ok (.iload_n 1, 1) := by decide +kernel
theorem dX5_greatestDepth_27 : decode cX5_greatestDepth 27 = .ok (.ireturn, 1) := by decide +kernel
theorem dX5_nestOf_0 : decode cX5_nestOf 0 = .ok (.iconst 1, 1) := by decide +kernel
theorem dX5_nestOf_1 : decode cX5_nestOf 1 = .ok (.iload_n 1, 1) := by decide +kernel
theorem dX5_nestOf_2 : decode cX5_nestOf 2 = .ok (.ishl, 1) := by decide +kernel
theorem dX5_nestOf_3 : decode cX5_nestOf 3 = .ok (.istore_n 2, 1) := by decide +kernel
theorem dX5_nestOf_4 : decode cX5_nestOf 4 = .ok (.iconst 0, 1) := by decide +kernel
theorem dX5_nestOf_5 : decode cX5_nestOf 5 = .ok (.istore_n 3, 1) := by decide +kernel
theorem dX5_nestOf_6 : decode cX5_nestOf 6 = .ok (.iload_n 3, 1) := by decide +kernel
theorem dX5_nestOf_7 : decode cX5_nestOf 7 = .ok (.aload_n 0, 1) := by decide +kernel
theorem dX5_nestOf_8 : decode cX5_nestOf 8 = .ok (.getfield 36, 3) := by decide +kernel
theorem dX5_nestOf_11 : decode cX5_nestOf 11 = .ok (.if_icmp .ge 49, 3) := by decide +kernel
theorem dX5_nestOf_14 : decode cX5_nestOf 14 = .ok (.aload_n 0, 1) := by decide +kernel
theorem dX5_nestOf_15 : decode cX5_nestOf 15 = .ok (.getfield 30, 3) := by decide +kernel
theorem dX5_nestOf_18 : decode cX5_nestOf 18 = .ok (.aload_n 0, 1) := by decide +kernel
theorem dX5_nestOf_19 : decode cX5_nestOf 19 = .ok (.getfield 15, 3) := by decide +kernel
theorem dX5_nestOf_22 : decode cX5_nestOf 22 = .ok (.iload_n 3, 1) := by decide +kernel
theorem dX5_nestOf_23 : decode cX5_nestOf 23 = .ok (.iaload, 1) := by decide +kernel
theorem dX5_nestOf_24 : decode cX5_nestOf 24 = .ok (.iaload, 1) := by decide +kernel
theorem dX5_nestOf_25 : decode cX5_nestOf 25 = .ok (.istore 4, 2) := by decide +kernel
theorem dX5_nestOf_27 : decode cX5_nestOf 27 = .ok (.iload 4, 2) := by decide +kernel
theorem dX5_nestOf_29 : decode cX5_nestOf 29 = .ok (.bipush (-9), 2) := by decide +kernel
theorem dX5_nestOf_31 : decode cX5_nestOf 31 = .ok (.if_icmp .eq 23, 3) := by decide +kernel
theorem dX5_nestOf_34 : decode cX5_nestOf 34 = .ok (.iload_n 2, 1) := by decide +kernel
theorem dX5_nestOf_35 : decode cX5_nestOf 35 = .ok (.iload 4, 2) := by decide +kernel
theorem dX5_nestOf_37 : decode cX5_nestOf 37 = .ok (.ishr, 1) := by decide +kernel
theorem dX5_nestOf_38 : decode cX5_nestOf 38 = .ok (.iconst 1, 1) := by decide +kernel
theorem dX5_nestOf_39 : decode cX5_nestOf 39 = .ok (.iand, 1) := by decide +kernel
theorem dX5_nestOf_40 : decode cX5_nestOf 40 = .ok (.ifCond .eq 14, 3) := by decide +kernel
theorem dX5_nestOf_43 : decode cX5_nestOf 43 = .ok (.iload_n 2, 1) := by decide +kernel
theorem dX5_nestOf_44 : decode cX5_nestOf 44 = .ok (.iconst 1, 1) := by decide +kernel
theorem dX5_nestOf_45 : decode cX5_nestOf 45 = .ok (.aload_n 0, 1) := by decide +kernel
theorem dX5_nestOf_46 : decode cX5_nestOf 46 = .ok (.getfield 15, 3) := by decide +kernel
theorem dX5_nestOf_49 : decode cX5_nestOf 49 = .ok (.iload_n 3, 1) := by decide +kernel
theorem dX5_nestOf_50 : decode cX5_nestOf 50 = .ok (.iaload, 1) := by decide +kernel
theorem dX5_nestOf_51 : decode cX5_nestOf 51 = .ok (.ishl, 1) := by decide +kernel
theorem dX5_nestOf_52 : decode cX5_nestOf 52 = .ok (.ior, 1) := by decide +kernel
theorem dX5_nestOf_53 : decode cX5_nestOf 53 = .ok (.istore_n 2, 1) := by decide +kernel
theorem dX5_nestOf_54 : decode cX5_nestOf 54 = .ok (.iinc 3 1, 3) := by decide +kernel
theorem dX5_nestOf_57 : decode cX5_nestOf 57 = .ok (.goto (-51), 3) := by decide +kernel
theorem dX5_nestOf_60 : decode cX5_nestOf 60 = .ok (.iload_n 2, 1) := by decide +kernel
theorem dX5_nestOf_61 : decode cX5_nestOf 61 = .ok (.ireturn, 1) := by decide +kernel
theorem dX5_isTame_0 : decode cX5_isTame 0 = .ok (.iconst 0, 1) := by decide +kernel
theorem dX5_isTame_1 : decode cX5_isTame 1 = .ok (.istore_n 1, 1) := by decide +kernel
theorem dX5_isTame_2 : decode cX5_isTame 2 = .ok (.iload_n 1, 1) := by decide +kernel
theorem dX5_isTame_3 : decode cX5_isTame 3 = .ok (.aload_n 0, 1) := by decide +kernel
theorem dX5_isTame_4 : decode cX5_isTame 4 = .ok (.getfield 36, 3) := by decide +kernel
theorem dX5_isTame_7 : decode cX5_isTame 7 = .ok (.if_icmp .ge 44, 3) := by decide +kernel
theorem dX5_isTame_10 : decode cX5_isTame 10 = .ok (.aload_n 0, 1) := by decide +kernel
theorem dX5_isTame_11 : decode cX5_isTame 11 = .ok (.getfield 15, 3) := by decide +kernel
theorem dX5_isTame_14 : decode cX5_isTame 14 = .ok (.iload_n 1, 1) := by decide +kernel
theorem dX5_isTame_15 : decode cX5_isTame 15 = .ok (.iaload, 1) := by decide +kernel
theorem dX5_isTame_16 : decode cX5_isTame 16 = .ok (.istore_n 2, 1) := by decide +kernel
theorem dX5_isTame_17 : decode cX5_isTame 17 = .ok (.aload_n 0, 1) := by decide +kernel
theorem dX5_isTame_18 : decode cX5_isTame 18 = .ok (.getfield 24, 3) := by decide +kernel
theorem dX5_isTame_21 : decode cX5_isTame 21 = .ok (.iload_n 2, 1) := by decide +kernel
theorem dX5_isTame_22 : decode cX5_isTame 22 = .ok (.iaload, 1) := by decide +kernel
theorem dX5_isTame_23 : decode cX5_isTame 23 = .ok (.ifCond .eq 22, 3) := by decide +kernel
theorem dX5_isTame_26 : decode cX5_isTame 26 = .ok (.aload_n 0, 1) := by decide +kernel
theorem dX5_isTame_27 : decode cX5_isTame 27 = .ok (.getfield 24, 3) := by decide +kernel
theorem dX5_isTame_30 : decode cX5_isTame 30 = .ok (.iload_n 2, 1) := by decide +kernel
theorem dX5_isTame_31 : decode cX5_isTame 31 = .ok (.iaload, 1) := by decide +kernel
theorem dX5_isTame_32 : decode cX5_isTame 32 = .ok (.aload_n 0, 1) := by decide +kernel
theorem dX5_isTame_33 : decode cX5_isTame 33 = .ok (.iload_n 2, 1) := by decide +kernel
theorem dX5_isTame_34 : decode cX5_isTame 34 = .ok (.invokevirtual 103, 3) := by decide +kernel
theorem dX5_isTame_37 : decode cX5_isTame 37 = .ok (.iconst (-1), 1) := by decide +kernel
theorem dX5_isTame_38 : decode cX5_isTame 38 = .ok (.ixor, 1) := by decide +kernel
theorem dX5_isTame_39 : decode cX5_isTame 39 = .ok (.iand, 1) := by decide +kernel
theorem dX5_isTame_40 : decode cX5_isTame 40 = .ok (.ifCond .eq 5, 3) := by decide +kernel
theorem dX5_isTame_43 : decode cX5_isTame 43 = .ok (.iconst 0, 1) := by decide +kernel
theorem dX5_isTame_44 : decode cX5_isTame 44 = .ok (.ireturn, 1) := by decide +kernel
theorem dX5_isTame_45 : decode cX5_isTame 45 = .ok (.iinc 1 1, 3) := by decide +kernel
theorem dX5_isTame_48 : decode cX5_isTame 48 = .ok (.goto (-46), 3) := by decide +kernel
theorem dX5_isTame_51 : decode cX5_isTame 51 = .ok (.iconst 1, 1) := by decide +kernel
theorem dX5_isTame_52 : decode cX5_isTame 52 = .ok (.ireturn, 1) := by decide +kernel
theorem dX5_passedBy_0 : decode cX5_passedBy 0 = .ok (.aload_n 0, 1) := by decide +kernel
theorem dX5_passedBy_1 : decode cX5_passedBy 1 = .ok (.iload_n 1, 1) := by decide +kernel
theorem dX5_passedBy_2 : decode cX5_passedBy 2 = .ok (.invokevirtual 79, 3) := by decide +kernel
theorem dX5_passedBy_5 : decode cX5_passedBy 5 = .ok (.ifCond .eq 18, 3) := by decide +kernel
theorem dX5_passedBy_8 : decode cX5_passedBy 8 = .ok (.aload_n 0, 1) := by decide +kernel
theorem dX5_passedBy_9 : decode cX5_passedBy 9 = .ok (.getfield 40, 3) := by decide +kernel
theorem dX5_passedBy_12 : decode cX5_passedBy 12 = .ok (.aload_n 0, 1) := by decide +kernel
theorem dX5_passedBy_13 : decode cX5_passedBy 13 = .ok (.iload_n 1, 1) := by decide +kernel
theorem dX5_passedBy_14 : decode cX5_passedBy 14 = .ok (.invokevirtual 106, 3) := by decide +kernel
theorem dX5_passedBy_17 : decode cX5_passedBy 17 = .ok (.iconst (-1), 1) := by decide +kernel
theorem dX5_passedBy_18 : decode cX5_passedBy 18 = .ok (.ixor, 1) := by decide +kernel
theorem dX5_passedBy_19 : decode cX5_passedBy 19 = .ok (.iand, 1) := by decide +kernel
theorem dX5_passedBy_20 : decode cX5_passedBy 20 = .ok (.goto 4, 3) := by decide +kernel
theorem dX5_passedBy_23 : decode cX5_passedBy 23 = .ok (.iconst 0, 1) := by decide +kernel
theorem dX5_passedBy_24 : decode cX5_passedBy 24 = .ok (.ireturn, 1) := by decide +kernel
theorem dX5_reachedWithout_0 : decode cX5_reachedWithout 0 = .ok (.iconst 1, 1) := by decide +kernel
theorem dX5_reachedWithout_1 : decode cX5_reachedWithout 1 = .ok (.iload_n 1, 1) := by decide +kernel
theorem dX5_reachedWithout_2 : decode cX5_reachedWithout 2 = .ok (.ishl, 1) := by decide +kernel
theorem dX5_reachedWithout_3 : decode cX5_reachedWithout 3 = .ok (.iconst (-1), 1) := by decide +kernel
theorem dX5_reachedWithout_4 : decode cX5_reachedWithout 4 = .ok (.ixor, 1) := by decide +kernel
theorem dX5_reachedWithout_5 : decode cX5_reachedWithout 5 = .ok (.istore_n 2, 1) := by decide +kernel
theorem dX5_reachedWithout_6 : decode cX5_reachedWithout 6 = .ok (.iconst 1, 1) := by decide +kernel
theorem dX5_reachedWithout_7 : decode cX5_reachedWithout 7 = .ok (.iload_n 2, 1) := by decide +kernel
theorem dX5_reachedWithout_8 : decode cX5_reachedWithout 8 = .ok (.iand, 1) := by decide +kernel
theorem dX5_reachedWithout_9 : decode cX5_reachedWithout 9 = .ok (.istore_n 3, 1) := by decide +kernel
theorem dX5_reachedWithout_10 : decode cX5_reachedWithout 10 = .ok (.iconst 0, 1) := by decide +kernel
theorem dX5_reachedWithout_11 : decode cX5_reachedWithout 11 = .ok (.istore 4, 2) := by decide +kernel
theorem dX5_reachedWithout_13 : decode cX5_reachedWithout 13 = .ok (.iconst 0, 1) := by decide +kernel
theorem dX5_reachedWithout_14 : decode cX5_reachedWithout 14 = .ok (.istore 5, 2) := by decide +kernel
theorem dX5_reachedWithout_16 : decode cX5_reachedWithout 16 = .ok (.iload 5, 2) := by decide +kernel
theorem dX5_reachedWithout_18 : decode cX5_reachedWithout 18 = .ok (.bipush 12, 2) := by decide +kernel
theorem dX5_reachedWithout_20 : decode cX5_reachedWithout 20 = .ok (.if_icmp .ge 50, 3) := by decide +kernel
theorem dX5_reachedWithout_23 : decode cX5_reachedWithout 23 = .ok (.iload_n 3, 1) := by decide +kernel
theorem dX5_reachedWithout_24 : decode cX5_reachedWithout 24 = .ok (.iload 4, 2) := by decide +kernel
theorem dX5_reachedWithout_26 : decode cX5_reachedWithout 26 = .ok (.iconst (-1), 1) := by decide +kernel
theorem dX5_reachedWithout_27 : decode cX5_reachedWithout 27 = .ok (.ixor, 1) := by decide +kernel
theorem dX5_reachedWithout_28 : decode cX5_reachedWithout 28 = .ok (.iand, 1) := by decide +kernel
theorem dX5_reachedWithout_29 : decode cX5_reachedWithout 29 = .ok (.ifCond .eq 41, 3) := by decide +kernel
theorem dX5_reachedWithout_32 : decode cX5_reachedWithout 32 = .ok (.iload_n 3, 1) := by decide +kernel
theorem dX5_reachedWithout_33 : decode cX5_reachedWithout 33 = .ok (.iload 4, 2) := by decide +kernel
theorem dX5_reachedWithout_35 : decode cX5_reachedWithout 35 = .ok (.iconst (-1), 1) := by decide +kernel
theorem dX5_reachedWithout_36 : decode cX5_reachedWithout 36 = .ok (.ixor, 1) := by decide +kernel
theorem dX5_reachedWithout_37 : decode cX5_reachedWithout 37 = .ok (.iand, 1) := by decide +kernel
theorem dX5_reachedWithout_38 : decode cX5_reachedWithout 38 = .ok (.invokestatic 87, 3) := by decide +kernel
theorem dX5_reachedWithout_41 : decode cX5_reachedWithout 41 = .ok (.istore 6, 2) := by decide +kernel
theorem dX5_reachedWithout_43 : decode cX5_reachedWithout 43 = .ok (.iload 4, 2) := by decide +kernel
theorem dX5_reachedWithout_45 : decode cX5_reachedWithout 45 = .ok (.iconst 1, 1) := by decide +kernel
theorem dX5_reachedWithout_46 : decode cX5_reachedWithout 46 = .ok (.iload 6, 2) := by decide +kernel
theorem dX5_reachedWithout_48 : decode cX5_reachedWithout 48 = .ok (.ishl, 1) := by decide +kernel
theorem dX5_reachedWithout_49 : decode cX5_reachedWithout 49 = .ok (.ior, 1) := by decide +kernel
theorem dX5_reachedWithout_50 : decode cX5_reachedWithout 50 = .ok (.istore 4, 2) := by decide +kernel
theorem dX5_reachedWithout_52 : decode cX5_reachedWithout 52 = .ok (.iload_n 3, 1) := by decide +kernel
theorem dX5_reachedWithout_53 : decode cX5_reachedWithout 53 = .ok (.aload_n 0, 1) := by decide +kernel
theorem dX5_reachedWithout_54 : decode cX5_reachedWithout 54 = .ok (.getfield 21, 3) := by decide +kernel
theorem dX5_reachedWithout_57 : decode cX5_reachedWithout 57 = .ok (.iload 6, 2) := by decide +kernel
theorem dX5_reachedWithout_59 : decode cX5_reachedWithout 59 = .ok (.iaload, 1) := by decide +kernel
theorem dX5_reachedWithout_60 : decode cX5_reachedWithout 60 = .ok (.iload_n 2, 1) := by decide +kernel
theorem dX5_reachedWithout_61 : decode cX5_reachedWithout 61 = .ok (.iand, 1) := by decide +kernel
theorem dX5_reachedWithout_62 : decode cX5_reachedWithout 62 = .ok (.ior, 1) := by decide +kernel
theorem dX5_reachedWithout_63 : decode cX5_reachedWithout 63 = .ok (.istore_n 3, 1) := by decide +kernel
theorem dX5_reachedWithout_64 : decode cX5_reachedWithout 64 = .ok (.iinc 5 1, 3) := by decide +kernel
theorem dX5_reachedWithout_67 : decode cX5_reachedWithout 67 = .ok (.goto (-51), 3) := by decide +kernel
theorem dX5_reachedWithout_70 : decode cX5_reachedWithout 70 = .ok (.iload_n 3, 1) := by decide +kernel
theorem dX5_reachedWithout_71 : decode cX5_reachedWithout 71 = .ok (.ireturn, 1) := by decide +kernel
theorem dX6_init_0 : decode cX6_init 0 = .ok (.aload_n 0, 1) := by decide +kernel
theorem dX6_init_1 : decode cX6_init 1 = .ok (.invokespecial 3, 3) := by decide +kernel
theorem dX6_init_4 : decode cX6_init 4 = .ok (.aload_n 0, 1) := by decide +kernel
theorem dX6_init_5 : decode cX6_init 5 = .ok (.bipush 64, 2) := by decide +kernel
theorem dX6_init_7 : decode cX6_init 7 = .ok (.newarray .int, 2) := by decide +kernel
theorem dX6_init_9 : decode cX6_init 9 = .ok (.putfield 9, 3) := by decide +kernel
theorem dX6_init_12 : decode cX6_init 12 = .ok (.aload_n 0, 1) := by decide +kernel
theorem dX6_init_13 : decode cX6_init 13 = .ok (.iconst 0, 1) := by decide +kernel
theorem dX6_init_14 : decode cX6_init 14 = .ok (.putfield 15, 3) := by decide +kernel
theorem dX6_init_17 : decode cX6_init 17 = .ok (.return_, 1) := by decide +kernel
theorem dX6_append_0 : decode cX6_append 0 = .ok (.aload_n 0, 1) := by decide +kernel
theorem dX6_append_1 : decode cX6_append 1 = .ok (.getfield 15, 3) := by decide +kernel
theorem dX6_append_4 : decode cX6_append 4 = .ok (.bipush 64, 2) := by decide +kernel
theorem dX6_append_6 : decode cX6_append 6 = .ok (.if_icmp .lt 6, 3) := by decide +kernel
theorem dX6_append_9 : decode cX6_append 9 = .ok (.bipush (-4), 2) := by decide +kernel
theorem dX6_append_11 : decode cX6_append 11 = .ok (.ireturn, 1) := by decide +kernel
theorem dX6_append_12 : decode cX6_append 12 = .ok (.aload_n 0, 1) := by decide +kernel
theorem dX6_append_13 : decode cX6_append 13 = .ok (.getfield 9, 3) := by decide +kernel
theorem dX6_append_16 : decode cX6_append 16 = .ok (.aload_n 0, 1) := by decide +kernel
theorem dX6_append_17 : decode cX6_append 17 = .ok (.getfield 15, 3) := by decide +kernel
theorem dX6_append_20 : decode cX6_append 20 = .ok (.iload_n 1, 1) := by decide +kernel
theorem dX6_append_21 : decode cX6_append 21 = .ok (.iastore, 1) := by decide +kernel
theorem dX6_append_22 : decode cX6_append 22 = .ok (.aload_n 0, 1) := by decide +kernel
theorem dX6_append_23 : decode cX6_append 23 = .ok (.dup, 1) := by decide +kernel
theorem dX6_append_24 : decode cX6_append 24 = .ok (.getfield 15, 3) := by decide +kernel
theorem dX6_append_27 : decode cX6_append 27 = .ok (.iconst 1, 1) := by decide +kernel
theorem dX6_append_28 : decode cX6_append 28 = .ok (.iadd, 1) := by decide +kernel
theorem dX6_append_29 : decode cX6_append 29 = .ok (.putfield 15, 3) := by decide +kernel
theorem dX6_append_32 : decode cX6_append 32 = .ok (.aload_n 0, 1) := by decide +kernel
theorem dX6_append_33 : decode cX6_append 33 = .ok (.getfield 15, 3) := by decide +kernel
theorem dX6_append_36 : decode cX6_append 36 = .ok (.ireturn, 1) := by decide +kernel
theorem dX6_clear_0 : decode cX6_clear 0 = .ok (.aload_n 0, 1) := by decide +kernel
theorem dX6_clear_1 : decode cX6_clear 1 = .ok (.getfield 15, 3) := by decide +kernel
theorem dX6_clear_4 : decode cX6_clear 4 = .ok (.istore_n 1, 1) := by decide +kernel
theorem dX6_clear_5 : decode cX6_clear 5 = .ok (.aload_n 0, 1) := by decide +kernel
theorem dX6_clear_6 : decode cX6_clear 6 = .ok (.iconst 0, 1) := by decide +kernel
theorem dX6_clear_7 : decode cX6_clear 7 = .ok (.putfield 15, 3) := by decide +kernel
theorem dX6_clear_10 : decode cX6_clear 10 = .ok (.iload_n 1, 1) := by decide +kernel
theorem dX6_clear_11 : decode cX6_clear 11 = .ok (.ireturn, 1) := by decide +kernel
theorem dX6_readInto_0 : decode cX6_readInto 0 = .ok (.aload_n 1, 1) := by decide +kernel
theorem dX6_readInto_1 : decode cX6_readInto 1 = .ok (.iconst 0, 1) := by decide +kernel
theorem dX6_readInto_2 : decode cX6_readInto 2 = .ok (.putfield 19, 3) := by decide +kernel
theorem dX6_readInto_5 : decode cX6_readInto 5 = .ok (.aload_n 0, 1) := by decide +kernel
theorem dX6_readInto_6 : decode cX6_readInto 6 = .ok (.getfield 15, 3) := by decide +kernel
theorem dX6_readInto_9 : decode cX6_readInto 9 = .ok (.ifCond .eq 14, 3) := by decide +kernel
theorem dX6_readInto_12 : decode cX6_readInto 12 = .ok (.aload_n 0, 1) := by decide +kernel
theorem dX6_readInto_13 : decode cX6_readInto 13 = .ok (.getfield 9, 3) := by decide +kernel
theorem dX6_readInto_16 : decode cX6_readInto 16 = .ok (.iconst 0, 1) := by decide +kernel
theorem dX6_readInto_17 : decode cX6_readInto 17 = .ok (.iaload, 1) := by decide +kernel
theorem dX6_readInto_18 : decode cX6_readInto 18 = .ok (.bipush 71, 2) := by decide +kernel
theorem dX6_readInto_20 : decode cX6_readInto 20 = .ok (.if_icmp .eq 5, 3) := by decide +kernel
theorem dX6_readInto_23 : decode cX6_readInto 23 = .ok (.iconst 0, 1) := by decide +kernel
theorem dX6_readInto_24 : decode cX6_readInto 24 = .ok (.ireturn, 1) := by decide +kernel
theorem dX6_readInto_25 : decode cX6_readInto 25 = .ok (.aload_n 0, 1) := by decide +kernel
theorem dX6_readInto_26 : decode cX6_readInto 26 = .ok (.getfield 15, 3) := by decide +kernel
theorem dX6_readInto_29 : decode cX6_readInto 29 = .ok (.iconst 1, 1) := by decide +kernel
theorem dX6_readInto_30 : decode cX6_readInto 30 = .ok (.if_icmp .ne 5, 3) := by decide +kernel
theorem dX6_readInto_33 : decode cX6_readInto 33 = .ok (.iconst 1, 1) := by decide +kernel
theorem dX6_readInto_34 : decode cX6_readInto 34 = .ok (.ireturn, 1) := by decide +kernel
theorem dX6_readInto_35 : decode cX6_readInto 35 = .ok (.aload_n 0, 1) := by decide +kernel
theorem dX6_readInto_36 : decode cX6_readInto 36 = .ok (.getfield 9, 3) := by decide +kernel
theorem dX6_readInto_39 : decode cX6_readInto 39 = .ok (.iconst 1, 1) := by decide +kernel
theorem dX6_readInto_40 : decode cX6_readInto 40 = .ok (.iaload, 1) := by decide +kernel
theorem dX6_readInto_41 : decode cX6_readInto 41 = .ok (.bipush 48, 2) := by decide +kernel
theorem dX6_readInto_43 : decode cX6_readInto 43 = .ok (.isub, 1) := by decide +kernel
theorem dX6_readInto_44 : decode cX6_readInto 44 = .ok (.istore_n 2, 1) := by decide +kernel
theorem dX6_readInto_45 : decode cX6_readInto 45 = .ok (.iload_n 2, 1) := by decide +kernel
theorem dX6_readInto_46 : decode cX6_readInto 46 = .ok (.iconst 1, 1) := by decide +kernel
theorem dX6_readInto_47 : decode cX6_readInto 47 = .ok (.if_icmp .lt 9, 3) := by decide +kernel
theorem dX6_readInto_50 : decode cX6_readInto 50 = .ok (.iload_n 2, 1) := by decide +kernel
theorem dX6_readInto_51 : decode cX6_readInto 51 = .ok (.bipush 8, 2) := by decide +kernel
theorem dX6_readInto_53 : decode cX6_readInto 53 = .ok (.if_icmp .le 5, 3) := by decide +kernel
theorem dX6_readInto_56 : decode cX6_readInto 56 = .ok (.iconst 1, 1) := by decide +kernel
theorem dX6_readInto_57 : decode cX6_readInto 57 = .ok (.ireturn, 1) := by decide +kernel
theorem dX6_readInto_58 : decode cX6_readInto 58 = .ok (.iconst 2, 1) := by decide +kernel
theorem dX6_readInto_59 : decode cX6_readInto 59 = .ok (.istore_n 3, 1) := by decide +kernel
theorem dX6_readInto_60 : decode cX6_readInto 60 = .ok (.iload_n 3, 1) := by decide +kernel
theorem dX6_readInto_61 : decode cX6_readInto 61 = .ok (.aload_n 0, 1) := by decide +kernel
theorem dX6_readInto_62 : decode cX6_readInto 62 = .ok (.getfield 15, 3) := by decide +kernel
theorem dX6_readInto_65 : decode cX6_readInto 65 = .ok (.if_icmp .ge 25, 3) := by decide +kernel
theorem dX6_readInto_68 : decode cX6_readInto 68 = .ok (.aload_n 1, 1) := by decide +kernel
theorem dX6_readInto_69 : decode cX6_readInto 69 = .ok (.iload_n 2, 1) := by decide +kernel
theorem dX6_readInto_70 : decode cX6_readInto 70 = .ok (.aload_n 0, 1) := by decide +kernel
theorem dX6_readInto_71 : decode cX6_readInto 71 = .ok (.getfield 9, 3) := by decide +kernel
theorem dX6_readInto_74 : decode cX6_readInto 74 = .ok (.iload_n 3, 1) := by decide +kernel
theorem dX6_readInto_75 : decode cX6_readInto 75 = .ok (.iaload, 1) := by decide +kernel
theorem dX6_readInto_76 : decode cX6_readInto 76 = .ok (.invokestatic 24, 3) := by decide +kernel
theorem dX6_readInto_79 : decode cX6_readInto 79 = .ok (.ifCond .ne 5, 3) := by decide +kernel
theorem dX6_readInto_82 : decode cX6_readInto 82 = .ok (.iload_n 3, 1) := by decide +kernel
theorem dX6_readInto_83 : decode cX6_readInto 83 = .ok (.ireturn, 1) := by decide +kernel
theorem dX6_readInto_84 : decode cX6_readInto 84 = .ok (.iinc 3 1, 3) := by decide +kernel
theorem dX6_readInto_87 : decode cX6_readInto 87 = .ok (.goto (-27), 3) := by decide +kernel
theorem dX6_readInto_90 : decode cX6_readInto 90 = .ok (.aload_n 1, 1) := by decide +kernel
theorem dX6_readInto_91 : decode cX6_readInto 91 = .ok (.getfield 19, 3) := by decide +kernel
theorem dX6_readInto_94 : decode cX6_readInto 94 = .ok (.iload_n 2, 1) := by decide +kernel
theorem dX6_readInto_95 : decode cX6_readInto 95 = .ok (.if_icmp .ge 10, 3) := by decide +kernel
theorem dX6_readInto_98 : decode cX6_readInto 98 = .ok (.aload_n 0, 1) := by decide +kernel
theorem dX6_readInto_99 : decode cX6_readInto 99 = .ok (.getfield 15, 3) := by decide +kernel
theorem dX6_readInto_102 : decode cX6_readInto 102 = .ok (.goto 5, 3) := by decide +kernel
theorem dX6_readInto_105 : decode cX6_readInto 105 = .ok (.bipush (-9), 2) := by decide +kernel
theorem dX6_readInto_107 : decode cX6_readInto 107 = .ok (.ireturn, 1) := by decide +kernel
theorem dX6_readLetter_0 : decode cX6_readLetter 0 = .ok (.iload_n 2, 1) := by decide +kernel
theorem dX6_readLetter_1 : decode cX6_readLetter 1 = .ok (.bipush 97, 2) := by decide +kernel
theorem dX6_readLetter_3 : decode cX6_readLetter 3 = .ok (.if_icmp .lt 31, 3) := by decide +kernel
theorem dX6_readLetter_6 : decode cX6_readLetter 6 = .ok (.iload_n 2, 1) := by decide +kernel
theorem dX6_readLetter_7 : decode cX6_readLetter 7 = .ok (.bipush 122, 2) := by decide +kernel
theorem dX6_readLetter_9 : decode cX6_readLetter 9 = .ok (.if_icmp .gt 25, 3) := by decide +kernel
theorem dX6_readLetter_12 : decode cX6_readLetter 12 = .ok (.aload_n 0, 1) := by decide +kernel
theorem dX6_readLetter_13 : decode cX6_readLetter 13 = .ok (.getfield 19, 3) := by decide +kernel
theorem dX6_readLetter_16 : decode cX6_readLetter 16 = .ok (.iload_n 1, 1) := by decide +kernel
theorem dX6_readLetter_17 : decode cX6_readLetter 17 = .ok (.if_icmp .ge 15, 3) := by decide +kernel
theorem dX6_readLetter_20 : decode cX6_readLetter 20 = .ok (.aload_n 0, 1) := by decide +kernel
theorem dX6_readLetter_21 : decode cX6_readLetter 21 = .ok (.iload_n 2, 1) := by decide +kernel
theorem dX6_readLetter_22 : decode cX6_readLetter 22 = .ok (.invokevirtual 28, 3) := by decide +kernel
theorem dX6_readLetter_25 : decode cX6_readLetter 25 = .ok (.ifCond .eq 7, 3) := by decide +kernel
theorem dX6_readLetter_28 : decode cX6_readLetter 28 = .ok (.iconst 1, 1) := by decide +kernel
theorem dX6_readLetter_29 : decode cX6_readLetter 29 = .ok (.goto 4, 3) := by decide +kernel
theorem dX6_readLetter_32 : decode cX6_readLetter 32 = .ok (.iconst 0, 1) := by decide +kernel
theorem dX6_readLetter_33 : decode cX6_readLetter 33 = .ok (.ireturn, 1) := by decide +kernel
theorem dX6_readLetter_34 : decode cX6_readLetter 34 = .ok (.iload_n 2, 1) := by decide +kernel
theorem dX6_readLetter_35 : decode cX6_readLetter 35 = .ok (.bipush 48, 2) := by decide +kernel
theorem dX6_readLetter_37 : decode cX6_readLetter 37 = .ok (.isub, 1) := by decide +kernel
theorem dX6_readLetter_38 : decode cX6_readLetter 38 = .ok (.istore_n 3, 1) := by decide +kernel
theorem dX6_readLetter_39 : decode cX6_readLetter 39 = .ok (.iload_n 3, 1) := by decide +kernel
theorem dX6_readLetter_40 : decode cX6_readLetter 40 = .ok (.ifCond .lt 20, 3) := by decide +kernel
theorem dX6_readLetter_43 : decode cX6_readLetter 43 = .ok (.iload_n 3, 1) := by decide +kernel
theorem dX6_readLetter_44 : decode cX6_readLetter 44 = .ok (.iload_n 1, 1) := by decide +kernel
theorem dX6_readLetter_45 : decode cX6_readLetter 45 = .ok (.if_icmp .ge 15, 3) := by decide +kernel
theorem dX6_readLetter_48 : decode cX6_readLetter 48 = .ok (.aload_n 0, 1) := by decide +kernel
theorem dX6_readLetter_49 : decode cX6_readLetter 49 = .ok (.iload_n 3, 1) := by decide +kernel
theorem dX6_readLetter_50 : decode cX6_readLetter 50 = .ok (.invokevirtual 32, 3) := by decide +kernel
theorem dX6_readLetter_53 : decode cX6_readLetter 53 = .ok (.ifCond .eq 7, 3) := by decide +kernel
theorem dX6_readLetter_56 : decode cX6_readLetter 56 = .ok (.iconst 1, 1) := by decide +kernel
theorem dX6_readLetter_57 : decode cX6_readLetter 57 = .ok (.goto 4, 3) := by decide +kernel
theorem dX6_readLetter_60 : decode cX6_readLetter 60 = .ok (.iconst 0, 1) := by decide +kernel
theorem dX6_readLetter_61 : decode cX6_readLetter 61 = .ok (.ireturn, 1) := by decide +kernel
theorem dX7_init_0 : decode cX7_init 0 = .ok (.aload_n 0, 1) := by decide +kernel
theorem dX7_init_1 : decode cX7_init 1 = .ok (.invokespecial 1, 3) := by decide +kernel
theorem dX7_init_4 : decode cX7_init 4 = .ok (.aload_n 0, 1) := by decide +kernel
theorem dX7_init_5 : decode cX7_init 5 = .ok (.new 7, 3) := by decide +kernel
theorem dX7_init_8 : decode cX7_init 8 = .ok (.dup, 1) := by decide +kernel
theorem dX7_init_9 : decode cX7_init 9 = .ok (.invokespecial 9, 3) := by decide +kernel
theorem dX7_init_12 : decode cX7_init 12 = .ok (.putfield 10, 3) := by decide +kernel
theorem dX7_init_15 : decode cX7_init 15 = .ok (.aload_n 0, 1) := by decide +kernel
theorem dX7_init_16 : decode cX7_init 16 = .ok (.new 16, 3) := by decide +kernel
theorem dX7_init_19 : decode cX7_init 19 = .ok (.dup, 1) := by decide +kernel
theorem dX7_init_20 : decode cX7_init 20 = .ok (.invokespecial 18, 3) := by decide +kernel
theorem dX7_init_23 : decode cX7_init 23 = .ok (.putfield 19, 3) := by decide +kernel
theorem dX7_init_26 : decode cX7_init 26 = .ok (.aload_n 0, 1) := by decide +kernel
theorem dX7_init_27 : decode cX7_init 27 = .ok (.new 16, 3) := by decide +kernel
theorem dX7_init_30 : decode cX7_init 30 = .ok (.dup, 1) := by decide +kernel
theorem dX7_init_31 : decode cX7_init 31 = .ok (.invokespecial 18, 3) := by decide +kernel
theorem dX7_init_34 : decode cX7_init 34 = .ok (.putfield 23, 3) := by decide +kernel
theorem dX7_init_37 : decode cX7_init 37 = .ok (.aload_n 0, 1) := by decide +kernel
theorem dX7_init_38 : decode cX7_init 38 = .ok (.new 26, 3) := by decide +kernel
theorem dX7_init_41 : decode cX7_init 41 = .ok (.dup, 1) := by decide +kernel
theorem dX7_init_42 : decode cX7_init 42 = .ok (.invokespecial 28, 3) := by decide +kernel
theorem dX7_init_45 : decode cX7_init 45 = .ok (.putfield 29, 3) := by decide +kernel
theorem dX7_init_48 : decode cX7_init 48 = .ok (.aload_n 0, 1) := by decide +kernel
theorem dX7_init_49 : decode cX7_init 49 = .ok (.new 33, 3) := by decide +kernel
theorem dX7_init_52 : decode cX7_init 52 = .ok (.dup, 1) := by decide +kernel
theorem dX7_init_53 : decode cX7_init 53 = .ok (.invokespecial 35, 3) := by decide +kernel
theorem dX7_init_56 : decode cX7_init 56 = .ok (.putfield 36, 3) := by decide +kernel
theorem dX7_init_59 : decode cX7_init 59 = .ok (.aload_n 0, 1) := by decide +kernel
theorem dX7_init_60 : decode cX7_init 60 = .ok (.new 40, 3) := by decide +kernel
theorem dX7_init_63 : decode cX7_init 63 = .ok (.dup, 1) := by decide +kernel
theorem dX7_init_64 : decode cX7_init 64 = .ok (.invokespecial 42, 3) := by decide +kernel
theorem dX7_init_67 : decode cX7_init 67 = .ok (.putfield 43, 3) := by decide +kernel
theorem dX7_init_70 : decode cX7_init 70 = .ok (.aload_n 0, 1) := by decide +kernel
theorem dX7_init_71 : decode cX7_init 71 = .ok (.new 47, 3) := by decide +kernel
theorem dX7_init_74 : decode cX7_init 74 = .ok (.dup, 1) := by decide +kernel
theorem dX7_init_75 : decode cX7_init 75 = .ok (.invokespecial 49, 3) := by decide +kernel
theorem dX7_init_78 : decode cX7_init 78 = .ok (.putfield 50, 3) := by decide +kernel
theorem dX7_init_81 : decode cX7_init 81 = .ok (.aload_n 0, 1) := by decide +kernel
theorem dX7_init_82 : decode cX7_init 82 = .ok (.lconst 0, 1) := by decide +kernel
theorem dX7_init_83 : decode cX7_init 83 = .ok (.putfield 54, 3) := by decide +kernel
theorem dX7_init_86 : decode cX7_init 86 = .ok (.return_, 1) := by decide +kernel
theorem dX7_write_0 : decode cX7_write 0 = .ok (.iload_n 1, 1) := by decide +kernel
theorem dX7_write_1 : decode cX7_write 1 = .ok (.ifCond .lt 10, 3) := by decide +kernel
theorem dX7_write_4 : decode cX7_write 4 = .ok (.iload_n 1, 1) := by decide +kernel
theorem dX7_write_5 : decode cX7_write 5 = .ok (.sipush 255, 3) := by decide +kernel
theorem dX7_write_8 : decode cX7_write 8 = .ok (.if_icmp .le 6, 3) := by decide +kernel
theorem dX7_write_11 : decode cX7_write 11 = .ok (.bipush (-2), 2) := by decide +kernel
theorem dX7_write_13 : decode cX7_write 13 = .ok (.ireturn, 1) := by decide +kernel
theorem dX7_write_14 : decode cX7_write 14 = .ok (.aload_n 0, 1) := by decide +kernel
theorem dX7_write_15 : decode cX7_write 15 = .ok (.getfield 10, 3) := by decide +kernel
theorem dX7_write_18 : decode cX7_write 18 = .ok (.iload_n 1, 1) := by decide +kernel
theorem dX7_write_19 : decode cX7_write 19 = .ok (.invokevirtual 58, 3) := by decide +kernel
theorem dX7_write_22 : decode cX7_write 22 = .ok (.ireturn, 1) := by decide +kernel
theorem dX7_wipe_0 : decode cX7_wipe 0 = .ok (.aload_n 0, 1) := by decide +kernel
theorem dX7_wipe_1 : decode cX7_wipe 1 = .ok (.getfield 10, 3) := by decide +kernel
theorem dX7_wipe_4 : decode cX7_wipe 4 = .ok (.invokevirtual 62, 3) := by decide +kernel
theorem dX7_wipe_7 : decode cX7_wipe 7 = .ok (.ireturn, 1) := by decide +kernel
theorem dX7_fault_0 : decode cX7_fault 0 = .ok (.aload_n 0, 1) := by decide +kernel
theorem dX7_fault_1 : decode cX7_fault 1 = .ok (.getfield 10, 3) := by decide +kernel
theorem dX7_fault_4 : decode cX7_fault 4 = .ok (.aload_n 0, 1) := by decide +kernel
theorem dX7_fault_5 : decode cX7_fault 5 = .ok (.getfield 23, 3) := by decide +kernel
theorem dX7_fault_8 : decode cX7_fault 8 = .ok (.invokevirtual 66, 3) := by decide +kernel
theorem dX7_fault_11 : decode cX7_fault 11 = .ok (.ireturn, 1) := by decide +kernel
theorem dX7_graph_0 : decode cX7_graph 0 = .ok (.aload_n 0, 1) := by decide +kernel
theorem dX7_graph_1 : decode cX7_graph 1 = .ok (.getfield 10, 3) := by decide +kernel
theorem dX7_graph_4 : decode cX7_graph 4 = .ok (.aload_n 0, 1) := by decide +kernel
theorem dX7_graph_5 : decode cX7_graph 5 = .ok (.getfield 23, 3) := by decide +kernel
theorem dX7_graph_8 : decode cX7_graph 8 = .ok (.invokevirtual 66, 3) := by decide +kernel
theorem dX7_graph_11 : decode cX7_graph 11 = .ok (.bipush (-9), 2) := by decide +kernel
theorem dX7_graph_13 : decode cX7_graph 13 = .ok (.if_icmp .eq 6, 3) := by decide +kernel
theorem dX7_graph_16 : decode cX7_graph 16 = .ok (.bipush (-3), 2) := by decide +kernel
theorem dX7_graph_18 : decode cX7_graph 18 = .ok (.ireturn, 1) := by decide +kernel
theorem dX7_graph_19 : decode cX7_graph 19 = .ok (.aload_n 0, 1) := by decide +kernel
theorem dX7_graph_20 : decode cX7_graph 20 = .ok (.getfield 19, 3) := by decide +kernel
theorem dX7_graph_23 : decode cX7_graph 23 = .ok (.aload_n 0, 1) := by decide +kernel
theorem dX7_graph_24 : decode cX7_graph 24 = .ok (.getfield 23, 3) := by decide +kernel
theorem dX7_graph_27 : decode cX7_graph 27 = .ok (.invokevirtual 70, 3) := by decide +kernel
theorem dX7_graph_30 : decode cX7_graph 30 = .ok (.aload_n 0, 1) := by decide +kernel
theorem dX7_graph_31 : decode cX7_graph 31 = .ok (.getfield 36, 3) := by decide +kernel
theorem dX7_graph_34 : decode cX7_graph 34 = .ok (.invokevirtual 74, 3) := by decide +kernel
theorem dX7_graph_37 : decode cX7_graph 37 = .ok (.aload_n 0, 1) := by decide +kernel
theorem dX7_graph_38 : decode cX7_graph 38 = .ok (.getfield 43, 3) := by decide +kernel
theorem dX7_graph_41 : decode cX7_graph 41 = .ok (.invokevirtual 77, 3) := by decide +kernel
theorem dX7_graph_44 : decode cX7_graph 44 = .ok (.aload_n 0, 1) := by decide +kernel
theorem dX7_graph_45 : decode cX7_graph 45 = .ok (.getfield 19, 3) := by decide +kernel
theorem dX7_graph_48 : decode cX7_graph 48 = .ok (.getfield 78, 3) := by decide +kernel
theorem dX7_graph_51 : decode cX7_graph 51 = .ok (.ireturn, 1) := by decide +kernel
theorem dX7_about_0 : decode cX7_about 0 = .ok (.iload_n 1, 1) := by decide +kernel
theorem dX7_about_1 : decode cX7_about 1 = .ok (.tableswitch 99 0 10 #[59, 67, 99, 99, 99, 99, 99, 99, 75, 83, 91], 59) := by decide +kernel
theorem dX7_about_60 : decode cX7_about 60 = .ok (.aload_n 0, 1) := by decide +kernel
theorem dX7_about_61 : decode cX7_about 61 = .ok (.getfield 19, 3) := by decide +kernel
theorem dX7_about_64 : decode cX7_about 64 = .ok (.getfield 78, 3) := by decide +kernel
theorem dX7_about_67 : decode cX7_about 67 = .ok (.ireturn, 1) := by decide +kernel
theorem dX7_about_68 : decode cX7_about 68 = .ok (.aload_n 0, 1) := by decide +kernel
theorem dX7_about_69 : decode cX7_about 69 = .ok (.getfield 19, 3) := by decide +kernel
theorem dX7_about_72 : decode cX7_about 72 = .ok (.invokevirtual 82, 3) := by decide +kernel
theorem dX7_about_75 : decode cX7_about 75 = .ok (.ireturn, 1) := by decide +kernel
theorem dX7_about_76 : decode cX7_about 76 = .ok (.aload_n 0, 1) := by decide +kernel
theorem dX7_about_77 : decode cX7_about 77 = .ok (.getfield 36, 3) := by decide +kernel
theorem dX7_about_80 : decode cX7_about 80 = .ok (.getfield 85, 3) := by decide +kernel
theorem dX7_about_83 : decode cX7_about 83 = .ok (.ireturn, 1) := by decide +kernel
theorem dX7_about_84 : decode cX7_about 84 = .ok (.aload_n 0, 1) := by decide +kernel
theorem dX7_about_85 : decode cX7_about 85 = .ok (.getfield 50, 3) := by decide +kernel
theorem dX7_about_88 : decode cX7_about 88 = .ok (.getfield 88, 3) := by decide +kernel
theorem dX7_about_91 : decode cX7_about 91 = .ok (.ireturn, 1) := by decide +kernel
theorem dX7_about_92 : decode cX7_about 92 = .ok (.aload_n 0, 1) := by decide +kernel
theorem dX7_about_93 : decode cX7_about 93 = .ok (.getfield 10, 3) := by decide +kernel
theorem dX7_about_96 : decode cX7_about 96 = .ok (.getfield 89, 3) := by decide +kernel
theorem dX7_about_99 : decode cX7_about 99 = .ok (.ireturn, 1) := by decide +kernel
theorem dX7_about_100 : decode cX7_about 100 = .ok (.iload_n 1, 1) := by decide +kernel
theorem dX7_about_101 : decode cX7_about 101 = .ok (.iconst 2, 1) := by decide +kernel
theorem dX7_about_102 : decode cX7_about 102 = .ok (.if_icmp .lt 17, 3) := by decide +kernel
theorem dX7_about_105 : decode cX7_about 105 = .ok (.iload_n 1, 1) := by decide +kernel
theorem dX7_about_106 : decode cX7_about 106 = .ok (.bipush 7, 2) := by decide +kernel
theorem dX7_about_108 : decode cX7_about 108 = .ok (.if_icmp .gt 11, 3) := by decide +kernel
theorem dX7_about_111 : decode cX7_about 111 = .ok (.aload_n 0, 1) := by decide +kernel
theorem dX7_about_112 : decode cX7_about 112 = .ok (.iload_n 1, 1) := by decide +kernel
theorem dX7_about_113 : decode cX7_about 113 = .ok (.invokevirtual 92, 3) := by decide +kernel
theorem dX7_about_116 : decode cX7_about 116 = .ok (.goto 5, 3) := by decide +kernel
theorem dX7_about_119 : decode cX7_about 119 = .ok (.bipush (-2), 2) := by decide +kernel
theorem dX7_about_121 : decode cX7_about 121 = .ok (.ireturn, 1) := by decide +kernel
theorem dX7_aboutLoops_0 : decode cX7_aboutLoops 0 = .ok (.aload_n 0, 1) := by decide +kernel
theorem dX7_aboutLoops_1 : decode cX7_aboutLoops 1 = .ok (.getfield 29, 3) := by decide +kernel
theorem dX7_aboutLoops_4 : decode cX7_aboutLoops 4 = .ok (.aload_n 0, 1) := by decide +kernel
theorem dX7_aboutLoops_5 : decode cX7_aboutLoops 5 = .ok (.getfield 19, 3) := by decide +kernel
theorem dX7_aboutLoops_8 : decode cX7_aboutLoops 8 = .ok (.invokevirtual 95, 3) := by decide +kernel
theorem dX7_aboutLoops_11 : decode cX7_aboutLoops 11 = .ok (.iload_n 1, 1) := by decide +kernel
theorem dX7_aboutLoops_12 : decode cX7_aboutLoops 12 = .ok (.tableswitch 84 2 6 #[36, 44, 52, 60, 68], 36) := by decide +kernel
theorem dX7_aboutLoops_48 : decode cX7_aboutLoops 48 = .ok (.aload_n 0, 1) := by decide +kernel
theorem dX7_aboutLoops_49 : decode cX7_aboutLoops 49 = .ok (.getfield 29, 3) := by decide +kernel
theorem dX7_aboutLoops_52 : decode cX7_aboutLoops 52 = .ok (.getfield 98, 3) := by decide +kernel
theorem dX7_aboutLoops_55 : decode cX7_aboutLoops 55 = .ok (.ireturn, 1) := by decide +kernel
theorem dX7_aboutLoops_56 : decode cX7_aboutLoops 56 = .ok (.aload_n 0, 1) := by decide +kernel
theorem dX7_aboutLoops_57 : decode cX7_aboutLoops 57 = .ok (.getfield 29, 3) := by decide +kernel
theorem dX7_aboutLoops_60 : decode cX7_aboutLoops 60 = .ok (.invokevirtual 101, 3) := by decide +kernel
theorem dX7_aboutLoops_63 : decode cX7_aboutLoops 63 = .ok (.ireturn, 1) := by decide +kernel
theorem dX7_aboutLoops_64 : decode cX7_aboutLoops 64 = .ok (.aload_n 0, 1) := by decide +kernel
theorem dX7_aboutLoops_65 : decode cX7_aboutLoops 65 = .ok (.getfield 29, 3) := by decide +kernel
theorem dX7_aboutLoops_68 : decode cX7_aboutLoops 68 = .ok (.invokevirtual 104, 3) := by decide +kernel
theorem dX7_aboutLoops_71 : decode cX7_aboutLoops 71 = .ok (.ireturn, 1) := by decide +kernel
theorem dX7_aboutLoops_72 : decode cX7_aboutLoops 72 = .ok (.aload_n 0, 1) := by decide +kernel
theorem dX7_aboutLoops_73 : decode cX7_aboutLoops 73 = .ok (.getfield 29, 3) := by decide +kernel
theorem dX7_aboutLoops_76 : decode cX7_aboutLoops 76 = .ok (.invokevirtual 107, 3) := by decide +kernel
theorem dX7_aboutLoops_79 : decode cX7_aboutLoops 79 = .ok (.ireturn, 1) := by decide +kernel
theorem dX7_aboutLoops_80 : decode cX7_aboutLoops 80 = .ok (.aload_n 0, 1) := by decide +kernel
theorem dX7_aboutLoops_81 : decode cX7_aboutLoops 81 = .ok (.getfield 29, 3) := by decide +kernel
theorem dX7_aboutLoops_84 : decode cX7_aboutLoops 84 = .ok (.invokevirtual 110, 3) := by decide +kernel
theorem dX7_aboutLoops_87 : decode cX7_aboutLoops 87 = .ok (.ifCond .eq 7, 3) := by decide +kernel
theorem dX7_aboutLoops_90 : decode cX7_aboutLoops 90 = .ok (.iconst 1, 1) := by decide +kernel
theorem dX7_aboutLoops_91 : decode cX7_aboutLoops 91 = .ok (.goto 4, 3) := by decide +kernel
theorem dX7_aboutLoops_94 : decode cX7_aboutLoops 94 = .ok (.iconst 0, 1) := by decide +kernel
theorem dX7_aboutLoops_95 : decode cX7_aboutLoops 95 = .ok (.ireturn, 1) := by decide +kernel
theorem dX7_aboutLoops_96 : decode cX7_aboutLoops 96 = .ok (.aload_n 0, 1) := by decide +kernel
theorem dX7_aboutLoops_97 : decode cX7_aboutLoops 97 = .ok (.getfield 29, 3) := by decide +kernel
theorem dX7_aboutLoops_100 : decode cX7_aboutLoops 100 = .ok (.getfield 114, 3) := by decide +kernel
theorem dX7_aboutLoops_103 : decode cX7_aboutLoops 103 = .ok (.ireturn, 1) := by decide +kernel
theorem dX7_block_0 : decode cX7_block 0 = .ok (.aload_n 0, 1) := by decide +kernel
theorem dX7_block_1 : decode cX7_block 1 = .ok (.getfield 19, 3) := by decide +kernel
theorem dX7_block_4 : decode cX7_block 4 = .ok (.iload_n 1, 1) := by decide +kernel
theorem dX7_block_5 : decode cX7_block 5 = .ok (.invokevirtual 117, 3) := by decide +kernel
theorem dX7_block_8 : decode cX7_block 8 = .ok (.ifCond .ne 5, 3) := by decide +kernel
theorem dX7_block_11 : decode cX7_block 11 = .ok (.iconst (-1), 1) := by decide +kernel
theorem dX7_block_12 : decode cX7_block 12 = .ok (.ireturn, 1) := by decide +kernel
theorem dX7_block_13 : decode cX7_block 13 = .ok (.iload_n 2, 1) := by decide +kernel
theorem dX7_block_14 : decode cX7_block 14 = .ok (.ifCond .lt 8, 3) := by decide +kernel
theorem dX7_block_17 : decode cX7_block 17 = .ok (.iload_n 2, 1) := by decide +kernel
theorem dX7_block_18 : decode cX7_block 18 = .ok (.iconst 5, 1) := by decide +kernel
theorem dX7_block_19 : decode cX7_block 19 = .ok (.if_icmp .le 6, 3) := by decide +kernel
theorem dX7_block_22 : decode cX7_block 22 = .ok (.bipush (-2), 2) := by decide +kernel
theorem dX7_block_24 : decode cX7_block 24 = .ok (.ireturn, 1) := by decide +kernel
theorem dX7_block_25 : decode cX7_block 25 = .ok (.aload_n 0, 1) := by decide +kernel
theorem dX7_block_26 : decode cX7_block 26 = .ok (.getfield 29, 3) := by decide +kernel
theorem dX7_block_29 : decode cX7_block 29 = .ok (.aload_n 0, 1) := by decide +kernel
theorem dX7_block_30 : decode cX7_block 30 = .ok (.getfield 19, 3) := by decide +kernel
theorem dX7_block_33 : decode cX7_block 33 = .ok (.invokevirtual 95, 3) := by decide +kernel
theorem dX7_block_36 : decode cX7_block 36 = .ok (.iload_n 2, 1) := by decide +kernel
theorem dX7_block_37 : decode cX7_block 37 = .ok (.tableswitch 85 0 4 #[35, 45, 55, 65, 75], 35) := by decide +kernel
theorem dX7_block_72 : decode cX7_block 72 = .ok (.aload_n 0, 1) := by decide +kernel
theorem dX7_block_73 : decode cX7_block 73 = .ok (.getfield 19, 3) := by decide +kernel
theorem dX7_block_76 : decode cX7_block 76 = .ok (.getfield 121, 3) := by decide +kernel
theorem dX7_block_79 : decode cX7_block 79 = .ok (.iload_n 1, 1) := by decide +kernel
theorem dX7_block_80 : decode cX7_block 80 = .ok (.iaload, 1) := by decide +kernel
theorem dX7_block_81 : decode cX7_block 81 = .ok (.ireturn, 1) := by decide +kernel
theorem dX7_block_82 : decode cX7_block 82 = .ok (.aload_n 0, 1) := by decide +kernel
theorem dX7_block_83 : decode cX7_block 83 = .ok (.getfield 19, 3) := by decide +kernel
theorem dX7_block_86 : decode cX7_block 86 = .ok (.getfield 125, 3) := by decide +kernel
theorem dX7_block_89 : decode cX7_block 89 = .ok (.iload_n 1, 1) := by decide +kernel
theorem dX7_block_90 : decode cX7_block 90 = .ok (.iaload, 1) := by decide +kernel
theorem dX7_block_91 : decode cX7_block 91 = .ok (.ireturn, 1) := by decide +kernel
theorem dX7_block_92 : decode cX7_block 92 = .ok (.aload_n 0, 1) := by decide +kernel
theorem dX7_block_93 : decode cX7_block 93 = .ok (.getfield 29, 3) := by decide +kernel
theorem dX7_block_96 : decode cX7_block 96 = .ok (.getfield 128, 3) := by decide +kernel
theorem dX7_block_99 : decode cX7_block 99 = .ok (.iload_n 1, 1) := by decide +kernel
theorem dX7_block_100 : decode cX7_block 100 = .ok (.iaload, 1) := by decide +kernel
theorem dX7_block_101 : decode cX7_block 101 = .ok (.ireturn, 1) := by decide +kernel
theorem dX7_block_102 : decode cX7_block 102 = .ok (.aload_n 0, 1) := by decide +kernel
theorem dX7_block_103 : decode cX7_block 103 = .ok (.getfield 29, 3) := by decide +kernel
theorem dX7_block_106 : decode cX7_block 106 = .ok (.getfield 131, 3) := by decide +kernel
theorem dX7_block_109 : decode cX7_block 109 = .ok (.iload_n 1, 1) := by decide +kernel
theorem dX7_block_110 : decode cX7_block 110 = .ok (.iaload, 1) := by decide +kernel
theorem dX7_block_111 : decode cX7_block 111 = .ok (.ireturn, 1) := by decide +kernel
theorem dX7_block_112 : decode cX7_block 112 = .ok (.aload_n 0, 1) := by decide +kernel
theorem dX7_block_113 : decode cX7_block 113 = .ok (.getfield 29, 3) := by decide +kernel
theorem dX7_block_116 : decode cX7_block 116 = .ok (.getfield 134, 3) := by decide +kernel
theorem dX7_block_119 : decode cX7_block 119 = .ok (.iload_n 1, 1) := by decide +kernel
theorem dX7_block_120 : decode cX7_block 120 = .ok (.iaload, 1) := by decide +kernel
theorem dX7_block_121 : decode cX7_block 121 = .ok (.ireturn, 1) := by decide +kernel
theorem dX7_block_122 : decode cX7_block 122 = .ok (.aload_n 0, 1) := by decide +kernel
theorem dX7_block_123 : decode cX7_block 123 = .ok (.getfield 29, 3) := by decide +kernel
theorem dX7_block_126 : decode cX7_block 126 = .ok (.iload_n 1, 1) := by decide +kernel
theorem dX7_block_127 : decode cX7_block 127 = .ok (.invokevirtual 137, 3) := by decide +kernel
theorem dX7_block_130 : decode cX7_block 130 = .ok (.ireturn, 1) := by decide +kernel
theorem dX7_arc_0 : decode cX7_arc 0 = .ok (.aload_n 0, 1) := by decide +kernel
theorem dX7_arc_1 : decode cX7_arc 1 = .ok (.getfield 19, 3) := by decide +kernel
theorem dX7_arc_4 : decode cX7_arc 4 = .ok (.iload_n 1, 1) := by decide +kernel
theorem dX7_arc_5 : decode cX7_arc 5 = .ok (.iload_n 2, 1) := by decide +kernel
theorem dX7_arc_6 : decode cX7_arc 6 = .ok (.invokevirtual 140, 3) := by decide +kernel
theorem dX7_arc_9 : decode cX7_arc 9 = .ok (.ifCond .ne 5, 3) := by decide +kernel
theorem dX7_arc_12 : decode cX7_arc 12 = .ok (.iconst (-1), 1) := by decide +kernel
theorem dX7_arc_13 : decode cX7_arc 13 = .ok (.ireturn, 1) := by decide +kernel
theorem dX7_arc_14 : decode cX7_arc 14 = .ok (.aload_n 0, 1) := by decide +kernel
theorem dX7_arc_15 : decode cX7_arc 15 = .ok (.getfield 19, 3) := by decide +kernel
theorem dX7_arc_18 : decode cX7_arc 18 = .ok (.iload_n 1, 1) := by decide +kernel
theorem dX7_arc_19 : decode cX7_arc 19 = .ok (.iload_n 2, 1) := by decide +kernel
theorem dX7_arc_20 : decode cX7_arc 20 = .ok (.invokevirtual 144, 3) := by decide +kernel
theorem dX7_arc_23 : decode cX7_arc 23 = .ok (.ireturn, 1) := by decide +kernel
theorem dX7_sets_0 : decode cX7_sets 0 = .ok (.aload_n 0, 1) := by decide +kernel
theorem dX7_sets_1 : decode cX7_sets 1 = .ok (.getfield 19, 3) := by decide +kernel
theorem dX7_sets_4 : decode cX7_sets 4 = .ok (.iload_n 1, 1) := by decide +kernel
theorem dX7_sets_5 : decode cX7_sets 5 = .ok (.invokevirtual 117, 3) := by decide +kernel
theorem dX7_sets_8 : decode cX7_sets 8 = .ok (.ifCond .ne 5, 3) := by decide +kernel
theorem dX7_sets_11 : decode cX7_sets 11 = .ok (.iconst (-1), 1) := by decide +kernel
theorem dX7_sets_12 : decode cX7_sets 12 = .ok (.ireturn, 1) := by decide +kernel
theorem dX7_sets_13 : decode cX7_sets 13 = .ok (.iload_n 2, 1) := by decide +kernel
theorem dX7_sets_14 : decode cX7_sets 14 = .ok (.ifCond .lt 8, 3) := by decide +kernel
theorem dX7_sets_17 : decode cX7_sets 17 = .ok (.iload_n 2, 1) := by decide +kernel
theorem dX7_sets_18 : decode cX7_sets 18 = .ok (.iconst 3, 1) := by decide +kernel
theorem dX7_sets_19 : decode cX7_sets 19 = .ok (.if_icmp .le 6, 3) := by decide +kernel
theorem dX7_sets_22 : decode cX7_sets 22 = .ok (.bipush (-2), 2) := by decide +kernel
theorem dX7_sets_24 : decode cX7_sets 24 = .ok (.ireturn, 1) := by decide +kernel
theorem dX7_sets_25 : decode cX7_sets 25 = .ok (.aload_n 0, 1) := by decide +kernel
theorem dX7_sets_26 : decode cX7_sets 26 = .ok (.getfield 29, 3) := by decide +kernel
theorem dX7_sets_29 : decode cX7_sets 29 = .ok (.aload_n 0, 1) := by decide +kernel
theorem dX7_sets_30 : decode cX7_sets 30 = .ok (.getfield 19, 3) := by decide +kernel
theorem dX7_sets_33 : decode cX7_sets 33 = .ok (.invokevirtual 95, 3) := by decide +kernel
theorem dX7_sets_36 : decode cX7_sets 36 = .ok (.aload_n 0, 1) := by decide +kernel
theorem dX7_sets_37 : decode cX7_sets 37 = .ok (.getfield 29, 3) := by decide +kernel
theorem dX7_sets_40 : decode cX7_sets 40 = .ok (.iload_n 1, 1) := by decide +kernel
theorem dX7_sets_41 : decode cX7_sets 41 = .ok (.invokevirtual 148, 3) := by decide +kernel
theorem dX7_sets_44 : decode cX7_sets 44 = .ok (.ifCond .ne 5, 3) := by decide +kernel
theorem dX7_sets_47 : decode cX7_sets 47 = .ok (.iconst 0, 1) := by decide +kernel
theorem dX7_sets_48 : decode cX7_sets 48 = .ok (.ireturn, 1) := by decide +kernel
theorem dX7_sets_49 : decode cX7_sets 49 = .ok (.iload_n 2, 1) := by decide +kernel
theorem dX7_sets_50 : decode cX7_sets 50 = .ok (.tableswitch 54 0 2 #[26, 36, 45], 26) := by decide +kernel
theorem dX7_sets_76 : decode cX7_sets 76 = .ok (.aload_n 0, 1) := by decide +kernel
theorem dX7_sets_77 : decode cX7_sets 77 = .ok (.getfield 29, 3) := by decide +kernel
theorem dX7_sets_80 : decode cX7_sets 80 = .ok (.getfield 151, 3) := by decide +kernel
theorem dX7_sets_83 : decode cX7_sets 83 = .ok (.iload_n 1, 1) := by decide +kernel
theorem dX7_sets_84 : decode cX7_sets 84 = .ok (.iaload, 1) := by decide +kernel
theorem dX7_sets_85 : decode cX7_sets 85 = .ok (.ireturn, 1) := by decide +kernel
theorem dX7_sets_86 : decode cX7_sets 86 = .ok (.aload_n 0, 1) := by decide +kernel
theorem dX7_sets_87 : decode cX7_sets 87 = .ok (.getfield 29, 3) := by decide +kernel
theorem dX7_sets_90 : decode cX7_sets 90 = .ok (.iload_n 1, 1) := by decide +kernel
theorem dX7_sets_91 : decode cX7_sets 91 = .ok (.invokevirtual 154, 3) := by decide +kernel
theorem dX7_sets_94 : decode cX7_sets 94 = .ok (.ireturn, 1) := by decide +kernel
theorem dX7_sets_95 : decode cX7_sets 95 = .ok (.aload_n 0, 1) := by decide +kernel
theorem dX7_sets_96 : decode cX7_sets 96 = .ok (.getfield 29, 3) := by decide +kernel
theorem dX7_sets_99 : decode cX7_sets 99 = .ok (.iload_n 1, 1) := by decide +kernel
theorem dX7_sets_100 : decode cX7_sets 100 = .ok (.invokevirtual 157, 3) := by decide +kernel
theorem dX7_sets_103 : decode cX7_sets 103 = .ok (.ireturn, 1) := by decide +kernel
theorem dX7_sets_104 : decode cX7_sets 104 = .ok (.aload_n 0, 1) := by decide +kernel
theorem dX7_sets_105 : decode cX7_sets 105 = .ok (.getfield 29, 3) := by decide +kernel
theorem dX7_sets_108 : decode cX7_sets 108 = .ok (.getfield 160, 3) := by decide +kernel
theorem dX7_sets_111 : decode cX7_sets 111 = .ok (.iload_n 1, 1) := by decide +kernel
theorem dX7_sets_112 : decode cX7_sets 112 = .ok (.iaload, 1) := by decide +kernel
theorem dX7_sets_113 : decode cX7_sets 113 = .ok (.ireturn, 1) := by decide +kernel
theorem dX7_add_0 : decode cX7_add 0 = .ok (.aload_n 0, 1) := by decide +kernel
theorem dX7_add_1 : decode cX7_add 1 = .ok (.getfield 23, 3) := by decide +kernel
theorem dX7_add_4 : decode cX7_add 4 = .ok (.aload_n 0, 1) := by decide +kernel
theorem dX7_add_5 : decode cX7_add 5 = .ok (.getfield 19, 3) := by decide +kernel
theorem dX7_add_8 : decode cX7_add 8 = .ok (.invokevirtual 70, 3) := by decide +kernel
theorem dX7_add_11 : decode cX7_add 11 = .ok (.aload_n 0, 1) := by decide +kernel
theorem dX7_add_12 : decode cX7_add 12 = .ok (.aload_n 0, 1) := by decide +kernel
theorem dX7_add_13 : decode cX7_add 13 = .ok (.getfield 23, 3) := by decide +kernel
theorem dX7_add_16 : decode cX7_add 16 = .ok (.iload_n 1, 1) := by decide +kernel
theorem dX7_add_17 : decode cX7_add 17 = .ok (.iload_n 2, 1) := by decide +kernel
theorem dX7_add_18 : decode cX7_add 18 = .ok (.invokevirtual 163, 3) := by decide +kernel
theorem dX7_add_21 : decode cX7_add 21 = .ok (.invokevirtual 166, 3) := by decide +kernel
theorem dX7_add_24 : decode cX7_add 24 = .ok (.ireturn, 1) := by decide +kernel
theorem dX7_cut_0 : decode cX7_cut 0 = .ok (.aload_n 0, 1) := by decide +kernel
theorem dX7_cut_1 : decode cX7_cut 1 = .ok (.getfield 23, 3) := by decide +kernel
theorem dX7_cut_4 : decode cX7_cut 4 = .ok (.aload_n 0, 1) := by decide +kernel
theorem dX7_cut_5 : decode cX7_cut 5 = .ok (.getfield 19, 3) := by decide +kernel
theorem dX7_cut_8 : decode cX7_cut 8 = .ok (.invokevirtual 70, 3) := by decide +kernel
theorem dX7_cut_11 : decode cX7_cut 11 = .ok (.aload_n 0, 1) := by decide +kernel
theorem dX7_cut_12 : decode cX7_cut 12 = .ok (.aload_n 0, 1) := by decide +kernel
theorem dX7_cut_13 : decode cX7_cut 13 = .ok (.getfield 23, 3) := by decide +kernel
theorem dX7_cut_16 : decode cX7_cut 16 = .ok (.iload_n 1, 1) := by decide +kernel
theorem dX7_cut_17 : decode cX7_cut 17 = .ok (.iload_n 2, 1) := by decide +kernel
theorem dX7_cut_18 : decode cX7_cut 18 = .ok (.invokevirtual 169, 3) := by decide +kernel
theorem dX7_cut_21 : decode cX7_cut 21 = .ok (.invokevirtual 166, 3) := by decide +kernel
theorem dX7_cut_24 : decode cX7_cut 24 = .ok (.ireturn, 1) := by decide +kernel
theorem dX7_split_0 : decode cX7_split 0 = .ok (.aload_n 0, 1) := by decide +kernel
theorem dX7_split_1 : decode cX7_split 1 = .ok (.getfield 23, 3) := by decide +kernel
theorem dX7_split_4 : decode cX7_split 4 = .ok (.aload_n 0, 1) := by decide +kernel
theorem dX7_split_5 : decode cX7_split 5 = .ok (.getfield 19, 3) := by decide +kernel
theorem dX7_split_8 : decode cX7_split 8 = .ok (.invokevirtual 70, 3) := by decide +kernel
theorem dX7_split_11 : decode cX7_split 11 = .ok (.aload_n 0, 1) := by decide +kernel
theorem dX7_split_12 : decode cX7_split 12 = .ok (.aload_n 0, 1) := by decide +kernel
theorem dX7_split_13 : decode cX7_split 13 = .ok (.getfield 23, 3) := by decide +kernel
theorem dX7_split_16 : decode cX7_split 16 = .ok (.iload_n 1, 1) := by decide +kernel
theorem dX7_split_17 : decode cX7_split 17 = .ok (.iload_n 2, 1) := by decide +kernel
theorem dX7_split_18 : decode cX7_split 18 = .ok (.invokevirtual 172, 3) := by decide +kernel
theorem dX7_split_21 : decode cX7_split 21 = .ok (.invokevirtual 166, 3) := by decide +kernel
theorem dX7_split_24 : decode cX7_split 24 = .ok (.ireturn, 1) := by decide +kernel
theorem dX7_mend_0 : decode cX7_mend 0 = .ok (.aload_n 0, 1) := by decide +kernel
theorem dX7_mend_1 : decode cX7_mend 1 = .ok (.getfield 29, 3) := by decide +kernel
theorem dX7_mend_4 : decode cX7_mend 4 = .ok (.aload_n 0, 1) := by decide +kernel
theorem dX7_mend_5 : decode cX7_mend 5 = .ok (.getfield 19, 3) := by decide +kernel
theorem dX7_mend_8 : decode cX7_mend 8 = .ok (.invokevirtual 95, 3) := by decide +kernel
theorem dX7_mend_11 : decode cX7_mend 11 = .ok (.aload_n 0, 1) := by decide +kernel
theorem dX7_mend_12 : decode cX7_mend 12 = .ok (.getfield 29, 3) := by decide +kernel
theorem dX7_mend_15 : decode cX7_mend 15 = .ok (.invokevirtual 175, 3) := by decide +kernel
theorem dX7_mend_18 : decode cX7_mend 18 = .ok (.bipush (-9), 2) := by decide +kernel
theorem dX7_mend_20 : decode cX7_mend 20 = .ok (.if_icmp .ne 6, 3) := by decide +kernel
theorem dX7_mend_23 : decode cX7_mend 23 = .ok (.bipush (-3), 2) := by decide +kernel
theorem dX7_mend_25 : decode cX7_mend 25 = .ok (.ireturn, 1) := by decide +kernel
theorem dX7_mend_26 : decode cX7_mend 26 = .ok (.aload_n 0, 1) := by decide +kernel
theorem dX7_mend_27 : decode cX7_mend 27 = .ok (.getfield 23, 3) := by decide +kernel
theorem dX7_mend_30 : decode cX7_mend 30 = .ok (.aload_n 0, 1) := by decide +kernel
theorem dX7_mend_31 : decode cX7_mend 31 = .ok (.getfield 19, 3) := by decide +kernel
theorem dX7_mend_34 : decode cX7_mend 34 = .ok (.invokevirtual 70, 3) := by decide +kernel
theorem dX7_mend_37 : decode cX7_mend 37 = .ok (.aload_n 0, 1) := by decide +kernel
theorem dX7_mend_38 : decode cX7_mend 38 = .ok (.aload_n 0, 1) := by decide +kernel
theorem dX7_mend_39 : decode cX7_mend 39 = .ok (.invokevirtual 178, 3) := by decide +kernel
theorem dX7_mend_42 : decode cX7_mend 42 = .ok (.invokevirtual 166, 3) := by decide +kernel
theorem dX7_mend_45 : decode cX7_mend 45 = .ok (.ireturn, 1) := by decide +kernel
theorem dX7_undo_0 : decode cX7_undo 0 = .ok (.aload_n 0, 1) := by decide +kernel
theorem dX7_undo_1 : decode cX7_undo 1 = .ok (.getfield 36, 3) := by decide +kernel
theorem dX7_undo_4 : decode cX7_undo 4 = .ok (.getfield 85, 3) := by decide +kernel
theorem dX7_undo_7 : decode cX7_undo 7 = .ok (.ifCond .ne 6, 3) := by decide +kernel
theorem dX7_undo_10 : decode cX7_undo 10 = .ok (.bipush (-3), 2) := by decide +kernel
theorem dX7_undo_12 : decode cX7_undo 12 = .ok (.ireturn, 1) := by decide +kernel
theorem dX7_undo_13 : decode cX7_undo 13 = .ok (.aload_n 0, 1) := by decide +kernel
theorem dX7_undo_14 : decode cX7_undo 14 = .ok (.getfield 36, 3) := by decide +kernel
theorem dX7_undo_17 : decode cX7_undo 17 = .ok (.aload_n 0, 1) := by decide +kernel
theorem dX7_undo_18 : decode cX7_undo 18 = .ok (.getfield 19, 3) := by decide +kernel
theorem dX7_undo_21 : decode cX7_undo 21 = .ok (.invokevirtual 181, 3) := by decide +kernel
theorem dX7_undo_24 : decode cX7_undo 24 = .ok (.aload_n 0, 1) := by decide +kernel
theorem dX7_undo_25 : decode cX7_undo 25 = .ok (.getfield 36, 3) := by decide +kernel
theorem dX7_undo_28 : decode cX7_undo 28 = .ok (.getfield 85, 3) := by decide +kernel
theorem dX7_undo_31 : decode cX7_undo 31 = .ok (.ireturn, 1) := by decide +kernel
theorem dX7_settle_0 : decode cX7_settle 0 = .ok (.iload_n 1, 1) := by decide +kernel
theorem dX7_settle_1 : decode cX7_settle 1 = .ok (.ifCond .lt 25, 3) := by decide +kernel
theorem dX7_settle_4 : decode cX7_settle 4 = .ok (.aload_n 0, 1) := by decide +kernel
theorem dX7_settle_5 : decode cX7_settle 5 = .ok (.getfield 36, 3) := by decide +kernel
theorem dX7_settle_8 : decode cX7_settle 8 = .ok (.aload_n 0, 1) := by decide +kernel
theorem dX7_settle_9 : decode cX7_settle 9 = .ok (.getfield 19, 3) := by decide +kernel
theorem dX7_settle_12 : decode cX7_settle 12 = .ok (.invokevirtual 184, 3) := by decide +kernel
theorem dX7_settle_15 : decode cX7_settle 15 = .ok (.aload_n 0, 1) := by decide +kernel
theorem dX7_settle_16 : decode cX7_settle 16 = .ok (.getfield 19, 3) := by decide +kernel
theorem dX7_settle_19 : decode cX7_settle 19 = .ok (.aload_n 0, 1) := by decide +kernel
theorem dX7_settle_20 : decode cX7_settle 20 = .ok (.getfield 23, 3) := by decide +kernel
theorem dX7_settle_23 : decode cX7_settle 23 = .ok (.invokevirtual 70, 3) := by decide +kernel
theorem dX7_settle_26 : decode cX7_settle 26 = .ok (.iload_n 1, 1) := by decide +kernel
theorem dX7_settle_27 : decode cX7_settle 27 = .ok (.ireturn, 1) := by decide +kernel
theorem dX7_mendTrial_0 : decode cX7_mendTrial 0 = .ok (.iconst 0, 1) := by decide +kernel
theorem dX7_mendTrial_1 : decode cX7_mendTrial 1 = .ok (.istore_n 1, 1) := by decide +kernel
theorem dX7_mendTrial_2 : decode cX7_mendTrial 2 = .ok (.iconst 0, 1) := by decide +kernel
theorem dX7_mendTrial_3 : decode cX7_mendTrial 3 = .ok (.istore_n 2, 1) := by decide +kernel
theorem dX7_mendTrial_4 : decode cX7_mendTrial 4 = .ok (.iload_n 2, 1) := by decide +kernel
theorem dX7_mendTrial_5 : decode cX7_mendTrial 5 = .ok (.bipush 12, 2) := by decide +kernel
theorem dX7_mendTrial_7 : decode cX7_mendTrial 7 = .ok (.if_icmp .ge 33, 3) := by decide +kernel
theorem dX7_mendTrial_10 : decode cX7_mendTrial 10 = .ok (.aload_n 0, 1) := by decide +kernel
theorem dX7_mendTrial_11 : decode cX7_mendTrial 11 = .ok (.getfield 29, 3) := by decide +kernel
theorem dX7_mendTrial_14 : decode cX7_mendTrial 14 = .ok (.aload_n 0, 1) := by decide +kernel
theorem dX7_mendTrial_15 : decode cX7_mendTrial 15 = .ok (.getfield 23, 3) := by decide +kernel
theorem dX7_mendTrial_18 : decode cX7_mendTrial 18 = .ok (.invokevirtual 95, 3) := by decide +kernel
theorem dX7_mendTrial_21 : decode cX7_mendTrial 21 = .ok (.aload_n 0, 1) := by decide +kernel
theorem dX7_mendTrial_22 : decode cX7_mendTrial 22 = .ok (.invokevirtual 187, 3) := by decide +kernel
theorem dX7_mendTrial_25 : decode cX7_mendTrial 25 = .ok (.ifCond .ne 6, 3) := by decide +kernel
theorem dX7_mendTrial_28 : decode cX7_mendTrial 28 = .ok (.goto 12, 3) := by decide +kernel
theorem dX7_mendTrial_31 : decode cX7_mendTrial 31 = .ok (.iinc 1 1, 3) := by decide +kernel
theorem dX7_mendTrial_34 : decode cX7_mendTrial 34 = .ok (.iinc 2 1, 3) := by decide +kernel
theorem dX7_mendTrial_37 : decode cX7_mendTrial 37 = .ok (.goto (-33), 3) := by decide +kernel
theorem dX7_mendTrial_40 : decode cX7_mendTrial 40 = .ok (.iload_n 1, 1) := by decide +kernel
theorem dX7_mendTrial_41 : decode cX7_mendTrial 41 = .ok (.ireturn, 1) := by decide +kernel
theorem dX7_mendOnce_0 : decode cX7_mendOnce 0 = .ok (.aload_n 0, 1) := by decide +kernel
theorem dX7_mendOnce_1 : decode cX7_mendOnce 1 = .ok (.getfield 29, 3) := by decide +kernel
theorem dX7_mendOnce_4 : decode cX7_mendOnce 4 = .ok (.invokevirtual 175, 3) := by decide +kernel
theorem dX7_mendOnce_7 : decode cX7_mendOnce 7 = .ok (.istore_n 1, 1) := by decide +kernel
theorem dX7_mendOnce_8 : decode cX7_mendOnce 8 = .ok (.iload_n 1, 1) := by decide +kernel
theorem dX7_mendOnce_9 : decode cX7_mendOnce 9 = .ok (.bipush (-9), 2) := by decide +kernel
theorem dX7_mendOnce_11 : decode cX7_mendOnce 11 = .ok (.if_icmp .ne 5, 3) := by decide +kernel
theorem dX7_mendOnce_14 : decode cX7_mendOnce 14 = .ok (.iconst 0, 1) := by decide +kernel
theorem dX7_mendOnce_15 : decode cX7_mendOnce 15 = .ok (.ireturn, 1) := by decide +kernel
theorem dX7_mendOnce_16 : decode cX7_mendOnce 16 = .ok (.aload_n 0, 1) := by decide +kernel
theorem dX7_mendOnce_17 : decode cX7_mendOnce 17 = .ok (.getfield 29, 3) := by decide +kernel
theorem dX7_mendOnce_20 : decode cX7_mendOnce 20 = .ok (.iload_n 1, 1) := by decide +kernel
theorem dX7_mendOnce_21 : decode cX7_mendOnce 21 = .ok (.invokevirtual 154, 3) := by decide +kernel
theorem dX7_mendOnce_24 : decode cX7_mendOnce 24 = .ok (.istore_n 2, 1) := by decide +kernel
theorem dX7_mendOnce_25 : decode cX7_mendOnce 25 = .ok (.aload_n 0, 1) := by decide +kernel
theorem dX7_mendOnce_26 : decode cX7_mendOnce 26 = .ok (.getfield 29, 3) := by decide +kernel
theorem dX7_mendOnce_29 : decode cX7_mendOnce 29 = .ok (.getfield 190, 3) := by decide +kernel
theorem dX7_mendOnce_32 : decode cX7_mendOnce 32 = .ok (.iload_n 2, 1) := by decide +kernel
theorem dX7_mendOnce_33 : decode cX7_mendOnce 33 = .ok (.iconst (-1), 1) := by decide +kernel
theorem dX7_mendOnce_34 : decode cX7_mendOnce 34 = .ok (.ixor, 1) := by decide +kernel
theorem dX7_mendOnce_35 : decode cX7_mendOnce 35 = .ok (.iand, 1) := by decide +kernel
theorem dX7_mendOnce_36 : decode cX7_mendOnce 36 = .ok (.istore_n 3, 1) := by decide +kernel
theorem dX7_mendOnce_37 : decode cX7_mendOnce 37 = .ok (.aload_n 0, 1) := by decide +kernel
theorem dX7_mendOnce_38 : decode cX7_mendOnce 38 = .ok (.iload_n 3, 1) := by decide +kernel
theorem dX7_mendOnce_39 : decode cX7_mendOnce 39 = .ok (.iload_n 2, 1) := by decide +kernel
theorem dX7_mendOnce_40 : decode cX7_mendOnce 40 = .ok (.iconst 1, 1) := by decide +kernel
theorem dX7_mendOnce_41 : decode cX7_mendOnce 41 = .ok (.iload_n 1, 1) := by decide +kernel
theorem dX7_mendOnce_42 : decode cX7_mendOnce 42 = .ok (.ishl, 1) := by decide +kernel
theorem dX7_mendOnce_43 : decode cX7_mendOnce 43 = .ok (.iconst (-1), 1) := by decide +kernel
theorem dX7_mendOnce_44 : decode cX7_mendOnce 44 = .ok (.ixor, 1) := by decide +kernel
theorem dX7_mendOnce_45 : decode cX7_mendOnce 45 = .ok (.iand, 1) := by decide +kernel
theorem dX7_mendOnce_46 : decode cX7_mendOnce 46 = .ok (.invokevirtual 193, 3) := by decide +kernel
theorem dX7_mendOnce_49 : decode cX7_mendOnce 49 = .ok (.istore 4, 2) := by decide +kernel
theorem dX7_mendOnce_51 : decode cX7_mendOnce 51 = .ok (.iload 4, 2) := by decide +kernel
theorem dX7_mendOnce_53 : decode cX7_mendOnce 53 = .ok (.bipush (-9), 2) := by decide +kernel
theorem dX7_mendOnce_55 : decode cX7_mendOnce 55 = .ok (.if_icmp .ne 5, 3) := by decide +kernel
theorem dX7_mendOnce_58 : decode cX7_mendOnce 58 = .ok (.iconst 0, 1) := by decide +kernel
theorem dX7_mendOnce_59 : decode cX7_mendOnce 59 = .ok (.ireturn, 1) := by decide +kernel
theorem dX7_mendOnce_60 : decode cX7_mendOnce 60 = .ok (.aload_n 0, 1) := by decide +kernel
theorem dX7_mendOnce_61 : decode cX7_mendOnce 61 = .ok (.getfield 23, 3) := by decide +kernel
theorem dX7_mendOnce_64 : decode cX7_mendOnce 64 = .ok (.aload_n 0, 1) := by decide +kernel
theorem dX7_mendOnce_65 : decode cX7_mendOnce 65 = .ok (.iload_n 3, 1) := by decide +kernel
theorem dX7_mendOnce_66 : decode cX7_mendOnce 66 = .ok (.iload 4, 2) := by decide +kernel
theorem dX7_mendOnce_68 : decode cX7_mendOnce 68 = .ok (.invokevirtual 196, 3) := by decide +kernel
theorem dX7_mendOnce_71 : decode cX7_mendOnce 71 = .ok (.iload 4, 2) := by decide +kernel
theorem dX7_mendOnce_73 : decode cX7_mendOnce 73 = .ok (.invokevirtual 172, 3) := by decide +kernel
theorem dX7_mendOnce_76 : decode cX7_mendOnce 76 = .ok (.ifCond .lt 7, 3) := by decide +kernel
theorem dX7_mendOnce_79 : decode cX7_mendOnce 79 = .ok (.iconst 1, 1) := by decide +kernel
theorem dX7_mendOnce_80 : decode cX7_mendOnce 80 = .ok (.goto 4, 3) := by decide +kernel
theorem dX7_mendOnce_83 : decode cX7_mendOnce 83 = .ok (.iconst 0, 1) := by decide +kernel
theorem dX7_mendOnce_84 : decode cX7_mendOnce 84 = .ok (.ireturn, 1) := by decide +kernel
theorem dX7_leastTarget_0 : decode cX7_leastTarget 0 = .ok (.iconst 0, 1) := by decide +kernel
theorem dX7_leastTarget_1 : decode cX7_leastTarget 1 = .ok (.istore_n 3, 1) := by decide +kernel
theorem dX7_leastTarget_2 : decode cX7_leastTarget 2 = .ok (.iconst 0, 1) := by decide +kernel
theorem dX7_leastTarget_3 : decode cX7_leastTarget 3 = .ok (.istore 4, 2) := by decide +kernel
theorem dX7_leastTarget_5 : decode cX7_leastTarget 5 = .ok (.iload 4, 2) := by decide +kernel
theorem dX7_leastTarget_7 : decode cX7_leastTarget 7 = .ok (.aload_n 0, 1) := by decide +kernel
theorem dX7_leastTarget_8 : decode cX7_leastTarget 8 = .ok (.getfield 23, 3) := by decide +kernel
theorem dX7_leastTarget_11 : decode cX7_leastTarget 11 = .ok (.getfield 78, 3) := by decide +kernel
theorem dX7_leastTarget_14 : decode cX7_leastTarget 14 = .ok (.if_icmp .ge 31, 3) := by decide +kernel
theorem dX7_leastTarget_17 : decode cX7_leastTarget 17 = .ok (.iload_n 1, 1) := by decide +kernel
theorem dX7_leastTarget_18 : decode cX7_leastTarget 18 = .ok (.iload 4, 2) := by decide +kernel
theorem dX7_leastTarget_20 : decode cX7_leastTarget 20 = .ok (.ishr, 1) := by decide +kernel
theorem dX7_leastTarget_21 : decode cX7_leastTarget 21 = .ok (.iconst 1, 1) := by decide +kernel
theorem dX7_leastTarget_22 : decode cX7_leastTarget 22 = .ok (.iand, 1) := by decide +kernel
theorem dX7_leastTarget_23 : decode cX7_leastTarget 23 = .ok (.ifCond .eq 16, 3) := by decide +kernel
theorem dX7_leastTarget_26 : decode cX7_leastTarget 26 = .ok (.iload_n 3, 1) := by decide +kernel
theorem dX7_leastTarget_27 : decode cX7_leastTarget 27 = .ok (.aload_n 0, 1) := by decide +kernel
theorem dX7_leastTarget_28 : decode cX7_leastTarget 28 = .ok (.getfield 29, 3) := by decide +kernel
theorem dX7_leastTarget_31 : decode cX7_leastTarget 31 = .ok (.getfield 199, 3) := by decide +kernel
theorem dX7_leastTarget_34 : decode cX7_leastTarget 34 = .ok (.iload 4, 2) := by decide +kernel
theorem dX7_leastTarget_36 : decode cX7_leastTarget 36 = .ok (.iaload, 1) := by decide +kernel
theorem dX7_leastTarget_37 : decode cX7_leastTarget 37 = .ok (.ior, 1) := by decide +kernel
theorem dX7_leastTarget_38 : decode cX7_leastTarget 38 = .ok (.istore_n 3, 1) := by decide +kernel
theorem dX7_leastTarget_39 : decode cX7_leastTarget 39 = .ok (.iinc 4 1, 3) := by decide +kernel
theorem dX7_leastTarget_42 : decode cX7_leastTarget 42 = .ok (.goto (-37), 3) := by decide +kernel
theorem dX7_leastTarget_45 : decode cX7_leastTarget 45 = .ok (.iload_n 3, 1) := by decide +kernel
theorem dX7_leastTarget_46 : decode cX7_leastTarget 46 = .ok (.iload_n 2, 1) := by decide +kernel
theorem dX7_leastTarget_47 : decode cX7_leastTarget 47 = .ok (.iand, 1) := by decide +kernel
theorem dX7_leastTarget_48 : decode cX7_leastTarget 48 = .ok (.invokestatic 202, 3) := by decide +kernel
theorem dX7_leastTarget_51 : decode cX7_leastTarget 51 = .ok (.ireturn, 1) := by decide +kernel
theorem dX7_leastSource_0 : decode cX7_leastSource 0 = .ok (.iconst 0, 1) := by decide +kernel
theorem dX7_leastSource_1 : decode cX7_leastSource 1 = .ok (.istore_n 3, 1) := by decide +kernel
theorem dX7_leastSource_2 : decode cX7_leastSource 2 = .ok (.iload_n 3, 1) := by decide +kernel
theorem dX7_leastSource_3 : decode cX7_leastSource 3 = .ok (.aload_n 0, 1) := by decide +kernel
theorem dX7_leastSource_4 : decode cX7_leastSource 4 = .ok (.getfield 23, 3) := by decide +kernel
theorem dX7_leastSource_7 : decode cX7_leastSource 7 = .ok (.getfield 78, 3) := by decide +kernel
theorem dX7_leastSource_10 : decode cX7_leastSource 10 = .ok (.if_icmp .ge 35, 3) := by decide +kernel
theorem dX7_leastSource_13 : decode cX7_leastSource 13 = .ok (.iload_n 1, 1) := by decide +kernel
theorem dX7_leastSource_14 : decode cX7_leastSource 14 = .ok (.iload_n 3, 1) := by decide +kernel
theorem dX7_leastSource_15 : decode cX7_leastSource 15 = .ok (.ishr, 1) := by decide +kernel
theorem dX7_leastSource_16 : decode cX7_leastSource 16 = .ok (.iconst 1, 1) := by decide +kernel
theorem dX7_leastSource_17 : decode cX7_leastSource 17 = .ok (.iand, 1) := by decide +kernel
theorem dX7_leastSource_18 : decode cX7_leastSource 18 = .ok (.ifCond .eq 21, 3) := by decide +kernel
theorem dX7_leastSource_21 : decode cX7_leastSource 21 = .ok (.aload_n 0, 1) := by decide +kernel
theorem dX7_leastSource_22 : decode cX7_leastSource 22 = .ok (.getfield 29, 3) := by decide +kernel
theorem dX7_leastSource_25 : decode cX7_leastSource 25 = .ok (.getfield 199, 3) := by decide +kernel
theorem dX7_leastSource_28 : decode cX7_leastSource 28 = .ok (.iload_n 3, 1) := by decide +kernel
theorem dX7_leastSource_29 : decode cX7_leastSource 29 = .ok (.iaload, 1) := by decide +kernel
theorem dX7_leastSource_30 : decode cX7_leastSource 30 = .ok (.iload_n 2, 1) := by decide +kernel
theorem dX7_leastSource_31 : decode cX7_leastSource 31 = .ok (.ishr, 1) := by decide +kernel
theorem dX7_leastSource_32 : decode cX7_leastSource 32 = .ok (.iconst 1, 1) := by decide +kernel
theorem dX7_leastSource_33 : decode cX7_leastSource 33 = .ok (.iand, 1) := by decide +kernel
theorem dX7_leastSource_34 : decode cX7_leastSource 34 = .ok (.ifCond .eq 5, 3) := by decide +kernel
theorem dX7_leastSource_37 : decode cX7_leastSource 37 = .ok (.iload_n 3, 1) := by decide +kernel
theorem dX7_leastSource_38 : decode cX7_leastSource 38 = .ok (.ireturn, 1) := by decide +kernel
theorem dX7_leastSource_39 : decode cX7_leastSource 39 = .ok (.iinc 3 1, 3) := by decide +kernel
theorem dX7_leastSource_42 : decode cX7_leastSource 42 = .ok (.goto (-40), 3) := by decide +kernel
theorem dX7_leastSource_45 : decode cX7_leastSource 45 = .ok (.bipush (-9), 2) := by decide +kernel
theorem dX7_leastSource_47 : decode cX7_leastSource 47 = .ok (.ireturn, 1) := by decide +kernel
theorem dX7_run_0 : decode cX7_run 0 = .ok (.aload_n 0, 1) := by decide +kernel
theorem dX7_run_1 : decode cX7_run 1 = .ok (.getfield 19, 3) := by decide +kernel
theorem dX7_run_4 : decode cX7_run 4 = .ok (.getfield 78, 3) := by decide +kernel
theorem dX7_run_7 : decode cX7_run 7 = .ok (.ifCond .ne 6, 3) := by decide +kernel
theorem dX7_run_10 : decode cX7_run 10 = .ok (.bipush (-3), 2) := by decide +kernel
theorem dX7_run_12 : decode cX7_run 12 = .ok (.ireturn, 1) := by decide +kernel
theorem dX7_run_13 : decode cX7_run 13 = .ok (.iload_n 1, 1) := by decide +kernel
theorem dX7_run_14 : decode cX7_run 14 = .ok (.ifCond .lt 26, 3) := by decide +kernel
theorem dX7_run_17 : decode cX7_run 17 = .ok (.iload_n 1, 1) := by decide +kernel
theorem dX7_run_18 : decode cX7_run 18 = .ok (.bipush 8, 2) := by decide +kernel
theorem dX7_run_20 : decode cX7_run 20 = .ok (.if_icmp .gt 20, 3) := by decide +kernel
theorem dX7_run_23 : decode cX7_run 23 = .ok (.iload_n 1, 1) := by decide +kernel
theorem dX7_run_24 : decode cX7_run 24 = .ok (.iload_n 2, 1) := by decide +kernel
theorem dX7_run_25 : decode cX7_run 25 = .ok (.invokestatic 205, 3) := by decide +kernel
theorem dX7_run_28 : decode cX7_run 28 = .ok (.ifCond .eq 12, 3) := by decide +kernel
theorem dX7_run_31 : decode cX7_run 31 = .ok (.iload_n 3, 1) := by decide +kernel
theorem dX7_run_32 : decode cX7_run 32 = .ok (.ifCond .lt 8, 3) := by decide +kernel
theorem dX7_run_35 : decode cX7_run 35 = .ok (.iload_n 3, 1) := by decide +kernel
theorem dX7_run_36 : decode cX7_run 36 = .ok (.iconst 1, 1) := by decide +kernel
theorem dX7_run_37 : decode cX7_run 37 = .ok (.if_icmp .le 6, 3) := by decide +kernel
theorem dX7_run_40 : decode cX7_run 40 = .ok (.bipush (-2), 2) := by decide +kernel
theorem dX7_run_42 : decode cX7_run 42 = .ok (.ireturn, 1) := by decide +kernel
theorem dX7_run_43 : decode cX7_run 43 = .ok (.iconst 0, 1) := by decide +kernel
theorem dX7_run_44 : decode cX7_run 44 = .ok (.istore 4, 2) := by decide +kernel
theorem dX7_run_46 : decode cX7_run 46 = .ok (.iload_n 1, 1) := by decide +kernel
theorem dX7_run_47 : decode cX7_run 47 = .ok (.iconst 1, 1) := by decide +kernel
theorem dX7_run_48 : decode cX7_run 48 = .ok (.isub, 1) := by decide +kernel
theorem dX7_run_49 : decode cX7_run 49 = .ok (.istore 5, 2) := by decide +kernel
theorem dX7_run_51 : decode cX7_run 51 = .ok (.iload 5, 2) := by decide +kernel
theorem dX7_run_53 : decode cX7_run 53 = .ok (.ifCond .lt 27, 3) := by decide +kernel
theorem dX7_run_56 : decode cX7_run 56 = .ok (.aload_n 0, 1) := by decide +kernel
theorem dX7_run_57 : decode cX7_run 57 = .ok (.getfield 19, 3) := by decide +kernel
theorem dX7_run_60 : decode cX7_run 60 = .ok (.iload 4, 2) := by decide +kernel
theorem dX7_run_62 : decode cX7_run 62 = .ok (.iload_n 2, 1) := by decide +kernel
theorem dX7_run_63 : decode cX7_run 63 = .ok (.i2l, 1) := by decide +kernel
theorem dX7_run_64 : decode cX7_run 64 = .ok (.iload 5, 2) := by decide +kernel
theorem dX7_run_66 : decode cX7_run 66 = .ok (.invokestatic 208, 3) := by decide +kernel
theorem dX7_run_69 : decode cX7_run 69 = .ok (.invokevirtual 212, 3) := by decide +kernel
theorem dX7_run_72 : decode cX7_run 72 = .ok (.istore 4, 2) := by decide +kernel
theorem dX7_run_74 : decode cX7_run 74 = .ok (.iinc 5 (-1), 3) := by decide +kernel
theorem dX7_run_77 : decode cX7_run 77 = .ok (.goto (-26), 3) := by decide +kernel
theorem dX7_run_80 : decode cX7_run 80 = .ok (.iload_n 3, 1) := by decide +kernel
theorem dX7_run_81 : decode cX7_run 81 = .ok (.ifCond .ne 8, 3) := by decide +kernel
theorem dX7_run_84 : decode cX7_run 84 = .ok (.iload 4, 2) := by decide +kernel
theorem dX7_run_86 : decode cX7_run 86 = .ok (.goto 13, 3) := by decide +kernel
theorem dX7_run_89 : decode cX7_run 89 = .ok (.aload_n 0, 1) := by decide +kernel
theorem dX7_run_90 : decode cX7_run 90 = .ok (.getfield 19, 3) := by decide +kernel
theorem dX7_run_93 : decode cX7_run 93 = .ok (.getfield 121, 3) := by decide +kernel
theorem dX7_run_96 : decode cX7_run 96 = .ok (.iload 4, 2) := by decide +kernel
theorem dX7_run_98 : decode cX7_run 98 = .ok (.iaload, 1) := by decide +kernel
theorem dX7_run_99 : decode cX7_run 99 = .ok (.ireturn, 1) := by decide +kernel
theorem dX7_areChoices_0 : decode cX7_areChoices 0 = .ok (.iload_n 1, 1) := by decide +kernel
theorem dX7_areChoices_1 : decode cX7_areChoices 1 = .ok (.ifCond .lt 13, 3) := by decide +kernel
theorem dX7_areChoices_4 : decode cX7_areChoices 4 = .ok (.iload_n 1, 1) := by decide +kernel
theorem dX7_areChoices_5 : decode cX7_areChoices 5 = .ok (.i2l, 1) := by decide +kernel
theorem dX7_areChoices_6 : decode cX7_areChoices 6 = .ok (.iload_n 0, 1) := by decide +kernel
theorem dX7_areChoices_7 : decode cX7_areChoices 7 = .ok (.invokestatic 215, 3) := by decide +kernel
theorem dX7_areChoices_10 : decode cX7_areChoices 10 = .ok (.lcmp, 1) := by decide +kernel
theorem dX7_areChoices_11 : decode cX7_areChoices 11 = .ok (.ifCond .lt 5, 3) := by decide +kernel
theorem dX7_areChoices_14 : decode cX7_areChoices 14 = .ok (.iconst 0, 1) := by decide +kernel
theorem dX7_areChoices_15 : decode cX7_areChoices 15 = .ok (.ireturn, 1) := by decide +kernel
theorem dX7_areChoices_16 : decode cX7_areChoices 16 = .ok (.iconst 0, 1) := by decide +kernel
theorem dX7_areChoices_17 : decode cX7_areChoices 17 = .ok (.istore_n 2, 1) := by decide +kernel
theorem dX7_areChoices_18 : decode cX7_areChoices 18 = .ok (.iload_n 2, 1) := by decide +kernel
theorem dX7_areChoices_19 : decode cX7_areChoices 19 = .ok (.iload_n 0, 1) := by decide +kernel
theorem dX7_areChoices_20 : decode cX7_areChoices 20 = .ok (.if_icmp .ge 21, 3) := by decide +kernel
theorem dX7_areChoices_23 : decode cX7_areChoices 23 = .ok (.iload_n 1, 1) := by decide +kernel
theorem dX7_areChoices_24 : decode cX7_areChoices 24 = .ok (.i2l, 1) := by decide +kernel
theorem dX7_areChoices_25 : decode cX7_areChoices 25 = .ok (.iload_n 2, 1) := by decide +kernel
theorem dX7_areChoices_26 : decode cX7_areChoices 26 = .ok (.invokestatic 208, 3) := by decide +kernel
theorem dX7_areChoices_29 : decode cX7_areChoices 29 = .ok (.iconst 2, 1) := by decide +kernel
theorem dX7_areChoices_30 : decode cX7_areChoices 30 = .ok (.if_icmp .le 5, 3) := by decide +kernel
theorem dX7_areChoices_33 : decode cX7_areChoices 33 = .ok (.iconst 0, 1) := by decide +kernel
theorem dX7_areChoices_34 : decode cX7_areChoices 34 = .ok (.ireturn, 1) := by decide +kernel
theorem dX7_areChoices_35 : decode cX7_areChoices 35 = .ok (.iinc 2 1, 3) := by decide +kernel
theorem dX7_areChoices_38 : decode cX7_areChoices 38 = .ok (.goto (-20), 3) := by decide +kernel
theorem dX7_areChoices_41 : decode cX7_areChoices 41 = .ok (.iconst 1, 1) := by decide +kernel
theorem dX7_areChoices_42 : decode cX7_areChoices 42 = .ok (.ireturn, 1) := by decide +kernel
theorem dX7_would_0 : decode cX7_would 0 = .ok (.iload_n 1, 1) := by decide +kernel
theorem dX7_would_1 : decode cX7_would 1 = .ok (.ifCond .lt 8, 3) := by decide +kernel
theorem dX7_would_4 : decode cX7_would 4 = .ok (.iload_n 1, 1) := by decide +kernel
theorem dX7_would_5 : decode cX7_would 5 = .ok (.iconst 2, 1) := by decide +kernel
theorem dX7_would_6 : decode cX7_would 6 = .ok (.if_icmp .le 6, 3) := by decide +kernel
theorem dX7_would_9 : decode cX7_would 9 = .ok (.bipush (-2), 2) := by decide +kernel
theorem dX7_would_11 : decode cX7_would 11 = .ok (.ireturn, 1) := by decide +kernel
theorem dX7_would_12 : decode cX7_would 12 = .ok (.aload_n 0, 1) := by decide +kernel
theorem dX7_would_13 : decode cX7_would 13 = .ok (.getfield 23, 3) := by decide +kernel
theorem dX7_would_16 : decode cX7_would 16 = .ok (.aload_n 0, 1) := by decide +kernel
theorem dX7_would_17 : decode cX7_would 17 = .ok (.getfield 19, 3) := by decide +kernel
theorem dX7_would_20 : decode cX7_would 20 = .ok (.invokevirtual 70, 3) := by decide +kernel
theorem dX7_would_23 : decode cX7_would 23 = .ok (.aload_n 0, 1) := by decide +kernel
theorem dX7_would_24 : decode cX7_would 24 = .ok (.invokevirtual 178, 3) := by decide +kernel
theorem dX7_would_27 : decode cX7_would 27 = .ok (.istore_n 2, 1) := by decide +kernel
theorem dX7_would_28 : decode cX7_would 28 = .ok (.iload_n 1, 1) := by decide +kernel
theorem dX7_would_29 : decode cX7_would 29 = .ok (.lookupswitch 37 #[(0, 27), (1, 29)], 27) := by decide +kernel
theorem dX7_would_56 : decode cX7_would 56 = .ok (.iload_n 2, 1) := by decide +kernel
theorem dX7_would_57 : decode cX7_would 57 = .ok (.ireturn, 1) := by decide +kernel
theorem dX7_would_58 : decode cX7_would 58 = .ok (.aload_n 0, 1) := by decide +kernel
theorem dX7_would_59 : decode cX7_would 59 = .ok (.getfield 23, 3) := by decide +kernel
theorem dX7_would_62 : decode cX7_would 62 = .ok (.getfield 78, 3) := by decide +kernel
theorem dX7_would_65 : decode cX7_would 65 = .ok (.ireturn, 1) := by decide +kernel
theorem dX7_would_66 : decode cX7_would 66 = .ok (.aload_n 0, 1) := by decide +kernel
theorem dX7_would_67 : decode cX7_would 67 = .ok (.getfield 29, 3) := by decide +kernel
theorem dX7_would_70 : decode cX7_would 70 = .ok (.invokevirtual 175, 3) := by decide +kernel
theorem dX7_would_73 : decode cX7_would 73 = .ok (.bipush (-9), 2) := by decide +kernel
theorem dX7_would_75 : decode cX7_would 75 = .ok (.if_icmp .ne 7, 3) := by decide +kernel
theorem dX7_would_78 : decode cX7_would 78 = .ok (.iconst 1, 1) := by decide +kernel
theorem dX7_would_79 : decode cX7_would 79 = .ok (.goto 4, 3) := by decide +kernel
theorem dX7_would_82 : decode cX7_would 82 = .ok (.iconst 0, 1) := by decide +kernel
theorem dX7_would_83 : decode cX7_would 83 = .ok (.ireturn, 1) := by decide +kernel
theorem dX7_judge_0 : decode cX7_judge 0 = .ok (.iload_n 1, 1) := by decide +kernel
theorem dX7_judge_1 : decode cX7_judge 1 = .ok (.iconst 1, 1) := by decide +kernel
theorem dX7_judge_2 : decode cX7_judge 2 = .ok (.if_icmp .lt 25, 3) := by decide +kernel
theorem dX7_judge_5 : decode cX7_judge 5 = .ok (.iload_n 1, 1) := by decide +kernel
theorem dX7_judge_6 : decode cX7_judge 6 = .ok (.iconst 4, 1) := by decide +kernel
theorem dX7_judge_7 : decode cX7_judge 7 = .ok (.if_icmp .gt 20, 3) := by decide +kernel
theorem dX7_judge_10 : decode cX7_judge 10 = .ok (.lload_n 2, 1) := by decide +kernel
theorem dX7_judge_11 : decode cX7_judge 11 = .ok (.lconst 0, 1) := by decide +kernel
theorem dX7_judge_12 : decode cX7_judge 12 = .ok (.lcmp, 1) := by decide +kernel
theorem dX7_judge_13 : decode cX7_judge 13 = .ok (.ifCond .lt 14, 3) := by decide +kernel
theorem dX7_judge_16 : decode cX7_judge 16 = .ok (.lload_n 2, 1) := by decide +kernel
theorem dX7_judge_17 : decode cX7_judge 17 = .ok (.iconst 3, 1) := by decide +kernel
theorem dX7_judge_18 : decode cX7_judge 18 = .ok (.iload_n 1, 1) := by decide +kernel
theorem dX7_judge_19 : decode cX7_judge 19 = .ok (.imul, 1) := by decide +kernel
theorem dX7_judge_20 : decode cX7_judge 20 = .ok (.invokestatic 215, 3) := by decide +kernel
theorem dX7_judge_23 : decode cX7_judge 23 = .ok (.lcmp, 1) := by decide +kernel
theorem dX7_judge_24 : decode cX7_judge 24 = .ok (.ifCond .lt 6, 3) := by decide +kernel
theorem dX7_judge_27 : decode cX7_judge 27 = .ok (.bipush (-2), 2) := by decide +kernel
theorem dX7_judge_29 : decode cX7_judge 29 = .ok (.ireturn, 1) := by decide +kernel
theorem dX7_judge_30 : decode cX7_judge 30 = .ok (.aload_n 0, 1) := by decide +kernel
theorem dX7_judge_31 : decode cX7_judge 31 = .ok (.getfield 23, 3) := by decide +kernel
theorem dX7_judge_34 : decode cX7_judge 34 = .ok (.aload_n 0, 1) := by decide +kernel
theorem dX7_judge_35 : decode cX7_judge 35 = .ok (.getfield 19, 3) := by decide +kernel
theorem dX7_judge_38 : decode cX7_judge 38 = .ok (.invokevirtual 70, 3) := by decide +kernel
theorem dX7_judge_41 : decode cX7_judge 41 = .ok (.iconst 0, 1) := by decide +kernel
theorem dX7_judge_42 : decode cX7_judge 42 = .ok (.istore 4, 2) := by decide +kernel
theorem dX7_judge_44 : decode cX7_judge 44 = .ok (.iload 4, 2) := by decide +kernel
theorem dX7_judge_46 : decode cX7_judge 46 = .ok (.iload_n 1, 1) := by decide +kernel
theorem dX7_judge_47 : decode cX7_judge 47 = .ok (.if_icmp .ge 51, 3) := by decide +kernel
theorem dX7_judge_50 : decode cX7_judge 50 = .ok (.iconst 3, 1) := by decide +kernel
theorem dX7_judge_51 : decode cX7_judge 51 = .ok (.iload_n 1, 1) := by decide +kernel
theorem dX7_judge_52 : decode cX7_judge 52 = .ok (.iconst 1, 1) := by decide +kernel
theorem dX7_judge_53 : decode cX7_judge 53 = .ok (.isub, 1) := by decide +kernel
theorem dX7_judge_54 : decode cX7_judge 54 = .ok (.iload 4, 2) := by decide +kernel
theorem dX7_judge_56 : decode cX7_judge 56 = .ok (.isub, 1) := by decide +kernel
theorem dX7_judge_57 : decode cX7_judge 57 = .ok (.imul, 1) := by decide +kernel
theorem dX7_judge_58 : decode cX7_judge 58 = .ok (.istore 5, 2) := by decide +kernel
theorem dX7_judge_60 : decode cX7_judge 60 = .ok (.aload_n 0, 1) := by decide +kernel
theorem dX7_judge_61 : decode cX7_judge 61 = .ok (.lload_n 2, 1) := by decide +kernel
theorem dX7_judge_62 : decode cX7_judge 62 = .ok (.iload 5, 2) := by decide +kernel
theorem dX7_judge_64 : decode cX7_judge 64 = .ok (.iconst 2, 1) := by decide +kernel
theorem dX7_judge_65 : decode cX7_judge 65 = .ok (.iadd, 1) := by decide +kernel
theorem dX7_judge_66 : decode cX7_judge 66 = .ok (.invokestatic 208, 3) := by decide +kernel
theorem dX7_judge_69 : decode cX7_judge 69 = .ok (.lload_n 2, 1) := by decide +kernel
theorem dX7_judge_70 : decode cX7_judge 70 = .ok (.iload 5, 2) := by decide +kernel
theorem dX7_judge_72 : decode cX7_judge 72 = .ok (.iconst 1, 1) := by decide +kernel
theorem dX7_judge_73 : decode cX7_judge 73 = .ok (.iadd, 1) := by decide +kernel
theorem dX7_judge_74 : decode cX7_judge 74 = .ok (.invokestatic 208, 3) := by decide +kernel
theorem dX7_judge_77 : decode cX7_judge 77 = .ok (.lload_n 2, 1) := by decide +kernel
theorem dX7_judge_78 : decode cX7_judge 78 = .ok (.iload 5, 2) := by decide +kernel
theorem dX7_judge_80 : decode cX7_judge 80 = .ok (.invokestatic 208, 3) := by decide +kernel
theorem dX7_judge_83 : decode cX7_judge 83 = .ok (.invokevirtual 219, 3) := by decide +kernel
theorem dX7_judge_86 : decode cX7_judge 86 = .ok (.ifCond .ne 6, 3) := by decide +kernel
theorem dX7_judge_89 : decode cX7_judge 89 = .ok (.iload 4, 2) := by decide +kernel
theorem dX7_judge_91 : decode cX7_judge 91 = .ok (.ireturn, 1) := by decide +kernel
theorem dX7_judge_92 : decode cX7_judge 92 = .ok (.iinc 4 1, 3) := by decide +kernel
theorem dX7_judge_95 : decode cX7_judge 95 = .ok (.goto (-51), 3) := by decide +kernel
theorem dX7_judge_98 : decode cX7_judge 98 = .ok (.bipush (-9), 2) := by decide +kernel
theorem dX7_judge_100 : decode cX7_judge 100 = .ok (.ireturn, 1) := by decide +kernel
theorem dX7_holds_0 : decode cX7_holds 0 = .ok (.iload_n 1, 1) := by decide +kernel
theorem dX7_holds_1 : decode cX7_holds 1 = .ok (.tableswitch 120 1 4 #[31, 49, 67, 85], 31) := by decide +kernel
theorem dX7_holds_32 : decode cX7_holds 32 = .ok (.aload_n 0, 1) := by decide +kernel
theorem dX7_holds_33 : decode cX7_holds 33 = .ok (.getfield 23, 3) := by decide +kernel
theorem dX7_holds_36 : decode cX7_holds 36 = .ok (.iload_n 2, 1) := by decide +kernel
theorem dX7_holds_37 : decode cX7_holds 37 = .ok (.iload_n 3, 1) := by decide +kernel
theorem dX7_holds_38 : decode cX7_holds 38 = .ok (.invokevirtual 163, 3) := by decide +kernel
theorem dX7_holds_41 : decode cX7_holds 41 = .ok (.ifCond .lt 7, 3) := by decide +kernel
theorem dX7_holds_44 : decode cX7_holds 44 = .ok (.iconst 1, 1) := by decide +kernel
theorem dX7_holds_45 : decode cX7_holds 45 = .ok (.goto 4, 3) := by decide +kernel
theorem dX7_holds_48 : decode cX7_holds 48 = .ok (.iconst 0, 1) := by decide +kernel
theorem dX7_holds_49 : decode cX7_holds 49 = .ok (.ireturn, 1) := by decide +kernel
theorem dX7_holds_50 : decode cX7_holds 50 = .ok (.aload_n 0, 1) := by decide +kernel
theorem dX7_holds_51 : decode cX7_holds 51 = .ok (.getfield 23, 3) := by decide +kernel
theorem dX7_holds_54 : decode cX7_holds 54 = .ok (.iload_n 2, 1) := by decide +kernel
theorem dX7_holds_55 : decode cX7_holds 55 = .ok (.iload_n 3, 1) := by decide +kernel
theorem dX7_holds_56 : decode cX7_holds 56 = .ok (.invokevirtual 169, 3) := by decide +kernel
theorem dX7_holds_59 : decode cX7_holds 59 = .ok (.ifCond .lt 7, 3) := by decide +kernel
theorem dX7_holds_62 : decode cX7_holds 62 = .ok (.iconst 1, 1) := by decide +kernel
theorem dX7_holds_63 : decode cX7_holds 63 = .ok (.goto 4, 3) := by decide +kernel
theorem dX7_holds_66 : decode cX7_holds 66 = .ok (.iconst 0, 1) := by decide +kernel
theorem dX7_holds_67 : decode cX7_holds 67 = .ok (.ireturn, 1) := by decide +kernel
theorem dX7_holds_68 : decode cX7_holds 68 = .ok (.aload_n 0, 1) := by decide +kernel
theorem dX7_holds_69 : decode cX7_holds 69 = .ok (.getfield 23, 3) := by decide +kernel
theorem dX7_holds_72 : decode cX7_holds 72 = .ok (.iload_n 2, 1) := by decide +kernel
theorem dX7_holds_73 : decode cX7_holds 73 = .ok (.iload_n 3, 1) := by decide +kernel
theorem dX7_holds_74 : decode cX7_holds 74 = .ok (.invokevirtual 172, 3) := by decide +kernel
theorem dX7_holds_77 : decode cX7_holds 77 = .ok (.ifCond .lt 7, 3) := by decide +kernel
theorem dX7_holds_80 : decode cX7_holds 80 = .ok (.iconst 1, 1) := by decide +kernel
theorem dX7_holds_81 : decode cX7_holds 81 = .ok (.goto 4, 3) := by decide +kernel
theorem dX7_holds_84 : decode cX7_holds 84 = .ok (.iconst 0, 1) := by decide +kernel
theorem dX7_holds_85 : decode cX7_holds 85 = .ok (.ireturn, 1) := by decide +kernel
theorem dX7_holds_86 : decode cX7_holds 86 = .ok (.aload_n 0, 1) := by decide +kernel
theorem dX7_holds_87 : decode cX7_holds 87 = .ok (.getfield 29, 3) := by decide +kernel
theorem dX7_holds_90 : decode cX7_holds 90 = .ok (.aload_n 0, 1) := by decide +kernel
theorem dX7_holds_91 : decode cX7_holds 91 = .ok (.getfield 23, 3) := by decide +kernel
theorem dX7_holds_94 : decode cX7_holds 94 = .ok (.invokevirtual 95, 3) := by decide +kernel
theorem dX7_holds_97 : decode cX7_holds 97 = .ok (.iload_n 2, 1) := by decide +kernel
theorem dX7_holds_98 : decode cX7_holds 98 = .ok (.ifCond .ne 21, 3) := by decide +kernel
theorem dX7_holds_101 : decode cX7_holds 101 = .ok (.iload_n 3, 1) := by decide +kernel
theorem dX7_holds_102 : decode cX7_holds 102 = .ok (.ifCond .ne 17, 3) := by decide +kernel
theorem dX7_holds_105 : decode cX7_holds 105 = .ok (.aload_n 0, 1) := by decide +kernel
theorem dX7_holds_106 : decode cX7_holds 106 = .ok (.getfield 29, 3) := by decide +kernel
theorem dX7_holds_109 : decode cX7_holds 109 = .ok (.invokevirtual 110, 3) := by decide +kernel
theorem dX7_holds_112 : decode cX7_holds 112 = .ok (.ifCond .eq 7, 3) := by decide +kernel
theorem dX7_holds_115 : decode cX7_holds 115 = .ok (.iconst 1, 1) := by decide +kernel
theorem dX7_holds_116 : decode cX7_holds 116 = .ok (.goto 4, 3) := by decide +kernel
theorem dX7_holds_119 : decode cX7_holds 119 = .ok (.iconst 0, 1) := by decide +kernel
theorem dX7_holds_120 : decode cX7_holds 120 = .ok (.ireturn, 1) := by decide +kernel
theorem dX7_holds_121 : decode cX7_holds 121 = .ok (.aload_n 0, 1) := by decide +kernel
theorem dX7_holds_122 : decode cX7_holds 122 = .ok (.iload_n 1, 1) := by decide +kernel
theorem dX7_holds_123 : decode cX7_holds 123 = .ok (.iload_n 2, 1) := by decide +kernel
theorem dX7_holds_124 : decode cX7_holds 124 = .ok (.iload_n 3, 1) := by decide +kernel
theorem dX7_holds_125 : decode cX7_holds 125 = .ok (.invokevirtual 223, 3) := by decide +kernel
theorem dX7_holds_128 : decode cX7_holds 128 = .ok (.ireturn, 1) := by decide +kernel
theorem dX7_isSaidOfBlock_0 : decode cX7_isSaidOfBlock 0 = .ok (.aload_n 0, 1) := by decide +kernel
theorem dX7_isSaidOfBlock_1 : decode cX7_isSaidOfBlock 1 = .ok (.getfield 23, 3) := by decide +kernel
theorem dX7_isSaidOfBlock_4 : decode cX7_isSaidOfBlock 4 = .ok (.iload_n 2, 1) := by decide +kernel
theorem dX7_isSaidOfBlock_5 : decode cX7_isSaidOfBlock 5 = .ok (.invokevirtual 117, 3) := by decide +kernel
theorem dX7_isSaidOfBlock_8 : decode cX7_isSaidOfBlock 8 = .ok (.ifCond .ne 5, 3) := by decide +kernel
theorem dX7_isSaidOfBlock_11 : decode cX7_isSaidOfBlock 11 = .ok (.iconst 0, 1) := by decide +kernel
theorem dX7_isSaidOfBlock_12 : decode cX7_isSaidOfBlock 12 = .ok (.ireturn, 1) := by decide +kernel
theorem dX7_isSaidOfBlock_13 : decode cX7_isSaidOfBlock 13 = .ok (.aload_n 0, 1) := by decide +kernel
theorem dX7_isSaidOfBlock_14 : decode cX7_isSaidOfBlock 14 = .ok (.getfield 29, 3) := by decide +kernel
theorem dX7_isSaidOfBlock_17 : decode cX7_isSaidOfBlock 17 = .ok (.aload_n 0, 1) := by decide +kernel
theorem dX7_isSaidOfBlock_18 : decode cX7_isSaidOfBlock 18 = .ok (.getfield 23, 3) := by decide +kernel
theorem dX7_isSaidOfBlock_21 : decode cX7_isSaidOfBlock 21 = .ok (.invokevirtual 95, 3) := by decide +kernel
theorem dX7_isSaidOfBlock_24 : decode cX7_isSaidOfBlock 24 = .ok (.iload_n 1, 1) := by decide +kernel
theorem dX7_isSaidOfBlock_25 : decode cX7_isSaidOfBlock 25 = .ok (.tableswitch 130 5 8 #[31, 50, 68, 98], 31) := by decide +kernel
theorem dX7_isSaidOfBlock_56 : decode cX7_isSaidOfBlock 56 = .ok (.aload_n 0, 1) := by decide +kernel
theorem dX7_isSaidOfBlock_57 : decode cX7_isSaidOfBlock 57 = .ok (.getfield 29, 3) := by decide +kernel
theorem dX7_isSaidOfBlock_60 : decode cX7_isSaidOfBlock 60 = .ok (.getfield 134, 3) := by decide +kernel
theorem dX7_isSaidOfBlock_63 : decode cX7_isSaidOfBlock 63 = .ok (.iload_n 2, 1) := by decide +kernel
theorem dX7_isSaidOfBlock_64 : decode cX7_isSaidOfBlock 64 = .ok (.iaload, 1) := by decide +kernel
theorem dX7_isSaidOfBlock_65 : decode cX7_isSaidOfBlock 65 = .ok (.iload_n 3, 1) := by decide +kernel
theorem dX7_isSaidOfBlock_66 : decode cX7_isSaidOfBlock 66 = .ok (.if_icmp .ne 7, 3) := by decide +kernel
theorem dX7_isSaidOfBlock_69 : decode cX7_isSaidOfBlock 69 = .ok (.iconst 1, 1) := by decide +kernel
theorem dX7_isSaidOfBlock_70 : decode cX7_isSaidOfBlock 70 = .ok (.goto 4, 3) := by decide +kernel
theorem dX7_isSaidOfBlock_73 : decode cX7_isSaidOfBlock 73 = .ok (.iconst 0, 1) := by decide +kernel
theorem dX7_isSaidOfBlock_74 : decode cX7_isSaidOfBlock 74 = .ok (.ireturn, 1) := by decide +kernel
theorem dX7_isSaidOfBlock_75 : decode cX7_isSaidOfBlock 75 = .ok (.aload_n 0, 1) := by decide +kernel
theorem dX7_isSaidOfBlock_76 : decode cX7_isSaidOfBlock 76 = .ok (.getfield 29, 3) := by decide +kernel
theorem dX7_isSaidOfBlock_79 : decode cX7_isSaidOfBlock 79 = .ok (.iload_n 2, 1) := by decide +kernel
theorem dX7_isSaidOfBlock_80 : decode cX7_isSaidOfBlock 80 = .ok (.invokevirtual 137, 3) := by decide +kernel
theorem dX7_isSaidOfBlock_83 : decode cX7_isSaidOfBlock 83 = .ok (.iload_n 3, 1) := by decide +kernel
theorem dX7_isSaidOfBlock_84 : decode cX7_isSaidOfBlock 84 = .ok (.if_icmp .ne 7, 3) := by decide +kernel
theorem dX7_isSaidOfBlock_87 : decode cX7_isSaidOfBlock 87 = .ok (.iconst 1, 1) := by decide +kernel
theorem dX7_isSaidOfBlock_88 : decode cX7_isSaidOfBlock 88 = .ok (.goto 4, 3) := by decide +kernel
theorem dX7_isSaidOfBlock_91 : decode cX7_isSaidOfBlock 91 = .ok (.iconst 0, 1) := by decide +kernel
theorem dX7_isSaidOfBlock_92 : decode cX7_isSaidOfBlock 92 = .ok (.ireturn, 1) := by decide +kernel
theorem dX7_isSaidOfBlock_93 : decode cX7_isSaidOfBlock 93 = .ok (.aload_n 0, 1) := by decide +kernel
theorem dX7_isSaidOfBlock_94 : decode cX7_isSaidOfBlock 94 = .ok (.getfield 23, 3) := by decide +kernel
theorem dX7_isSaidOfBlock_97 : decode cX7_isSaidOfBlock 97 = .ok (.iload_n 3, 1) := by decide +kernel
theorem dX7_isSaidOfBlock_98 : decode cX7_isSaidOfBlock 98 = .ok (.invokevirtual 117, 3) := by decide +kernel
theorem dX7_isSaidOfBlock_101 : decode cX7_isSaidOfBlock 101 = .ok (.ifCond .eq 20, 3) := by decide +kernel
theorem dX7_isSaidOfBlock_104 : decode cX7_isSaidOfBlock 104 = .ok (.aload_n 0, 1) := by decide +kernel
theorem dX7_isSaidOfBlock_105 : decode cX7_isSaidOfBlock 105 = .ok (.getfield 29, 3) := by decide +kernel
theorem dX7_isSaidOfBlock_108 : decode cX7_isSaidOfBlock 108 = .ok (.getfield 131, 3) := by decide +kernel
theorem dX7_isSaidOfBlock_111 : decode cX7_isSaidOfBlock 111 = .ok (.iload_n 3, 1) := by decide +kernel
theorem dX7_isSaidOfBlock_112 : decode cX7_isSaidOfBlock 112 = .ok (.iaload, 1) := by decide +kernel
theorem dX7_isSaidOfBlock_113 : decode cX7_isSaidOfBlock 113 = .ok (.iload_n 2, 1) := by decide +kernel
theorem dX7_isSaidOfBlock_114 : decode cX7_isSaidOfBlock 114 = .ok (.if_icmp .ne 7, 3) := by decide +kernel
theorem dX7_isSaidOfBlock_117 : decode cX7_isSaidOfBlock 117 = .ok (.iconst 1, 1) := by decide +kernel
theorem dX7_isSaidOfBlock_118 : decode cX7_isSaidOfBlock 118 = .ok (.goto 4, 3) := by decide +kernel
theorem dX7_isSaidOfBlock_121 : decode cX7_isSaidOfBlock 121 = .ok (.iconst 0, 1) := by decide +kernel
theorem dX7_isSaidOfBlock_122 : decode cX7_isSaidOfBlock 122 = .ok (.ireturn, 1) := by decide +kernel
theorem dX7_isSaidOfBlock_123 : decode cX7_isSaidOfBlock 123 = .ok (.aload_n 0, 1) := by decide +kernel
theorem dX7_isSaidOfBlock_124 : decode cX7_isSaidOfBlock 124 = .ok (.getfield 23, 3) := by decide +kernel
theorem dX7_isSaidOfBlock_127 : decode cX7_isSaidOfBlock 127 = .ok (.iload_n 3, 1) := by decide +kernel
theorem dX7_isSaidOfBlock_128 : decode cX7_isSaidOfBlock 128 = .ok (.invokevirtual 117, 3) := by decide +kernel
theorem dX7_isSaidOfBlock_131 : decode cX7_isSaidOfBlock 131 = .ok (.ifCond .eq 22, 3) := by decide +kernel
theorem dX7_isSaidOfBlock_134 : decode cX7_isSaidOfBlock 134 = .ok (.aload_n 0, 1) := by decide +kernel
theorem dX7_isSaidOfBlock_135 : decode cX7_isSaidOfBlock 135 = .ok (.getfield 29, 3) := by decide +kernel
theorem dX7_isSaidOfBlock_138 : decode cX7_isSaidOfBlock 138 = .ok (.iload_n 2, 1) := by decide +kernel
theorem dX7_isSaidOfBlock_139 : decode cX7_isSaidOfBlock 139 = .ok (.invokevirtual 157, 3) := by decide +kernel
theorem dX7_isSaidOfBlock_142 : decode cX7_isSaidOfBlock 142 = .ok (.iload_n 3, 1) := by decide +kernel
theorem dX7_isSaidOfBlock_143 : decode cX7_isSaidOfBlock 143 = .ok (.ishr, 1) := by decide +kernel
theorem dX7_isSaidOfBlock_144 : decode cX7_isSaidOfBlock 144 = .ok (.iconst 1, 1) := by decide +kernel
theorem dX7_isSaidOfBlock_145 : decode cX7_isSaidOfBlock 145 = .ok (.iand, 1) := by decide +kernel
theorem dX7_isSaidOfBlock_146 : decode cX7_isSaidOfBlock 146 = .ok (.ifCond .eq 7, 3) := by decide +kernel
theorem dX7_isSaidOfBlock_149 : decode cX7_isSaidOfBlock 149 = .ok (.iconst 1, 1) := by decide +kernel
theorem dX7_isSaidOfBlock_150 : decode cX7_isSaidOfBlock 150 = .ok (.goto 4, 3) := by decide +kernel
theorem dX7_isSaidOfBlock_153 : decode cX7_isSaidOfBlock 153 = .ok (.iconst 0, 1) := by decide +kernel
theorem dX7_isSaidOfBlock_154 : decode cX7_isSaidOfBlock 154 = .ok (.ireturn, 1) := by decide +kernel
theorem dX7_isSaidOfBlock_155 : decode cX7_isSaidOfBlock 155 = .ok (.iconst 0, 1) := by decide +kernel
theorem dX7_isSaidOfBlock_156 : decode cX7_isSaidOfBlock 156 = .ok (.ireturn, 1) := by decide +kernel
theorem dX7_share_0 : decode cX7_share 0 = .ok (.aload_n 0, 1) := by decide +kernel
theorem dX7_share_1 : decode cX7_share 1 = .ok (.getfield 19, 3) := by decide +kernel
theorem dX7_share_4 : decode cX7_share 4 = .ok (.iload_n 1, 1) := by decide +kernel
theorem dX7_share_5 : decode cX7_share 5 = .ok (.iload_n 2, 1) := by decide +kernel
theorem dX7_share_6 : decode cX7_share 6 = .ok (.invokevirtual 140, 3) := by decide +kernel
theorem dX7_share_9 : decode cX7_share 9 = .ok (.ifCond .ne 5, 3) := by decide +kernel
theorem dX7_share_12 : decode cX7_share 12 = .ok (.iconst (-1), 1) := by decide +kernel
theorem dX7_share_13 : decode cX7_share 13 = .ok (.ireturn, 1) := by decide +kernel
theorem dX7_share_14 : decode cX7_share 14 = .ok (.aload_n 0, 1) := by decide +kernel
theorem dX7_share_15 : decode cX7_share 15 = .ok (.getfield 19, 3) := by decide +kernel
theorem dX7_share_18 : decode cX7_share 18 = .ok (.getfield 125, 3) := by decide +kernel
theorem dX7_share_21 : decode cX7_share 21 = .ok (.iload_n 1, 1) := by decide +kernel
theorem dX7_share_22 : decode cX7_share 22 = .ok (.iaload, 1) := by decide +kernel
theorem dX7_share_23 : decode cX7_share 23 = .ok (.istore 4, 2) := by decide +kernel
theorem dX7_share_25 : decode cX7_share 25 = .ok (.iconst 0, 1) := by decide +kernel
theorem dX7_share_26 : decode cX7_share 26 = .ok (.istore 5, 2) := by decide +kernel
theorem dX7_share_28 : decode cX7_share 28 = .ok (.iconst 0, 1) := by decide +kernel
theorem dX7_share_29 : decode cX7_share 29 = .ok (.istore 6, 2) := by decide +kernel
theorem dX7_share_31 : decode cX7_share 31 = .ok (.iload 6, 2) := by decide +kernel
theorem dX7_share_33 : decode cX7_share 33 = .ok (.iconst 1, 1) := by decide +kernel
theorem dX7_share_34 : decode cX7_share 34 = .ok (.iload 4, 2) := by decide +kernel
theorem dX7_share_36 : decode cX7_share 36 = .ok (.ishl, 1) := by decide +kernel
theorem dX7_share_37 : decode cX7_share 37 = .ok (.if_icmp .ge 70, 3) := by decide +kernel
theorem dX7_share_40 : decode cX7_share 40 = .ok (.iload 6, 2) := by decide +kernel
theorem dX7_share_42 : decode cX7_share 42 = .ok (.iload_n 2, 1) := by decide +kernel
theorem dX7_share_43 : decode cX7_share 43 = .ok (.ishr, 1) := by decide +kernel
theorem dX7_share_44 : decode cX7_share 44 = .ok (.iconst 1, 1) := by decide +kernel
theorem dX7_share_45 : decode cX7_share 45 = .ok (.iand, 1) := by decide +kernel
theorem dX7_share_46 : decode cX7_share 46 = .ok (.ifCond .ne 55, 3) := by decide +kernel
theorem dX7_share_49 : decode cX7_share 49 = .ok (.iload 6, 2) := by decide +kernel
theorem dX7_share_51 : decode cX7_share 51 = .ok (.invokestatic 226, 3) := by decide +kernel
theorem dX7_share_54 : decode cX7_share 54 = .ok (.istore 7, 2) := by decide +kernel
theorem dX7_share_56 : decode cX7_share 56 = .ok (.iload 7, 2) := by decide +kernel
theorem dX7_share_58 : decode cX7_share 58 = .ok (.invokestatic 231, 3) := by decide +kernel
theorem dX7_share_61 : decode cX7_share 61 = .ok (.iload 4, 2) := by decide +kernel
theorem dX7_share_63 : decode cX7_share 63 = .ok (.iconst 1, 1) := by decide +kernel
theorem dX7_share_64 : decode cX7_share 64 = .ok (.isub, 1) := by decide +kernel
theorem dX7_share_65 : decode cX7_share 65 = .ok (.iload 7, 2) := by decide +kernel
theorem dX7_share_67 : decode cX7_share 67 = .ok (.isub, 1) := by decide +kernel
theorem dX7_share_68 : decode cX7_share 68 = .ok (.invokestatic 231, 3) := by decide +kernel
theorem dX7_share_71 : decode cX7_share 71 = .ok (.imul, 1) := by decide +kernel
theorem dX7_share_72 : decode cX7_share 72 = .ok (.istore 8, 2) := by decide +kernel
theorem dX7_share_74 : decode cX7_share 74 = .ok (.iload 5, 2) := by decide +kernel
theorem dX7_share_76 : decode cX7_share 76 = .ok (.iload 8, 2) := by decide +kernel
theorem dX7_share_78 : decode cX7_share 78 = .ok (.aload_n 0, 1) := by decide +kernel
theorem dX7_share_79 : decode cX7_share 79 = .ok (.iload_n 1, 1) := by decide +kernel
theorem dX7_share_80 : decode cX7_share 80 = .ok (.iload 6, 2) := by decide +kernel
theorem dX7_share_82 : decode cX7_share 82 = .ok (.iconst 1, 1) := by decide +kernel
theorem dX7_share_83 : decode cX7_share 83 = .ok (.iload_n 2, 1) := by decide +kernel
theorem dX7_share_84 : decode cX7_share 84 = .ok (.ishl, 1) := by decide +kernel
theorem dX7_share_85 : decode cX7_share 85 = .ok (.ior, 1) := by decide +kernel
theorem dX7_share_86 : decode cX7_share 86 = .ok (.invokevirtual 234, 3) := by decide +kernel
theorem dX7_share_89 : decode cX7_share 89 = .ok (.aload_n 0, 1) := by decide +kernel
theorem dX7_share_90 : decode cX7_share 90 = .ok (.iload_n 1, 1) := by decide +kernel
theorem dX7_share_91 : decode cX7_share 91 = .ok (.iload 6, 2) := by decide +kernel
theorem dX7_share_93 : decode cX7_share 93 = .ok (.invokevirtual 234, 3) := by decide +kernel
theorem dX7_share_96 : decode cX7_share 96 = .ok (.isub, 1) := by decide +kernel
theorem dX7_share_97 : decode cX7_share 97 = .ok (.imul, 1) := by decide +kernel
theorem dX7_share_98 : decode cX7_share 98 = .ok (.iadd, 1) := by decide +kernel
theorem dX7_share_99 : decode cX7_share 99 = .ok (.istore 5, 2) := by decide +kernel
theorem dX7_share_101 : decode cX7_share 101 = .ok (.iinc 6 1, 3) := by decide +kernel
theorem dX7_share_104 : decode cX7_share 104 = .ok (.goto (-73), 3) := by decide +kernel
theorem dX7_share_107 : decode cX7_share 107 = .ok (.iload 5, 2) := by decide +kernel
theorem dX7_share_109 : decode cX7_share 109 = .ok (.iload 4, 2) := by decide +kernel
theorem dX7_share_111 : decode cX7_share 111 = .ok (.invokestatic 231, 3) := by decide +kernel
theorem dX7_share_114 : decode cX7_share 114 = .ok (.iload_n 3, 1) := by decide +kernel
theorem dX7_share_115 : decode cX7_share 115 = .ok (.invokestatic 237, 3) := by decide +kernel
theorem dX7_share_118 : decode cX7_share 118 = .ok (.ireturn, 1) := by decide +kernel
theorem dX7_loopsWithArcs_0 : decode cX7_loopsWithArcs 0 = .ok (.aload_n 0, 1) := by decide +kernel
theorem dX7_loopsWithArcs_1 : decode cX7_loopsWithArcs 1 = .ok (.iload_n 1, 1) := by decide +kernel
theorem dX7_loopsWithArcs_2 : decode cX7_loopsWithArcs 2 = .ok (.iload_n 2, 1) := by decide +kernel
theorem dX7_loopsWithArcs_3 : decode cX7_loopsWithArcs 3 = .ok (.invokevirtual 241, 3) := by decide +kernel
theorem dX7_loopsWithArcs_6 : decode cX7_loopsWithArcs 6 = .ok (.aload_n 0, 1) := by decide +kernel
theorem dX7_loopsWithArcs_7 : decode cX7_loopsWithArcs 7 = .ok (.getfield 29, 3) := by decide +kernel
theorem dX7_loopsWithArcs_10 : decode cX7_loopsWithArcs 10 = .ok (.invokevirtual 101, 3) := by decide +kernel
theorem dX7_loopsWithArcs_13 : decode cX7_loopsWithArcs 13 = .ok (.ireturn, 1) := by decide +kernel
theorem dX7_surveyWithArcs_0 : decode cX7_surveyWithArcs 0 = .ok (.aload_n 0, 1) := by decide +kernel
theorem dX7_surveyWithArcs_1 : decode cX7_surveyWithArcs 1 = .ok (.getfield 23, 3) := by decide +kernel
theorem dX7_surveyWithArcs_4 : decode cX7_surveyWithArcs 4 = .ok (.aload_n 0, 1) := by decide +kernel
theorem dX7_surveyWithArcs_5 : decode cX7_surveyWithArcs 5 = .ok (.getfield 19, 3) := by decide +kernel
theorem dX7_surveyWithArcs_8 : decode cX7_surveyWithArcs 8 = .ok (.invokevirtual 70, 3) := by decide +kernel
theorem dX7_surveyWithArcs_11 : decode cX7_surveyWithArcs 11 = .ok (.aload_n 0, 1) := by decide +kernel
