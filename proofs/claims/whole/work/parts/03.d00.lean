theorem dX0_init_0 : decode cX0_init 0 = .ok (.aload_n 0, 1) := by decide +kernel
theorem dX0_init_1 : decode cX0_init 1 = .ok (.invokespecial 3, 3) := by decide +kernel
theorem dX0_init_4 : decode cX0_init 4 = .ok (.aload_n 0, 1) := by decide +kernel
theorem dX0_init_5 : decode cX0_init 5 = .ok (.bipush 12, 2) := by decide +kernel
theorem dX0_init_7 : decode cX0_init 7 = .ok (.newarray .int, 2) := by decide +kernel
theorem dX0_init_9 : decode cX0_init 9 = .ok (.putfield 9, 3) := by decide +kernel
theorem dX0_init_12 : decode cX0_init 12 = .ok (.aload_n 0, 1) := by decide +kernel
theorem dX0_init_13 : decode cX0_init 13 = .ok (.bipush 12, 2) := by decide +kernel
theorem dX0_init_15 : decode cX0_init 15 = .ok (.newarray .int, 2) := by decide +kernel
theorem dX0_init_17 : decode cX0_init 17 = .ok (.putfield 15, 3) := by decide +kernel
theorem dX0_init_20 : decode cX0_init 20 = .ok (.aload_n 0, 1) := by decide +kernel
theorem dX0_init_21 : decode cX0_init 21 = .ok (.bipush 36, 2) := by decide +kernel
theorem dX0_init_23 : decode cX0_init 23 = .ok (.newarray .int, 2) := by decide +kernel
theorem dX0_init_25 : decode cX0_init 25 = .ok (.putfield 18, 3) := by decide +kernel
theorem dX0_init_28 : decode cX0_init 28 = .ok (.aload_n 0, 1) := by decide +kernel
theorem dX0_init_29 : decode cX0_init 29 = .ok (.iconst 0, 1) := by decide +kernel
theorem dX0_init_30 : decode cX0_init 30 = .ok (.putfield 21, 3) := by decide +kernel
theorem dX0_init_33 : decode cX0_init 33 = .ok (.return_, 1) := by decide +kernel
theorem dX0_copyFrom_0 : decode cX0_copyFrom 0 = .ok (.aload_n 0, 1) := by decide +kernel
theorem dX0_copyFrom_1 : decode cX0_copyFrom 1 = .ok (.aload_n 1, 1) := by decide +kernel
theorem dX0_copyFrom_2 : decode cX0_copyFrom 2 = .ok (.getfield 21, 3) := by decide +kernel
theorem dX0_copyFrom_5 : decode cX0_copyFrom 5 = .ok (.putfield 21, 3) := by decide +kernel
theorem dX0_copyFrom_8 : decode cX0_copyFrom 8 = .ok (.aload_n 1, 1) := by decide +kernel
theorem dX0_copyFrom_9 : decode cX0_copyFrom 9 = .ok (.getfield 9, 3) := by decide +kernel
theorem dX0_copyFrom_12 : decode cX0_copyFrom 12 = .ok (.iconst 0, 1) := by decide +kernel
theorem dX0_copyFrom_13 : decode cX0_copyFrom 13 = .ok (.aload_n 0, 1) := by decide +kernel
theorem dX0_copyFrom_14 : decode cX0_copyFrom 14 = .ok (.getfield 9, 3) := by decide +kernel
theorem dX0_copyFrom_17 : decode cX0_copyFrom 17 = .ok (.iconst 0, 1) := by decide +kernel
theorem dX0_copyFrom_18 : decode cX0_copyFrom 18 = .ok (.bipush 12, 2) := by decide +kernel
theorem dX0_copyFrom_20 : decode cX0_copyFrom 20 = .ok (.invokestatic 25, 3) := by decide +kernel
theorem dX0_copyFrom_23 : decode cX0_copyFrom 23 = .ok (.aload_n 1, 1) := by decide +kernel
theorem dX0_copyFrom_24 : decode cX0_copyFrom 24 = .ok (.getfield 15, 3) := by decide +kernel
theorem dX0_copyFrom_27 : decode cX0_copyFrom 27 = .ok (.iconst 0, 1) := by decide +kernel
theorem dX0_copyFrom_28 : decode cX0_copyFrom 28 = .ok (.aload_n 0, 1) := by decide +kernel
theorem dX0_copyFrom_29 : decode cX0_copyFrom 29 = .ok (.getfield 15, 3) := by decide +kernel
theorem dX0_copyFrom_32 : decode cX0_copyFrom 32 = .ok (.iconst 0, 1) := by decide +kernel
theorem dX0_copyFrom_33 : decode cX0_copyFrom 33 = .ok (.bipush 12, 2) := by decide +kernel
theorem dX0_copyFrom_35 : decode cX0_copyFrom 35 = .ok (.invokestatic 25, 3) := by decide +kernel
theorem dX0_copyFrom_38 : decode cX0_copyFrom 38 = .ok (.aload_n 1, 1) := by decide +kernel
theorem dX0_copyFrom_39 : decode cX0_copyFrom 39 = .ok (.getfield 18, 3) := by decide +kernel
theorem dX0_copyFrom_42 : decode cX0_copyFrom 42 = .ok (.iconst 0, 1) := by decide +kernel
theorem dX0_copyFrom_43 : decode cX0_copyFrom 43 = .ok (.aload_n 0, 1) := by decide +kernel
theorem dX0_copyFrom_44 : decode cX0_copyFrom 44 = .ok (.getfield 18, 3) := by decide +kernel
theorem dX0_copyFrom_47 : decode cX0_copyFrom 47 = .ok (.iconst 0, 1) := by decide +kernel
theorem dX0_copyFrom_48 : decode cX0_copyFrom 48 = .ok (.bipush 36, 2) := by decide +kernel
theorem dX0_copyFrom_50 : decode cX0_copyFrom 50 = .ok (.invokestatic 25, 3) := by decide +kernel
theorem dX0_copyFrom_53 : decode cX0_copyFrom 53 = .ok (.return_, 1) := by decide +kernel
theorem dX0_hasBlock_0 : decode cX0_hasBlock 0 = .ok (.iload_n 1, 1) := by decide +kernel
theorem dX0_hasBlock_1 : decode cX0_hasBlock 1 = .ok (.ifCond .lt 15, 3) := by decide +kernel
theorem dX0_hasBlock_4 : decode cX0_hasBlock 4 = .ok (.iload_n 1, 1) := by decide +kernel
theorem dX0_hasBlock_5 : decode cX0_hasBlock 5 = .ok (.aload_n 0, 1) := by decide +kernel
theorem dX0_hasBlock_6 : decode cX0_hasBlock 6 = .ok (.getfield 21, 3) := by decide +kernel
theorem dX0_hasBlock_9 : decode cX0_hasBlock 9 = .ok (.if_icmp .ge 7, 3) := by decide +kernel
theorem dX0_hasBlock_12 : decode cX0_hasBlock 12 = .ok (.iconst 1, 1) := by decide +kernel
theorem dX0_hasBlock_13 : decode cX0_hasBlock 13 = .ok (.goto 4, 3) := by decide +kernel
theorem dX0_hasBlock_16 : decode cX0_hasBlock 16 = .ok (.iconst 0, 1) := by decide +kernel
theorem dX0_hasBlock_17 : decode cX0_hasBlock 17 = .ok (.ireturn, 1) := by decide +kernel
theorem dX0_hasArc_0 : decode cX0_hasArc 0 = .ok (.aload_n 0, 1) := by decide +kernel
theorem dX0_hasArc_1 : decode cX0_hasArc 1 = .ok (.iload_n 1, 1) := by decide +kernel
theorem dX0_hasArc_2 : decode cX0_hasArc 2 = .ok (.invokevirtual 31, 3) := by decide +kernel
theorem dX0_hasArc_5 : decode cX0_hasArc 5 = .ok (.ifCond .eq 21, 3) := by decide +kernel
theorem dX0_hasArc_8 : decode cX0_hasArc 8 = .ok (.iload_n 2, 1) := by decide +kernel
theorem dX0_hasArc_9 : decode cX0_hasArc 9 = .ok (.ifCond .lt 17, 3) := by decide +kernel
theorem dX0_hasArc_12 : decode cX0_hasArc 12 = .ok (.iload_n 2, 1) := by decide +kernel
theorem dX0_hasArc_13 : decode cX0_hasArc 13 = .ok (.aload_n 0, 1) := by decide +kernel
theorem dX0_hasArc_14 : decode cX0_hasArc 14 = .ok (.getfield 15, 3) := by decide +kernel
theorem dX0_hasArc_17 : decode cX0_hasArc 17 = .ok (.iload_n 1, 1) := by decide +kernel
theorem dX0_hasArc_18 : decode cX0_hasArc 18 = .ok (.iaload, 1) := by decide +kernel
theorem dX0_hasArc_19 : decode cX0_hasArc 19 = .ok (.if_icmp .ge 7, 3) := by decide +kernel
theorem dX0_hasArc_22 : decode cX0_hasArc 22 = .ok (.iconst 1, 1) := by decide +kernel
theorem dX0_hasArc_23 : decode cX0_hasArc 23 = .ok (.goto 4, 3) := by decide +kernel
theorem dX0_hasArc_26 : decode cX0_hasArc 26 = .ok (.iconst 0, 1) := by decide +kernel
theorem dX0_hasArc_27 : decode cX0_hasArc 27 = .ok (.ireturn, 1) := by decide +kernel
theorem dX0_target_0 : decode cX0_target 0 = .ok (.aload_n 0, 1) := by decide +kernel
theorem dX0_target_1 : decode cX0_target 1 = .ok (.getfield 18, 3) := by decide +kernel
theorem dX0_target_4 : decode cX0_target 4 = .ok (.iload_n 1, 1) := by decide +kernel
theorem dX0_target_5 : decode cX0_target 5 = .ok (.iconst 3, 1) := by decide +kernel
theorem dX0_target_6 : decode cX0_target 6 = .ok (.imul, 1) := by decide +kernel
theorem dX0_target_7 : decode cX0_target 7 = .ok (.iload_n 2, 1) := by decide +kernel
theorem dX0_target_8 : decode cX0_target 8 = .ok (.iadd, 1) := by decide +kernel
theorem dX0_target_9 : decode cX0_target 9 = .ok (.iaload, 1) := by decide +kernel
theorem dX0_target_10 : decode cX0_target 10 = .ok (.ireturn, 1) := by decide +kernel
theorem dX0_countArcs_0 : decode cX0_countArcs 0 = .ok (.iconst 0, 1) := by decide +kernel
theorem dX0_countArcs_1 : decode cX0_countArcs 1 = .ok (.istore_n 1, 1) := by decide +kernel
theorem dX0_countArcs_2 : decode cX0_countArcs 2 = .ok (.iconst 0, 1) := by decide +kernel
theorem dX0_countArcs_3 : decode cX0_countArcs 3 = .ok (.istore_n 2, 1) := by decide +kernel
theorem dX0_countArcs_4 : decode cX0_countArcs 4 = .ok (.iload_n 2, 1) := by decide +kernel
theorem dX0_countArcs_5 : decode cX0_countArcs 5 = .ok (.aload_n 0, 1) := by decide +kernel
theorem dX0_countArcs_6 : decode cX0_countArcs 6 = .ok (.getfield 21, 3) := by decide +kernel
theorem dX0_countArcs_9 : decode cX0_countArcs 9 = .ok (.if_icmp .ge 18, 3) := by decide +kernel
theorem dX0_countArcs_12 : decode cX0_countArcs 12 = .ok (.iload_n 1, 1) := by decide +kernel
theorem dX0_countArcs_13 : decode cX0_countArcs 13 = .ok (.aload_n 0, 1) := by decide +kernel
theorem dX0_countArcs_14 : decode cX0_countArcs 14 = .ok (.getfield 15, 3) := by decide +kernel
theorem dX0_countArcs_17 : decode cX0_countArcs 17 = .ok (.iload_n 2, 1) := by decide +kernel
theorem dX0_countArcs_18 : decode cX0_countArcs 18 = .ok (.iaload, 1) := by decide +kernel
theorem dX0_countArcs_19 : decode cX0_countArcs 19 = .ok (.iadd, 1) := by decide +kernel
theorem dX0_countArcs_20 : decode cX0_countArcs 20 = .ok (.istore_n 1, 1) := by decide +kernel
theorem dX0_countArcs_21 : decode cX0_countArcs 21 = .ok (.iinc 2 1, 3) := by decide +kernel
theorem dX0_countArcs_24 : decode cX0_countArcs 24 = .ok (.goto (-20), 3) := by decide +kernel
theorem dX0_countArcs_27 : decode cX0_countArcs 27 = .ok (.iload_n 1, 1) := by decide +kernel
theorem dX0_countArcs_28 : decode cX0_countArcs 28 = .ok (.ireturn, 1) := by decide +kernel
theorem dX0_follow_0 : decode cX0_follow 0 = .ok (.aload_n 0, 1) := by decide +kernel
theorem dX0_follow_1 : decode cX0_follow 1 = .ok (.getfield 15, 3) := by decide +kernel
theorem dX0_follow_4 : decode cX0_follow 4 = .ok (.iload_n 1, 1) := by decide +kernel
theorem dX0_follow_5 : decode cX0_follow 5 = .ok (.iaload, 1) := by decide +kernel
theorem dX0_follow_6 : decode cX0_follow 6 = .ok (.istore_n 3, 1) := by decide +kernel
theorem dX0_follow_7 : decode cX0_follow 7 = .ok (.iload_n 3, 1) := by decide +kernel
theorem dX0_follow_8 : decode cX0_follow 8 = .ok (.ifCond .ne 7, 3) := by decide +kernel
theorem dX0_follow_11 : decode cX0_follow 11 = .ok (.iload_n 1, 1) := by decide +kernel
theorem dX0_follow_12 : decode cX0_follow 12 = .ok (.goto 11, 3) := by decide +kernel
theorem dX0_follow_15 : decode cX0_follow 15 = .ok (.aload_n 0, 1) := by decide +kernel
theorem dX0_follow_16 : decode cX0_follow 16 = .ok (.iload_n 1, 1) := by decide +kernel
theorem dX0_follow_17 : decode cX0_follow 17 = .ok (.iload_n 2, 1) := by decide +kernel
theorem dX0_follow_18 : decode cX0_follow 18 = .ok (.iload_n 3, 1) := by decide +kernel
theorem dX0_follow_19 : decode cX0_follow 19 = .ok (.irem, 1) := by decide +kernel
theorem dX0_follow_20 : decode cX0_follow 20 = .ok (.invokevirtual 35, 3) := by decide +kernel
theorem dX0_follow_23 : decode cX0_follow 23 = .ok (.ireturn, 1) := by decide +kernel
theorem dX0_appendBlock_0 : decode cX0_appendBlock 0 = .ok (.aload_n 0, 1) := by decide +kernel
theorem dX0_appendBlock_1 : decode cX0_appendBlock 1 = .ok (.getfield 21, 3) := by decide +kernel
theorem dX0_appendBlock_4 : decode cX0_appendBlock 4 = .ok (.bipush 12, 2) := by decide +kernel
theorem dX0_appendBlock_6 : decode cX0_appendBlock 6 = .ok (.if_icmp .lt 5, 3) := by decide +kernel
theorem dX0_appendBlock_9 : decode cX0_appendBlock 9 = .ok (.iconst 0, 1) := by decide +kernel
theorem dX0_appendBlock_10 : decode cX0_appendBlock 10 = .ok (.ireturn, 1) := by decide +kernel
theorem dX0_appendBlock_11 : decode cX0_appendBlock 11 = .ok (.aload_n 0, 1) := by decide +kernel
theorem dX0_appendBlock_12 : decode cX0_appendBlock 12 = .ok (.getfield 9, 3) := by decide +kernel
theorem dX0_appendBlock_15 : decode cX0_appendBlock 15 = .ok (.aload_n 0, 1) := by decide +kernel
theorem dX0_appendBlock_16 : decode cX0_appendBlock 16 = .ok (.getfield 21, 3) := by decide +kernel
theorem dX0_appendBlock_19 : decode cX0_appendBlock 19 = .ok (.iload_n 1, 1) := by decide +kernel
theorem dX0_appendBlock_20 : decode cX0_appendBlock 20 = .ok (.iastore, 1) := by decide +kernel
theorem dX0_appendBlock_21 : decode cX0_appendBlock 21 = .ok (.aload_n 0, 1) := by decide +kernel
theorem dX0_appendBlock_22 : decode cX0_appendBlock 22 = .ok (.getfield 15, 3) := by decide +kernel
theorem dX0_appendBlock_25 : decode cX0_appendBlock 25 = .ok (.aload_n 0, 1) := by decide +kernel
theorem dX0_appendBlock_26 : decode cX0_appendBlock 26 = .ok (.getfield 21, 3) := by decide +kernel
theorem dX0_appendBlock_29 : decode cX0_appendBlock 29 = .ok (.iconst 0, 1) := by decide +kernel
theorem dX0_appendBlock_30 : decode cX0_appendBlock 30 = .ok (.iastore, 1) := by decide +kernel
theorem dX0_appendBlock_31 : decode cX0_appendBlock 31 = .ok (.aload_n 0, 1) := by decide +kernel
theorem dX0_appendBlock_32 : decode cX0_appendBlock 32 = .ok (.dup, 1) := by decide +kernel
theorem dX0_appendBlock_33 : decode cX0_appendBlock 33 = .ok (.getfield 21, 3) := by decide +kernel
theorem dX0_appendBlock_36 : decode cX0_appendBlock 36 = .ok (.iconst 1, 1) := by decide +kernel
theorem dX0_appendBlock_37 : decode cX0_appendBlock 37 = .ok (.iadd, 1) := by decide +kernel
theorem dX0_appendBlock_38 : decode cX0_appendBlock 38 = .ok (.putfield 21, 3) := by decide +kernel
theorem dX0_appendBlock_41 : decode cX0_appendBlock 41 = .ok (.iconst 1, 1) := by decide +kernel
theorem dX0_appendBlock_42 : decode cX0_appendBlock 42 = .ok (.ireturn, 1) := by decide +kernel
theorem dX0_appendArcToLast_0 : decode cX0_appendArcToLast 0 = .ok (.aload_n 0, 1) := by decide +kernel
theorem dX0_appendArcToLast_1 : decode cX0_appendArcToLast 1 = .ok (.getfield 21, 3) := by decide +kernel
theorem dX0_appendArcToLast_4 : decode cX0_appendArcToLast 4 = .ok (.ifCond .eq 18, 3) := by decide +kernel
theorem dX0_appendArcToLast_7 : decode cX0_appendArcToLast 7 = .ok (.aload_n 0, 1) := by decide +kernel
theorem dX0_appendArcToLast_8 : decode cX0_appendArcToLast 8 = .ok (.getfield 15, 3) := by decide +kernel
theorem dX0_appendArcToLast_11 : decode cX0_appendArcToLast 11 = .ok (.aload_n 0, 1) := by decide +kernel
theorem dX0_appendArcToLast_12 : decode cX0_appendArcToLast 12 = .ok (.getfield 21, 3) := by decide +kernel
theorem dX0_appendArcToLast_15 : decode cX0_appendArcToLast 15 = .ok (.iconst 1, 1) := by decide +kernel
theorem dX0_appendArcToLast_16 : decode cX0_appendArcToLast 16 = .ok (.isub, 1) := by decide +kernel
theorem dX0_appendArcToLast_17 : decode cX0_appendArcToLast 17 = .ok (.iaload, 1) := by decide +kernel
theorem dX0_appendArcToLast_18 : decode cX0_appendArcToLast 18 = .ok (.iconst 3, 1) := by decide +kernel
theorem dX0_appendArcToLast_19 : decode cX0_appendArcToLast 19 = .ok (.if_icmp .lt 5, 3) := by decide +kernel
theorem dX0_appendArcToLast_22 : decode cX0_appendArcToLast 22 = .ok (.iconst 0, 1) := by decide +kernel
theorem dX0_appendArcToLast_23 : decode cX0_appendArcToLast 23 = .ok (.ireturn, 1) := by decide +kernel
theorem dX0_appendArcToLast_24 : decode cX0_appendArcToLast 24 = .ok (.aload_n 0, 1) := by decide +kernel
theorem dX0_appendArcToLast_25 : decode cX0_appendArcToLast 25 = .ok (.aload_n 0, 1) := by decide +kernel
theorem dX0_appendArcToLast_26 : decode cX0_appendArcToLast 26 = .ok (.getfield 21, 3) := by decide +kernel
theorem dX0_appendArcToLast_29 : decode cX0_appendArcToLast 29 = .ok (.iconst 1, 1) := by decide +kernel
theorem dX0_appendArcToLast_30 : decode cX0_appendArcToLast 30 = .ok (.isub, 1) := by decide +kernel
theorem dX0_appendArcToLast_31 : decode cX0_appendArcToLast 31 = .ok (.iload_n 1, 1) := by decide +kernel
theorem dX0_appendArcToLast_32 : decode cX0_appendArcToLast 32 = .ok (.invokevirtual 39, 3) := by decide +kernel
theorem dX0_appendArcToLast_35 : decode cX0_appendArcToLast 35 = .ok (.iconst 1, 1) := by decide +kernel
theorem dX0_appendArcToLast_36 : decode cX0_appendArcToLast 36 = .ok (.ireturn, 1) := by decide +kernel
theorem dX0_putArcBehind_0 : decode cX0_putArcBehind 0 = .ok (.aload_n 0, 1) := by decide +kernel
theorem dX0_putArcBehind_1 : decode cX0_putArcBehind 1 = .ok (.getfield 18, 3) := by decide +kernel
theorem dX0_putArcBehind_4 : decode cX0_putArcBehind 4 = .ok (.iload_n 1, 1) := by decide +kernel
theorem dX0_putArcBehind_5 : decode cX0_putArcBehind 5 = .ok (.iconst 3, 1) := by decide +kernel
theorem dX0_putArcBehind_6 : decode cX0_putArcBehind 6 = .ok (.imul, 1) := by decide +kernel
theorem dX0_putArcBehind_7 : decode cX0_putArcBehind 7 = .ok (.aload_n 0, 1) := by decide +kernel
theorem dX0_putArcBehind_8 : decode cX0_putArcBehind 8 = .ok (.getfield 15, 3) := by decide +kernel
theorem dX0_putArcBehind_11 : decode cX0_putArcBehind 11 = .ok (.iload_n 1, 1) := by decide +kernel
theorem dX0_putArcBehind_12 : decode cX0_putArcBehind 12 = .ok (.iaload, 1) := by decide +kernel
theorem dX0_putArcBehind_13 : decode cX0_putArcBehind 13 = .ok (.iadd, 1) := by decide +kernel
theorem dX0_putArcBehind_14 : decode cX0_putArcBehind 14 = .ok (.iload_n 2, 1) := by decide +kernel
theorem dX0_putArcBehind_15 : decode cX0_putArcBehind 15 = .ok (.iastore, 1) := by decide +kernel
theorem dX0_putArcBehind_16 : decode cX0_putArcBehind 16 = .ok (.aload_n 0, 1) := by decide +kernel
theorem dX0_putArcBehind_17 : decode cX0_putArcBehind 17 = .ok (.getfield 15, 3) := by decide +kernel
theorem dX0_putArcBehind_20 : decode cX0_putArcBehind 20 = .ok (.iload_n 1, 1) := by decide +kernel
theorem dX0_putArcBehind_21 : decode cX0_putArcBehind 21 = .ok (.dup2, 1) := by decide +kernel
theorem dX0_putArcBehind_22 : decode cX0_putArcBehind 22 = .ok (.iaload, 1) := by decide +kernel
theorem dX0_putArcBehind_23 : decode cX0_putArcBehind 23 = .ok (.iconst 1, 1) := by decide +kernel
theorem dX0_putArcBehind_24 : decode cX0_putArcBehind 24 = .ok (.iadd, 1) := by decide +kernel
theorem dX0_putArcBehind_25 : decode cX0_putArcBehind 25 = .ok (.iastore, 1) := by decide +kernel
theorem dX0_putArcBehind_26 : decode cX0_putArcBehind 26 = .ok (.return_, 1) := by decide +kernel
theorem dX0_appendArc_0 : decode cX0_appendArc 0 = .ok (.aload_n 0, 1) := by decide +kernel
theorem dX0_appendArc_1 : decode cX0_appendArc 1 = .ok (.iload_n 1, 1) := by decide +kernel
theorem dX0_appendArc_2 : decode cX0_appendArc 2 = .ok (.invokevirtual 31, 3) := by decide +kernel
theorem dX0_appendArc_5 : decode cX0_appendArc 5 = .ok (.ifCond .eq 11, 3) := by decide +kernel
theorem dX0_appendArc_8 : decode cX0_appendArc 8 = .ok (.aload_n 0, 1) := by decide +kernel
theorem dX0_appendArc_9 : decode cX0_appendArc 9 = .ok (.iload_n 2, 1) := by decide +kernel
theorem dX0_appendArc_10 : decode cX0_appendArc 10 = .ok (.invokevirtual 31, 3) := by decide +kernel
theorem dX0_appendArc_13 : decode cX0_appendArc 13 = .ok (.ifCond .ne 5, 3) := by decide +kernel
theorem dX0_appendArc_16 : decode cX0_appendArc 16 = .ok (.iconst (-1), 1) := by decide +kernel
theorem dX0_appendArc_17 : decode cX0_appendArc 17 = .ok (.ireturn, 1) := by decide +kernel
theorem dX0_appendArc_18 : decode cX0_appendArc 18 = .ok (.aload_n 0, 1) := by decide +kernel
theorem dX0_appendArc_19 : decode cX0_appendArc 19 = .ok (.getfield 15, 3) := by decide +kernel
theorem dX0_appendArc_22 : decode cX0_appendArc 22 = .ok (.iload_n 1, 1) := by decide +kernel
theorem dX0_appendArc_23 : decode cX0_appendArc 23 = .ok (.iaload, 1) := by decide +kernel
theorem dX0_appendArc_24 : decode cX0_appendArc 24 = .ok (.iconst 3, 1) := by decide +kernel
theorem dX0_appendArc_25 : decode cX0_appendArc 25 = .ok (.if_icmp .lt 6, 3) := by decide +kernel
theorem dX0_appendArc_28 : decode cX0_appendArc 28 = .ok (.bipush (-4), 2) := by decide +kernel
theorem dX0_appendArc_30 : decode cX0_appendArc 30 = .ok (.ireturn, 1) := by decide +kernel
theorem dX0_appendArc_31 : decode cX0_appendArc 31 = .ok (.aload_n 0, 1) := by decide +kernel
theorem dX0_appendArc_32 : decode cX0_appendArc 32 = .ok (.iload_n 1, 1) := by decide +kernel
theorem dX0_appendArc_33 : decode cX0_appendArc 33 = .ok (.iload_n 2, 1) := by decide +kernel
theorem dX0_appendArc_34 : decode cX0_appendArc 34 = .ok (.invokevirtual 39, 3) := by decide +kernel
theorem dX0_appendArc_37 : decode cX0_appendArc 37 = .ok (.aload_n 0, 1) := by decide +kernel
theorem dX0_appendArc_38 : decode cX0_appendArc 38 = .ok (.getfield 15, 3) := by decide +kernel
theorem dX0_appendArc_41 : decode cX0_appendArc 41 = .ok (.iload_n 1, 1) := by decide +kernel
theorem dX0_appendArc_42 : decode cX0_appendArc 42 = .ok (.iaload, 1) := by decide +kernel
theorem dX0_appendArc_43 : decode cX0_appendArc 43 = .ok (.ireturn, 1) := by decide +kernel
theorem dX0_dropArc_0 : decode cX0_dropArc 0 = .ok (.aload_n 0, 1) := by decide +kernel
theorem dX0_dropArc_1 : decode cX0_dropArc 1 = .ok (.iload_n 1, 1) := by decide +kernel
theorem dX0_dropArc_2 : decode cX0_dropArc 2 = .ok (.iload_n 2, 1) := by decide +kernel
theorem dX0_dropArc_3 : decode cX0_dropArc 3 = .ok (.invokevirtual 43, 3) := by decide +kernel
theorem dX0_dropArc_6 : decode cX0_dropArc 6 = .ok (.ifCond .ne 5, 3) := by decide +kernel
theorem dX0_dropArc_9 : decode cX0_dropArc 9 = .ok (.iconst (-1), 1) := by decide +kernel
theorem dX0_dropArc_10 : decode cX0_dropArc 10 = .ok (.ireturn, 1) := by decide +kernel
theorem dX0_dropArc_11 : decode cX0_dropArc 11 = .ok (.aload_n 0, 1) := by decide +kernel
theorem dX0_dropArc_12 : decode cX0_dropArc 12 = .ok (.iload_n 1, 1) := by decide +kernel
theorem dX0_dropArc_13 : decode cX0_dropArc 13 = .ok (.iload_n 2, 1) := by decide +kernel
theorem dX0_dropArc_14 : decode cX0_dropArc 14 = .ok (.invokevirtual 35, 3) := by decide +kernel
theorem dX0_dropArc_17 : decode cX0_dropArc 17 = .ok (.istore_n 3, 1) := by decide +kernel
theorem dX0_dropArc_18 : decode cX0_dropArc 18 = .ok (.aload_n 0, 1) := by decide +kernel
theorem dX0_dropArc_19 : decode cX0_dropArc 19 = .ok (.iload_n 1, 1) := by decide +kernel
theorem dX0_dropArc_20 : decode cX0_dropArc 20 = .ok (.iconst 1, 1) := by decide +kernel
theorem dX0_dropArc_21 : decode cX0_dropArc 21 = .ok (.iload_n 2, 1) := by decide +kernel
theorem dX0_dropArc_22 : decode cX0_dropArc 22 = .ok (.ishl, 1) := by decide +kernel
theorem dX0_dropArc_23 : decode cX0_dropArc 23 = .ok (.iconst (-1), 1) := by decide +kernel
theorem dX0_dropArc_24 : decode cX0_dropArc 24 = .ok (.ixor, 1) := by decide +kernel
theorem dX0_dropArc_25 : decode cX0_dropArc 25 = .ok (.invokevirtual 47, 3) := by decide +kernel
theorem dX0_dropArc_28 : decode cX0_dropArc 28 = .ok (.iload_n 3, 1) := by decide +kernel
theorem dX0_dropArc_29 : decode cX0_dropArc 29 = .ok (.ireturn, 1) := by decide +kernel
theorem dX0_keepArcs_0 : decode cX0_keepArcs 0 = .ok (.aload_n 0, 1) := by decide +kernel
theorem dX0_keepArcs_1 : decode cX0_keepArcs 1 = .ok (.getfield 15, 3) := by decide +kernel
theorem dX0_keepArcs_4 : decode cX0_keepArcs 4 = .ok (.iload_n 1, 1) := by decide +kernel
theorem dX0_keepArcs_5 : decode cX0_keepArcs 5 = .ok (.iaload, 1) := by decide +kernel
theorem dX0_keepArcs_6 : decode cX0_keepArcs 6 = .ok (.istore_n 3, 1) := by decide +kernel
theorem dX0_keepArcs_7 : decode cX0_keepArcs 7 = .ok (.aload_n 0, 1) := by decide +kernel
theorem dX0_keepArcs_8 : decode cX0_keepArcs 8 = .ok (.getfield 15, 3) := by decide +kernel
theorem dX0_keepArcs_11 : decode cX0_keepArcs 11 = .ok (.iload_n 1, 1) := by decide +kernel
theorem dX0_keepArcs_12 : decode cX0_keepArcs 12 = .ok (.iconst 0, 1) := by decide +kernel
theorem dX0_keepArcs_13 : decode cX0_keepArcs 13 = .ok (.iastore, 1) := by decide +kernel
theorem dX0_keepArcs_14 : decode cX0_keepArcs 14 = .ok (.iconst 0, 1) := by decide +kernel
theorem dX0_keepArcs_15 : decode cX0_keepArcs 15 = .ok (.istore 4, 2) := by decide +kernel
theorem dX0_keepArcs_17 : decode cX0_keepArcs 17 = .ok (.iload 4, 2) := by decide +kernel
theorem dX0_keepArcs_19 : decode cX0_keepArcs 19 = .ok (.iload_n 3, 1) := by decide +kernel
theorem dX0_keepArcs_20 : decode cX0_keepArcs 20 = .ok (.if_icmp .ge 30, 3) := by decide +kernel
theorem dX0_keepArcs_23 : decode cX0_keepArcs 23 = .ok (.iload_n 2, 1) := by decide +kernel
theorem dX0_keepArcs_24 : decode cX0_keepArcs 24 = .ok (.iload 4, 2) := by decide +kernel
theorem dX0_keepArcs_26 : decode cX0_keepArcs 26 = .ok (.ishr, 1) := by decide +kernel
theorem dX0_keepArcs_27 : decode cX0_keepArcs 27 = .ok (.iconst 1, 1) := by decide +kernel
theorem dX0_keepArcs_28 : decode cX0_keepArcs 28 = .ok (.iand, 1) := by decide +kernel
theorem dX0_keepArcs_29 : decode cX0_keepArcs 29 = .ok (.ifCond .eq 15, 3) := by decide +kernel
theorem dX0_keepArcs_32 : decode cX0_keepArcs 32 = .ok (.aload_n 0, 1) := by decide +kernel
theorem dX0_keepArcs_33 : decode cX0_keepArcs 33 = .ok (.iload_n 1, 1) := by decide +kernel
theorem dX0_keepArcs_34 : decode cX0_keepArcs 34 = .ok (.aload_n 0, 1) := by decide +kernel
theorem dX0_keepArcs_35 : decode cX0_keepArcs 35 = .ok (.iload_n 1, 1) := by decide +kernel
theorem dX0_keepArcs_36 : decode cX0_keepArcs 36 = .ok (.iload 4, 2) := by decide +kernel
theorem dX0_keepArcs_38 : decode cX0_keepArcs 38 = .ok (.invokevirtual 35, 3) := by decide +kernel
theorem dX0_keepArcs_41 : decode cX0_keepArcs 41 = .ok (.invokevirtual 39, 3) := by decide +kernel
theorem dX0_keepArcs_44 : decode cX0_keepArcs 44 = .ok (.iinc 4 1, 3) := by decide +kernel
theorem dX0_keepArcs_47 : decode cX0_keepArcs 47 = .ok (.goto (-30), 3) := by decide +kernel
theorem dX0_keepArcs_50 : decode cX0_keepArcs 50 = .ok (.return_, 1) := by decide +kernel
theorem dX0_copyBlockFor_0 : decode cX0_copyBlockFor 0 = .ok (.aload_n 0, 1) := by decide +kernel
theorem dX0_copyBlockFor_1 : decode cX0_copyBlockFor 1 = .ok (.iload_n 1, 1) := by decide +kernel
theorem dX0_copyBlockFor_2 : decode cX0_copyBlockFor 2 = .ok (.invokevirtual 31, 3) := by decide +kernel
theorem dX0_copyBlockFor_5 : decode cX0_copyBlockFor 5 = .ok (.ifCond .eq 11, 3) := by decide +kernel
theorem dX0_copyBlockFor_8 : decode cX0_copyBlockFor 8 = .ok (.aload_n 0, 1) := by decide +kernel
theorem dX0_copyBlockFor_9 : decode cX0_copyBlockFor 9 = .ok (.iload_n 2, 1) := by decide +kernel
theorem dX0_copyBlockFor_10 : decode cX0_copyBlockFor 10 = .ok (.invokevirtual 31, 3) := by decide +kernel
theorem dX0_copyBlockFor_13 : decode cX0_copyBlockFor 13 = .ok (.ifCond .ne 5, 3) := by decide +kernel
theorem dX0_copyBlockFor_16 : decode cX0_copyBlockFor 16 = .ok (.iconst (-1), 1) := by decide +kernel
theorem dX0_copyBlockFor_17 : decode cX0_copyBlockFor 17 = .ok (.ireturn, 1) := by decide +kernel
theorem dX0_copyBlockFor_18 : decode cX0_copyBlockFor 18 = .ok (.aload_n 0, 1) := by decide +kernel
theorem dX0_copyBlockFor_19 : decode cX0_copyBlockFor 19 = .ok (.iload_n 1, 1) := by decide +kernel
theorem dX0_copyBlockFor_20 : decode cX0_copyBlockFor 20 = .ok (.iload_n 2, 1) := by decide +kernel
theorem dX0_copyBlockFor_21 : decode cX0_copyBlockFor 21 = .ok (.invokevirtual 50, 3) := by decide +kernel
theorem dX0_copyBlockFor_24 : decode cX0_copyBlockFor 24 = .ok (.ifCond .ne 6, 3) := by decide +kernel
theorem dX0_copyBlockFor_27 : decode cX0_copyBlockFor 27 = .ok (.bipush (-3), 2) := by decide +kernel
theorem dX0_copyBlockFor_29 : decode cX0_copyBlockFor 29 = .ok (.ireturn, 1) := by decide +kernel
theorem dX0_copyBlockFor_30 : decode cX0_copyBlockFor 30 = .ok (.aload_n 0, 1) := by decide +kernel
theorem dX0_copyBlockFor_31 : decode cX0_copyBlockFor 31 = .ok (.getfield 21, 3) := by decide +kernel
theorem dX0_copyBlockFor_34 : decode cX0_copyBlockFor 34 = .ok (.istore_n 3, 1) := by decide +kernel
theorem dX0_copyBlockFor_35 : decode cX0_copyBlockFor 35 = .ok (.aload_n 0, 1) := by decide +kernel
theorem dX0_copyBlockFor_36 : decode cX0_copyBlockFor 36 = .ok (.aload_n 0, 1) := by decide +kernel
theorem dX0_copyBlockFor_37 : decode cX0_copyBlockFor 37 = .ok (.getfield 9, 3) := by decide +kernel
theorem dX0_copyBlockFor_40 : decode cX0_copyBlockFor 40 = .ok (.iload_n 2, 1) := by decide +kernel
theorem dX0_copyBlockFor_41 : decode cX0_copyBlockFor 41 = .ok (.iaload, 1) := by decide +kernel
theorem dX0_copyBlockFor_42 : decode cX0_copyBlockFor 42 = .ok (.invokevirtual 53, 3) := by decide +kernel
theorem dX0_copyBlockFor_45 : decode cX0_copyBlockFor 45 = .ok (.ifCond .ne 6, 3) := by decide +kernel
theorem dX0_copyBlockFor_48 : decode cX0_copyBlockFor 48 = .ok (.bipush (-4), 2) := by decide +kernel
theorem dX0_copyBlockFor_50 : decode cX0_copyBlockFor 50 = .ok (.ireturn, 1) := by decide +kernel
theorem dX0_copyBlockFor_51 : decode cX0_copyBlockFor 51 = .ok (.aload_n 0, 1) := by decide +kernel
theorem dX0_copyBlockFor_52 : decode cX0_copyBlockFor 52 = .ok (.getfield 15, 3) := by decide +kernel
theorem dX0_copyBlockFor_55 : decode cX0_copyBlockFor 55 = .ok (.iload_n 2, 1) := by decide +kernel
theorem dX0_copyBlockFor_56 : decode cX0_copyBlockFor 56 = .ok (.iaload, 1) := by decide +kernel
theorem dX0_copyBlockFor_57 : decode cX0_copyBlockFor 57 = .ok (.istore 4, 2) := by decide +kernel
theorem dX0_copyBlockFor_59 : decode cX0_copyBlockFor 59 = .ok (.iconst 0, 1) := by decide +kernel
theorem dX0_copyBlockFor_60 : decode cX0_copyBlockFor 60 = .ok (.istore 5, 2) := by decide +kernel
theorem dX0_copyBlockFor_62 : decode cX0_copyBlockFor 62 = .ok (.iload 5, 2) := by decide +kernel
theorem dX0_copyBlockFor_64 : decode cX0_copyBlockFor 64 = .ok (.iload 4, 2) := by decide +kernel
theorem dX0_copyBlockFor_66 : decode cX0_copyBlockFor 66 = .ok (.if_icmp .ge 21, 3) := by decide +kernel
theorem dX0_copyBlockFor_69 : decode cX0_copyBlockFor 69 = .ok (.aload_n 0, 1) := by decide +kernel
theorem dX0_copyBlockFor_70 : decode cX0_copyBlockFor 70 = .ok (.iload_n 3, 1) := by decide +kernel
theorem dX0_copyBlockFor_71 : decode cX0_copyBlockFor 71 = .ok (.aload_n 0, 1) := by decide +kernel
theorem dX0_copyBlockFor_72 : decode cX0_copyBlockFor 72 = .ok (.iload_n 2, 1) := by decide +kernel
theorem dX0_copyBlockFor_73 : decode cX0_copyBlockFor 73 = .ok (.iload 5, 2) := by decide +kernel
theorem dX0_copyBlockFor_75 : decode cX0_copyBlockFor 75 = .ok (.invokevirtual 35, 3) := by decide +kernel
theorem dX0_copyBlockFor_78 : decode cX0_copyBlockFor 78 = .ok (.invokevirtual 39, 3) := by decide +kernel
theorem dX0_copyBlockFor_81 : decode cX0_copyBlockFor 81 = .ok (.iinc 5 1, 3) := by decide +kernel
theorem dX0_copyBlockFor_84 : decode cX0_copyBlockFor 84 = .ok (.goto (-22), 3) := by decide +kernel
theorem dX0_copyBlockFor_87 : decode cX0_copyBlockFor 87 = .ok (.aload_n 0, 1) := by decide +kernel
theorem dX0_copyBlockFor_88 : decode cX0_copyBlockFor 88 = .ok (.iload_n 1, 1) := by decide +kernel
theorem dX0_copyBlockFor_89 : decode cX0_copyBlockFor 89 = .ok (.iload_n 2, 1) := by decide +kernel
theorem dX0_copyBlockFor_90 : decode cX0_copyBlockFor 90 = .ok (.iload_n 3, 1) := by decide +kernel
theorem dX0_copyBlockFor_91 : decode cX0_copyBlockFor 91 = .ok (.invokevirtual 56, 3) := by decide +kernel
theorem dX0_copyBlockFor_94 : decode cX0_copyBlockFor 94 = .ok (.iload_n 3, 1) := by decide +kernel
theorem dX0_copyBlockFor_95 : decode cX0_copyBlockFor 95 = .ok (.ireturn, 1) := by decide +kernel
theorem dX0_goesTo_0 : decode cX0_goesTo 0 = .ok (.iconst 0, 1) := by decide +kernel
theorem dX0_goesTo_1 : decode cX0_goesTo 1 = .ok (.istore_n 3, 1) := by decide +kernel
theorem dX0_goesTo_2 : decode cX0_goesTo 2 = .ok (.iload_n 3, 1) := by decide +kernel
theorem dX0_goesTo_3 : decode cX0_goesTo 3 = .ok (.aload_n 0, 1) := by decide +kernel
theorem dX0_goesTo_4 : decode cX0_goesTo 4 = .ok (.getfield 15, 3) := by decide +kernel
theorem dX0_goesTo_7 : decode cX0_goesTo 7 = .ok (.iload_n 1, 1) := by decide +kernel
theorem dX0_goesTo_8 : decode cX0_goesTo 8 = .ok (.iaload, 1) := by decide +kernel
theorem dX0_goesTo_9 : decode cX0_goesTo 9 = .ok (.if_icmp .ge 21, 3) := by decide +kernel
theorem dX0_goesTo_12 : decode cX0_goesTo 12 = .ok (.aload_n 0, 1) := by decide +kernel
theorem dX0_goesTo_13 : decode cX0_goesTo 13 = .ok (.iload_n 1, 1) := by decide +kernel
theorem dX0_goesTo_14 : decode cX0_goesTo 14 = .ok (.iload_n 3, 1) := by decide +kernel
theorem dX0_goesTo_15 : decode cX0_goesTo 15 = .ok (.invokevirtual 35, 3) := by decide +kernel
theorem dX0_goesTo_18 : decode cX0_goesTo 18 = .ok (.iload_n 2, 1) := by decide +kernel
theorem dX0_goesTo_19 : decode cX0_goesTo 19 = .ok (.if_icmp .ne 5, 3) := by decide +kernel
theorem dX0_goesTo_22 : decode cX0_goesTo 22 = .ok (.iconst 1, 1) := by decide +kernel
theorem dX0_goesTo_23 : decode cX0_goesTo 23 = .ok (.ireturn, 1) := by decide +kernel
theorem dX0_goesTo_24 : decode cX0_goesTo 24 = .ok (.iinc 3 1, 3) := by decide +kernel
theorem dX0_goesTo_27 : decode cX0_goesTo 27 = .ok (.goto (-25), 3) := by decide +kernel
theorem dX0_goesTo_30 : decode cX0_goesTo 30 = .ok (.iconst 0, 1) := by decide +kernel
theorem dX0_goesTo_31 : decode cX0_goesTo 31 = .ok (.ireturn, 1) := by decide +kernel
theorem dX0_turnArcs_0 : decode cX0_turnArcs 0 = .ok (.iconst 0, 1) := by decide +kernel
theorem dX0_turnArcs_1 : decode cX0_turnArcs 1 = .ok (.istore 4, 2) := by decide +kernel
theorem dX0_turnArcs_3 : decode cX0_turnArcs 3 = .ok (.iload 4, 2) := by decide +kernel
theorem dX0_turnArcs_5 : decode cX0_turnArcs 5 = .ok (.aload_n 0, 1) := by decide +kernel
theorem dX0_turnArcs_6 : decode cX0_turnArcs 6 = .ok (.getfield 15, 3) := by decide +kernel
theorem dX0_turnArcs_9 : decode cX0_turnArcs 9 = .ok (.iload_n 1, 1) := by decide +kernel
theorem dX0_turnArcs_10 : decode cX0_turnArcs 10 = .ok (.iaload, 1) := by decide +kernel
theorem dX0_turnArcs_11 : decode cX0_turnArcs 11 = .ok (.if_icmp .ge 32, 3) := by decide +kernel
theorem dX0_turnArcs_14 : decode cX0_turnArcs 14 = .ok (.aload_n 0, 1) := by decide +kernel
theorem dX0_turnArcs_15 : decode cX0_turnArcs 15 = .ok (.iload_n 1, 1) := by decide +kernel
theorem dX0_turnArcs_16 : decode cX0_turnArcs 16 = .ok (.iload 4, 2) := by decide +kernel
theorem dX0_turnArcs_18 : decode cX0_turnArcs 18 = .ok (.invokevirtual 35, 3) := by decide +kernel
theorem dX0_turnArcs_21 : decode cX0_turnArcs 21 = .ok (.iload_n 2, 1) := by decide +kernel
theorem dX0_turnArcs_22 : decode cX0_turnArcs 22 = .ok (.if_icmp .ne 15, 3) := by decide +kernel
theorem dX0_turnArcs_25 : decode cX0_turnArcs 25 = .ok (.aload_n 0, 1) := by decide +kernel
theorem dX0_turnArcs_26 : decode cX0_turnArcs 26 = .ok (.getfield 18, 3) := by decide +kernel
theorem dX0_turnArcs_29 : decode cX0_turnArcs 29 = .ok (.iload_n 1, 1) := by decide +kernel
theorem dX0_turnArcs_30 : decode cX0_turnArcs 30 = .ok (.iconst 3, 1) := by decide +kernel
theorem dX0_turnArcs_31 : decode cX0_turnArcs 31 = .ok (.imul, 1) := by decide +kernel
theorem dX0_turnArcs_32 : decode cX0_turnArcs 32 = .ok (.iload 4, 2) := by decide +kernel
theorem dX0_turnArcs_34 : decode cX0_turnArcs 34 = .ok (.iadd, 1) := by decide +kernel
theorem dX0_turnArcs_35 : decode cX0_turnArcs 35 = .ok (.iload_n 3, 1) := by decide +kernel
theorem dX0_turnArcs_36 : decode cX0_turnArcs 36 = .ok (.iastore, 1) := by decide +kernel
theorem dX0_turnArcs_37 : decode cX0_turnArcs 37 = .ok (.iinc 4 1, 3) := by decide +kernel
theorem dX0_turnArcs_40 : decode cX0_turnArcs 40 = .ok (.goto (-37), 3) := by decide +kernel
theorem dX0_turnArcs_43 : decode cX0_turnArcs 43 = .ok (.return_, 1) := by decide +kernel
theorem dX1_init_0 : decode cX1_init 0 = .ok (.aload_n 0, 1) := by decide +kernel
theorem dX1_init_1 : decode cX1_init 1 = .ok (.invokespecial 3, 3) := by decide +kernel
theorem dX1_init_4 : decode cX1_init 4 = .ok (.aload_n 0, 1) := by decide +kernel
theorem dX1_init_5 : decode cX1_init 5 = .ok (.new 9, 3) := by decide +kernel
theorem dX1_init_8 : decode cX1_init 8 = .ok (.dup, 1) := by decide +kernel
theorem dX1_init_9 : decode cX1_init 9 = .ok (.bipush 14, 2) := by decide +kernel
theorem dX1_init_11 : decode cX1_init 11 = .ok (.invokespecial 11, 3) := by decide +kernel
theorem dX1_init_14 : decode cX1_init 14 = .ok (.putfield 14, 3) := by decide +kernel
theorem dX1_init_17 : decode cX1_init 17 = .ok (.aload_n 0, 1) := by decide +kernel
theorem dX1_init_18 : decode cX1_init 18 = .ok (.iconst 0, 1) := by decide +kernel
theorem dX1_init_19 : decode cX1_init 19 = .ok (.putfield 20, 3) := by decide +kernel
theorem dX1_init_22 : decode cX1_init 22 = .ok (.aload_n 0, 1) := by decide +kernel
theorem dX1_init_23 : decode cX1_init 23 = .ok (.iconst 0, 1) := by decide +kernel
theorem dX1_init_24 : decode cX1_init 24 = .ok (.putfield 24, 3) := by decide +kernel
theorem dX1_init_27 : decode cX1_init 27 = .ok (.return_, 1) := by decide +kernel
theorem dX1_forget_0 : decode cX1_forget 0 = .ok (.aload_n 0, 1) := by decide +kernel
theorem dX1_forget_1 : decode cX1_forget 1 = .ok (.iconst 0, 1) := by decide +kernel
theorem dX1_forget_2 : decode cX1_forget 2 = .ok (.putfield 20, 3) := by decide +kernel
theorem dX1_forget_5 : decode cX1_forget 5 = .ok (.aload_n 0, 1) := by decide +kernel
theorem dX1_forget_6 : decode cX1_forget 6 = .ok (.iconst 0, 1) := by decide +kernel
theorem dX1_forget_7 : decode cX1_forget 7 = .ok (.putfield 24, 3) := by decide +kernel
theorem dX1_forget_10 : decode cX1_forget 10 = .ok (.return_, 1) := by decide +kernel
theorem dX1_remember_0 : decode cX1_remember 0 = .ok (.aload_n 0, 1) := by decide +kernel
theorem dX1_remember_1 : decode cX1_remember 1 = .ok (.getfield 14, 3) := by decide +kernel
theorem dX1_remember_4 : decode cX1_remember 4 = .ok (.aload_n 0, 1) := by decide +kernel
theorem dX1_remember_5 : decode cX1_remember 5 = .ok (.getfield 20, 3) := by decide +kernel
theorem dX1_remember_8 : decode cX1_remember 8 = .ok (.aload_n 0, 1) := by decide +kernel
theorem dX1_remember_9 : decode cX1_remember 9 = .ok (.getfield 24, 3) := by decide +kernel
theorem dX1_remember_12 : decode cX1_remember 12 = .ok (.iadd, 1) := by decide +kernel
theorem dX1_remember_13 : decode cX1_remember 13 = .ok (.bipush 14, 2) := by decide +kernel
theorem dX1_remember_15 : decode cX1_remember 15 = .ok (.irem, 1) := by decide +kernel
theorem dX1_remember_16 : decode cX1_remember 16 = .ok (.aload_n 1, 1) := by decide +kernel
theorem dX1_remember_17 : decode cX1_remember 17 = .ok (.invokevirtual 27, 3) := by decide +kernel
theorem dX1_remember_20 : decode cX1_remember 20 = .ok (.aload_n 0, 1) := by decide +kernel
theorem dX1_remember_21 : decode cX1_remember 21 = .ok (.getfield 24, 3) := by decide +kernel
theorem dX1_remember_24 : decode cX1_remember 24 = .ok (.bipush 14, 2) := by decide +kernel
theorem dX1_remember_26 : decode cX1_remember 26 = .ok (.if_icmp .ge 16, 3) := by decide +kernel
theorem dX1_remember_29 : decode cX1_remember 29 = .ok (.aload_n 0, 1) := by decide +kernel
theorem dX1_remember_30 : decode cX1_remember 30 = .ok (.dup, 1) := by decide +kernel
theorem dX1_remember_31 : decode cX1_remember 31 = .ok (.getfield 24, 3) := by decide +kernel
theorem dX1_remember_34 : decode cX1_remember 34 = .ok (.iconst 1, 1) := by decide +kernel
theorem dX1_remember_35 : decode cX1_remember 35 = .ok (.iadd, 1) := by decide +kernel
theorem dX1_remember_36 : decode cX1_remember 36 = .ok (.putfield 24, 3) := by decide +kernel
theorem dX1_remember_39 : decode cX1_remember 39 = .ok (.goto 16, 3) := by decide +kernel
theorem dX1_remember_42 : decode cX1_remember 42 = .ok (.aload_n 0, 1) := by decide +kernel
theorem dX1_remember_43 : decode cX1_remember 43 = .ok (.aload_n 0, 1) := by decide +kernel
theorem dX1_remember_44 : decode cX1_remember 44 = .ok (.getfield 20, 3) := by decide +kernel
theorem dX1_remember_47 : decode cX1_remember 47 = .ok (.iconst 1, 1) := by decide +kernel
theorem dX1_remember_48 : decode cX1_remember 48 = .ok (.iadd, 1) := by decide +kernel
theorem dX1_remember_49 : decode cX1_remember 49 = .ok (.bipush 14, 2) := by decide +kernel
theorem dX1_remember_51 : decode cX1_remember 51 = .ok (.irem, 1) := by decide +kernel
theorem dX1_remember_52 : decode cX1_remember 52 = .ok (.putfield 20, 3) := by decide +kernel
theorem dX1_remember_55 : decode cX1_remember 55 = .ok (.return_, 1) := by decide +kernel
theorem dX1_bringLastBack_0 : decode cX1_bringLastBack 0 = .ok (.aload_n 0, 1) := by decide +kernel
theorem dX1_bringLastBack_1 : decode cX1_bringLastBack 1 = .ok (.getfield 24, 3) := by decide +kernel
theorem dX1_bringLastBack_4 : decode cX1_bringLastBack 4 = .ok (.ifCond .le 33, 3) := by decide +kernel
theorem dX1_bringLastBack_7 : decode cX1_bringLastBack 7 = .ok (.aload_n 0, 1) := by decide +kernel
theorem dX1_bringLastBack_8 : decode cX1_bringLastBack 8 = .ok (.dup, 1) := by decide +kernel
theorem dX1_bringLastBack_9 : decode cX1_bringLastBack 9 = .ok (.getfield 24, 3) := by decide +kernel
theorem dX1_bringLastBack_12 : decode cX1_bringLastBack 12 = .ok (.iconst 1, 1) := by decide +kernel
theorem dX1_bringLastBack_13 : decode cX1_bringLastBack 13 = .ok (.isub, 1) := by decide +kernel
theorem dX1_bringLastBack_14 : decode cX1_bringLastBack 14 = .ok (.putfield 24, 3) := by decide +kernel
theorem dX1_bringLastBack_17 : decode cX1_bringLastBack 17 = .ok (.aload_n 0, 1) := by decide +kernel
theorem dX1_bringLastBack_18 : decode cX1_bringLastBack 18 = .ok (.getfield 14, 3) := by decide +kernel
theorem dX1_bringLastBack_21 : decode cX1_bringLastBack 21 = .ok (.aload_n 0, 1) := by decide +kernel
theorem dX1_bringLastBack_22 : decode cX1_bringLastBack 22 = .ok (.getfield 20, 3) := by decide +kernel
theorem dX1_bringLastBack_25 : decode cX1_bringLastBack 25 = .ok (.aload_n 0, 1) := by decide +kernel
theorem dX1_bringLastBack_26 : decode cX1_bringLastBack 26 = .ok (.getfield 24, 3) := by decide +kernel
theorem dX1_bringLastBack_29 : decode cX1_bringLastBack 29 = .ok (.iadd, 1) := by decide +kernel
theorem dX1_bringLastBack_30 : decode cX1_bringLastBack 30 = .ok (.bipush 14, 2) := by decide +kernel
theorem dX1_bringLastBack_32 : decode cX1_bringLastBack 32 = .ok (.irem, 1) := by decide +kernel
theorem dX1_bringLastBack_33 : decode cX1_bringLastBack 33 = .ok (.aload_n 1, 1) := by decide +kernel
theorem dX1_bringLastBack_34 : decode cX1_bringLastBack 34 = .ok (.invokevirtual 31, 3) := by decide +kernel
theorem dX1_bringLastBack_37 : decode cX1_bringLastBack 37 = .ok (.return_, 1) := by decide +kernel
theorem dX2_init_0 : decode cX2_init 0 = .ok (.aload_n 0, 1) := by decide +kernel
theorem dX2_init_1 : decode cX2_init 1 = .ok (.invokespecial 3, 3) := by decide +kernel
theorem dX2_init_4 : decode cX2_init 4 = .ok (.iconst 0, 1) := by decide +kernel
theorem dX2_init_5 : decode cX2_init 5 = .ok (.iload_n 1, 1) := by decide +kernel
theorem dX2_init_6 : decode cX2_init 6 = .ok (.invokestatic 9, 3) := by decide +kernel
theorem dX2_init_9 : decode cX2_init 9 = .ok (.istore_n 2, 1) := by decide +kernel
theorem dX2_init_10 : decode cX2_init 10 = .ok (.aload_n 0, 1) := by decide +kernel
theorem dX2_init_11 : decode cX2_init 11 = .ok (.iload_n 2, 1) := by decide +kernel
theorem dX2_init_12 : decode cX2_init 12 = .ok (.newarray .int, 2) := by decide +kernel
theorem dX2_init_14 : decode cX2_init 14 = .ok (.putfield 15, 3) := by decide +kernel
theorem dX2_init_17 : decode cX2_init 17 = .ok (.aload_n 0, 1) := by decide +kernel
theorem dX2_init_18 : decode cX2_init 18 = .ok (.iload_n 2, 1) := by decide +kernel
theorem dX2_init_19 : decode cX2_init 19 = .ok (.bipush 12, 2) := by decide +kernel
theorem dX2_init_21 : decode cX2_init 21 = .ok (.imul, 1) := by decide +kernel
theorem dX2_init_22 : decode cX2_init 22 = .ok (.newarray .int, 2) := by decide +kernel
theorem dX2_init_24 : decode cX2_init 24 = .ok (.putfield 21, 3) := by decide +kernel
theorem dX2_init_27 : decode cX2_init 27 = .ok (.aload_n 0, 1) := by decide +kernel
theorem dX2_init_28 : decode cX2_init 28 = .ok (.iload_n 2, 1) := by decide +kernel
theorem dX2_init_29 : decode cX2_init 29 = .ok (.bipush 12, 2) := by decide +kernel
theorem dX2_init_31 : decode cX2_init 31 = .ok (.imul, 1) := by decide +kernel
theorem dX2_init_32 : decode cX2_init 32 = .ok (.newarray .int, 2) := by decide +kernel
theorem dX2_init_34 : decode cX2_init 34 = .ok (.putfield 24, 3) := by decide +kernel
theorem dX2_init_37 : decode cX2_init 37 = .ok (.aload_n 0, 1) := by decide +kernel
theorem dX2_init_38 : decode cX2_init 38 = .ok (.iload_n 2, 1) := by decide +kernel
theorem dX2_init_39 : decode cX2_init 39 = .ok (.bipush 12, 2) := by decide +kernel
theorem dX2_init_41 : decode cX2_init 41 = .ok (.imul, 1) := by decide +kernel
theorem dX2_init_42 : decode cX2_init 42 = .ok (.iconst 3, 1) := by decide +kernel
theorem dX2_init_43 : decode cX2_init 43 = .ok (.imul, 1) := by decide +kernel
theorem dX2_init_44 : decode cX2_init 44 = .ok (.newarray .int, 2) := by decide +kernel
theorem dX2_init_46 : decode cX2_init 46 = .ok (.putfield 27, 3) := by decide +kernel
theorem dX2_init_49 : decode cX2_init 49 = .ok (.return_, 1) := by decide +kernel
theorem dX2_store_0 : decode cX2_store 0 = .ok (.iload_n 1, 1) := by decide +kernel
theorem dX2_store_1 : decode cX2_store 1 = .ok (.ifCond .lt 12, 3) := by decide +kernel
theorem dX2_store_4 : decode cX2_store 4 = .ok (.iload_n 1, 1) := by decide +kernel
theorem dX2_store_5 : decode cX2_store 5 = .ok (.aload_n 0, 1) := by decide +kernel
theorem dX2_store_6 : decode cX2_store 6 = .ok (.getfield 15, 3) := by decide +kernel
theorem dX2_store_9 : decode cX2_store 9 = .ok (.arraylength, 1) := by decide +kernel
theorem dX2_store_10 : decode cX2_store 10 = .ok (.if_icmp .lt 4, 3) := by decide +kernel
theorem dX2_store_13 : decode cX2_store 13 = .ok (.return_, 1) := by decide +kernel
theorem dX2_store_14 : decode cX2_store 14 = .ok (.iload_n 1, 1) := by decide +kernel
theorem dX2_store_15 : decode cX2_store 15 = .ok (.bipush 12, 2) := by decide +kernel
theorem dX2_store_17 : decode cX2_store 17 = .ok (.imul, 1) := by decide +kernel
theorem dX2_store_18 : decode cX2_store 18 = .ok (.istore_n 3, 1) := by decide +kernel
theorem dX2_store_19 : decode cX2_store 19 = .ok (.aload_n 0, 1) := by decide +kernel
theorem dX2_store_20 : decode cX2_store 20 = .ok (.getfield 15, 3) := by decide +kernel
theorem dX2_store_23 : decode cX2_store 23 = .ok (.iload_n 1, 1) := by decide +kernel
theorem dX2_store_24 : decode cX2_store 24 = .ok (.aload_n 2, 1) := by decide +kernel
theorem dX2_store_25 : decode cX2_store 25 = .ok (.getfield 30, 3) := by decide +kernel
theorem dX2_store_28 : decode cX2_store 28 = .ok (.iastore, 1) := by decide +kernel
theorem dX2_store_29 : decode cX2_store 29 = .ok (.aload_n 2, 1) := by decide +kernel
theorem dX2_store_30 : decode cX2_store 30 = .ok (.getfield 36, 3) := by decide +kernel
theorem dX2_store_33 : decode cX2_store 33 = .ok (.iconst 0, 1) := by decide +kernel
theorem dX2_store_34 : decode cX2_store 34 = .ok (.aload_n 0, 1) := by decide +kernel
theorem dX2_store_35 : decode cX2_store 35 = .ok (.getfield 21, 3) := by decide +kernel
theorem dX2_store_38 : decode cX2_store 38 = .ok (.iload_n 3, 1) := by decide +kernel
theorem dX2_store_39 : decode cX2_store 39 = .ok (.bipush 12, 2) := by decide +kernel
theorem dX2_store_41 : decode cX2_store 41 = .ok (.invokestatic 37, 3) := by decide +kernel
theorem dX2_store_44 : decode cX2_store 44 = .ok (.aload_n 2, 1) := by decide +kernel
theorem dX2_store_45 : decode cX2_store 45 = .ok (.getfield 43, 3) := by decide +kernel
theorem dX2_store_48 : decode cX2_store 48 = .ok (.iconst 0, 1) := by decide +kernel
theorem dX2_store_49 : decode cX2_store 49 = .ok (.aload_n 0, 1) := by decide +kernel
theorem dX2_store_50 : decode cX2_store 50 = .ok (.getfield 24, 3) := by decide +kernel
theorem dX2_store_53 : decode cX2_store 53 = .ok (.iload_n 3, 1) := by decide +kernel
theorem dX2_store_54 : decode cX2_store 54 = .ok (.bipush 12, 2) := by decide +kernel
theorem dX2_store_56 : decode cX2_store 56 = .ok (.invokestatic 37, 3) := by decide +kernel
theorem dX2_store_59 : decode cX2_store 59 = .ok (.aload_n 2, 1) := by decide +kernel
theorem dX2_store_60 : decode cX2_store 60 = .ok (.getfield 44, 3) := by decide +kernel
theorem dX2_store_63 : decode cX2_store 63 = .ok (.iconst 0, 1) := by decide +kernel
theorem dX2_store_64 : decode cX2_store 64 = .ok (.aload_n 0, 1) := by decide +kernel
theorem dX2_store_65 : decode cX2_store 65 = .ok (.getfield 27, 3) := by decide +kernel
theorem dX2_store_68 : decode cX2_store 68 = .ok (.iload_n 3, 1) := by decide +kernel
theorem dX2_store_69 : decode cX2_store 69 = .ok (.iconst 3, 1) := by decide +kernel
theorem dX2_store_70 : decode cX2_store 70 = .ok (.imul, 1) := by decide +kernel
theorem dX2_store_71 : decode cX2_store 71 = .ok (.bipush 36, 2) := by decide +kernel
theorem dX2_store_73 : decode cX2_store 73 = .ok (.invokestatic 37, 3) := by decide +kernel
theorem dX2_store_76 : decode cX2_store 76 = .ok (.return_, 1) := by decide +kernel
theorem dX2_bringBack_0 : decode cX2_bringBack 0 = .ok (.iload_n 1, 1) := by decide +kernel
theorem dX2_bringBack_1 : decode cX2_bringBack 1 = .ok (.ifCond .lt 12, 3) := by decide +kernel
theorem dX2_bringBack_4 : decode cX2_bringBack 4 = .ok (.iload_n 1, 1) := by decide +kernel
theorem dX2_bringBack_5 : decode cX2_bringBack 5 = .ok (.aload_n 0, 1) := by decide +kernel
theorem dX2_bringBack_6 : decode cX2_bringBack 6 = .ok (.getfield 15, 3) := by decide +kernel
theorem dX2_bringBack_9 : decode cX2_bringBack 9 = .ok (.arraylength, 1) := by decide +kernel
theorem dX2_bringBack_10 : decode cX2_bringBack 10 = .ok (.if_icmp .lt 4, 3) := by decide +kernel
theorem dX2_bringBack_13 : decode cX2_bringBack 13 = .ok (.return_, 1) := by decide +kernel
theorem dX2_bringBack_14 : decode cX2_bringBack 14 = .ok (.iload_n 1, 1) := by decide +kernel
theorem dX2_bringBack_15 : decode cX2_bringBack 15 = .ok (.bipush 12, 2) := by decide +kernel
theorem dX2_bringBack_17 : decode cX2_bringBack 17 = .ok (.imul, 1) := by decide +kernel
theorem dX2_bringBack_18 : decode cX2_bringBack 18 = .ok (.istore_n 3, 1) := by decide +kernel
theorem dX2_bringBack_19 : decode cX2_bringBack 19 = .ok (.aload_n 2, 1) := by decide +kernel
theorem dX2_bringBack_20 : decode cX2_bringBack 20 = .ok (.aload_n 0, 1) := by decide +kernel
theorem dX2_bringBack_21 : decode cX2_bringBack 21 = .ok (.getfield 15, 3) := by decide +kernel
theorem dX2_bringBack_24 : decode cX2_bringBack 24 = .ok (.iload_n 1, 1) := by decide +kernel
theorem dX2_bringBack_25 : decode cX2_bringBack 25 = .ok (.iaload, 1) := by decide +kernel
theorem dX2_bringBack_26 : decode cX2_bringBack 26 = .ok (.putfield 30, 3) := by decide +kernel
theorem dX2_bringBack_29 : decode cX2_bringBack 29 = .ok (.aload_n 0, 1) := by decide +kernel
theorem dX2_bringBack_30 : decode cX2_bringBack 30 = .ok (.getfield 21, 3) := by decide +kernel
theorem dX2_bringBack_33 : decode cX2_bringBack 33 = .ok (.iload_n 3, 1) := by decide +kernel
theorem dX2_bringBack_34 : decode cX2_bringBack 34 = .ok (.aload_n 2, 1) := by decide +kernel
theorem dX2_bringBack_35 : decode cX2_bringBack 35 = .ok (.getfield 36, 3) := by decide +kernel
theorem dX2_bringBack_38 : decode cX2_bringBack 38 = .ok (.iconst 0, 1) := by decide +kernel
theorem dX2_bringBack_39 : decode cX2_bringBack 39 = .ok (.bipush 12, 2) := by decide +kernel
theorem dX2_bringBack_41 : decode cX2_bringBack 41 = .ok (.invokestatic 37, 3) := by decide +kernel
theorem dX2_bringBack_44 : decode cX2_bringBack 44 = .ok (.aload_n 0, 1) := by decide +kernel
theorem dX2_bringBack_45 : decode cX2_bringBack 45 = .ok (.getfield 24, 3) := by decide +kernel
theorem dX2_bringBack_48 : decode cX2_bringBack 48 = .ok (.iload_n 3, 1) := by decide +kernel
theorem dX2_bringBack_49 : decode cX2_bringBack 49 = .ok (.aload_n 2, 1) := by decide +kernel
theorem dX2_bringBack_50 : decode cX2_bringBack 50 = .ok (.getfield 43, 3) := by decide +kernel
theorem dX2_bringBack_53 : decode cX2_bringBack 53 = .ok (.iconst 0, 1) := by decide +kernel
theorem dX2_bringBack_54 : decode cX2_bringBack 54 = .ok (.bipush 12, 2) := by decide +kernel
theorem dX2_bringBack_56 : decode cX2_bringBack 56 = .ok (.invokestatic 37, 3) := by decide +kernel
theorem dX2_bringBack_59 : decode cX2_bringBack 59 = .ok (.aload_n 0, 1) := by decide +kernel
theorem dX2_bringBack_60 : decode cX2_bringBack 60 = .ok (.getfield 27, 3) := by decide +kernel
theorem dX2_bringBack_63 : decode cX2_bringBack 63 = .ok (.iload_n 3, 1) := by decide +kernel
theorem dX2_bringBack_64 : decode cX2_bringBack 64 = .ok (.iconst 3, 1) := by decide +kernel
theorem dX2_bringBack_65 : decode cX2_bringBack 65 = .ok (.imul, 1) := by decide +kernel
theorem dX2_bringBack_66 : decode cX2_bringBack 66 = .ok (.aload_n 2, 1) := by decide +kernel
theorem dX2_bringBack_67 : decode cX2_bringBack 67 = .ok (.getfield 44, 3) := by decide +kernel
theorem dX2_bringBack_70 : decode cX2_bringBack 70 = .ok (.iconst 0, 1) := by decide +kernel
theorem dX2_bringBack_71 : decode cX2_bringBack 71 = .ok (.bipush 36, 2) := by decide +kernel
theorem dX2_bringBack_73 : decode cX2_bringBack 73 = .ok (.invokestatic 37, 3) := by decide +kernel
theorem dX2_bringBack_76 : decode cX2_bringBack 76 = .ok (.return_, 1) := by decide +kernel
theorem dX3_init_0 : decode cX3_init 0 = .ok (.aload_n 0, 1) := by decide +kernel
theorem dX3_init_1 : decode cX3_init 1 = .ok (.invokespecial 3, 3) := by decide +kernel
theorem dX3_init_4 : decode cX3_init 4 = .ok (.aload_n 0, 1) := by decide +kernel
theorem dX3_init_5 : decode cX3_init 5 = .ok (.bipush 6, 2) := by decide +kernel
theorem dX3_init_7 : decode cX3_init 7 = .ok (.newarray .int, 2) := by decide +kernel
theorem dX3_init_9 : decode cX3_init 9 = .ok (.putfield 9, 3) := by decide +kernel
theorem dX3_init_12 : decode cX3_init 12 = .ok (.aload_n 0, 1) := by decide +kernel
theorem dX3_init_13 : decode cX3_init 13 = .ok (.bipush 6, 2) := by decide +kernel
theorem dX3_init_15 : decode cX3_init 15 = .ok (.newarray .int, 2) := by decide +kernel
theorem dX3_init_17 : decode cX3_init 17 = .ok (.putfield 15, 3) := by decide +kernel
theorem dX3_init_20 : decode cX3_init 20 = .ok (.aload_n 0, 1) := by decide +kernel
theorem dX3_init_21 : decode cX3_init 21 = .ok (.bipush 6, 2) := by decide +kernel
theorem dX3_init_23 : decode cX3_init 23 = .ok (.newarray .boolean, 2) := by decide +kernel
theorem dX3_init_25 : decode cX3_init 25 = .ok (.putfield 18, 3) := by decide +kernel
theorem dX3_init_28 : decode cX3_init 28 = .ok (.aload_n 0, 1) := by decide +kernel
theorem dX3_init_29 : decode cX3_init 29 = .ok (.iconst 0, 1) := by decide +kernel
theorem dX3_init_30 : decode cX3_init 30 = .ok (.putfield 22, 3) := by decide +kernel
theorem dX3_init_33 : decode cX3_init 33 = .ok (.return_, 1) := by decide +kernel
theorem dX3_append_0 : decode cX3_append 0 = .ok (.aload_n 0, 1) := by decide +kernel
theorem dX3_append_1 : decode cX3_append 1 = .ok (.getfield 22, 3) := by decide +kernel
theorem dX3_append_4 : decode cX3_append 4 = .ok (.bipush 6, 2) := by decide +kernel
theorem dX3_append_6 : decode cX3_append 6 = .ok (.if_icmp .lt 6, 3) := by decide +kernel
theorem dX3_append_9 : decode cX3_append 9 = .ok (.bipush (-4), 2) := by decide +kernel
theorem dX3_append_11 : decode cX3_append 11 = .ok (.ireturn, 1) := by decide +kernel
theorem dX3_append_12 : decode cX3_append 12 = .ok (.aload_n 0, 1) := by decide +kernel
theorem dX3_append_13 : decode cX3_append 13 = .ok (.getfield 9, 3) := by decide +kernel
theorem dX3_append_16 : decode cX3_append 16 = .ok (.aload_n 0, 1) := by decide +kernel
theorem dX3_append_17 : decode cX3_append 17 = .ok (.getfield 22, 3) := by decide +kernel
theorem dX3_append_20 : decode cX3_append 20 = .ok (.iload_n 1, 1) := by decide +kernel
theorem dX3_append_21 : decode cX3_append 21 = .ok (.iastore, 1) := by decide +kernel
theorem dX3_append_22 : decode cX3_append 22 = .ok (.aload_n 0, 1) := by decide +kernel
theorem dX3_append_23 : decode cX3_append 23 = .ok (.getfield 15, 3) := by decide +kernel
theorem dX3_append_26 : decode cX3_append 26 = .ok (.aload_n 0, 1) := by decide +kernel
theorem dX3_append_27 : decode cX3_append 27 = .ok (.getfield 22, 3) := by decide +kernel
theorem dX3_append_30 : decode cX3_append 30 = .ok (.iload_n 2, 1) := by decide +kernel
theorem dX3_append_31 : decode cX3_append 31 = .ok (.iastore, 1) := by decide +kernel
theorem dX3_append_32 : decode cX3_append 32 = .ok (.aload_n 0, 1) := by decide +kernel
theorem dX3_append_33 : decode cX3_append 33 = .ok (.getfield 18, 3) := by decide +kernel
theorem dX3_append_36 : decode cX3_append 36 = .ok (.aload_n 0, 1) := by decide +kernel
theorem dX3_append_37 : decode cX3_append 37 = .ok (.getfield 22, 3) := by decide +kernel
theorem dX3_append_40 : decode cX3_append 40 = .ok (.iload_n 3, 1) := by decide +kernel
theorem dX3_append_41 : decode cX3_append 41 = .ok (.iconst 1, 1) := by decide +kernel
theorem dX3_append_42 : decode cX3_append 42 = .ok (.if_icmp .ne 7, 3) := by decide +kernel
theorem dX3_append_45 : decode cX3_append 45 = .ok (.iconst 1, 1) := by decide +kernel
theorem dX3_append_46 : decode cX3_append 46 = .ok (.goto 4, 3) := by decide +kernel
theorem dX3_append_49 : decode cX3_append 49 = .ok (.iconst 0, 1) := by decide +kernel
theorem dX3_append_50 : decode cX3_append 50 = .ok (.bastore, 1) := by decide +kernel
theorem dX3_append_51 : decode cX3_append 51 = .ok (.aload_n 0, 1) := by decide +kernel
theorem dX3_append_52 : decode cX3_append 52 = .ok (.dup, 1) := by decide +kernel
theorem dX3_append_53 : decode cX3_append 53 = .ok (.getfield 22, 3) := by decide +kernel
theorem dX3_append_56 : decode cX3_append 56 = .ok (.iconst 1, 1) := by decide +kernel
theorem dX3_append_57 : decode cX3_append 57 = .ok (.iadd, 1) := by decide +kernel
theorem dX3_append_58 : decode cX3_append 58 = .ok (.putfield 22, 3) := by decide +kernel
theorem dX3_append_61 : decode cX3_append 61 = .ok (.aload_n 0, 1) := by decide +kernel
theorem dX3_append_62 : decode cX3_append 62 = .ok (.getfield 22, 3) := by decide +kernel
theorem dX3_append_65 : decode cX3_append 65 = .ok (.ireturn, 1) := by decide +kernel
theorem dX3_clear_0 : decode cX3_clear 0 = .ok (.aload_n 0, 1) := by decide +kernel
theorem dX3_clear_1 : decode cX3_clear 1 = .ok (.getfield 22, 3) := by decide +kernel
theorem dX3_clear_4 : decode cX3_clear 4 = .ok (.istore_n 1, 1) := by decide +kernel
theorem dX3_clear_5 : decode cX3_clear 5 = .ok (.aload_n 0, 1) := by decide +kernel
theorem dX3_clear_6 : decode cX3_clear 6 = .ok (.iconst 0, 1) := by decide +kernel
theorem dX3_clear_7 : decode cX3_clear 7 = .ok (.putfield 22, 3) := by decide +kernel
theorem dX3_clear_10 : decode cX3_clear 10 = .ok (.iload_n 1, 1) := by decide +kernel
theorem dX3_clear_11 : decode cX3_clear 11 = .ok (.ireturn, 1) := by decide +kernel
theorem dX3_agree_0 : decode cX3_agree 0 = .ok (.iconst 0, 1) := by decide +kernel
theorem dX3_agree_1 : decode cX3_agree 1 = .ok (.istore_n 3, 1) := by decide +kernel
theorem dX3_agree_2 : decode cX3_agree 2 = .ok (.iload_n 3, 1) := by decide +kernel
theorem dX3_agree_3 : decode cX3_agree 3 = .ok (.aload_n 0, 1) := by decide +kernel
theorem dX3_agree_4 : decode cX3_agree 4 = .ok (.getfield 22, 3) := by decide +kernel
theorem dX3_agree_7 : decode cX3_agree 7 = .ok (.if_icmp .ge 45, 3) := by decide +kernel
theorem dX3_agree_10 : decode cX3_agree 10 = .ok (.aload_n 0, 1) := by decide +kernel
theorem dX3_agree_11 : decode cX3_agree 11 = .ok (.getfield 9, 3) := by decide +kernel
theorem dX3_agree_14 : decode cX3_agree 14 = .ok (.iload_n 3, 1) := by decide +kernel
theorem dX3_agree_15 : decode cX3_agree 15 = .ok (.iaload, 1) := by decide +kernel
theorem dX3_agree_16 : decode cX3_agree 16 = .ok (.iload_n 1, 1) := by decide +kernel
theorem dX3_agree_17 : decode cX3_agree 17 = .ok (.if_icmp .ne 29, 3) := by decide +kernel
theorem dX3_agree_20 : decode cX3_agree 20 = .ok (.aload_n 0, 1) := by decide +kernel
theorem dX3_agree_21 : decode cX3_agree 21 = .ok (.getfield 15, 3) := by decide +kernel
theorem dX3_agree_24 : decode cX3_agree 24 = .ok (.iload_n 3, 1) := by decide +kernel
theorem dX3_agree_25 : decode cX3_agree 25 = .ok (.iaload, 1) := by decide +kernel
theorem dX3_agree_26 : decode cX3_agree 26 = .ok (.iload_n 2, 1) := by decide +kernel
theorem dX3_agree_27 : decode cX3_agree 27 = .ok (.if_icmp .ne 7, 3) := by decide +kernel
theorem dX3_agree_30 : decode cX3_agree 30 = .ok (.iconst 1, 1) := by decide +kernel
theorem dX3_agree_31 : decode cX3_agree 31 = .ok (.goto 4, 3) := by decide +kernel
theorem dX3_agree_34 : decode cX3_agree 34 = .ok (.iconst 0, 1) := by decide +kernel
theorem dX3_agree_35 : decode cX3_agree 35 = .ok (.aload_n 0, 1) := by decide +kernel
theorem dX3_agree_36 : decode cX3_agree 36 = .ok (.getfield 18, 3) := by decide +kernel
theorem dX3_agree_39 : decode cX3_agree 39 = .ok (.iload_n 3, 1) := by decide +kernel
theorem dX3_agree_40 : decode cX3_agree 40 = .ok (.baload, 1) := by decide +kernel
theorem dX3_agree_41 : decode cX3_agree 41 = .ok (.if_icmp .eq 5, 3) := by decide +kernel
theorem dX3_agree_44 : decode cX3_agree 44 = .ok (.iconst 0, 1) := by decide +kernel
theorem dX3_agree_45 : decode cX3_agree 45 = .ok (.ireturn, 1) := by decide +kernel
theorem dX3_agree_46 : decode cX3_agree 46 = .ok (.iinc 3 1, 3) := by decide +kernel
theorem dX3_agree_49 : decode cX3_agree 49 = .ok (.goto (-47), 3) := by decide +kernel
theorem dX3_agree_52 : decode cX3_agree 52 = .ok (.iconst 1, 1) := by decide +kernel
theorem dX3_agree_53 : decode cX3_agree 53 = .ok (.ireturn, 1) := by decide +kernel
theorem dX4_init_0 : decode cX4_init 0 = .ok (.aload_n 0, 1) := by decide +kernel
theorem dX4_init_1 : decode cX4_init 1 = .ok (.invokespecial 3, 3) := by decide +kernel
theorem dX4_init_4 : decode cX4_init 4 = .ok (.aload_n 0, 1) := by decide +kernel
theorem dX4_init_5 : decode cX4_init 5 = .ok (.new 9, 3) := by decide +kernel
theorem dX4_init_8 : decode cX4_init 8 = .ok (.dup, 1) := by decide +kernel
theorem dX4_init_9 : decode cX4_init 9 = .ok (.iconst 2, 1) := by decide +kernel
theorem dX4_init_10 : decode cX4_init 10 = .ok (.invokespecial 11, 3) := by decide +kernel
theorem dX4_init_13 : decode cX4_init 13 = .ok (.putfield 14, 3) := by decide +kernel
theorem dX4_init_16 : decode cX4_init 16 = .ok (.aload_n 0, 1) := by decide +kernel
theorem dX4_init_17 : decode cX4_init 17 = .ok (.iconst 2, 1) := by decide +kernel
theorem dX4_init_18 : decode cX4_init 18 = .ok (.newarray .boolean, 2) := by decide +kernel
theorem dX4_init_20 : decode cX4_init 20 = .ok (.putfield 20, 3) := by decide +kernel
theorem dX4_init_23 : decode cX4_init 23 = .ok (.return_, 1) := by decide +kernel
theorem dX4_forget_0 : decode cX4_forget 0 = .ok (.iconst 0, 1) := by decide +kernel
theorem dX4_forget_1 : decode cX4_forget 1 = .ok (.istore_n 1, 1) := by decide +kernel
theorem dX4_forget_2 : decode cX4_forget 2 = .ok (.iload_n 1, 1) := by decide +kernel
theorem dX4_forget_3 : decode cX4_forget 3 = .ok (.iconst 2, 1) := by decide +kernel
theorem dX4_forget_4 : decode cX4_forget 4 = .ok (.if_icmp .ge 16, 3) := by decide +kernel
theorem dX4_forget_7 : decode cX4_forget 7 = .ok (.aload_n 0, 1) := by decide +kernel
theorem dX4_forget_8 : decode cX4_forget 8 = .ok (.getfield 20, 3) := by decide +kernel
theorem dX4_forget_11 : decode cX4_forget 11 = .ok (.iload_n 1, 1) := by decide +kernel
theorem dX4_forget_12 : decode cX4_forget 12 = .ok (.iconst 0, 1) := by decide +kernel
theorem dX4_forget_13 : decode cX4_forget 13 = .ok (.bastore, 1) := by decide +kernel
theorem dX4_forget_14 : decode cX4_forget 14 = .ok (.iinc 1 1, 3) := by decide +kernel
theorem dX4_forget_17 : decode cX4_forget 17 = .ok (.goto (-15), 3) := by decide +kernel
theorem dX4_forget_20 : decode cX4_forget 20 = .ok (.return_, 1) := by decide +kernel
theorem dX4_store_0 : decode cX4_store 0 = .ok (.aload_n 0, 1) := by decide +kernel
theorem dX4_store_1 : decode cX4_store 1 = .ok (.getfield 14, 3) := by decide +kernel
theorem dX4_store_4 : decode cX4_store 4 = .ok (.iload_n 1, 1) := by decide +kernel
theorem dX4_store_5 : decode cX4_store 5 = .ok (.aload_n 2, 1) := by decide +kernel
theorem dX4_store_6 : decode cX4_store 6 = .ok (.invokevirtual 24, 3) := by decide +kernel
theorem dX4_store_9 : decode cX4_store 9 = .ok (.aload_n 0, 1) := by decide +kernel
theorem dX4_store_10 : decode cX4_store 10 = .ok (.getfield 20, 3) := by decide +kernel
theorem dX4_store_13 : decode cX4_store 13 = .ok (.iload_n 1, 1) := by decide +kernel
theorem dX4_store_14 : decode cX4_store 14 = .ok (.iconst 1, 1) := by decide +kernel
theorem dX4_store_15 : decode cX4_store 15 = .ok (.bastore, 1) := by decide +kernel
theorem dX4_store_16 : decode cX4_store 16 = .ok (.return_, 1) := by decide +kernel
theorem dX4_bringBack_0 : decode cX4_bringBack 0 = .ok (.aload_n 0, 1) := by decide +kernel
theorem dX4_bringBack_1 : decode cX4_bringBack 1 = .ok (.getfield 14, 3) := by decide +kernel
theorem dX4_bringBack_4 : decode cX4_bringBack 4 = .ok (.iload_n 1, 1) := by decide +kernel
theorem dX4_bringBack_5 : decode cX4_bringBack 5 = .ok (.aload_n 2, 1) := by decide +kernel
theorem dX4_bringBack_6 : decode cX4_bringBack 6 = .ok (.invokevirtual 28, 3) := by decide +kernel
theorem dX4_bringBack_9 : decode cX4_bringBack 9 = .ok (.return_, 1) := by decide +kernel
theorem dX5_init_0 : decode cX5_init 0 = .ok (.aload_n 0, 1) := by decide +kernel
theorem dX5_init_1 : decode cX5_init 1 = .ok (.invokespecial 3, 3) := by decide +kernel
theorem dX5_init_4 : decode cX5_init 4 = .ok (.aload_n 0, 1) := by decide +kernel
theorem dX5_init_5 : decode cX5_init 5 = .ok (.bipush 12, 2) := by decide +kernel
theorem dX5_init_7 : decode cX5_init 7 = .ok (.newarray .int, 2) := by decide +kernel
theorem dX5_init_9 : decode cX5_init 9 = .ok (.putfield 9, 3) := by decide +kernel
theorem dX5_init_12 : decode cX5_init 12 = .ok (.aload_n 0, 1) := by decide +kernel
theorem dX5_init_13 : decode cX5_init 13 = .ok (.bipush 12, 2) := by decide +kernel
theorem dX5_init_15 : decode cX5_init 15 = .ok (.newarray .int, 2) := by decide +kernel
theorem dX5_init_17 : decode cX5_init 17 = .ok (.putfield 15, 3) := by decide +kernel
theorem dX5_init_20 : decode cX5_init 20 = .ok (.aload_n 0, 1) := by decide +kernel
theorem dX5_init_21 : decode cX5_init 21 = .ok (.bipush 12, 2) := by decide +kernel
theorem dX5_init_23 : decode cX5_init 23 = .ok (.newarray .int, 2) := by decide +kernel
theorem dX5_init_25 : decode cX5_init 25 = .ok (.putfield 18, 3) := by decide +kernel
theorem dX5_init_28 : decode cX5_init 28 = .ok (.aload_n 0, 1) := by decide +kernel
theorem dX5_init_29 : decode cX5_init 29 = .ok (.bipush 12, 2) := by decide +kernel
theorem dX5_init_31 : decode cX5_init 31 = .ok (.newarray .int, 2) := by decide +kernel
theorem dX5_init_33 : decode cX5_init 33 = .ok (.putfield 21, 3) := by decide +kernel
theorem dX5_init_36 : decode cX5_init 36 = .ok (.aload_n 0, 1) := by decide +kernel
theorem dX5_init_37 : decode cX5_init 37 = .ok (.bipush 12, 2) := by decide +kernel
theorem dX5_init_39 : decode cX5_init 39 = .ok (.newarray .int, 2) := by decide +kernel
theorem dX5_init_41 : decode cX5_init 41 = .ok (.putfield 24, 3) := by decide +kernel
theorem dX5_init_44 : decode cX5_init 44 = .ok (.aload_n 0, 1) := by decide +kernel
theorem dX5_init_45 : decode cX5_init 45 = .ok (.bipush 12, 2) := by decide +kernel
theorem dX5_init_47 : decode cX5_init 47 = .ok (.newarray .int, 2) := by decide +kernel
theorem dX5_init_49 : decode cX5_init 49 = .ok (.putfield 27, 3) := by decide +kernel
theorem dX5_init_52 : decode cX5_init 52 = .ok (.aload_n 0, 1) := by decide +kernel
theorem dX5_init_53 : decode cX5_init 53 = .ok (.bipush 12, 2) := by decide +kernel
theorem dX5_init_55 : decode cX5_init 55 = .ok (.newarray .int, 2) := by decide +kernel
theorem dX5_init_57 : decode cX5_init 57 = .ok (.putfield 30, 3) := by decide +kernel
theorem dX5_init_60 : decode cX5_init 60 = .ok (.aload_n 0, 1) := by decide +kernel
theorem dX5_init_61 : decode cX5_init 61 = .ok (.bipush 12, 2) := by decide +kernel
theorem dX5_init_63 : decode cX5_init 63 = .ok (.newarray .int, 2) := by decide +kernel
theorem dX5_init_65 : decode cX5_init 65 = .ok (.putfield 33, 3) := by decide +kernel
theorem dX5_init_68 : decode cX5_init 68 = .ok (.aload_n 0, 1) := by decide +kernel
theorem dX5_init_69 : decode cX5_init 69 = .ok (.iconst 0, 1) := by decide +kernel
theorem dX5_init_70 : decode cX5_init 70 = .ok (.putfield 36, 3) := by decide +kernel
theorem dX5_init_73 : decode cX5_init 73 = .ok (.aload_n 0, 1) := by decide +kernel
theorem dX5_init_74 : decode cX5_init 74 = .ok (.iconst 0, 1) := by decide +kernel
theorem dX5_init_75 : decode cX5_init 75 = .ok (.putfield 40, 3) := by decide +kernel
theorem dX5_init_78 : decode cX5_init 78 = .ok (.aload_n 0, 1) := by decide +kernel
theorem dX5_init_79 : decode cX5_init 79 = .ok (.iconst 0, 1) := by decide +kernel
theorem dX5_init_80 : decode cX5_init 80 = .ok (.putfield 43, 3) := by decide +kernel
theorem dX5_init_83 : decode cX5_init 83 = .ok (.return_, 1) := by decide +kernel
theorem dX5_read_0 : decode cX5_read 0 = .ok (.aload_n 0, 1) := by decide +kernel
theorem dX5_read_1 : decode cX5_read 1 = .ok (.invokevirtual 46, 3) := by decide +kernel
theorem dX5_read_4 : decode cX5_read 4 = .ok (.aload_n 1, 1) := by decide +kernel
theorem dX5_read_5 : decode cX5_read 5 = .ok (.getfield 49, 3) := by decide +kernel
theorem dX5_read_8 : decode cX5_read 8 = .ok (.ifCond .le 14, 3) := by decide +kernel
theorem dX5_read_11 : decode cX5_read 11 = .ok (.aload_n 0, 1) := by decide +kernel
theorem dX5_read_12 : decode cX5_read 12 = .ok (.aload_n 0, 1) := by decide +kernel
theorem dX5_read_13 : decode cX5_read 13 = .ok (.aload_n 1, 1) := by decide +kernel
theorem dX5_read_14 : decode cX5_read 14 = .ok (.iconst 0, 1) := by decide +kernel
theorem dX5_read_15 : decode cX5_read 15 = .ok (.iconst 0, 1) := by decide +kernel
theorem dX5_read_16 : decode cX5_read 16 = .ok (.invokestatic 54, 3) := by decide +kernel
theorem dX5_read_19 : decode cX5_read 19 = .ok (.putfield 40, 3) := by decide +kernel
theorem dX5_read_22 : decode cX5_read 22 = .ok (.iconst 0, 1) := by decide +kernel
theorem dX5_read_23 : decode cX5_read 23 = .ok (.istore_n 2, 1) := by decide +kernel
theorem dX5_read_24 : decode cX5_read 24 = .ok (.iload_n 2, 1) := by decide +kernel
theorem dX5_read_25 : decode cX5_read 25 = .ok (.aload_n 0, 1) := by decide +kernel
theorem dX5_read_26 : decode cX5_read 26 = .ok (.getfield 36, 3) := by decide +kernel
theorem dX5_read_29 : decode cX5_read 29 = .ok (.if_icmp .ge 20, 3) := by decide +kernel
theorem dX5_read_32 : decode cX5_read 32 = .ok (.aload_n 0, 1) := by decide +kernel
theorem dX5_read_33 : decode cX5_read 33 = .ok (.aload_n 1, 1) := by decide +kernel
theorem dX5_read_34 : decode cX5_read 34 = .ok (.aload_n 0, 1) := by decide +kernel
theorem dX5_read_35 : decode cX5_read 35 = .ok (.getfield 15, 3) := by decide +kernel
theorem dX5_read_38 : decode cX5_read 38 = .ok (.iload_n 2, 1) := by decide +kernel
theorem dX5_read_39 : decode cX5_read 39 = .ok (.iaload, 1) := by decide +kernel
theorem dX5_read_40 : decode cX5_read 40 = .ok (.invokevirtual 58, 3) := by decide +kernel
theorem dX5_read_43 : decode cX5_read 43 = .ok (.iinc 2 1, 3) := by decide +kernel
theorem dX5_read_46 : decode cX5_read 46 = .ok (.goto (-22), 3) := by decide +kernel
theorem dX5_read_49 : decode cX5_read 49 = .ok (.aload_n 0, 1) := by decide +kernel
theorem dX5_read_50 : decode cX5_read 50 = .ok (.getfield 36, 3) := by decide +kernel
theorem dX5_read_53 : decode cX5_read 53 = .ok (.iconst 1, 1) := by decide +kernel
theorem dX5_read_54 : decode cX5_read 54 = .ok (.isub, 1) := by decide +kernel
theorem dX5_read_55 : decode cX5_read 55 = .ok (.istore_n 2, 1) := by decide +kernel
theorem dX5_read_56 : decode cX5_read 56 = .ok (.iload_n 2, 1) := by decide +kernel
theorem dX5_read_57 : decode cX5_read 57 = .ok (.ifCond .lt 19, 3) := by decide +kernel
theorem dX5_read_60 : decode cX5_read 60 = .ok (.aload_n 0, 1) := by decide +kernel
theorem dX5_read_61 : decode cX5_read 61 = .ok (.aload_n 0, 1) := by decide +kernel
theorem dX5_read_62 : decode cX5_read 62 = .ok (.getfield 15, 3) := by decide +kernel
theorem dX5_read_65 : decode cX5_read 65 = .ok (.iload_n 2, 1) := by decide +kernel
theorem dX5_read_66 : decode cX5_read 66 = .ok (.iaload, 1) := by decide +kernel
theorem dX5_read_67 : decode cX5_read 67 = .ok (.invokevirtual 62, 3) := by decide +kernel
theorem dX5_read_70 : decode cX5_read 70 = .ok (.iinc 2 (-1), 3) := by decide +kernel
theorem dX5_read_73 : decode cX5_read 73 = .ok (.goto (-17), 3) := by decide +kernel
theorem dX5_read_76 : decode cX5_read 76 = .ok (.return_, 1) := by decide +kernel
theorem dX5_clear_0 : decode cX5_clear 0 = .ok (.aload_n 0, 1) := by decide +kernel
theorem dX5_clear_1 : decode cX5_clear 1 = .ok (.getfield 9, 3) := by decide +kernel
theorem dX5_clear_4 : decode cX5_clear 4 = .ok (.bipush (-9), 2) := by decide +kernel
theorem dX5_clear_6 : decode cX5_clear 6 = .ok (.invokestatic 66, 3) := by decide +kernel
theorem dX5_clear_9 : decode cX5_clear 9 = .ok (.aload_n 0, 1) := by decide +kernel
theorem dX5_clear_10 : decode cX5_clear 10 = .ok (.getfield 18, 3) := by decide +kernel
theorem dX5_clear_13 : decode cX5_clear 13 = .ok (.iconst 0, 1) := by decide +kernel
theorem dX5_clear_14 : decode cX5_clear 14 = .ok (.invokestatic 66, 3) := by decide +kernel
theorem dX5_clear_17 : decode cX5_clear 17 = .ok (.aload_n 0, 1) := by decide +kernel
theorem dX5_clear_18 : decode cX5_clear 18 = .ok (.getfield 21, 3) := by decide +kernel
theorem dX5_clear_21 : decode cX5_clear 21 = .ok (.iconst 0, 1) := by decide +kernel
theorem dX5_clear_22 : decode cX5_clear 22 = .ok (.invokestatic 66, 3) := by decide +kernel
theorem dX5_clear_25 : decode cX5_clear 25 = .ok (.aload_n 0, 1) := by decide +kernel
theorem dX5_clear_26 : decode cX5_clear 26 = .ok (.getfield 24, 3) := by decide +kernel
theorem dX5_clear_29 : decode cX5_clear 29 = .ok (.iconst 0, 1) := by decide +kernel
theorem dX5_clear_30 : decode cX5_clear 30 = .ok (.invokestatic 66, 3) := by decide +kernel
theorem dX5_clear_33 : decode cX5_clear 33 = .ok (.aload_n 0, 1) := by decide +kernel
theorem dX5_clear_34 : decode cX5_clear 34 = .ok (.getfield 27, 3) := by decide +kernel
theorem dX5_clear_37 : decode cX5_clear 37 = .ok (.iconst 0, 1) := by decide +kernel
theorem dX5_clear_38 : decode cX5_clear 38 = .ok (.invokestatic 66, 3) := by decide +kernel
theorem dX5_clear_41 : decode cX5_clear 41 = .ok (.aload_n 0, 1) := by decide +kernel
theorem dX5_clear_42 : decode cX5_clear 42 = .ok (.getfield 30, 3) := by decide +kernel
theorem dX5_clear_45 : decode cX5_clear 45 = .ok (.bipush (-9), 2) := by decide +kernel
theorem dX5_clear_47 : decode cX5_clear 47 = .ok (.invokestatic 66, 3) := by decide +kernel
theorem dX5_clear_50 : decode cX5_clear 50 = .ok (.aload_n 0, 1) := by decide +kernel
theorem dX5_clear_51 : decode cX5_clear 51 = .ok (.getfield 33, 3) := by decide +kernel
theorem dX5_clear_54 : decode cX5_clear 54 = .ok (.iconst 0, 1) := by decide +kernel
theorem dX5_clear_55 : decode cX5_clear 55 = .ok (.invokestatic 66, 3) := by decide +kernel
theorem dX5_clear_58 : decode cX5_clear 58 = .ok (.aload_n 0, 1) := by decide +kernel
theorem dX5_clear_59 : decode cX5_clear 59 = .ok (.iconst 0, 1) := by decide +kernel
theorem dX5_clear_60 : decode cX5_clear 60 = .ok (.putfield 36, 3) := by decide +kernel
theorem dX5_clear_63 : decode cX5_clear 63 = .ok (.aload_n 0, 1) := by decide +kernel
theorem dX5_clear_64 : decode cX5_clear 64 = .ok (.iconst 0, 1) := by decide +kernel
theorem dX5_clear_65 : decode cX5_clear 65 = .ok (.putfield 40, 3) := by decide +kernel
theorem dX5_clear_68 : decode cX5_clear 68 = .ok (.aload_n 0, 1) := by decide +kernel
theorem dX5_clear_69 : decode cX5_clear 69 = .ok (.iconst 0, 1) := by decide +kernel
theorem dX5_clear_70 : decode cX5_clear 70 = .ok (.putfield 43, 3) := by decide +kernel
theorem dX5_clear_73 : decode cX5_clear 73 = .ok (.return_, 1) := by decide +kernel
theorem dX5_visit_0 : decode cX5_visit 0 = .ok (.iload_n 3, 1) := by decide +kernel
theorem dX5_visit_1 : decode cX5_visit 1 = .ok (.bipush 12, 2) := by decide +kernel
theorem dX5_visit_3 : decode cX5_visit 3 = .ok (.if_icmp .ge 12, 3) := by decide +kernel
theorem dX5_visit_6 : decode cX5_visit 6 = .ok (.aload_n 0, 1) := by decide +kernel
theorem dX5_visit_7 : decode cX5_visit 7 = .ok (.getfield 36, 3) := by decide +kernel
theorem dX5_visit_10 : decode cX5_visit 10 = .ok (.bipush 12, 2) := by decide +kernel
theorem dX5_visit_12 : decode cX5_visit 12 = .ok (.if_icmp .lt 5, 3) := by decide +kernel
theorem dX5_visit_15 : decode cX5_visit 15 = .ok (.iconst 0, 1) := by decide +kernel
theorem dX5_visit_16 : decode cX5_visit 16 = .ok (.ireturn, 1) := by decide +kernel
theorem dX5_visit_17 : decode cX5_visit 17 = .ok (.aload_n 0, 1) := by decide +kernel
theorem dX5_visit_18 : decode cX5_visit 18 = .ok (.getfield 9, 3) := by decide +kernel
theorem dX5_visit_21 : decode cX5_visit 21 = .ok (.iload_n 2, 1) := by decide +kernel
theorem dX5_visit_22 : decode cX5_visit 22 = .ok (.aload_n 0, 1) := by decide +kernel
theorem dX5_visit_23 : decode cX5_visit 23 = .ok (.getfield 36, 3) := by decide +kernel
theorem dX5_visit_26 : decode cX5_visit 26 = .ok (.iastore, 1) := by decide +kernel
theorem dX5_visit_27 : decode cX5_visit 27 = .ok (.aload_n 0, 1) := by decide +kernel
theorem dX5_visit_28 : decode cX5_visit 28 = .ok (.getfield 15, 3) := by decide +kernel
theorem dX5_visit_31 : decode cX5_visit 31 = .ok (.aload_n 0, 1) := by decide +kernel
theorem dX5_visit_32 : decode cX5_visit 32 = .ok (.getfield 36, 3) := by decide +kernel
theorem dX5_visit_35 : decode cX5_visit 35 = .ok (.iload_n 2, 1) := by decide +kernel
theorem dX5_visit_36 : decode cX5_visit 36 = .ok (.iastore, 1) := by decide +kernel
theorem dX5_visit_37 : decode cX5_visit 37 = .ok (.aload_n 0, 1) := by decide +kernel
theorem dX5_visit_38 : decode cX5_visit 38 = .ok (.dup, 1) := by decide +kernel
theorem dX5_visit_39 : decode cX5_visit 39 = .ok (.getfield 36, 3) := by decide +kernel
theorem dX5_visit_42 : decode cX5_visit 42 = .ok (.iconst 1, 1) := by decide +kernel
theorem dX5_visit_43 : decode cX5_visit 43 = .ok (.iadd, 1) := by decide +kernel
theorem dX5_visit_44 : decode cX5_visit 44 = .ok (.putfield 36, 3) := by decide +kernel
theorem dX5_visit_47 : decode cX5_visit 47 = .ok (.iconst 1, 1) := by decide +kernel
theorem dX5_visit_48 : decode cX5_visit 48 = .ok (.iload_n 2, 1) := by decide +kernel
theorem dX5_visit_49 : decode cX5_visit 49 = .ok (.ishl, 1) := by decide +kernel
theorem dX5_visit_50 : decode cX5_visit 50 = .ok (.istore 4, 2) := by decide +kernel
theorem dX5_visit_52 : decode cX5_visit 52 = .ok (.iconst 0, 1) := by decide +kernel
theorem dX5_visit_53 : decode cX5_visit 53 = .ok (.istore 5, 2) := by decide +kernel
theorem dX5_visit_55 : decode cX5_visit 55 = .ok (.iload 5, 2) := by decide +kernel
theorem dX5_visit_57 : decode cX5_visit 57 = .ok (.aload_n 1, 1) := by decide +kernel
theorem dX5_visit_58 : decode cX5_visit 58 = .ok (.getfield 72, 3) := by decide +kernel
theorem dX5_visit_61 : decode cX5_visit 61 = .ok (.iload_n 2, 1) := by decide +kernel
theorem dX5_visit_62 : decode cX5_visit 62 = .ok (.iaload, 1) := by decide +kernel
theorem dX5_visit_63 : decode cX5_visit 63 = .ok (.if_icmp .ge 42, 3) := by decide +kernel
theorem dX5_visit_66 : decode cX5_visit 66 = .ok (.aload_n 1, 1) := by decide +kernel
theorem dX5_visit_67 : decode cX5_visit 67 = .ok (.iload_n 2, 1) := by decide +kernel
theorem dX5_visit_68 : decode cX5_visit 68 = .ok (.iload 5, 2) := by decide +kernel
theorem dX5_visit_70 : decode cX5_visit 70 = .ok (.invokevirtual 75, 3) := by decide +kernel
theorem dX5_visit_73 : decode cX5_visit 73 = .ok (.istore 6, 2) := by decide +kernel
theorem dX5_visit_75 : decode cX5_visit 75 = .ok (.aload_n 0, 1) := by decide +kernel
theorem dX5_visit_76 : decode cX5_visit 76 = .ok (.iload 6, 2) := by decide +kernel
theorem dX5_visit_78 : decode cX5_visit 78 = .ok (.invokevirtual 79, 3) := by decide +kernel
theorem dX5_visit_81 : decode cX5_visit 81 = .ok (.ifCond .ne 18, 3) := by decide +kernel
theorem dX5_visit_84 : decode cX5_visit 84 = .ok (.iload 4, 2) := by decide +kernel
theorem dX5_visit_86 : decode cX5_visit 86 = .ok (.aload_n 0, 1) := by decide +kernel
theorem dX5_visit_87 : decode cX5_visit 87 = .ok (.aload_n 1, 1) := by decide +kernel
theorem dX5_visit_88 : decode cX5_visit 88 = .ok (.iload 6, 2) := by decide +kernel
theorem dX5_visit_90 : decode cX5_visit 90 = .ok (.iload_n 3, 1) := by decide +kernel
theorem dX5_visit_91 : decode cX5_visit 91 = .ok (.iconst 1, 1) := by decide +kernel
theorem dX5_visit_92 : decode cX5_visit 92 = .ok (.iadd, 1) := by decide +kernel
theorem dX5_visit_93 : decode cX5_visit 93 = .ok (.invokestatic 54, 3) := by decide +kernel
theorem dX5_visit_96 : decode cX5_visit 96 = .ok (.ior, 1) := by decide +kernel
theorem dX5_visit_97 : decode cX5_visit 97 = .ok (.istore 4, 2) := by decide +kernel
theorem dX5_visit_99 : decode cX5_visit 99 = .ok (.iinc 5 1, 3) := by decide +kernel
theorem dX5_visit_102 : decode cX5_visit 102 = .ok (.goto (-47), 3) := by decide +kernel
theorem dX5_visit_105 : decode cX5_visit 105 = .ok (.aload_n 0, 1) := by decide +kernel
theorem dX5_visit_106 : decode cX5_visit 106 = .ok (.getfield 18, 3) := by decide +kernel
theorem dX5_visit_109 : decode cX5_visit 109 = .ok (.iload_n 2, 1) := by decide +kernel
theorem dX5_visit_110 : decode cX5_visit 110 = .ok (.iload 4, 2) := by decide +kernel
theorem dX5_visit_112 : decode cX5_visit 112 = .ok (.iastore, 1) := by decide +kernel
theorem dX5_visit_113 : decode cX5_visit 113 = .ok (.iload 4, 2) := by decide +kernel
theorem dX5_visit_115 : decode cX5_visit 115 = .ok (.ireturn, 1) := by decide +kernel
theorem dX5_sortArcs_0 : decode cX5_sortArcs 0 = .ok (.iconst 0, 1) := by decide +kernel
theorem dX5_sortArcs_1 : decode cX5_sortArcs 1 = .ok (.istore_n 3, 1) := by decide +kernel
theorem dX5_sortArcs_2 : decode cX5_sortArcs 2 = .ok (.iload_n 3, 1) := by decide +kernel
theorem dX5_sortArcs_3 : decode cX5_sortArcs 3 = .ok (.aload_n 1, 1) := by decide +kernel
theorem dX5_sortArcs_4 : decode cX5_sortArcs 4 = .ok (.getfield 72, 3) := by decide +kernel
theorem dX5_sortArcs_7 : decode cX5_sortArcs 7 = .ok (.iload_n 2, 1) := by decide +kernel
theorem dX5_sortArcs_8 : decode cX5_sortArcs 8 = .ok (.iaload, 1) := by decide +kernel
theorem dX5_sortArcs_9 : decode cX5_sortArcs 9 = .ok (.if_icmp .ge 83, 3) := by decide +kernel
theorem dX5_sortArcs_12 : decode cX5_sortArcs 12 = .ok (.aload_n 1, 1) := by decide +kernel
theorem dX5_sortArcs_13 : decode cX5_sortArcs 13 = .ok (.iload_n 2, 1) := by decide +kernel
theorem dX5_sortArcs_14 : decode cX5_sortArcs 14 = .ok (.iload_n 3, 1) := by decide +kernel
theorem dX5_sortArcs_15 : decode cX5_sortArcs 15 = .ok (.invokevirtual 75, 3) := by decide +kernel
theorem dX5_sortArcs_18 : decode cX5_sortArcs 18 = .ok (.istore 4, 2) := by decide +kernel
theorem dX5_sortArcs_20 : decode cX5_sortArcs 20 = .ok (.aload_n 0, 1) := by decide +kernel
theorem dX5_sortArcs_21 : decode cX5_sortArcs 21 = .ok (.getfield 21, 3) := by decide +kernel
theorem dX5_sortArcs_24 : decode cX5_sortArcs 24 = .ok (.iload_n 2, 1) := by decide +kernel
theorem dX5_sortArcs_25 : decode cX5_sortArcs 25 = .ok (.dup2, 1) := by decide +kernel
theorem dX5_sortArcs_26 : decode cX5_sortArcs 26 = .ok (.iaload, 1) := by decide +kernel
theorem dX5_sortArcs_27 : decode cX5_sortArcs 27 = .ok (.iconst 1, 1) := by decide +kernel
theorem dX5_sortArcs_28 : decode cX5_sortArcs 28 = .ok (.iload 4, 2) := by decide +kernel
theorem dX5_sortArcs_30 : decode cX5_sortArcs 30 = .ok (.ishl, 1) := by decide +kernel
theorem dX5_sortArcs_31 : decode cX5_sortArcs 31 = .ok (.ior, 1) := by decide +kernel
theorem dX5_sortArcs_32 : decode cX5_sortArcs 32 = .ok (.iastore, 1) := by decide +kernel
theorem dX5_sortArcs_33 : decode cX5_sortArcs 33 = .ok (.aload_n 0, 1) := by decide +kernel
theorem dX5_sortArcs_34 : decode cX5_sortArcs 34 = .ok (.getfield 18, 3) := by decide +kernel
theorem dX5_sortArcs_37 : decode cX5_sortArcs 37 = .ok (.iload 4, 2) := by decide +kernel
theorem dX5_sortArcs_39 : decode cX5_sortArcs 39 = .ok (.iaload, 1) := by decide +kernel
theorem dX5_sortArcs_40 : decode cX5_sortArcs 40 = .ok (.iload_n 2, 1) := by decide +kernel
theorem dX5_sortArcs_41 : decode cX5_sortArcs 41 = .ok (.ishr, 1) := by decide +kernel
theorem dX5_sortArcs_42 : decode cX5_sortArcs 42 = .ok (.iconst 1, 1) := by decide +kernel
theorem dX5_sortArcs_43 : decode cX5_sortArcs 43 = .ok (.iand, 1) := by decide +kernel
theorem dX5_sortArcs_44 : decode cX5_sortArcs 44 = .ok (.ifCond .eq 29, 3) := by decide +kernel
theorem dX5_sortArcs_47 : decode cX5_sortArcs 47 = .ok (.aload_n 0, 1) := by decide +kernel
theorem dX5_sortArcs_48 : decode cX5_sortArcs 48 = .ok (.getfield 24, 3) := by decide +kernel
theorem dX5_sortArcs_51 : decode cX5_sortArcs 51 = .ok (.iload 4, 2) := by decide +kernel
theorem dX5_sortArcs_53 : decode cX5_sortArcs 53 = .ok (.dup2, 1) := by decide +kernel
theorem dX5_sortArcs_54 : decode cX5_sortArcs 54 = .ok (.iaload, 1) := by decide +kernel
theorem dX5_sortArcs_55 : decode cX5_sortArcs 55 = .ok (.iconst 1, 1) := by decide +kernel
theorem dX5_sortArcs_56 : decode cX5_sortArcs 56 = .ok (.iload_n 2, 1) := by decide +kernel
theorem dX5_sortArcs_57 : decode cX5_sortArcs 57 = .ok (.ishl, 1) := by decide +kernel
theorem dX5_sortArcs_58 : decode cX5_sortArcs 58 = .ok (.ior, 1) := by decide +kernel
theorem dX5_sortArcs_59 : decode cX5_sortArcs 59 = .ok (.iastore, 1) := by decide +kernel
theorem dX5_sortArcs_60 : decode cX5_sortArcs 60 = .ok (.aload_n 0, 1) := by decide +kernel
theorem dX5_sortArcs_61 : decode cX5_sortArcs 61 = .ok (.dup, 1) := by decide +kernel
theorem dX5_sortArcs_62 : decode cX5_sortArcs 62 = .ok (.getfield 43, 3) := by decide +kernel
theorem dX5_sortArcs_65 : decode cX5_sortArcs 65 = .ok (.iconst 1, 1) := by decide +kernel
theorem dX5_sortArcs_66 : decode cX5_sortArcs 66 = .ok (.iadd, 1) := by decide +kernel
theorem dX5_sortArcs_67 : decode cX5_sortArcs 67 = .ok (.putfield 43, 3) := by decide +kernel
theorem dX5_sortArcs_70 : decode cX5_sortArcs 70 = .ok (.goto 16, 3) := by decide +kernel
theorem dX5_sortArcs_73 : decode cX5_sortArcs 73 = .ok (.aload_n 0, 1) := by decide +kernel
theorem dX5_sortArcs_74 : decode cX5_sortArcs 74 = .ok (.getfield 27, 3) := by decide +kernel
theorem dX5_sortArcs_77 : decode cX5_sortArcs 77 = .ok (.iload 4, 2) := by decide +kernel
theorem dX5_sortArcs_79 : decode cX5_sortArcs 79 = .ok (.dup2, 1) := by decide +kernel
theorem dX5_sortArcs_80 : decode cX5_sortArcs 80 = .ok (.iaload, 1) := by decide +kernel
theorem dX5_sortArcs_81 : decode cX5_sortArcs 81 = .ok (.iconst 1, 1) := by decide +kernel
theorem dX5_sortArcs_82 : decode cX5_sortArcs 82 = .ok (.iload_n 2, 1) := by decide +kernel
theorem dX5_sortArcs_83 : decode cX5_sortArcs 83 = .ok (.ishl, 1) := by decide +kernel
theorem dX5_sortArcs_84 : decode cX5_sortArcs 84 = .ok (.ior, 1) := by decide +kernel
theorem dX5_sortArcs_85 : decode cX5_sortArcs 85 = .ok (.iastore, 1) := by decide +kernel
theorem dX5_sortArcs_86 : decode cX5_sortArcs 86 = .ok (.iinc 3 1, 3) := by decide +kernel
theorem dX5_sortArcs_89 : decode cX5_sortArcs 89 = .ok (.goto (-87), 3) := by decide +kernel
theorem dX5_sortArcs_92 : decode cX5_sortArcs 92 = .ok (.return_, 1) := by decide +kernel
theorem dX5_gather_0 : decode cX5_gather 0 = .ok (.aload_n 0, 1) := by decide +kernel
theorem dX5_gather_1 : decode cX5_gather 1 = .ok (.getfield 24, 3) := by decide +kernel
theorem dX5_gather_4 : decode cX5_gather 4 = .ok (.iload_n 1, 1) := by decide +kernel
theorem dX5_gather_5 : decode cX5_gather 5 = .ok (.iaload, 1) := by decide +kernel
theorem dX5_gather_6 : decode cX5_gather 6 = .ok (.ifCond .ne 4, 3) := by decide +kernel
theorem dX5_gather_9 : decode cX5_gather 9 = .ok (.return_, 1) := by decide +kernel
theorem dX5_gather_10 : decode cX5_gather 10 = .ok (.aload_n 0, 1) := by decide +kernel
theorem dX5_gather_11 : decode cX5_gather 11 = .ok (.aload_n 0, 1) := by decide +kernel
theorem dX5_gather_12 : decode cX5_gather 12 = .ok (.getfield 24, 3) := by decide +kernel
theorem dX5_gather_15 : decode cX5_gather 15 = .ok (.iload_n 1, 1) := by decide +kernel
theorem dX5_gather_16 : decode cX5_gather 16 = .ok (.iaload, 1) := by decide +kernel
theorem dX5_gather_17 : decode cX5_gather 17 = .ok (.invokevirtual 83, 3) := by decide +kernel
theorem dX5_gather_20 : decode cX5_gather 20 = .ok (.iconst 1, 1) := by decide +kernel
theorem dX5_gather_21 : decode cX5_gather 21 = .ok (.iload_n 1, 1) := by decide +kernel
theorem dX5_gather_22 : decode cX5_gather 22 = .ok (.ishl, 1) := by decide +kernel
theorem dX5_gather_23 : decode cX5_gather 23 = .ok (.iconst (-1), 1) := by decide +kernel
theorem dX5_gather_24 : decode cX5_gather 24 = .ok (.ixor, 1) := by decide +kernel
theorem dX5_gather_25 : decode cX5_gather 25 = .ok (.iand, 1) := by decide +kernel
theorem dX5_gather_26 : decode cX5_gather 26 = .ok (.istore_n 2, 1) := by decide +kernel
theorem dX5_gather_27 : decode cX5_gather 27 = .ok (.iconst 0, 1) := by decide +kernel
theorem dX5_gather_28 : decode cX5_gather 28 = .ok (.istore_n 3, 1) := by decide +kernel
theorem dX5_gather_29 : decode cX5_gather 29 = .ok (.aload_n 0, 1) := by decide +kernel
theorem dX5_gather_30 : decode cX5_gather 30 = .ok (.getfield 33, 3) := by decide +kernel
theorem dX5_gather_33 : decode cX5_gather 33 = .ok (.iload_n 1, 1) := by decide +kernel
theorem dX5_gather_34 : decode cX5_gather 34 = .ok (.iload_n 2, 1) := by decide +kernel
theorem dX5_gather_35 : decode cX5_gather 35 = .ok (.ifCond .ne 7, 3) := by decide +kernel
theorem dX5_gather_38 : decode cX5_gather 38 = .ok (.iconst 1, 1) := by decide +kernel
theorem dX5_gather_39 : decode cX5_gather 39 = .ok (.goto 4, 3) := by decide +kernel
theorem dX5_gather_42 : decode cX5_gather 42 = .ok (.iconst 2, 1) := by decide +kernel
theorem dX5_gather_43 : decode cX5_gather 43 = .ok (.iastore, 1) := by decide +kernel
theorem dX5_gather_44 : decode cX5_gather 44 = .ok (.iconst 0, 1) := by decide +kernel
theorem dX5_gather_45 : decode cX5_gather 45 = .ok (.istore 4, 2) := by decide +kernel
theorem dX5_gather_47 : decode cX5_gather 47 = .ok (.iload 4, 2) := by decide +kernel
theorem dX5_gather_49 : decode cX5_gather 49 = .ok (.bipush 12, 2) := by decide +kernel
theorem dX5_gather_51 : decode cX5_gather 51 = .ok (.if_icmp .ge 101, 3) := by decide +kernel
theorem dX5_gather_54 : decode cX5_gather 54 = .ok (.iload_n 2, 1) := by decide +kernel
theorem dX5_gather_55 : decode cX5_gather 55 = .ok (.iload_n 3, 1) := by decide +kernel
theorem dX5_gather_56 : decode cX5_gather 56 = .ok (.iconst (-1), 1) := by decide +kernel
theorem dX5_gather_57 : decode cX5_gather 57 = .ok (.ixor, 1) := by decide +kernel
theorem dX5_gather_58 : decode cX5_gather 58 = .ok (.iand, 1) := by decide +kernel
theorem dX5_gather_59 : decode cX5_gather 59 = .ok (.ifCond .eq 93, 3) := by decide +kernel
theorem dX5_gather_62 : decode cX5_gather 62 = .ok (.iload_n 2, 1) := by decide +kernel
theorem dX5_gather_63 : decode cX5_gather 63 = .ok (.iload_n 3, 1) := by decide +kernel
theorem dX5_gather_64 : decode cX5_gather 64 = .ok (.iconst (-1), 1) := by decide +kernel
theorem dX5_gather_65 : decode cX5_gather 65 = .ok (.ixor, 1) := by decide +kernel
theorem dX5_gather_66 : decode cX5_gather 66 = .ok (.iand, 1) := by decide +kernel
theorem dX5_gather_67 : decode cX5_gather 67 = .ok (.invokestatic 87, 3) := by decide +kernel
theorem dX5_gather_70 : decode cX5_gather 70 = .ok (.istore 5, 2) := by decide +kernel
theorem dX5_gather_72 : decode cX5_gather 72 = .ok (.iload_n 3, 1) := by decide +kernel
theorem dX5_gather_73 : decode cX5_gather 73 = .ok (.iconst 1, 1) := by decide +kernel
theorem dX5_gather_74 : decode cX5_gather 74 = .ok (.iload 5, 2) := by decide +kernel
theorem dX5_gather_76 : decode cX5_gather 76 = .ok (.ishl, 1) := by decide +kernel
theorem dX5_gather_77 : decode cX5_gather 77 = .ok (.ior, 1) := by decide +kernel
theorem dX5_gather_78 : decode cX5_gather 78 = .ok (.istore_n 3, 1) := by decide +kernel
theorem dX5_gather_79 : decode cX5_gather 79 = .ok (.aload_n 0, 1) := by decide +kernel
theorem dX5_gather_80 : decode cX5_gather 80 = .ok (.aload_n 0, 1) := by decide +kernel
theorem dX5_gather_81 : decode cX5_gather 81 = .ok (.getfield 27, 3) := by decide +kernel
theorem dX5_gather_84 : decode cX5_gather 84 = .ok (.iload 5, 2) := by decide +kernel
theorem dX5_gather_86 : decode cX5_gather 86 = .ok (.iaload, 1) := by decide +kernel
theorem dX5_gather_87 : decode cX5_gather 87 = .ok (.invokevirtual 83, 3) := by decide +kernel
theorem dX5_gather_90 : decode cX5_gather 90 = .ok (.istore 6, 2) := by decide +kernel
theorem dX5_gather_92 : decode cX5_gather 92 = .ok (.iload_n 2, 1) := by decide +kernel
theorem dX5_gather_93 : decode cX5_gather 93 = .ok (.iload 6, 2) := by decide +kernel
theorem dX5_gather_95 : decode cX5_gather 95 = .ok (.aload_n 0, 1) := by decide +kernel
theorem dX5_gather_96 : decode cX5_gather 96 = .ok (.getfield 18, 3) := by decide +kernel
theorem dX5_gather_99 : decode cX5_gather 99 = .ok (.iload_n 1, 1) := by decide +kernel
theorem dX5_gather_100 : decode cX5_gather 100 = .ok (.iaload, 1) := by decide +kernel
theorem dX5_gather_101 : decode cX5_gather 101 = .ok (.iand, 1) := by decide +kernel
theorem dX5_gather_102 : decode cX5_gather 102 = .ok (.iconst 1, 1) := by decide +kernel
theorem dX5_gather_103 : decode cX5_gather 103 = .ok (.iload_n 1, 1) := by decide +kernel
theorem dX5_gather_104 : decode cX5_gather 104 = .ok (.ishl, 1) := by decide +kernel
theorem dX5_gather_105 : decode cX5_gather 105 = .ok (.iconst (-1), 1) := by decide +kernel
theorem dX5_gather_106 : decode cX5_gather 106 = .ok (.ixor, 1) := by decide +kernel
theorem dX5_gather_107 : decode cX5_gather 107 = .ok (.iand, 1) := by decide +kernel
theorem dX5_gather_108 : decode cX5_gather 108 = .ok (.ior, 1) := by decide +kernel
theorem dX5_gather_109 : decode cX5_gather 109 = .ok (.istore_n 2, 1) := by decide +kernel
theorem dX5_gather_110 : decode cX5_gather 110 = .ok (.iload 6, 2) := by decide +kernel
theorem dX5_gather_112 : decode cX5_gather 112 = .ok (.aload_n 0, 1) := by decide +kernel
theorem dX5_gather_113 : decode cX5_gather 113 = .ok (.getfield 18, 3) := by decide +kernel
theorem dX5_gather_116 : decode cX5_gather 116 = .ok (.iload_n 1, 1) := by decide +kernel
theorem dX5_gather_117 : decode cX5_gather 117 = .ok (.iaload, 1) := by decide +kernel
theorem dX5_gather_118 : decode cX5_gather 118 = .ok (.iconst (-1), 1) := by decide +kernel
theorem dX5_gather_119 : decode cX5_gather 119 = .ok (.ixor, 1) := by decide +kernel
theorem dX5_gather_120 : decode cX5_gather 120 = .ok (.iand, 1) := by decide +kernel
theorem dX5_gather_121 : decode cX5_gather 121 = .ok (.istore 7, 2) := by decide +kernel
theorem dX5_gather_123 : decode cX5_gather 123 = .ok (.iload 7, 2) := by decide +kernel
theorem dX5_gather_125 : decode cX5_gather 125 = .ok (.ifCond .eq 21, 3) := by decide +kernel
theorem dX5_gather_128 : decode cX5_gather 128 = .ok (.aload_n 0, 1) := by decide +kernel
theorem dX5_gather_129 : decode cX5_gather 129 = .ok (.getfield 27, 3) := by decide +kernel
theorem dX5_gather_132 : decode cX5_gather 132 = .ok (.iload_n 1, 1) := by decide +kernel
theorem dX5_gather_133 : decode cX5_gather 133 = .ok (.dup2, 1) := by decide +kernel
theorem dX5_gather_134 : decode cX5_gather 134 = .ok (.iaload, 1) := by decide +kernel
theorem dX5_gather_135 : decode cX5_gather 135 = .ok (.iload 7, 2) := by decide +kernel
theorem dX5_gather_137 : decode cX5_gather 137 = .ok (.ior, 1) := by decide +kernel
theorem dX5_gather_138 : decode cX5_gather 138 = .ok (.iastore, 1) := by decide +kernel
theorem dX5_gather_139 : decode cX5_gather 139 = .ok (.aload_n 0, 1) := by decide +kernel
theorem dX5_gather_140 : decode cX5_gather 140 = .ok (.getfield 33, 3) := by decide +kernel
theorem dX5_gather_143 : decode cX5_gather 143 = .ok (.iload_n 1, 1) := by decide +kernel
theorem dX5_gather_144 : decode cX5_gather 144 = .ok (.iconst 3, 1) := by decide +kernel
theorem dX5_gather_145 : decode cX5_gather 145 = .ok (.iastore, 1) := by decide +kernel
theorem dX5_gather_146 : decode cX5_gather 146 = .ok (.iinc 4 1, 3) := by decide +kernel
theorem dX5_gather_149 : decode cX5_gather 149 = .ok (.goto (-102), 3) := by decide +kernel
theorem dX5_gather_152 : decode cX5_gather 152 = .ok (.iconst 0, 1) := by decide +kernel
theorem dX5_gather_153 : decode cX5_gather 153 = .ok (.istore 4, 2) := by decide +kernel
theorem dX5_gather_155 : decode cX5_gather 155 = .ok (.iload 4, 2) := by decide +kernel
theorem dX5_gather_157 : decode cX5_gather 157 = .ok (.bipush 12, 2) := by decide +kernel
theorem dX5_gather_159 : decode cX5_gather 159 = .ok (.if_icmp .ge 26, 3) := by decide +kernel
theorem dX5_gather_162 : decode cX5_gather 162 = .ok (.iload_n 2, 1) := by decide +kernel
theorem dX5_gather_163 : decode cX5_gather 163 = .ok (.iload 4, 2) := by decide +kernel
theorem dX5_gather_165 : decode cX5_gather 165 = .ok (.ishr, 1) := by decide +kernel
theorem dX5_gather_166 : decode cX5_gather 166 = .ok (.iconst 1, 1) := by decide +kernel
theorem dX5_gather_167 : decode cX5_gather 167 = .ok (.iand, 1) := by decide +kernel
theorem dX5_gather_168 : decode cX5_gather 168 = .ok (.ifCond .eq 11, 3) := by decide +kernel
theorem dX5_gather_171 : decode cX5_gather 171 = .ok (.aload_n 0, 1) := by decide +kernel
theorem dX5_gather_172 : decode cX5_gather 172 = .ok (.getfield 30, 3) := by decide +kernel
theorem dX5_gather_175 : decode cX5_gather 175 = .ok (.iload 4, 2) := by decide +kernel
theorem dX5_gather_177 : decode cX5_gather 177 = .ok (.iload_n 1, 1) := by decide +kernel
theorem dX5_gather_178 : decode cX5_gather 178 = .ok (.iastore, 1) := by decide +kernel
theorem dX5_gather_179 : decode cX5_gather 179 = .ok (.iinc 4 1, 3) := by decide +kernel
theorem dX5_gather_182 : decode cX5_gather 182 = .ok (.goto (-27), 3) := by decide +kernel
theorem dX5_gather_185 : decode cX5_gather 185 = .ok (.return_, 1) := by decide +kernel
theorem dX5_leadersOf_0 : decode cX5_leadersOf 0 = .ok (.iconst 0, 1) := by decide +kernel
theorem dX5_leadersOf_1 : decode cX5_leadersOf 1 = .ok (.istore_n 2, 1) := by decide +kernel
theorem dX5_leadersOf_2 : decode cX5_leadersOf 2 = .ok (.iconst 0, 1) := by decide +kernel
theorem dX5_leadersOf_3 : decode cX5_leadersOf 3 = .ok (.istore_n 3, 1) := by decide +kernel
theorem dX5_leadersOf_4 : decode cX5_leadersOf 4 = .ok (.iload_n 3, 1) := by decide +kernel
theorem dX5_leadersOf_5 : decode cX5_leadersOf 5 = .ok (.bipush 12, 2) := by decide +kernel
theorem dX5_leadersOf_7 : decode cX5_leadersOf 7 = .ok (.if_icmp .ge 27, 3) := by decide +kernel
theorem dX5_leadersOf_10 : decode cX5_leadersOf 10 = .ok (.iload_n 1, 1) := by decide +kernel
theorem dX5_leadersOf_11 : decode cX5_leadersOf 11 = .ok (.iload_n 3, 1) := by decide +kernel
theorem dX5_leadersOf_12 : decode cX5_leadersOf 12 = .ok (.ishr, 1) := by decide +kernel
theorem dX5_leadersOf_13 : decode cX5_leadersOf 13 = .ok (.iconst 1, 1) := by decide +kernel
theorem dX5_leadersOf_14 : decode cX5_leadersOf 14 = .ok (.iand, 1) := by decide +kernel
theorem dX5_leadersOf_15 : decode cX5_leadersOf 15 = .ok (.ifCond .eq 13, 3) := by decide +kernel
theorem dX5_leadersOf_18 : decode cX5_leadersOf 18 = .ok (.iload_n 2, 1) := by decide +kernel
theorem dX5_leadersOf_19 : decode cX5_leadersOf 19 = .ok (.iconst 1, 1) := by decide +kernel
theorem dX5_leadersOf_20 : decode cX5_leadersOf 20 = .ok (.aload_n 0, 1) := by decide +kernel
theorem dX5_leadersOf_21 : decode cX5_leadersOf 21 = .ok (.iload_n 3, 1) := by decide +kernel
theorem dX5_leadersOf_22 : decode cX5_leadersOf 22 = .ok (.invokevirtual 92, 3) := by decide +kernel
theorem dX5_leadersOf_25 : decode cX5_leadersOf 25 = .ok (.ishl, 1) := by decide +kernel
theorem dX5_leadersOf_26 : decode cX5_leadersOf 26 = .ok (.ior, 1) := by decide +kernel
theorem dX5_leadersOf_27 : decode cX5_leadersOf 27 = .ok (.istore_n 2, 1) := by decide +kernel
theorem dX5_leadersOf_28 : decode cX5_leadersOf 28 = .ok (.iinc 3 1, 3) := by decide +kernel
theorem dX5_leadersOf_31 : decode cX5_leadersOf 31 = .ok (.goto (-27), 3) := by decide +kernel
theorem dX5_leadersOf_34 : decode cX5_leadersOf 34 = .ok (.iload_n 2, 1) := by decide +kernel
theorem dX5_leadersOf_35 : decode cX5_leadersOf 35 = .ok (.ireturn, 1) := by decide +kernel
theorem dX5_leaderOf_0 : decode cX5_leaderOf 0 = .ok (.iload_n 1, 1) := by decide +kernel
theorem dX5_leaderOf_1 : decode cX5_leaderOf 1 = .ok (.istore_n 2, 1) := by decide +kernel
theorem dX5_leaderOf_2 : decode cX5_leaderOf 2 = .ok (.iconst 0, 1) := by decide +kernel
theorem dX5_leaderOf_3 : decode cX5_leaderOf 3 = .ok (.istore_n 3, 1) := by decide +kernel
theorem dX5_leaderOf_4 : decode cX5_leaderOf 4 = .ok (.iload_n 3, 1) := by decide +kernel
theorem dX5_leaderOf_5 : decode cX5_leaderOf 5 = .ok (.bipush 12, 2) := by decide +kernel
theorem dX5_leaderOf_7 : decode cX5_leaderOf 7 = .ok (.if_icmp .ge 27, 3) := by decide +kernel
theorem dX5_leaderOf_10 : decode cX5_leaderOf 10 = .ok (.aload_n 0, 1) := by decide +kernel
theorem dX5_leaderOf_11 : decode cX5_leaderOf 11 = .ok (.getfield 30, 3) := by decide +kernel
theorem dX5_leaderOf_14 : decode cX5_leaderOf 14 = .ok (.iload_n 2, 1) := by decide +kernel
theorem dX5_leaderOf_15 : decode cX5_leaderOf 15 = .ok (.iaload, 1) := by decide +kernel
theorem dX5_leaderOf_16 : decode cX5_leaderOf 16 = .ok (.bipush (-9), 2) := by decide +kernel
theorem dX5_leaderOf_18 : decode cX5_leaderOf 18 = .ok (.if_icmp .eq 16, 3) := by decide +kernel
theorem dX5_leaderOf_21 : decode cX5_leaderOf 21 = .ok (.aload_n 0, 1) := by decide +kernel
theorem dX5_leaderOf_22 : decode cX5_leaderOf 22 = .ok (.getfield 30, 3) := by decide +kernel
theorem dX5_leaderOf_25 : decode cX5_leaderOf 25 = .ok (.iload_n 2, 1) := by decide +kernel
theorem dX5_leaderOf_26 : decode cX5_leaderOf 26 = .ok (.iaload, 1) := by decide +kernel
theorem dX5_leaderOf_27 : decode cX5_leaderOf 27 = .ok (.istore_n 2, 1) := by decide +kernel
theorem dX5_leaderOf_28 : decode cX5_leaderOf 28 = .ok (.iinc 3 1, 3) := by decide +kernel
theorem dX5_leaderOf_31 : decode cX5_leaderOf 31 = .ok (.goto (-27), 3) := by decide +kernel
theorem dX5_leaderOf_34 : decode cX5_leaderOf 34 = .ok (.iload_n 2, 1) := by decide +kernel
theorem dX5_leaderOf_35 : decode cX5_leaderOf 35 = .ok (.ireturn, 1) := by decide +kernel
theorem dX5_hasOrder_0 : decode cX5_hasOrder 0 = .ok (.aload_n 0, 1) := by decide +kernel
theorem dX5_hasOrder_1 : decode cX5_hasOrder 1 = .ok (.getfield 9, 3) := by decide +kernel
theorem dX5_hasOrder_4 : decode cX5_hasOrder 4 = .ok (.iload_n 1, 1) := by decide +kernel
theorem dX5_hasOrder_5 : decode cX5_hasOrder 5 = .ok (.iaload, 1) := by decide +kernel
theorem dX5_hasOrder_6 : decode cX5_hasOrder 6 = .ok (.bipush (-9), 2) := by decide +kernel
theorem dX5_hasOrder_8 : decode cX5_hasOrder 8 = .ok (.if_icmp .eq 7, 3) := by decide +kernel
theorem dX5_hasOrder_11 : decode cX5_hasOrder 11 = .ok (.iconst 1, 1) := by decide +kernel
theorem dX5_hasOrder_12 : decode cX5_hasOrder 12 = .ok (.goto 4, 3) := by decide +kernel
theorem dX5_hasOrder_15 : decode cX5_hasOrder 15 = .ok (.iconst 0, 1) := by decide +kernel
theorem dX5_hasOrder_16 : decode cX5_hasOrder 16 = .ok (.ireturn, 1) := by decide +kernel
theorem dX5_countLoops_0 : decode cX5_countLoops 0 = .ok (.iconst 0, 1) := by decide +kernel
theorem dX5_countLoops_1 : decode cX5_countLoops 1 = .ok (.istore_n 1, 1) := by decide +kernel
theorem dX5_countLoops_2 : decode cX5_countLoops 2 = .ok (.iconst 0, 1) := by decide +kernel
theorem dX5_countLoops_3 : decode cX5_countLoops 3 = .ok (.istore_n 2, 1) := by decide +kernel
theorem dX5_countLoops_4 : decode cX5_countLoops 4 = .ok (.iload_n 2, 1) := by decide +kernel
theorem dX5_countLoops_5 : decode cX5_countLoops 5 = .ok (.bipush 12, 2) := by decide +kernel
theorem dX5_countLoops_7 : decode cX5_countLoops 7 = .ok (.if_icmp .ge 26, 3) := by decide +kernel
theorem dX5_countLoops_10 : decode cX5_countLoops 10 = .ok (.iload_n 1, 1) := by decide +kernel
theorem dX5_countLoops_11 : decode cX5_countLoops 11 = .ok (.aload_n 0, 1) := by decide +kernel
theorem dX5_countLoops_12 : decode cX5_countLoops 12 = .ok (.getfield 33, 3) := by decide +kernel
theorem dX5_countLoops_15 : decode cX5_countLoops 15 = .ok (.iload_n 2, 1) := by decide +kernel
theorem dX5_countLoops_16 : decode cX5_countLoops 16 = .ok (.iaload, 1) := by decide +kernel
theorem dX5_countLoops_17 : decode cX5_countLoops 17 = .ok (.ifCond .ne 7, 3) := by decide +kernel
theorem dX5_countLoops_20 : decode cX5_countLoops 20 = .ok (.iconst 0, 1) := by decide +kernel
theorem dX5_countLoops_21 : decode cX5_countLoops 21 = .ok (.goto 4, 3) := by decide +kernel
theorem dX5_countLoops_24 : decode cX5_countLoops 24 = .ok (.iconst 1, 1) := by decide +kernel
theorem dX5_countLoops_25 : decode cX5_countLoops 25 = .ok (.iadd, 1) := by decide +kernel
theorem dX5_countLoops_26 : decode cX5_countLoops 26 = .ok (.istore_n 1, 1) := by decide +kernel
theorem dX5_countLoops_27 : decode cX5_countLoops 27 = .ok (.iinc 2 1, 3) := by decide +kernel
theorem dX5_countLoops_30 : decode cX5_countLoops 30 = .ok (.goto (-26), 3) := by decide +kernel
theorem dX5_countLoops_33 : decode cX5_countLoops 33 = .ok (.iload_n 1, 1) := by decide +kernel
theorem dX5_countLoops_34 : decode cX5_countLoops 34 = .ok (.ireturn, 1) := by decide +kernel
theorem dX5_countManyEntered_0 : decode cX5_countManyEntered 0 = .ok (.iconst 0, 1) := by decide +kernel
theorem dX5_countManyEntered_1 : decode cX5_countManyEntered 1 = .ok (.istore_n 1, 1) := by decide +kernel
theorem dX5_countManyEntered_2 : decode cX5_countManyEntered 2 = .ok (.iconst 0, 1) := by decide +kernel
theorem dX5_countManyEntered_3 : decode cX5_countManyEntered 3 = .ok (.istore_n 2, 1) := by decide +kernel
theorem dX5_countManyEntered_4 : decode cX5_countManyEntered 4 = .ok (.iload_n 2, 1) := by decide +kernel
theorem dX5_countManyEntered_5 : decode cX5_countManyEntered 5 = .ok (.bipush 12, 2) := by decide +kernel
theorem dX5_countManyEntered_7 : decode cX5_countManyEntered 7 = .ok (.if_icmp .ge 27, 3) := by decide +kernel
theorem dX5_countManyEntered_10 : decode cX5_countManyEntered 10 = .ok (.iload_n 1, 1) := by decide +kernel
theorem dX5_countManyEntered_11 : decode cX5_countManyEntered 11 = .ok (.aload_n 0, 1) := by decide +kernel
theorem dX5_countManyEntered_12 : decode cX5_countManyEntered 12 = .ok (.getfield 33, 3) := by decide +kernel
theorem dX5_countManyEntered_15 : decode cX5_countManyEntered 15 = .ok (.iload_n 2, 1) := by decide +kernel
theorem dX5_countManyEntered_16 : decode cX5_countManyEntered 16 = .ok (.iaload, 1) := by decide +kernel
theorem dX5_countManyEntered_17 : decode cX5_countManyEntered 17 = .ok (.iconst 3, 1) := by decide +kernel
theorem dX5_countManyEntered_18 : decode cX5_countManyEntered 18 = .ok (.if_icmp .ne 7, 3) := by decide +kernel
theorem dX5_countManyEntered_21 : decode cX5_countManyEntered 21 = .ok (.iconst 1, 1) := by decide +kernel
theorem dX5_countManyEntered_22 : decode cX5_countManyEntered 22 = .ok (.goto 4, 3) := by decide +kernel
theorem dX5_countManyEntered_25 : decode cX5_countManyEntered 25 = .ok (.iconst 0, 1) := by decide +kernel
theorem dX5_countManyEntered_26 : decode cX5_countManyEntered 26 = .ok (.iadd, 1) := by decide +kernel
theorem dX5_countManyEntered_27 : decode cX5_countManyEntered 27 = .ok (.istore_n 1, 1) := by decide +kernel
theorem dX5_countManyEntered_28 : decode cX5_countManyEntered 28 = .ok (.iinc 2 1, 3) := by decide +kernel
theorem dX5_countManyEntered_31 : decode cX5_countManyEntered 31 = .ok (.goto (-27), 3) := by decide +kernel
theorem dX5_countManyEntered_34 : decode cX5_countManyEntered 34 = .ok (.iload_n 1, 1) := by decide +kernel
theorem dX5_countManyEntered_35 : decode cX5_countManyEntered 35 = .ok (.ireturn, 1) := by decide +kernel
theorem dX5_lastManyEntered_0 : decode cX5_lastManyEntered 0 = .ok (.aload_n 0, 1) := by decide +kernel
theorem dX5_lastManyEntered_1 : decode cX5_lastManyEntered 1 = .ok (.getfield 36, 3) := by decide +kernel
theorem dX5_lastManyEntered_4 : decode cX5_lastManyEntered 4 = .ok (.iconst 1, 1) := by decide +kernel
theorem dX5_lastManyEntered_5 : decode cX5_lastManyEntered 5 = .ok (.isub, 1) := by decide +kernel
theorem dX5_lastManyEntered_6 : decode cX5_lastManyEntered 6 = .ok (.istore_n 1, 1) := by decide +kernel
theorem dX5_lastManyEntered_7 : decode cX5_lastManyEntered 7 = .ok (.iload_n 1, 1) := by decide +kernel
theorem dX5_lastManyEntered_8 : decode cX5_lastManyEntered 8 = .ok (.ifCond .lt 31, 3) := by decide +kernel
theorem dX5_lastManyEntered_11 : decode cX5_lastManyEntered 11 = .ok (.aload_n 0, 1) := by decide +kernel
theorem dX5_lastManyEntered_12 : decode cX5_lastManyEntered 12 = .ok (.getfield 33, 3) := by decide +kernel
theorem dX5_lastManyEntered_15 : decode cX5_lastManyEntered 15 = .ok (.aload_n 0, 1) := by decide +kernel
theorem dX5_lastManyEntered_16 : decode cX5_lastManyEntered 16 = .ok (.getfield 15, 3) := by decide +kernel
theorem dX5_lastManyEntered_19 : decode cX5_lastManyEntered 19 = .ok (.iload_n 1, 1) := by decide +kernel
theorem dX5_lastManyEntered_20 : decode cX5_lastManyEntered 20 = .ok (.iaload, 1) := by decide +kernel
theorem dX5_lastManyEntered_21 : decode cX5_lastManyEntered 21 = .ok (.iaload, 1) := by decide +kernel
theorem dX5_lastManyEntered_22 : decode cX5_lastManyEntered 22 = .ok (.iconst 3, 1) := by decide +kernel
theorem dX5_lastManyEntered_23 : decode cX5_lastManyEntered 23 = .ok (.if_icmp .ne 10, 3) := by decide +kernel
theorem dX5_lastManyEntered_26 : decode cX5_lastManyEntered 26 = .ok (.aload_n 0, 1) := by decide +kernel
theorem dX5_lastManyEntered_27 : decode cX5_lastManyEntered 27 = .ok (.getfield 15, 3) := by decide +kernel
theorem dX5_lastManyEntered_30 : decode cX5_lastManyEntered 30 = .ok (.iload_n 1, 1) := by decide +kernel
theorem dX5_lastManyEntered_31 : decode cX5_lastManyEntered 31 = .ok (.iaload, 1) := by decide +kernel
theorem dX5_lastManyEntered_32 : decode cX5_lastManyEntered 32 = .ok (.ireturn, 1) := by decide +kernel
