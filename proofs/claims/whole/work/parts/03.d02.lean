theorem dX7_surveyWithArcs_12 : decode cX7_surveyWithArcs 12 = .ok (.getfield 23, 3) := by decide +kernel
theorem dX7_surveyWithArcs_15 : decode cX7_surveyWithArcs 15 = .ok (.iload_n 1, 1) := by decide +kernel
theorem dX7_surveyWithArcs_16 : decode cX7_surveyWithArcs 16 = .ok (.iload_n 2, 1) := by decide +kernel
theorem dX7_surveyWithArcs_17 : decode cX7_surveyWithArcs 17 = .ok (.invokevirtual 245, 3) := by decide +kernel
theorem dX7_surveyWithArcs_20 : decode cX7_surveyWithArcs 20 = .ok (.aload_n 0, 1) := by decide +kernel
theorem dX7_surveyWithArcs_21 : decode cX7_surveyWithArcs 21 = .ok (.getfield 29, 3) := by decide +kernel
theorem dX7_surveyWithArcs_24 : decode cX7_surveyWithArcs 24 = .ok (.aload_n 0, 1) := by decide +kernel
theorem dX7_surveyWithArcs_25 : decode cX7_surveyWithArcs 25 = .ok (.getfield 23, 3) := by decide +kernel
theorem dX7_surveyWithArcs_28 : decode cX7_surveyWithArcs 28 = .ok (.invokevirtual 95, 3) := by decide +kernel
theorem dX7_surveyWithArcs_31 : decode cX7_surveyWithArcs 31 = .ok (.return_, 1) := by decide +kernel
theorem dX7_see_0 : decode cX7_see 0 = .ok (.iload_n 1, 1) := by decide +kernel
theorem dX7_see_1 : decode cX7_see 1 = .ok (.ifCond .lt 29, 3) := by decide +kernel
theorem dX7_see_4 : decode cX7_see 4 = .ok (.iload_n 1, 1) := by decide +kernel
theorem dX7_see_5 : decode cX7_see 5 = .ok (.iconst 4, 1) := by decide +kernel
theorem dX7_see_6 : decode cX7_see 6 = .ok (.if_icmp .gt 24, 3) := by decide +kernel
theorem dX7_see_9 : decode cX7_see 9 = .ok (.iload_n 2, 1) := by decide +kernel
theorem dX7_see_10 : decode cX7_see 10 = .ok (.bipush 97, 2) := by decide +kernel
theorem dX7_see_12 : decode cX7_see 12 = .ok (.if_icmp .lt 18, 3) := by decide +kernel
theorem dX7_see_15 : decode cX7_see 15 = .ok (.iload_n 2, 1) := by decide +kernel
theorem dX7_see_16 : decode cX7_see 16 = .ok (.bipush 122, 2) := by decide +kernel
theorem dX7_see_18 : decode cX7_see 18 = .ok (.if_icmp .gt 12, 3) := by decide +kernel
theorem dX7_see_21 : decode cX7_see 21 = .ok (.iload_n 3, 1) := by decide +kernel
theorem dX7_see_22 : decode cX7_see 22 = .ok (.ifCond .lt 8, 3) := by decide +kernel
theorem dX7_see_25 : decode cX7_see 25 = .ok (.iload_n 3, 1) := by decide +kernel
theorem dX7_see_26 : decode cX7_see 26 = .ok (.iconst 1, 1) := by decide +kernel
theorem dX7_see_27 : decode cX7_see 27 = .ok (.if_icmp .le 6, 3) := by decide +kernel
theorem dX7_see_30 : decode cX7_see 30 = .ok (.bipush (-2), 2) := by decide +kernel
theorem dX7_see_32 : decode cX7_see 32 = .ok (.ireturn, 1) := by decide +kernel
theorem dX7_see_33 : decode cX7_see 33 = .ok (.aload_n 0, 1) := by decide +kernel
theorem dX7_see_34 : decode cX7_see 34 = .ok (.getfield 50, 3) := by decide +kernel
theorem dX7_see_37 : decode cX7_see 37 = .ok (.iload_n 1, 1) := by decide +kernel
theorem dX7_see_38 : decode cX7_see 38 = .ok (.iload_n 2, 1) := by decide +kernel
theorem dX7_see_39 : decode cX7_see 39 = .ok (.iload_n 3, 1) := by decide +kernel
theorem dX7_see_40 : decode cX7_see 40 = .ok (.invokevirtual 248, 3) := by decide +kernel
theorem dX7_see_43 : decode cX7_see 43 = .ok (.ireturn, 1) := by decide +kernel
theorem dX7_unsee_0 : decode cX7_unsee 0 = .ok (.aload_n 0, 1) := by decide +kernel
theorem dX7_unsee_1 : decode cX7_unsee 1 = .ok (.getfield 50, 3) := by decide +kernel
theorem dX7_unsee_4 : decode cX7_unsee 4 = .ok (.invokevirtual 251, 3) := by decide +kernel
theorem dX7_unsee_7 : decode cX7_unsee 7 = .ok (.ireturn, 1) := by decide +kernel
theorem dX7_rows_0 : decode cX7_rows 0 = .ok (.iload_n 1, 1) := by decide +kernel
theorem dX7_rows_1 : decode cX7_rows 1 = .ok (.ifCond .lt 8, 3) := by decide +kernel
theorem dX7_rows_4 : decode cX7_rows 4 = .ok (.iload_n 1, 1) := by decide +kernel
theorem dX7_rows_5 : decode cX7_rows 5 = .ok (.iconst 1, 1) := by decide +kernel
theorem dX7_rows_6 : decode cX7_rows 6 = .ok (.if_icmp .le 6, 3) := by decide +kernel
theorem dX7_rows_9 : decode cX7_rows 9 = .ok (.bipush (-2), 2) := by decide +kernel
theorem dX7_rows_11 : decode cX7_rows 11 = .ok (.ireturn, 1) := by decide +kernel
theorem dX7_rows_12 : decode cX7_rows 12 = .ok (.aload_n 0, 1) := by decide +kernel
theorem dX7_rows_13 : decode cX7_rows 13 = .ok (.getfield 19, 3) := by decide +kernel
theorem dX7_rows_16 : decode cX7_rows 16 = .ok (.getfield 78, 3) := by decide +kernel
theorem dX7_rows_19 : decode cX7_rows 19 = .ok (.ifCond .ne 6, 3) := by decide +kernel
theorem dX7_rows_22 : decode cX7_rows 22 = .ok (.bipush (-3), 2) := by decide +kernel
theorem dX7_rows_24 : decode cX7_rows 24 = .ok (.ireturn, 1) := by decide +kernel
theorem dX7_rows_25 : decode cX7_rows 25 = .ok (.iconst 0, 1) := by decide +kernel
theorem dX7_rows_26 : decode cX7_rows 26 = .ok (.istore_n 2, 1) := by decide +kernel
theorem dX7_rows_27 : decode cX7_rows 27 = .ok (.bipush (-9), 2) := by decide +kernel
theorem dX7_rows_29 : decode cX7_rows 29 = .ok (.istore_n 3, 1) := by decide +kernel
theorem dX7_rows_30 : decode cX7_rows 30 = .ok (.iconst 0, 1) := by decide +kernel
theorem dX7_rows_31 : decode cX7_rows 31 = .ok (.istore 4, 2) := by decide +kernel
theorem dX7_rows_33 : decode cX7_rows 33 = .ok (.iload 4, 2) := by decide +kernel
theorem dX7_rows_35 : decode cX7_rows 35 = .ok (.bipush 81, 2) := by decide +kernel
theorem dX7_rows_37 : decode cX7_rows 37 = .ok (.if_icmp .ge 41, 3) := by decide +kernel
theorem dX7_rows_40 : decode cX7_rows 40 = .ok (.iload 4, 2) := by decide +kernel
theorem dX7_rows_42 : decode cX7_rows 42 = .ok (.invokestatic 252, 3) := by decide +kernel
theorem dX7_rows_45 : decode cX7_rows 45 = .ok (.istore 5, 2) := by decide +kernel
theorem dX7_rows_47 : decode cX7_rows 47 = .ok (.aload_n 0, 1) := by decide +kernel
theorem dX7_rows_48 : decode cX7_rows 48 = .ok (.iload 5, 2) := by decide +kernel
theorem dX7_rows_50 : decode cX7_rows 50 = .ok (.invokevirtual 255, 3) := by decide +kernel
theorem dX7_rows_53 : decode cX7_rows 53 = .ok (.ifCond .eq 19, 3) := by decide +kernel
theorem dX7_rows_56 : decode cX7_rows 56 = .ok (.iinc 2 1, 3) := by decide +kernel
theorem dX7_rows_59 : decode cX7_rows 59 = .ok (.iload_n 3, 1) := by decide +kernel
theorem dX7_rows_60 : decode cX7_rows 60 = .ok (.bipush (-9), 2) := by decide +kernel
theorem dX7_rows_62 : decode cX7_rows 62 = .ok (.if_icmp .ne 8, 3) := by decide +kernel
theorem dX7_rows_65 : decode cX7_rows 65 = .ok (.iload 5, 2) := by decide +kernel
theorem dX7_rows_67 : decode cX7_rows 67 = .ok (.goto 4, 3) := by decide +kernel
theorem dX7_rows_70 : decode cX7_rows 70 = .ok (.iload_n 3, 1) := by decide +kernel
theorem dX7_rows_71 : decode cX7_rows 71 = .ok (.istore_n 3, 1) := by decide +kernel
theorem dX7_rows_72 : decode cX7_rows 72 = .ok (.iinc 4 1, 3) := by decide +kernel
theorem dX7_rows_75 : decode cX7_rows 75 = .ok (.goto (-42), 3) := by decide +kernel
theorem dX7_rows_78 : decode cX7_rows 78 = .ok (.iload_n 1, 1) := by decide +kernel
theorem dX7_rows_79 : decode cX7_rows 79 = .ok (.ifCond .ne 7, 3) := by decide +kernel
theorem dX7_rows_82 : decode cX7_rows 82 = .ok (.iload_n 2, 1) := by decide +kernel
theorem dX7_rows_83 : decode cX7_rows 83 = .ok (.goto 4, 3) := by decide +kernel
theorem dX7_rows_86 : decode cX7_rows 86 = .ok (.iload_n 3, 1) := by decide +kernel
theorem dX7_rows_87 : decode cX7_rows 87 = .ok (.ireturn, 1) := by decide +kernel
theorem dX7_choicesOf_0 : decode cX7_choicesOf 0 = .ok (.iload_n 0, 1) := by decide +kernel
theorem dX7_choicesOf_1 : decode cX7_choicesOf 1 = .ok (.bipush 27, 2) := by decide +kernel
theorem dX7_choicesOf_3 : decode cX7_choicesOf 3 = .ok (.idiv, 1) := by decide +kernel
theorem dX7_choicesOf_4 : decode cX7_choicesOf 4 = .ok (.sipush 1000, 3) := by decide +kernel
theorem dX7_choicesOf_7 : decode cX7_choicesOf 7 = .ok (.imul, 1) := by decide +kernel
theorem dX7_choicesOf_8 : decode cX7_choicesOf 8 = .ok (.iload_n 0, 1) := by decide +kernel
theorem dX7_choicesOf_9 : decode cX7_choicesOf 9 = .ok (.bipush 9, 2) := by decide +kernel
theorem dX7_choicesOf_11 : decode cX7_choicesOf 11 = .ok (.idiv, 1) := by decide +kernel
theorem dX7_choicesOf_12 : decode cX7_choicesOf 12 = .ok (.iconst 3, 1) := by decide +kernel
theorem dX7_choicesOf_13 : decode cX7_choicesOf 13 = .ok (.irem, 1) := by decide +kernel
theorem dX7_choicesOf_14 : decode cX7_choicesOf 14 = .ok (.bipush 100, 2) := by decide +kernel
theorem dX7_choicesOf_16 : decode cX7_choicesOf 16 = .ok (.imul, 1) := by decide +kernel
theorem dX7_choicesOf_17 : decode cX7_choicesOf 17 = .ok (.iadd, 1) := by decide +kernel
theorem dX7_choicesOf_18 : decode cX7_choicesOf 18 = .ok (.iload_n 0, 1) := by decide +kernel
theorem dX7_choicesOf_19 : decode cX7_choicesOf 19 = .ok (.iconst 3, 1) := by decide +kernel
theorem dX7_choicesOf_20 : decode cX7_choicesOf 20 = .ok (.idiv, 1) := by decide +kernel
theorem dX7_choicesOf_21 : decode cX7_choicesOf 21 = .ok (.iconst 3, 1) := by decide +kernel
theorem dX7_choicesOf_22 : decode cX7_choicesOf 22 = .ok (.irem, 1) := by decide +kernel
theorem dX7_choicesOf_23 : decode cX7_choicesOf 23 = .ok (.bipush 10, 2) := by decide +kernel
theorem dX7_choicesOf_25 : decode cX7_choicesOf 25 = .ok (.imul, 1) := by decide +kernel
theorem dX7_choicesOf_26 : decode cX7_choicesOf 26 = .ok (.iadd, 1) := by decide +kernel
theorem dX7_choicesOf_27 : decode cX7_choicesOf 27 = .ok (.iload_n 0, 1) := by decide +kernel
theorem dX7_choicesOf_28 : decode cX7_choicesOf 28 = .ok (.iconst 3, 1) := by decide +kernel
theorem dX7_choicesOf_29 : decode cX7_choicesOf 29 = .ok (.irem, 1) := by decide +kernel
theorem dX7_choicesOf_30 : decode cX7_choicesOf 30 = .ok (.iadd, 1) := by decide +kernel
theorem dX7_choicesOf_31 : decode cX7_choicesOf 31 = .ok (.ireturn, 1) := by decide +kernel
theorem dX7_agreesWithSights_0 : decode cX7_agreesWithSights 0 = .ok (.iconst 0, 1) := by decide +kernel
theorem dX7_agreesWithSights_1 : decode cX7_agreesWithSights 1 = .ok (.istore_n 2, 1) := by decide +kernel
theorem dX7_agreesWithSights_2 : decode cX7_agreesWithSights 2 = .ok (.iconst 0, 1) := by decide +kernel
theorem dX7_agreesWithSights_3 : decode cX7_agreesWithSights 3 = .ok (.istore_n 3, 1) := by decide +kernel
theorem dX7_agreesWithSights_4 : decode cX7_agreesWithSights 4 = .ok (.iload_n 3, 1) := by decide +kernel
theorem dX7_agreesWithSights_5 : decode cX7_agreesWithSights 5 = .ok (.iconst 4, 1) := by decide +kernel
theorem dX7_agreesWithSights_6 : decode cX7_agreesWithSights 6 = .ok (.if_icmp .ge 48, 3) := by decide +kernel
theorem dX7_agreesWithSights_9 : decode cX7_agreesWithSights 9 = .ok (.aload_n 0, 1) := by decide +kernel
theorem dX7_agreesWithSights_10 : decode cX7_agreesWithSights 10 = .ok (.getfield 50, 3) := by decide +kernel
theorem dX7_agreesWithSights_13 : decode cX7_agreesWithSights 13 = .ok (.iload_n 3, 1) := by decide +kernel
theorem dX7_agreesWithSights_14 : decode cX7_agreesWithSights 14 = .ok (.aload_n 0, 1) := by decide +kernel
theorem dX7_agreesWithSights_15 : decode cX7_agreesWithSights 15 = .ok (.getfield 19, 3) := by decide +kernel
theorem dX7_agreesWithSights_18 : decode cX7_agreesWithSights 18 = .ok (.getfield 121, 3) := by decide +kernel
theorem dX7_agreesWithSights_21 : decode cX7_agreesWithSights 21 = .ok (.iload_n 2, 1) := by decide +kernel
theorem dX7_agreesWithSights_22 : decode cX7_agreesWithSights 22 = .ok (.iaload, 1) := by decide +kernel
theorem dX7_agreesWithSights_23 : decode cX7_agreesWithSights 23 = .ok (.invokevirtual 258, 3) := by decide +kernel
theorem dX7_agreesWithSights_26 : decode cX7_agreesWithSights 26 = .ok (.ifCond .ne 5, 3) := by decide +kernel
theorem dX7_agreesWithSights_29 : decode cX7_agreesWithSights 29 = .ok (.iconst 0, 1) := by decide +kernel
theorem dX7_agreesWithSights_30 : decode cX7_agreesWithSights 30 = .ok (.ireturn, 1) := by decide +kernel
theorem dX7_agreesWithSights_31 : decode cX7_agreesWithSights 31 = .ok (.aload_n 0, 1) := by decide +kernel
theorem dX7_agreesWithSights_32 : decode cX7_agreesWithSights 32 = .ok (.getfield 19, 3) := by decide +kernel
theorem dX7_agreesWithSights_35 : decode cX7_agreesWithSights 35 = .ok (.iload_n 2, 1) := by decide +kernel
theorem dX7_agreesWithSights_36 : decode cX7_agreesWithSights 36 = .ok (.iload_n 1, 1) := by decide +kernel
theorem dX7_agreesWithSights_37 : decode cX7_agreesWithSights 37 = .ok (.i2l, 1) := by decide +kernel
theorem dX7_agreesWithSights_38 : decode cX7_agreesWithSights 38 = .ok (.iconst 3, 1) := by decide +kernel
theorem dX7_agreesWithSights_39 : decode cX7_agreesWithSights 39 = .ok (.iload_n 3, 1) := by decide +kernel
theorem dX7_agreesWithSights_40 : decode cX7_agreesWithSights 40 = .ok (.isub, 1) := by decide +kernel
theorem dX7_agreesWithSights_41 : decode cX7_agreesWithSights 41 = .ok (.invokestatic 208, 3) := by decide +kernel
theorem dX7_agreesWithSights_44 : decode cX7_agreesWithSights 44 = .ok (.invokevirtual 212, 3) := by decide +kernel
theorem dX7_agreesWithSights_47 : decode cX7_agreesWithSights 47 = .ok (.istore_n 2, 1) := by decide +kernel
theorem dX7_agreesWithSights_48 : decode cX7_agreesWithSights 48 = .ok (.iinc 3 1, 3) := by decide +kernel
theorem dX7_agreesWithSights_51 : decode cX7_agreesWithSights 51 = .ok (.goto (-47), 3) := by decide +kernel
theorem dX7_agreesWithSights_54 : decode cX7_agreesWithSights 54 = .ok (.aload_n 0, 1) := by decide +kernel
theorem dX7_agreesWithSights_55 : decode cX7_agreesWithSights 55 = .ok (.getfield 50, 3) := by decide +kernel
theorem dX7_agreesWithSights_58 : decode cX7_agreesWithSights 58 = .ok (.iconst 4, 1) := by decide +kernel
theorem dX7_agreesWithSights_59 : decode cX7_agreesWithSights 59 = .ok (.aload_n 0, 1) := by decide +kernel
theorem dX7_agreesWithSights_60 : decode cX7_agreesWithSights 60 = .ok (.getfield 19, 3) := by decide +kernel
theorem dX7_agreesWithSights_63 : decode cX7_agreesWithSights 63 = .ok (.getfield 121, 3) := by decide +kernel
theorem dX7_agreesWithSights_66 : decode cX7_agreesWithSights 66 = .ok (.iload_n 2, 1) := by decide +kernel
theorem dX7_agreesWithSights_67 : decode cX7_agreesWithSights 67 = .ok (.iaload, 1) := by decide +kernel
theorem dX7_agreesWithSights_68 : decode cX7_agreesWithSights 68 = .ok (.invokevirtual 258, 3) := by decide +kernel
theorem dX7_agreesWithSights_71 : decode cX7_agreesWithSights 71 = .ok (.ireturn, 1) := by decide +kernel
theorem dX7_torn_0 : decode cX7_torn 0 = .ok (.aload_n 0, 1) := by decide +kernel
theorem dX7_torn_1 : decode cX7_torn 1 = .ok (.getfield 19, 3) := by decide +kernel
theorem dX7_torn_4 : decode cX7_torn 4 = .ok (.iload_n 1, 1) := by decide +kernel
theorem dX7_torn_5 : decode cX7_torn 5 = .ok (.invokevirtual 117, 3) := by decide +kernel
theorem dX7_torn_8 : decode cX7_torn 8 = .ok (.ifCond .ne 5, 3) := by decide +kernel
theorem dX7_torn_11 : decode cX7_torn 11 = .ok (.iconst (-1), 1) := by decide +kernel
theorem dX7_torn_12 : decode cX7_torn 12 = .ok (.ireturn, 1) := by decide +kernel
theorem dX7_torn_13 : decode cX7_torn 13 = .ok (.iload_n 2, 1) := by decide +kernel
theorem dX7_torn_14 : decode cX7_torn 14 = .ok (.ifCond .lt 9, 3) := by decide +kernel
theorem dX7_torn_17 : decode cX7_torn 17 = .ok (.iload_n 2, 1) := by decide +kernel
theorem dX7_torn_18 : decode cX7_torn 18 = .ok (.bipush 10, 2) := by decide +kernel
theorem dX7_torn_20 : decode cX7_torn 20 = .ok (.if_icmp .le 6, 3) := by decide +kernel
theorem dX7_torn_23 : decode cX7_torn 23 = .ok (.bipush (-2), 2) := by decide +kernel
theorem dX7_torn_25 : decode cX7_torn 25 = .ok (.ireturn, 1) := by decide +kernel
theorem dX7_torn_26 : decode cX7_torn 26 = .ok (.aload_n 0, 1) := by decide +kernel
theorem dX7_torn_27 : decode cX7_torn 27 = .ok (.getfield 19, 3) := by decide +kernel
theorem dX7_torn_30 : decode cX7_torn 30 = .ok (.getfield 125, 3) := by decide +kernel
theorem dX7_torn_33 : decode cX7_torn 33 = .ok (.iload_n 1, 1) := by decide +kernel
theorem dX7_torn_34 : decode cX7_torn 34 = .ok (.iaload, 1) := by decide +kernel
theorem dX7_torn_35 : decode cX7_torn 35 = .ok (.istore 4, 2) := by decide +kernel
theorem dX7_torn_37 : decode cX7_torn 37 = .ok (.iconst 0, 1) := by decide +kernel
theorem dX7_torn_38 : decode cX7_torn 38 = .ok (.istore 5, 2) := by decide +kernel
theorem dX7_torn_40 : decode cX7_torn 40 = .ok (.iconst 0, 1) := by decide +kernel
theorem dX7_torn_41 : decode cX7_torn 41 = .ok (.istore 6, 2) := by decide +kernel
theorem dX7_torn_43 : decode cX7_torn 43 = .ok (.iload 6, 2) := by decide +kernel
theorem dX7_torn_45 : decode cX7_torn 45 = .ok (.iconst 1, 1) := by decide +kernel
theorem dX7_torn_46 : decode cX7_torn 46 = .ok (.iload 4, 2) := by decide +kernel
theorem dX7_torn_48 : decode cX7_torn 48 = .ok (.ishl, 1) := by decide +kernel
theorem dX7_torn_49 : decode cX7_torn 49 = .ok (.if_icmp .ge 57, 3) := by decide +kernel
theorem dX7_torn_52 : decode cX7_torn 52 = .ok (.aload_n 0, 1) := by decide +kernel
theorem dX7_torn_53 : decode cX7_torn 53 = .ok (.iload_n 1, 1) := by decide +kernel
theorem dX7_torn_54 : decode cX7_torn 54 = .ok (.iload 6, 2) := by decide +kernel
theorem dX7_torn_56 : decode cX7_torn 56 = .ok (.invokevirtual 241, 3) := by decide +kernel
theorem dX7_torn_59 : decode cX7_torn 59 = .ok (.aload_n 0, 1) := by decide +kernel
theorem dX7_torn_60 : decode cX7_torn 60 = .ok (.getfield 29, 3) := by decide +kernel
theorem dX7_torn_63 : decode cX7_torn 63 = .ok (.invokevirtual 110, 3) := by decide +kernel
theorem dX7_torn_66 : decode cX7_torn 66 = .ok (.ifCond .eq 34, 3) := by decide +kernel
theorem dX7_torn_69 : decode cX7_torn 69 = .ok (.iload 6, 2) := by decide +kernel
theorem dX7_torn_71 : decode cX7_torn 71 = .ok (.invokestatic 226, 3) := by decide +kernel
theorem dX7_torn_74 : decode cX7_torn 74 = .ok (.istore 7, 2) := by decide +kernel
theorem dX7_torn_76 : decode cX7_torn 76 = .ok (.iload 5, 2) := by decide +kernel
theorem dX7_torn_78 : decode cX7_torn 78 = .ok (.bipush 10, 2) := by decide +kernel
theorem dX7_torn_80 : decode cX7_torn 80 = .ok (.iload_n 2, 1) := by decide +kernel
theorem dX7_torn_81 : decode cX7_torn 81 = .ok (.isub, 1) := by decide +kernel
theorem dX7_torn_82 : decode cX7_torn 82 = .ok (.iload 7, 2) := by decide +kernel
theorem dX7_torn_84 : decode cX7_torn 84 = .ok (.invokestatic 261, 3) := by decide +kernel
theorem dX7_torn_87 : decode cX7_torn 87 = .ok (.iload_n 2, 1) := by decide +kernel
theorem dX7_torn_88 : decode cX7_torn 88 = .ok (.iload 4, 2) := by decide +kernel
theorem dX7_torn_90 : decode cX7_torn 90 = .ok (.iload 7, 2) := by decide +kernel
theorem dX7_torn_92 : decode cX7_torn 92 = .ok (.isub, 1) := by decide +kernel
theorem dX7_torn_93 : decode cX7_torn 93 = .ok (.invokestatic 261, 3) := by decide +kernel
theorem dX7_torn_96 : decode cX7_torn 96 = .ok (.imul, 1) := by decide +kernel
theorem dX7_torn_97 : decode cX7_torn 97 = .ok (.iadd, 1) := by decide +kernel
theorem dX7_torn_98 : decode cX7_torn 98 = .ok (.istore 5, 2) := by decide +kernel
theorem dX7_torn_100 : decode cX7_torn 100 = .ok (.iinc 6 1, 3) := by decide +kernel
theorem dX7_torn_103 : decode cX7_torn 103 = .ok (.goto (-60), 3) := by decide +kernel
theorem dX7_torn_106 : decode cX7_torn 106 = .ok (.iload 5, 2) := by decide +kernel
theorem dX7_torn_108 : decode cX7_torn 108 = .ok (.bipush 10, 2) := by decide +kernel
theorem dX7_torn_110 : decode cX7_torn 110 = .ok (.iload 4, 2) := by decide +kernel
theorem dX7_torn_112 : decode cX7_torn 112 = .ok (.invokestatic 261, 3) := by decide +kernel
theorem dX7_torn_115 : decode cX7_torn 115 = .ok (.iload_n 3, 1) := by decide +kernel
theorem dX7_torn_116 : decode cX7_torn 116 = .ok (.invokestatic 237, 3) := by decide +kernel
theorem dX7_torn_119 : decode cX7_torn 119 = .ok (.ireturn, 1) := by decide +kernel
theorem dX7_seed_0 : decode cX7_seed 0 = .ok (.aload_n 0, 1) := by decide +kernel
theorem dX7_seed_1 : decode cX7_seed 1 = .ok (.getfield 54, 3) := by decide +kernel
theorem dX7_seed_4 : decode cX7_seed 4 = .ok (.lstore_n 3, 1) := by decide +kernel
theorem dX7_seed_5 : decode cX7_seed 5 = .ok (.aload_n 0, 1) := by decide +kernel
theorem dX7_seed_6 : decode cX7_seed 6 = .ok (.lload_n 1, 1) := by decide +kernel
theorem dX7_seed_7 : decode cX7_seed 7 = .ok (.putfield 54, 3) := by decide +kernel
theorem dX7_seed_10 : decode cX7_seed 10 = .ok (.lload_n 3, 1) := by decide +kernel
theorem dX7_seed_11 : decode cX7_seed 11 = .ok (.lreturn, 1) := by decide +kernel
theorem dX7_drawn_0 : decode cX7_drawn 0 = .ok (.iload_n 1, 1) := by decide +kernel
theorem dX7_drawn_1 : decode cX7_drawn 1 = .ok (.iconst 1, 1) := by decide +kernel
theorem dX7_drawn_2 : decode cX7_drawn 2 = .ok (.if_icmp .lt 9, 3) := by decide +kernel
theorem dX7_drawn_5 : decode cX7_drawn 5 = .ok (.iload_n 1, 1) := by decide +kernel
theorem dX7_drawn_6 : decode cX7_drawn 6 = .ok (.bipush 20, 2) := by decide +kernel
theorem dX7_drawn_8 : decode cX7_drawn 8 = .ok (.if_icmp .le 6, 3) := by decide +kernel
theorem dX7_drawn_11 : decode cX7_drawn 11 = .ok (.bipush (-2), 2) := by decide +kernel
theorem dX7_drawn_13 : decode cX7_drawn 13 = .ok (.ireturn, 1) := by decide +kernel
theorem dX7_drawn_14 : decode cX7_drawn 14 = .ok (.aload_n 0, 1) := by decide +kernel
theorem dX7_drawn_15 : decode cX7_drawn 15 = .ok (.getfield 23, 3) := by decide +kernel
theorem dX7_drawn_18 : decode cX7_drawn 18 = .ok (.aload_n 0, 1) := by decide +kernel
theorem dX7_drawn_19 : decode cX7_drawn 19 = .ok (.getfield 19, 3) := by decide +kernel
theorem dX7_drawn_22 : decode cX7_drawn 22 = .ok (.invokevirtual 70, 3) := by decide +kernel
theorem dX7_drawn_25 : decode cX7_drawn 25 = .ok (.iconst 0, 1) := by decide +kernel
theorem dX7_drawn_26 : decode cX7_drawn 26 = .ok (.istore_n 2, 1) := by decide +kernel
theorem dX7_drawn_27 : decode cX7_drawn 27 = .ok (.iconst 0, 1) := by decide +kernel
theorem dX7_drawn_28 : decode cX7_drawn 28 = .ok (.istore_n 3, 1) := by decide +kernel
theorem dX7_drawn_29 : decode cX7_drawn 29 = .ok (.iload_n 3, 1) := by decide +kernel
theorem dX7_drawn_30 : decode cX7_drawn 30 = .ok (.iload_n 1, 1) := by decide +kernel
theorem dX7_drawn_31 : decode cX7_drawn 31 = .ok (.if_icmp .ge 58, 3) := by decide +kernel
theorem dX7_drawn_34 : decode cX7_drawn 34 = .ok (.aload_n 0, 1) := by decide +kernel
theorem dX7_drawn_35 : decode cX7_drawn 35 = .ok (.aload_n 0, 1) := by decide +kernel
theorem dX7_drawn_36 : decode cX7_drawn 36 = .ok (.getfield 54, 3) := by decide +kernel
theorem dX7_drawn_39 : decode cX7_drawn 39 = .ok (.ldc2_w 264, 3) := by decide +kernel
theorem dX7_drawn_42 : decode cX7_drawn 42 = .ok (.lmul, 1) := by decide +kernel
theorem dX7_drawn_43 : decode cX7_drawn 43 = .ok (.ldc2_w 266, 3) := by decide +kernel
theorem dX7_drawn_46 : decode cX7_drawn 46 = .ok (.ladd, 1) := by decide +kernel
theorem dX7_drawn_47 : decode cX7_drawn 47 = .ok (.putfield 54, 3) := by decide +kernel
theorem dX7_drawn_50 : decode cX7_drawn 50 = .ok (.aload_n 0, 1) := by decide +kernel
theorem dX7_drawn_51 : decode cX7_drawn 51 = .ok (.aload_n 0, 1) := by decide +kernel
theorem dX7_drawn_52 : decode cX7_drawn 52 = .ok (.getfield 54, 3) := by decide +kernel
theorem dX7_drawn_55 : decode cX7_drawn 55 = .ok (.bipush 33, 2) := by decide +kernel
theorem dX7_drawn_57 : decode cX7_drawn 57 = .ok (.lushr, 1) := by decide +kernel
theorem dX7_drawn_58 : decode cX7_drawn 58 = .ok (.l2i, 1) := by decide +kernel
theorem dX7_drawn_59 : decode cX7_drawn 59 = .ok (.invokevirtual 268, 3) := by decide +kernel
theorem dX7_drawn_62 : decode cX7_drawn 62 = .ok (.aload_n 0, 1) := by decide +kernel
theorem dX7_drawn_63 : decode cX7_drawn 63 = .ok (.getfield 29, 3) := by decide +kernel
theorem dX7_drawn_66 : decode cX7_drawn 66 = .ok (.aload_n 0, 1) := by decide +kernel
theorem dX7_drawn_67 : decode cX7_drawn 67 = .ok (.getfield 23, 3) := by decide +kernel
theorem dX7_drawn_70 : decode cX7_drawn 70 = .ok (.invokevirtual 95, 3) := by decide +kernel
theorem dX7_drawn_73 : decode cX7_drawn 73 = .ok (.iload_n 2, 1) := by decide +kernel
theorem dX7_drawn_74 : decode cX7_drawn 74 = .ok (.aload_n 0, 1) := by decide +kernel
theorem dX7_drawn_75 : decode cX7_drawn 75 = .ok (.getfield 29, 3) := by decide +kernel
theorem dX7_drawn_78 : decode cX7_drawn 78 = .ok (.invokevirtual 101, 3) := by decide +kernel
theorem dX7_drawn_81 : decode cX7_drawn 81 = .ok (.iadd, 1) := by decide +kernel
theorem dX7_drawn_82 : decode cX7_drawn 82 = .ok (.istore_n 2, 1) := by decide +kernel
theorem dX7_drawn_83 : decode cX7_drawn 83 = .ok (.iinc 3 1, 3) := by decide +kernel
theorem dX7_drawn_86 : decode cX7_drawn 86 = .ok (.goto (-57), 3) := by decide +kernel
theorem dX7_drawn_89 : decode cX7_drawn 89 = .ok (.iload_n 2, 1) := by decide +kernel
theorem dX7_drawn_90 : decode cX7_drawn 90 = .ok (.ireturn, 1) := by decide +kernel
theorem dX7_changeByDraw_0 : decode cX7_changeByDraw 0 = .ok (.iload_n 1, 1) := by decide +kernel
theorem dX7_changeByDraw_1 : decode cX7_changeByDraw 1 = .ok (.bipush 8, 2) := by decide +kernel
theorem dX7_changeByDraw_3 : decode cX7_changeByDraw 3 = .ok (.irem, 1) := by decide +kernel
theorem dX7_changeByDraw_4 : decode cX7_changeByDraw 4 = .ok (.istore_n 2, 1) := by decide +kernel
theorem dX7_changeByDraw_5 : decode cX7_changeByDraw 5 = .ok (.iload_n 1, 1) := by decide +kernel
theorem dX7_changeByDraw_6 : decode cX7_changeByDraw 6 = .ok (.bipush 8, 2) := by decide +kernel
theorem dX7_changeByDraw_8 : decode cX7_changeByDraw 8 = .ok (.idiv, 1) := by decide +kernel
theorem dX7_changeByDraw_9 : decode cX7_changeByDraw 9 = .ok (.bipush 8, 2) := by decide +kernel
theorem dX7_changeByDraw_11 : decode cX7_changeByDraw 11 = .ok (.irem, 1) := by decide +kernel
theorem dX7_changeByDraw_12 : decode cX7_changeByDraw 12 = .ok (.istore_n 3, 1) := by decide +kernel
theorem dX7_changeByDraw_13 : decode cX7_changeByDraw 13 = .ok (.iload_n 1, 1) := by decide +kernel
theorem dX7_changeByDraw_14 : decode cX7_changeByDraw 14 = .ok (.bipush 64, 2) := by decide +kernel
theorem dX7_changeByDraw_16 : decode cX7_changeByDraw 16 = .ok (.idiv, 1) := by decide +kernel
theorem dX7_changeByDraw_17 : decode cX7_changeByDraw 17 = .ok (.iconst 4, 1) := by decide +kernel
theorem dX7_changeByDraw_18 : decode cX7_changeByDraw 18 = .ok (.irem, 1) := by decide +kernel
theorem dX7_changeByDraw_19 : decode cX7_changeByDraw 19 = .ok (.iconst 3, 1) := by decide +kernel
theorem dX7_changeByDraw_20 : decode cX7_changeByDraw 20 = .ok (.if_icmp .ne 16, 3) := by decide +kernel
theorem dX7_changeByDraw_23 : decode cX7_changeByDraw 23 = .ok (.aload_n 0, 1) := by decide +kernel
theorem dX7_changeByDraw_24 : decode cX7_changeByDraw 24 = .ok (.getfield 23, 3) := by decide +kernel
theorem dX7_changeByDraw_27 : decode cX7_changeByDraw 27 = .ok (.iload_n 2, 1) := by decide +kernel
theorem dX7_changeByDraw_28 : decode cX7_changeByDraw 28 = .ok (.iconst 0, 1) := by decide +kernel
theorem dX7_changeByDraw_29 : decode cX7_changeByDraw 29 = .ok (.invokevirtual 169, 3) := by decide +kernel
theorem dX7_changeByDraw_32 : decode cX7_changeByDraw 32 = .ok (.pop, 1) := by decide +kernel
theorem dX7_changeByDraw_33 : decode cX7_changeByDraw 33 = .ok (.goto 13, 3) := by decide +kernel
theorem dX7_changeByDraw_36 : decode cX7_changeByDraw 36 = .ok (.aload_n 0, 1) := by decide +kernel
theorem dX7_changeByDraw_37 : decode cX7_changeByDraw 37 = .ok (.getfield 23, 3) := by decide +kernel
theorem dX7_changeByDraw_40 : decode cX7_changeByDraw 40 = .ok (.iload_n 2, 1) := by decide +kernel
theorem dX7_changeByDraw_41 : decode cX7_changeByDraw 41 = .ok (.iload_n 3, 1) := by decide +kernel
theorem dX7_changeByDraw_42 : decode cX7_changeByDraw 42 = .ok (.invokevirtual 163, 3) := by decide +kernel
theorem dX7_changeByDraw_45 : decode cX7_changeByDraw 45 = .ok (.pop, 1) := by decide +kernel
theorem dX7_changeByDraw_46 : decode cX7_changeByDraw 46 = .ok (.return_, 1) := by decide +kernel
theorem dX7_keep_0 : decode cX7_keep 0 = .ok (.iload_n 1, 1) := by decide +kernel
theorem dX7_keep_1 : decode cX7_keep 1 = .ok (.ifCond .lt 8, 3) := by decide +kernel
theorem dX7_keep_4 : decode cX7_keep 4 = .ok (.iload_n 1, 1) := by decide +kernel
theorem dX7_keep_5 : decode cX7_keep 5 = .ok (.iconst 2, 1) := by decide +kernel
theorem dX7_keep_6 : decode cX7_keep 6 = .ok (.if_icmp .lt 5, 3) := by decide +kernel
theorem dX7_keep_9 : decode cX7_keep 9 = .ok (.iconst (-1), 1) := by decide +kernel
theorem dX7_keep_10 : decode cX7_keep 10 = .ok (.ireturn, 1) := by decide +kernel
theorem dX7_keep_11 : decode cX7_keep 11 = .ok (.aload_n 0, 1) := by decide +kernel
theorem dX7_keep_12 : decode cX7_keep 12 = .ok (.getfield 43, 3) := by decide +kernel
theorem dX7_keep_15 : decode cX7_keep 15 = .ok (.iload_n 1, 1) := by decide +kernel
theorem dX7_keep_16 : decode cX7_keep 16 = .ok (.aload_n 0, 1) := by decide +kernel
theorem dX7_keep_17 : decode cX7_keep 17 = .ok (.getfield 19, 3) := by decide +kernel
theorem dX7_keep_20 : decode cX7_keep 20 = .ok (.invokevirtual 272, 3) := by decide +kernel
theorem dX7_keep_23 : decode cX7_keep 23 = .ok (.aload_n 0, 1) := by decide +kernel
theorem dX7_keep_24 : decode cX7_keep 24 = .ok (.getfield 19, 3) := by decide +kernel
theorem dX7_keep_27 : decode cX7_keep 27 = .ok (.invokevirtual 82, 3) := by decide +kernel
theorem dX7_keep_30 : decode cX7_keep 30 = .ok (.ireturn, 1) := by decide +kernel
theorem dX7_again_0 : decode cX7_again 0 = .ok (.iload_n 1, 1) := by decide +kernel
theorem dX7_again_1 : decode cX7_again 1 = .ok (.ifCond .lt 8, 3) := by decide +kernel
theorem dX7_again_4 : decode cX7_again 4 = .ok (.iload_n 1, 1) := by decide +kernel
theorem dX7_again_5 : decode cX7_again 5 = .ok (.iconst 2, 1) := by decide +kernel
theorem dX7_again_6 : decode cX7_again 6 = .ok (.if_icmp .lt 5, 3) := by decide +kernel
theorem dX7_again_9 : decode cX7_again 9 = .ok (.iconst (-1), 1) := by decide +kernel
theorem dX7_again_10 : decode cX7_again 10 = .ok (.ireturn, 1) := by decide +kernel
theorem dX7_again_11 : decode cX7_again 11 = .ok (.aload_n 0, 1) := by decide +kernel
theorem dX7_again_12 : decode cX7_again 12 = .ok (.getfield 43, 3) := by decide +kernel
theorem dX7_again_15 : decode cX7_again 15 = .ok (.getfield 276, 3) := by decide +kernel
theorem dX7_again_18 : decode cX7_again 18 = .ok (.iload_n 1, 1) := by decide +kernel
theorem dX7_again_19 : decode cX7_again 19 = .ok (.baload, 1) := by decide +kernel
theorem dX7_again_20 : decode cX7_again 20 = .ok (.ifCond .ne 6, 3) := by decide +kernel
theorem dX7_again_23 : decode cX7_again 23 = .ok (.bipush (-3), 2) := by decide +kernel
theorem dX7_again_25 : decode cX7_again 25 = .ok (.ireturn, 1) := by decide +kernel
theorem dX7_again_26 : decode cX7_again 26 = .ok (.aload_n 0, 1) := by decide +kernel
theorem dX7_again_27 : decode cX7_again 27 = .ok (.getfield 43, 3) := by decide +kernel
theorem dX7_again_30 : decode cX7_again 30 = .ok (.iload_n 1, 1) := by decide +kernel
theorem dX7_again_31 : decode cX7_again 31 = .ok (.aload_n 0, 1) := by decide +kernel
theorem dX7_again_32 : decode cX7_again 32 = .ok (.getfield 19, 3) := by decide +kernel
theorem dX7_again_35 : decode cX7_again 35 = .ok (.invokevirtual 280, 3) := by decide +kernel
theorem dX7_again_38 : decode cX7_again 38 = .ok (.aload_n 0, 1) := by decide +kernel
theorem dX7_again_39 : decode cX7_again 39 = .ok (.getfield 36, 3) := by decide +kernel
theorem dX7_again_42 : decode cX7_again 42 = .ok (.invokevirtual 74, 3) := by decide +kernel
theorem dX7_again_45 : decode cX7_again 45 = .ok (.aload_n 0, 1) := by decide +kernel
theorem dX7_again_46 : decode cX7_again 46 = .ok (.getfield 19, 3) := by decide +kernel
theorem dX7_again_49 : decode cX7_again 49 = .ok (.invokevirtual 82, 3) := by decide +kernel
theorem dX7_again_52 : decode cX7_again 52 = .ok (.ireturn, 1) := by decide +kernel
theorem dX7_figure_0 : decode cX7_figure 0 = .ok (.lload_n 0, 1) := by decide +kernel
theorem dX7_figure_1 : decode cX7_figure 1 = .ok (.lstore_n 3, 1) := by decide +kernel
theorem dX7_figure_2 : decode cX7_figure 2 = .ok (.iconst 0, 1) := by decide +kernel
theorem dX7_figure_3 : decode cX7_figure 3 = .ok (.istore 5, 2) := by decide +kernel
theorem dX7_figure_5 : decode cX7_figure 5 = .ok (.iload 5, 2) := by decide +kernel
theorem dX7_figure_7 : decode cX7_figure 7 = .ok (.iload_n 2, 1) := by decide +kernel
theorem dX7_figure_8 : decode cX7_figure 8 = .ok (.if_icmp .ge 15, 3) := by decide +kernel
theorem dX7_figure_11 : decode cX7_figure 11 = .ok (.lload_n 3, 1) := by decide +kernel
theorem dX7_figure_12 : decode cX7_figure 12 = .ok (.ldc2_w 283, 3) := by decide +kernel
theorem dX7_figure_15 : decode cX7_figure 15 = .ok (.ldiv, 1) := by decide +kernel
theorem dX7_figure_16 : decode cX7_figure 16 = .ok (.lstore_n 3, 1) := by decide +kernel
theorem dX7_figure_17 : decode cX7_figure 17 = .ok (.iinc 5 1, 3) := by decide +kernel
theorem dX7_figure_20 : decode cX7_figure 20 = .ok (.goto (-15), 3) := by decide +kernel
theorem dX7_figure_23 : decode cX7_figure 23 = .ok (.lload_n 3, 1) := by decide +kernel
theorem dX7_figure_24 : decode cX7_figure 24 = .ok (.ldc2_w 283, 3) := by decide +kernel
theorem dX7_figure_27 : decode cX7_figure 27 = .ok (.lrem, 1) := by decide +kernel
theorem dX7_figure_28 : decode cX7_figure 28 = .ok (.l2i, 1) := by decide +kernel
theorem dX7_figure_29 : decode cX7_figure 29 = .ok (.ireturn, 1) := by decide +kernel
theorem dX7_tens_0 : decode cX7_tens 0 = .ok (.lconst 1, 1) := by decide +kernel
theorem dX7_tens_1 : decode cX7_tens 1 = .ok (.lstore_n 1, 1) := by decide +kernel
theorem dX7_tens_2 : decode cX7_tens 2 = .ok (.iconst 0, 1) := by decide +kernel
theorem dX7_tens_3 : decode cX7_tens 3 = .ok (.istore_n 3, 1) := by decide +kernel
theorem dX7_tens_4 : decode cX7_tens 4 = .ok (.iload_n 3, 1) := by decide +kernel
theorem dX7_tens_5 : decode cX7_tens 5 = .ok (.iload_n 0, 1) := by decide +kernel
theorem dX7_tens_6 : decode cX7_tens 6 = .ok (.if_icmp .ge 15, 3) := by decide +kernel
theorem dX7_tens_9 : decode cX7_tens 9 = .ok (.lload_n 1, 1) := by decide +kernel
theorem dX7_tens_10 : decode cX7_tens 10 = .ok (.ldc2_w 283, 3) := by decide +kernel
theorem dX7_tens_13 : decode cX7_tens 13 = .ok (.lmul, 1) := by decide +kernel
theorem dX7_tens_14 : decode cX7_tens 14 = .ok (.lstore_n 1, 1) := by decide +kernel
theorem dX7_tens_15 : decode cX7_tens 15 = .ok (.iinc 3 1, 3) := by decide +kernel
theorem dX7_tens_18 : decode cX7_tens 18 = .ok (.goto (-14), 3) := by decide +kernel
theorem dX7_tens_21 : decode cX7_tens 21 = .ok (.lload_n 1, 1) := by decide +kernel
theorem dX7_tens_22 : decode cX7_tens 22 = .ok (.lreturn, 1) := by decide +kernel
theorem dX7_power_0 : decode cX7_power 0 = .ok (.iconst 1, 1) := by decide +kernel
theorem dX7_power_1 : decode cX7_power 1 = .ok (.istore_n 2, 1) := by decide +kernel
theorem dX7_power_2 : decode cX7_power 2 = .ok (.iconst 0, 1) := by decide +kernel
theorem dX7_power_3 : decode cX7_power 3 = .ok (.istore_n 3, 1) := by decide +kernel
theorem dX7_power_4 : decode cX7_power 4 = .ok (.iload_n 3, 1) := by decide +kernel
theorem dX7_power_5 : decode cX7_power 5 = .ok (.iload_n 1, 1) := by decide +kernel
theorem dX7_power_6 : decode cX7_power 6 = .ok (.if_icmp .ge 13, 3) := by decide +kernel
theorem dX7_power_9 : decode cX7_power 9 = .ok (.iload_n 2, 1) := by decide +kernel
theorem dX7_power_10 : decode cX7_power 10 = .ok (.iload_n 0, 1) := by decide +kernel
theorem dX7_power_11 : decode cX7_power 11 = .ok (.imul, 1) := by decide +kernel
theorem dX7_power_12 : decode cX7_power 12 = .ok (.istore_n 2, 1) := by decide +kernel
theorem dX7_power_13 : decode cX7_power 13 = .ok (.iinc 3 1, 3) := by decide +kernel
theorem dX7_power_16 : decode cX7_power 16 = .ok (.goto (-12), 3) := by decide +kernel
theorem dX7_power_19 : decode cX7_power 19 = .ok (.iload_n 2, 1) := by decide +kernel
theorem dX7_power_20 : decode cX7_power 20 = .ok (.ireturn, 1) := by decide +kernel
theorem dX7_factorial_0 : decode cX7_factorial 0 = .ok (.iconst 1, 1) := by decide +kernel
theorem dX7_factorial_1 : decode cX7_factorial 1 = .ok (.istore_n 1, 1) := by decide +kernel
theorem dX7_factorial_2 : decode cX7_factorial 2 = .ok (.iconst 1, 1) := by decide +kernel
theorem dX7_factorial_3 : decode cX7_factorial 3 = .ok (.istore_n 2, 1) := by decide +kernel
theorem dX7_factorial_4 : decode cX7_factorial 4 = .ok (.iload_n 2, 1) := by decide +kernel
theorem dX7_factorial_5 : decode cX7_factorial 5 = .ok (.iload_n 0, 1) := by decide +kernel
theorem dX7_factorial_6 : decode cX7_factorial 6 = .ok (.if_icmp .ge 15, 3) := by decide +kernel
theorem dX7_factorial_9 : decode cX7_factorial 9 = .ok (.iload_n 1, 1) := by decide +kernel
theorem dX7_factorial_10 : decode cX7_factorial 10 = .ok (.iload_n 2, 1) := by decide +kernel
theorem dX7_factorial_11 : decode cX7_factorial 11 = .ok (.iconst 1, 1) := by decide +kernel
theorem dX7_factorial_12 : decode cX7_factorial 12 = .ok (.iadd, 1) := by decide +kernel
theorem dX7_factorial_13 : decode cX7_factorial 13 = .ok (.imul, 1) := by decide +kernel
theorem dX7_factorial_14 : decode cX7_factorial 14 = .ok (.istore_n 1, 1) := by decide +kernel
theorem dX7_factorial_15 : decode cX7_factorial 15 = .ok (.iinc 2 1, 3) := by decide +kernel
theorem dX7_factorial_18 : decode cX7_factorial 18 = .ok (.goto (-14), 3) := by decide +kernel
theorem dX7_factorial_21 : decode cX7_factorial 21 = .ok (.iload_n 1, 1) := by decide +kernel
theorem dX7_factorial_22 : decode cX7_factorial 22 = .ok (.ireturn, 1) := by decide +kernel
theorem dX7_inLeastTerms_0 : decode cX7_inLeastTerms 0 = .ok (.iload_n 0, 1) := by decide +kernel
theorem dX7_inLeastTerms_1 : decode cX7_inLeastTerms 1 = .ok (.invokestatic 285, 3) := by decide +kernel
theorem dX7_inLeastTerms_4 : decode cX7_inLeastTerms 4 = .ok (.iload_n 1, 1) := by decide +kernel
theorem dX7_inLeastTerms_5 : decode cX7_inLeastTerms 5 = .ok (.invokestatic 290, 3) := by decide +kernel
theorem dX7_inLeastTerms_8 : decode cX7_inLeastTerms 8 = .ok (.istore_n 3, 1) := by decide +kernel
theorem dX7_inLeastTerms_9 : decode cX7_inLeastTerms 9 = .ok (.iload_n 2, 1) := by decide +kernel
theorem dX7_inLeastTerms_10 : decode cX7_inLeastTerms 10 = .ok (.ifCond .eq 7, 3) := by decide +kernel
theorem dX7_inLeastTerms_13 : decode cX7_inLeastTerms 13 = .ok (.iload_n 0, 1) := by decide +kernel
theorem dX7_inLeastTerms_14 : decode cX7_inLeastTerms 14 = .ok (.goto 4, 3) := by decide +kernel
theorem dX7_inLeastTerms_17 : decode cX7_inLeastTerms 17 = .ok (.iload_n 1, 1) := by decide +kernel
theorem dX7_inLeastTerms_18 : decode cX7_inLeastTerms 18 = .ok (.istore 4, 2) := by decide +kernel
theorem dX7_inLeastTerms_20 : decode cX7_inLeastTerms 20 = .ok (.iload_n 3, 1) := by decide +kernel
theorem dX7_inLeastTerms_21 : decode cX7_inLeastTerms 21 = .ok (.ifCond .ne 8, 3) := by decide +kernel
theorem dX7_inLeastTerms_24 : decode cX7_inLeastTerms 24 = .ok (.iload 4, 2) := by decide +kernel
theorem dX7_inLeastTerms_26 : decode cX7_inLeastTerms 26 = .ok (.goto 7, 3) := by decide +kernel
theorem dX7_inLeastTerms_29 : decode cX7_inLeastTerms 29 = .ok (.iload 4, 2) := by decide +kernel
theorem dX7_inLeastTerms_31 : decode cX7_inLeastTerms 31 = .ok (.iload_n 3, 1) := by decide +kernel
theorem dX7_inLeastTerms_32 : decode cX7_inLeastTerms 32 = .ok (.idiv, 1) := by decide +kernel
theorem dX7_inLeastTerms_33 : decode cX7_inLeastTerms 33 = .ok (.ireturn, 1) := by decide +kernel
theorem dX7_greatestDivisor_0 : decode cX7_greatestDivisor 0 = .ok (.iconst 0, 1) := by decide +kernel
theorem dX7_greatestDivisor_1 : decode cX7_greatestDivisor 1 = .ok (.istore_n 2, 1) := by decide +kernel
theorem dX7_greatestDivisor_2 : decode cX7_greatestDivisor 2 = .ok (.iload_n 2, 1) := by decide +kernel
theorem dX7_greatestDivisor_3 : decode cX7_greatestDivisor 3 = .ok (.bipush 64, 2) := by decide +kernel
theorem dX7_greatestDivisor_5 : decode cX7_greatestDivisor 5 = .ok (.if_icmp .ge 21, 3) := by decide +kernel
theorem dX7_greatestDivisor_8 : decode cX7_greatestDivisor 8 = .ok (.iload_n 1, 1) := by decide +kernel
theorem dX7_greatestDivisor_9 : decode cX7_greatestDivisor 9 = .ok (.ifCond .eq 17, 3) := by decide +kernel
theorem dX7_greatestDivisor_12 : decode cX7_greatestDivisor 12 = .ok (.iload_n 0, 1) := by decide +kernel
theorem dX7_greatestDivisor_13 : decode cX7_greatestDivisor 13 = .ok (.iload_n 1, 1) := by decide +kernel
theorem dX7_greatestDivisor_14 : decode cX7_greatestDivisor 14 = .ok (.irem, 1) := by decide +kernel
theorem dX7_greatestDivisor_15 : decode cX7_greatestDivisor 15 = .ok (.istore_n 3, 1) := by decide +kernel
theorem dX7_greatestDivisor_16 : decode cX7_greatestDivisor 16 = .ok (.iload_n 1, 1) := by decide +kernel
theorem dX7_greatestDivisor_17 : decode cX7_greatestDivisor 17 = .ok (.istore_n 0, 1) := by decide +kernel
theorem dX7_greatestDivisor_18 : decode cX7_greatestDivisor 18 = .ok (.iload_n 3, 1) := by decide +kernel
theorem dX7_greatestDivisor_19 : decode cX7_greatestDivisor 19 = .ok (.istore_n 1, 1) := by decide +kernel
theorem dX7_greatestDivisor_20 : decode cX7_greatestDivisor 20 = .ok (.iinc 2 1, 3) := by decide +kernel
theorem dX7_greatestDivisor_23 : decode cX7_greatestDivisor 23 = .ok (.goto (-21), 3) := by decide +kernel
theorem dX7_greatestDivisor_26 : decode cX7_greatestDivisor 26 = .ok (.iload_n 0, 1) := by decide +kernel
theorem dX7_greatestDivisor_27 : decode cX7_greatestDivisor 27 = .ok (.ireturn, 1) := by decide +kernel
theorem dX7_leastOf_0 : decode cX7_leastOf 0 = .ok (.iload_n 0, 1) := by decide +kernel
theorem dX7_leastOf_1 : decode cX7_leastOf 1 = .ok (.ifCond .ne 8, 3) := by decide +kernel
theorem dX7_leastOf_4 : decode cX7_leastOf 4 = .ok (.bipush (-9), 2) := by decide +kernel
theorem dX7_leastOf_6 : decode cX7_leastOf 6 = .ok (.goto 7, 3) := by decide +kernel
theorem dX7_leastOf_9 : decode cX7_leastOf 9 = .ok (.iload_n 0, 1) := by decide +kernel
theorem dX7_leastOf_10 : decode cX7_leastOf 10 = .ok (.invokestatic 293, 3) := by decide +kernel
theorem dX7_leastOf_13 : decode cX7_leastOf 13 = .ok (.ireturn, 1) := by decide +kernel
theorem dX8_init_0 : decode cX8_init 0 = .ok (.aload_n 0, 1) := by decide +kernel
theorem dX8_init_1 : decode cX8_init 1 = .ok (.invokespecial 1, 3) := by decide +kernel
theorem dX8_init_4 : decode cX8_init 4 = .ok (.aload_n 0, 1) := by decide +kernel
theorem dX8_init_5 : decode cX8_init 5 = .ok (.bipush 64, 2) := by decide +kernel
theorem dX8_init_7 : decode cX8_init 7 = .ok (.newarray .int, 2) := by decide +kernel
theorem dX8_init_9 : decode cX8_init 9 = .ok (.putfield 7, 3) := by decide +kernel
theorem dX8_init_12 : decode cX8_init 12 = .ok (.aload_n 0, 1) := by decide +kernel
theorem dX8_init_13 : decode cX8_init 13 = .ok (.bipush 61, 2) := by decide +kernel
theorem dX8_init_15 : decode cX8_init 15 = .ok (.newarray .int, 2) := by decide +kernel
theorem dX8_init_17 : decode cX8_init 17 = .ok (.putfield 13, 3) := by decide +kernel
theorem dX8_init_20 : decode cX8_init 20 = .ok (.aload_n 0, 1) := by decide +kernel
theorem dX8_init_21 : decode cX8_init 21 = .ok (.bipush 61, 2) := by decide +kernel
theorem dX8_init_23 : decode cX8_init 23 = .ok (.newarray .int, 2) := by decide +kernel
theorem dX8_init_25 : decode cX8_init 25 = .ok (.putfield 16, 3) := by decide +kernel
theorem dX8_init_28 : decode cX8_init 28 = .ok (.aload_n 0, 1) := by decide +kernel
theorem dX8_init_29 : decode cX8_init 29 = .ok (.bipush 61, 2) := by decide +kernel
theorem dX8_init_31 : decode cX8_init 31 = .ok (.newarray .int, 2) := by decide +kernel
theorem dX8_init_33 : decode cX8_init 33 = .ok (.putfield 19, 3) := by decide +kernel
theorem dX8_init_36 : decode cX8_init 36 = .ok (.aload_n 0, 1) := by decide +kernel
theorem dX8_init_37 : decode cX8_init 37 = .ok (.sipush 854, 3) := by decide +kernel
theorem dX8_init_40 : decode cX8_init 40 = .ok (.newarray .int, 2) := by decide +kernel
theorem dX8_init_42 : decode cX8_init 42 = .ok (.putfield 22, 3) := by decide +kernel
theorem dX8_init_45 : decode cX8_init 45 = .ok (.aload_n 0, 1) := by decide +kernel
theorem dX8_init_46 : decode cX8_init 46 = .ok (.bipush 122, 2) := by decide +kernel
theorem dX8_init_48 : decode cX8_init 48 = .ok (.newarray .int, 2) := by decide +kernel
theorem dX8_init_50 : decode cX8_init 50 = .ok (.putfield 25, 3) := by decide +kernel
theorem dX8_init_53 : decode cX8_init 53 = .ok (.aload_n 0, 1) := by decide +kernel
theorem dX8_init_54 : decode cX8_init 54 = .ok (.iconst 2, 1) := by decide +kernel
theorem dX8_init_55 : decode cX8_init 55 = .ok (.newarray .boolean, 2) := by decide +kernel
theorem dX8_init_57 : decode cX8_init 57 = .ok (.putfield 28, 3) := by decide +kernel
theorem dX8_init_60 : decode cX8_init 60 = .ok (.aload_n 0, 1) := by decide +kernel
theorem dX8_init_61 : decode cX8_init 61 = .ok (.bipush 6, 2) := by decide +kernel
theorem dX8_init_63 : decode cX8_init 63 = .ok (.newarray .int, 2) := by decide +kernel
theorem dX8_init_65 : decode cX8_init 65 = .ok (.putfield 32, 3) := by decide +kernel
theorem dX8_init_68 : decode cX8_init 68 = .ok (.aload_n 0, 1) := by decide +kernel
theorem dX8_init_69 : decode cX8_init 69 = .ok (.bipush 6, 2) := by decide +kernel
theorem dX8_init_71 : decode cX8_init 71 = .ok (.newarray .int, 2) := by decide +kernel
theorem dX8_init_73 : decode cX8_init 73 = .ok (.putfield 35, 3) := by decide +kernel
theorem dX8_init_76 : decode cX8_init 76 = .ok (.aload_n 0, 1) := by decide +kernel
theorem dX8_init_77 : decode cX8_init 77 = .ok (.bipush 6, 2) := by decide +kernel
theorem dX8_init_79 : decode cX8_init 79 = .ok (.newarray .int, 2) := by decide +kernel
theorem dX8_init_81 : decode cX8_init 81 = .ok (.putfield 38, 3) := by decide +kernel
theorem dX8_init_84 : decode cX8_init 84 = .ok (.aload_n 0, 1) := by decide +kernel
theorem dX8_init_85 : decode cX8_init 85 = .ok (.bipush 12, 2) := by decide +kernel
theorem dX8_init_87 : decode cX8_init 87 = .ok (.newarray .int, 2) := by decide +kernel
theorem dX8_init_89 : decode cX8_init 89 = .ok (.putfield 41, 3) := by decide +kernel
theorem dX8_init_92 : decode cX8_init 92 = .ok (.aload_n 0, 1) := by decide +kernel
theorem dX8_init_93 : decode cX8_init 93 = .ok (.bipush 12, 2) := by decide +kernel
theorem dX8_init_95 : decode cX8_init 95 = .ok (.newarray .int, 2) := by decide +kernel
theorem dX8_init_97 : decode cX8_init 97 = .ok (.putfield 44, 3) := by decide +kernel
theorem dX8_init_100 : decode cX8_init 100 = .ok (.aload_n 0, 1) := by decide +kernel
theorem dX8_init_101 : decode cX8_init 101 = .ok (.bipush 13, 2) := by decide +kernel
theorem dX8_init_103 : decode cX8_init 103 = .ok (.newarray .int, 2) := by decide +kernel
theorem dX8_init_105 : decode cX8_init 105 = .ok (.putfield 47, 3) := by decide +kernel
theorem dX8_init_108 : decode cX8_init 108 = .ok (.aload_n 0, 1) := by decide +kernel
theorem dX8_init_109 : decode cX8_init 109 = .ok (.bipush 13, 2) := by decide +kernel
theorem dX8_init_111 : decode cX8_init 111 = .ok (.newarray .int, 2) := by decide +kernel
theorem dX8_init_113 : decode cX8_init 113 = .ok (.putfield 50, 3) := by decide +kernel
theorem dX8_init_116 : decode cX8_init 116 = .ok (.aload_n 0, 1) := by decide +kernel
theorem dX8_init_117 : decode cX8_init 117 = .ok (.bipush 12, 2) := by decide +kernel
theorem dX8_init_119 : decode cX8_init 119 = .ok (.newarray .int, 2) := by decide +kernel
theorem dX8_init_121 : decode cX8_init 121 = .ok (.putfield 53, 3) := by decide +kernel
theorem dX8_init_124 : decode cX8_init 124 = .ok (.aload_n 0, 1) := by decide +kernel
theorem dX8_init_125 : decode cX8_init 125 = .ok (.bipush 12, 2) := by decide +kernel
theorem dX8_init_127 : decode cX8_init 127 = .ok (.newarray .int, 2) := by decide +kernel
theorem dX8_init_129 : decode cX8_init 129 = .ok (.putfield 56, 3) := by decide +kernel
theorem dX8_init_132 : decode cX8_init 132 = .ok (.aload_n 0, 1) := by decide +kernel
theorem dX8_init_133 : decode cX8_init 133 = .ok (.bipush 12, 2) := by decide +kernel
theorem dX8_init_135 : decode cX8_init 135 = .ok (.newarray .int, 2) := by decide +kernel
theorem dX8_init_137 : decode cX8_init 137 = .ok (.putfield 59, 3) := by decide +kernel
theorem dX8_init_140 : decode cX8_init 140 = .ok (.aload_n 0, 1) := by decide +kernel
theorem dX8_init_141 : decode cX8_init 141 = .ok (.iconst 3, 1) := by decide +kernel
theorem dX8_init_142 : decode cX8_init 142 = .ok (.newarray .int, 2) := by decide +kernel
theorem dX8_init_144 : decode cX8_init 144 = .ok (.putfield 62, 3) := by decide +kernel
theorem dX8_init_147 : decode cX8_init 147 = .ok (.aload_n 0, 1) := by decide +kernel
theorem dX8_init_148 : decode cX8_init 148 = .ok (.bipush 8, 2) := by decide +kernel
theorem dX8_init_150 : decode cX8_init 150 = .ok (.newarray .int, 2) := by decide +kernel
theorem dX8_init_152 : decode cX8_init 152 = .ok (.putfield 65, 3) := by decide +kernel
theorem dX8_init_155 : decode cX8_init 155 = .ok (.return_, 1) := by decide +kernel
theorem dX8_in_0 : decode cX8_in 0 = .ok (.lload_n 0, 1) := by decide +kernel
theorem dX8_in_1 : decode cX8_in 1 = .ok (.lload_n 2, 1) := by decide +kernel
theorem dX8_in_2 : decode cX8_in 2 = .ok (.lcmp, 1) := by decide +kernel
theorem dX8_in_3 : decode cX8_in 3 = .ok (.ifCond .lt 14, 3) := by decide +kernel
theorem dX8_in_6 : decode cX8_in 6 = .ok (.lload_n 0, 1) := by decide +kernel
theorem dX8_in_7 : decode cX8_in 7 = .ok (.lload 4, 2) := by decide +kernel
theorem dX8_in_9 : decode cX8_in 9 = .ok (.lcmp, 1) := by decide +kernel
theorem dX8_in_10 : decode cX8_in 10 = .ok (.ifCond .gt 7, 3) := by decide +kernel
theorem dX8_in_13 : decode cX8_in 13 = .ok (.iconst 1, 1) := by decide +kernel
theorem dX8_in_14 : decode cX8_in 14 = .ok (.goto 4, 3) := by decide +kernel
theorem dX8_in_17 : decode cX8_in 17 = .ok (.iconst 0, 1) := by decide +kernel
theorem dX8_in_18 : decode cX8_in 18 = .ok (.ireturn, 1) := by decide +kernel
theorem dX8_has_0 : decode cX8_has 0 = .ok (.iload_n 0, 1) := by decide +kernel
theorem dX8_has_1 : decode cX8_has 1 = .ok (.iload_n 1, 1) := by decide +kernel
theorem dX8_has_2 : decode cX8_has 2 = .ok (.ishr, 1) := by decide +kernel
theorem dX8_has_3 : decode cX8_has 3 = .ok (.iconst 1, 1) := by decide +kernel
theorem dX8_has_4 : decode cX8_has 4 = .ok (.iand, 1) := by decide +kernel
theorem dX8_has_5 : decode cX8_has 5 = .ok (.iconst 1, 1) := by decide +kernel
theorem dX8_has_6 : decode cX8_has 6 = .ok (.if_icmp .ne 7, 3) := by decide +kernel
theorem dX8_has_9 : decode cX8_has 9 = .ok (.iconst 1, 1) := by decide +kernel
theorem dX8_has_10 : decode cX8_has 10 = .ok (.goto 4, 3) := by decide +kernel
theorem dX8_has_13 : decode cX8_has 13 = .ok (.iconst 0, 1) := by decide +kernel
theorem dX8_has_14 : decode cX8_has 14 = .ok (.ireturn, 1) := by decide +kernel
theorem dX8_many_0 : decode cX8_many 0 = .ok (.iconst 0, 1) := by decide +kernel
theorem dX8_many_1 : decode cX8_many 1 = .ok (.istore_n 1, 1) := by decide +kernel
theorem dX8_many_2 : decode cX8_many 2 = .ok (.iconst 0, 1) := by decide +kernel
theorem dX8_many_3 : decode cX8_many 3 = .ok (.istore_n 2, 1) := by decide +kernel
theorem dX8_many_4 : decode cX8_many 4 = .ok (.iload_n 2, 1) := by decide +kernel
theorem dX8_many_5 : decode cX8_many 5 = .ok (.bipush 12, 2) := by decide +kernel
theorem dX8_many_7 : decode cX8_many 7 = .ok (.if_icmp .ge 17, 3) := by decide +kernel
theorem dX8_many_10 : decode cX8_many 10 = .ok (.iload_n 1, 1) := by decide +kernel
theorem dX8_many_11 : decode cX8_many 11 = .ok (.iload_n 0, 1) := by decide +kernel
theorem dX8_many_12 : decode cX8_many 12 = .ok (.iload_n 2, 1) := by decide +kernel
theorem dX8_many_13 : decode cX8_many 13 = .ok (.ishr, 1) := by decide +kernel
theorem dX8_many_14 : decode cX8_many 14 = .ok (.iconst 1, 1) := by decide +kernel
theorem dX8_many_15 : decode cX8_many 15 = .ok (.iand, 1) := by decide +kernel
theorem dX8_many_16 : decode cX8_many 16 = .ok (.iadd, 1) := by decide +kernel
theorem dX8_many_17 : decode cX8_many 17 = .ok (.istore_n 1, 1) := by decide +kernel
theorem dX8_many_18 : decode cX8_many 18 = .ok (.iinc 2 1, 3) := by decide +kernel
theorem dX8_many_21 : decode cX8_many 21 = .ok (.goto (-17), 3) := by decide +kernel
theorem dX8_many_24 : decode cX8_many 24 = .ok (.iload_n 1, 1) := by decide +kernel
theorem dX8_many_25 : decode cX8_many 25 = .ok (.ireturn, 1) := by decide +kernel
theorem dX8_power_0 : decode cX8_power 0 = .ok (.iconst 1, 1) := by decide +kernel
theorem dX8_power_1 : decode cX8_power 1 = .ok (.istore_n 2, 1) := by decide +kernel
theorem dX8_power_2 : decode cX8_power 2 = .ok (.iconst 0, 1) := by decide +kernel
theorem dX8_power_3 : decode cX8_power 3 = .ok (.istore_n 3, 1) := by decide +kernel
theorem dX8_power_4 : decode cX8_power 4 = .ok (.iload_n 3, 1) := by decide +kernel
theorem dX8_power_5 : decode cX8_power 5 = .ok (.iload_n 1, 1) := by decide +kernel
theorem dX8_power_6 : decode cX8_power 6 = .ok (.if_icmp .ge 13, 3) := by decide +kernel
theorem dX8_power_9 : decode cX8_power 9 = .ok (.iload_n 2, 1) := by decide +kernel
theorem dX8_power_10 : decode cX8_power 10 = .ok (.iload_n 0, 1) := by decide +kernel
theorem dX8_power_11 : decode cX8_power 11 = .ok (.imul, 1) := by decide +kernel
theorem dX8_power_12 : decode cX8_power 12 = .ok (.istore_n 2, 1) := by decide +kernel
theorem dX8_power_13 : decode cX8_power 13 = .ok (.iinc 3 1, 3) := by decide +kernel
theorem dX8_power_16 : decode cX8_power 16 = .ok (.goto (-12), 3) := by decide +kernel
theorem dX8_power_19 : decode cX8_power 19 = .ok (.iload_n 2, 1) := by decide +kernel
theorem dX8_power_20 : decode cX8_power 20 = .ok (.ireturn, 1) := by decide +kernel
theorem dX8_noBlock_0 : decode cX8_noBlock 0 = .ok (.iload_n 1, 1) := by decide +kernel
theorem dX8_noBlock_1 : decode cX8_noBlock 1 = .ok (.i2l, 1) := by decide +kernel
theorem dX8_noBlock_2 : decode cX8_noBlock 2 = .ok (.lconst 0, 1) := by decide +kernel
theorem dX8_noBlock_3 : decode cX8_noBlock 3 = .ok (.aload_n 0, 1) := by decide +kernel
theorem dX8_noBlock_4 : decode cX8_noBlock 4 = .ok (.getfield 16, 3) := by decide +kernel
theorem dX8_noBlock_7 : decode cX8_noBlock 7 = .ok (.iconst 0, 1) := by decide +kernel
theorem dX8_noBlock_8 : decode cX8_noBlock 8 = .ok (.iaload, 1) := by decide +kernel
theorem dX8_noBlock_9 : decode cX8_noBlock 9 = .ok (.iconst 1, 1) := by decide +kernel
theorem dX8_noBlock_10 : decode cX8_noBlock 10 = .ok (.isub, 1) := by decide +kernel
theorem dX8_noBlock_11 : decode cX8_noBlock 11 = .ok (.i2l, 1) := by decide +kernel
theorem dX8_noBlock_12 : decode cX8_noBlock 12 = .ok (.invokestatic 72, 3) := by decide +kernel
theorem dX8_noBlock_15 : decode cX8_noBlock 15 = .ok (.ifCond .ne 7, 3) := by decide +kernel
theorem dX8_noBlock_18 : decode cX8_noBlock 18 = .ok (.iconst 1, 1) := by decide +kernel
theorem dX8_noBlock_19 : decode cX8_noBlock 19 = .ok (.goto 4, 3) := by decide +kernel
theorem dX8_noBlock_22 : decode cX8_noBlock 22 = .ok (.iconst 0, 1) := by decide +kernel
theorem dX8_noBlock_23 : decode cX8_noBlock 23 = .ok (.ireturn, 1) := by decide +kernel
theorem dX8_noArc_0 : decode cX8_noArc 0 = .ok (.aload_n 0, 1) := by decide +kernel
theorem dX8_noArc_1 : decode cX8_noArc 1 = .ok (.iload_n 1, 1) := by decide +kernel
theorem dX8_noArc_2 : decode cX8_noArc 2 = .ok (.invokevirtual 76, 3) := by decide +kernel
theorem dX8_noArc_5 : decode cX8_noArc 5 = .ok (.ifCond .ne 24, 3) := by decide +kernel
theorem dX8_noArc_8 : decode cX8_noArc 8 = .ok (.iload_n 2, 1) := by decide +kernel
theorem dX8_noArc_9 : decode cX8_noArc 9 = .ok (.i2l, 1) := by decide +kernel
theorem dX8_noArc_10 : decode cX8_noArc 10 = .ok (.lconst 0, 1) := by decide +kernel
theorem dX8_noArc_11 : decode cX8_noArc 11 = .ok (.aload_n 0, 1) := by decide +kernel
theorem dX8_noArc_12 : decode cX8_noArc 12 = .ok (.getfield 16, 3) := by decide +kernel
theorem dX8_noArc_15 : decode cX8_noArc 15 = .ok (.bipush 13, 2) := by decide +kernel
theorem dX8_noArc_17 : decode cX8_noArc 17 = .ok (.iload_n 1, 1) := by decide +kernel
theorem dX8_noArc_18 : decode cX8_noArc 18 = .ok (.iadd, 1) := by decide +kernel
theorem dX8_noArc_19 : decode cX8_noArc 19 = .ok (.iaload, 1) := by decide +kernel
theorem dX8_noArc_20 : decode cX8_noArc 20 = .ok (.iconst 1, 1) := by decide +kernel
theorem dX8_noArc_21 : decode cX8_noArc 21 = .ok (.isub, 1) := by decide +kernel
theorem dX8_noArc_22 : decode cX8_noArc 22 = .ok (.i2l, 1) := by decide +kernel
theorem dX8_noArc_23 : decode cX8_noArc 23 = .ok (.invokestatic 72, 3) := by decide +kernel
theorem dX8_noArc_26 : decode cX8_noArc 26 = .ok (.ifCond .ne 7, 3) := by decide +kernel
theorem dX8_noArc_29 : decode cX8_noArc 29 = .ok (.iconst 1, 1) := by decide +kernel
theorem dX8_noArc_30 : decode cX8_noArc 30 = .ok (.goto 4, 3) := by decide +kernel
theorem dX8_noArc_33 : decode cX8_noArc 33 = .ok (.iconst 0, 1) := by decide +kernel
theorem dX8_noArc_34 : decode cX8_noArc 34 = .ok (.ireturn, 1) := by decide +kernel
theorem dX8_write_0 : decode cX8_write 0 = .ok (.aload_n 0, 1) := by decide +kernel
theorem dX8_write_1 : decode cX8_write 1 = .ok (.iconst 0, 1) := by decide +kernel
theorem dX8_write_2 : decode cX8_write 2 = .ok (.putfield 68, 3) := by decide +kernel
theorem dX8_write_5 : decode cX8_write 5 = .ok (.iload_n 1, 1) := by decide +kernel
theorem dX8_write_6 : decode cX8_write 6 = .ok (.i2l, 1) := by decide +kernel
theorem dX8_write_7 : decode cX8_write 7 = .ok (.lconst 0, 1) := by decide +kernel
theorem dX8_write_8 : decode cX8_write 8 = .ok (.ldc2_w 80, 3) := by decide +kernel
theorem dX8_write_11 : decode cX8_write 11 = .ok (.invokestatic 72, 3) := by decide +kernel
theorem dX8_write_14 : decode cX8_write 14 = .ok (.ifCond .ne 6, 3) := by decide +kernel
theorem dX8_write_17 : decode cX8_write 17 = .ok (.bipush (-2), 2) := by decide +kernel
theorem dX8_write_19 : decode cX8_write 19 = .ok (.ireturn, 1) := by decide +kernel
theorem dX8_write_20 : decode cX8_write 20 = .ok (.aload_n 0, 1) := by decide +kernel
theorem dX8_write_21 : decode cX8_write 21 = .ok (.getfield 82, 3) := by decide +kernel
theorem dX8_write_24 : decode cX8_write 24 = .ok (.bipush 64, 2) := by decide +kernel
theorem dX8_write_26 : decode cX8_write 26 = .ok (.if_icmp .ne 6, 3) := by decide +kernel
theorem dX8_write_29 : decode cX8_write 29 = .ok (.bipush (-4), 2) := by decide +kernel
theorem dX8_write_31 : decode cX8_write 31 = .ok (.ireturn, 1) := by decide +kernel
theorem dX8_write_32 : decode cX8_write 32 = .ok (.aload_n 0, 1) := by decide +kernel
theorem dX8_write_33 : decode cX8_write 33 = .ok (.getfield 7, 3) := by decide +kernel
theorem dX8_write_36 : decode cX8_write 36 = .ok (.aload_n 0, 1) := by decide +kernel
theorem dX8_write_37 : decode cX8_write 37 = .ok (.getfield 82, 3) := by decide +kernel
theorem dX8_write_40 : decode cX8_write 40 = .ok (.iload_n 1, 1) := by decide +kernel
theorem dX8_write_41 : decode cX8_write 41 = .ok (.iastore, 1) := by decide +kernel
theorem dX8_write_42 : decode cX8_write 42 = .ok (.aload_n 0, 1) := by decide +kernel
theorem dX8_write_43 : decode cX8_write 43 = .ok (.dup, 1) := by decide +kernel
theorem dX8_write_44 : decode cX8_write 44 = .ok (.getfield 82, 3) := by decide +kernel
theorem dX8_write_47 : decode cX8_write 47 = .ok (.iconst 1, 1) := by decide +kernel
theorem dX8_write_48 : decode cX8_write 48 = .ok (.iadd, 1) := by decide +kernel
theorem dX8_write_49 : decode cX8_write 49 = .ok (.putfield 82, 3) := by decide +kernel
theorem dX8_write_52 : decode cX8_write 52 = .ok (.aload_n 0, 1) := by decide +kernel
theorem dX8_write_53 : decode cX8_write 53 = .ok (.getfield 82, 3) := by decide +kernel
theorem dX8_write_56 : decode cX8_write 56 = .ok (.ireturn, 1) := by decide +kernel
theorem dX8_wipe_0 : decode cX8_wipe 0 = .ok (.aload_n 0, 1) := by decide +kernel
theorem dX8_wipe_1 : decode cX8_wipe 1 = .ok (.iconst 0, 1) := by decide +kernel
theorem dX8_wipe_2 : decode cX8_wipe 2 = .ok (.putfield 68, 3) := by decide +kernel
theorem dX8_wipe_5 : decode cX8_wipe 5 = .ok (.aload_n 0, 1) := by decide +kernel
theorem dX8_wipe_6 : decode cX8_wipe 6 = .ok (.getfield 82, 3) := by decide +kernel
theorem dX8_wipe_9 : decode cX8_wipe 9 = .ok (.istore_n 1, 1) := by decide +kernel
theorem dX8_wipe_10 : decode cX8_wipe 10 = .ok (.aload_n 0, 1) := by decide +kernel
theorem dX8_wipe_11 : decode cX8_wipe 11 = .ok (.iconst 0, 1) := by decide +kernel
theorem dX8_wipe_12 : decode cX8_wipe 12 = .ok (.putfield 82, 3) := by decide +kernel
theorem dX8_wipe_15 : decode cX8_wipe 15 = .ok (.iload_n 1, 1) := by decide +kernel
theorem dX8_wipe_16 : decode cX8_wipe 16 = .ok (.ireturn, 1) := by decide +kernel
theorem dX8_letterAt_0 : decode cX8_letterAt 0 = .ok (.iload_n 1, 1) := by decide +kernel
theorem dX8_letterAt_1 : decode cX8_letterAt 1 = .ok (.aload_n 0, 1) := by decide +kernel
theorem dX8_letterAt_2 : decode cX8_letterAt 2 = .ok (.getfield 82, 3) := by decide +kernel
theorem dX8_letterAt_5 : decode cX8_letterAt 5 = .ok (.if_icmp .ge 12, 3) := by decide +kernel
theorem dX8_letterAt_8 : decode cX8_letterAt 8 = .ok (.aload_n 0, 1) := by decide +kernel
theorem dX8_letterAt_9 : decode cX8_letterAt 9 = .ok (.getfield 7, 3) := by decide +kernel
theorem dX8_letterAt_12 : decode cX8_letterAt 12 = .ok (.iload_n 1, 1) := by decide +kernel
theorem dX8_letterAt_13 : decode cX8_letterAt 13 = .ok (.iaload, 1) := by decide +kernel
theorem dX8_letterAt_14 : decode cX8_letterAt 14 = .ok (.goto 5, 3) := by decide +kernel
theorem dX8_letterAt_17 : decode cX8_letterAt 17 = .ok (.bipush (-9), 2) := by decide +kernel
theorem dX8_letterAt_19 : decode cX8_letterAt 19 = .ok (.ireturn, 1) := by decide +kernel
theorem dX8_readBlock_0 : decode cX8_readBlock 0 = .ok (.aload_n 0, 1) := by decide +kernel
theorem dX8_readBlock_1 : decode cX8_readBlock 1 = .ok (.aload_n 0, 1) := by decide +kernel
theorem dX8_readBlock_2 : decode cX8_readBlock 2 = .ok (.getfield 85, 3) := by decide +kernel
theorem dX8_readBlock_5 : decode cX8_readBlock 5 = .ok (.invokevirtual 88, 3) := by decide +kernel
theorem dX8_readBlock_8 : decode cX8_readBlock 8 = .ok (.i2l, 1) := by decide +kernel
theorem dX8_readBlock_9 : decode cX8_readBlock 9 = .ok (.ldc2_w 92, 3) := by decide +kernel
theorem dX8_readBlock_12 : decode cX8_readBlock 12 = .ok (.ldc2_w 94, 3) := by decide +kernel
theorem dX8_readBlock_15 : decode cX8_readBlock 15 = .ok (.invokestatic 72, 3) := by decide +kernel
theorem dX8_readBlock_18 : decode cX8_readBlock 18 = .ok (.ifCond .ne 5, 3) := by decide +kernel
theorem dX8_readBlock_21 : decode cX8_readBlock 21 = .ok (.iconst 0, 1) := by decide +kernel
theorem dX8_readBlock_22 : decode cX8_readBlock 22 = .ok (.ireturn, 1) := by decide +kernel
theorem dX8_readBlock_23 : decode cX8_readBlock 23 = .ok (.aload_n 0, 1) := by decide +kernel
theorem dX8_readBlock_24 : decode cX8_readBlock 24 = .ok (.getfield 13, 3) := by decide +kernel
theorem dX8_readBlock_27 : decode cX8_readBlock 27 = .ok (.iconst 1, 1) := by decide +kernel
theorem dX8_readBlock_28 : decode cX8_readBlock 28 = .ok (.iload_n 1, 1) := by decide +kernel
theorem dX8_readBlock_29 : decode cX8_readBlock 29 = .ok (.iadd, 1) := by decide +kernel
theorem dX8_readBlock_30 : decode cX8_readBlock 30 = .ok (.aload_n 0, 1) := by decide +kernel
theorem dX8_readBlock_31 : decode cX8_readBlock 31 = .ok (.getfield 7, 3) := by decide +kernel
theorem dX8_readBlock_34 : decode cX8_readBlock 34 = .ok (.aload_n 0, 1) := by decide +kernel
theorem dX8_readBlock_35 : decode cX8_readBlock 35 = .ok (.getfield 85, 3) := by decide +kernel
theorem dX8_readBlock_38 : decode cX8_readBlock 38 = .ok (.iaload, 1) := by decide +kernel
theorem dX8_readBlock_39 : decode cX8_readBlock 39 = .ok (.iastore, 1) := by decide +kernel
theorem dX8_readBlock_40 : decode cX8_readBlock 40 = .ok (.aload_n 0, 1) := by decide +kernel
theorem dX8_readBlock_41 : decode cX8_readBlock 41 = .ok (.getfield 13, 3) := by decide +kernel
theorem dX8_readBlock_44 : decode cX8_readBlock 44 = .ok (.bipush 13, 2) := by decide +kernel
theorem dX8_readBlock_46 : decode cX8_readBlock 46 = .ok (.iload_n 1, 1) := by decide +kernel
theorem dX8_readBlock_47 : decode cX8_readBlock 47 = .ok (.iadd, 1) := by decide +kernel
theorem dX8_readBlock_48 : decode cX8_readBlock 48 = .ok (.iconst 0, 1) := by decide +kernel
theorem dX8_readBlock_49 : decode cX8_readBlock 49 = .ok (.iastore, 1) := by decide +kernel
theorem dX8_readBlock_50 : decode cX8_readBlock 50 = .ok (.aload_n 0, 1) := by decide +kernel
theorem dX8_readBlock_51 : decode cX8_readBlock 51 = .ok (.dup, 1) := by decide +kernel
theorem dX8_readBlock_52 : decode cX8_readBlock 52 = .ok (.getfield 85, 3) := by decide +kernel
theorem dX8_readBlock_55 : decode cX8_readBlock 55 = .ok (.iconst 1, 1) := by decide +kernel
theorem dX8_readBlock_56 : decode cX8_readBlock 56 = .ok (.iadd, 1) := by decide +kernel
theorem dX8_readBlock_57 : decode cX8_readBlock 57 = .ok (.putfield 85, 3) := by decide +kernel
theorem dX8_readBlock_60 : decode cX8_readBlock 60 = .ok (.aload_n 0, 1) := by decide +kernel
theorem dX8_readBlock_61 : decode cX8_readBlock 61 = .ok (.getfield 13, 3) := by decide +kernel
theorem dX8_readBlock_64 : decode cX8_readBlock 64 = .ok (.bipush 13, 2) := by decide +kernel
theorem dX8_readBlock_66 : decode cX8_readBlock 66 = .ok (.iload_n 1, 1) := by decide +kernel
theorem dX8_readBlock_67 : decode cX8_readBlock 67 = .ok (.iadd, 1) := by decide +kernel
theorem dX8_readBlock_68 : decode cX8_readBlock 68 = .ok (.iaload, 1) := by decide +kernel
theorem dX8_readBlock_69 : decode cX8_readBlock 69 = .ok (.iconst 3, 1) := by decide +kernel
theorem dX8_readBlock_70 : decode cX8_readBlock 70 = .ok (.if_icmp .ge 85, 3) := by decide +kernel
theorem dX8_readBlock_73 : decode cX8_readBlock 73 = .ok (.aload_n 0, 1) := by decide +kernel
theorem dX8_readBlock_74 : decode cX8_readBlock 74 = .ok (.aload_n 0, 1) := by decide +kernel
theorem dX8_readBlock_75 : decode cX8_readBlock 75 = .ok (.getfield 85, 3) := by decide +kernel
theorem dX8_readBlock_78 : decode cX8_readBlock 78 = .ok (.invokevirtual 88, 3) := by decide +kernel
theorem dX8_readBlock_81 : decode cX8_readBlock 81 = .ok (.bipush 48, 2) := by decide +kernel
theorem dX8_readBlock_83 : decode cX8_readBlock 83 = .ok (.isub, 1) := by decide +kernel
theorem dX8_readBlock_84 : decode cX8_readBlock 84 = .ok (.i2l, 1) := by decide +kernel
theorem dX8_readBlock_85 : decode cX8_readBlock 85 = .ok (.lconst 0, 1) := by decide +kernel
theorem dX8_readBlock_86 : decode cX8_readBlock 86 = .ok (.iload_n 2, 1) := by decide +kernel
theorem dX8_readBlock_87 : decode cX8_readBlock 87 = .ok (.iconst 1, 1) := by decide +kernel
theorem dX8_readBlock_88 : decode cX8_readBlock 88 = .ok (.isub, 1) := by decide +kernel
theorem dX8_readBlock_89 : decode cX8_readBlock 89 = .ok (.i2l, 1) := by decide +kernel
theorem dX8_readBlock_90 : decode cX8_readBlock 90 = .ok (.invokestatic 72, 3) := by decide +kernel
theorem dX8_readBlock_93 : decode cX8_readBlock 93 = .ok (.ifCond .eq 62, 3) := by decide +kernel
theorem dX8_readBlock_96 : decode cX8_readBlock 96 = .ok (.aload_n 0, 1) := by decide +kernel
theorem dX8_readBlock_97 : decode cX8_readBlock 97 = .ok (.getfield 13, 3) := by decide +kernel
theorem dX8_readBlock_100 : decode cX8_readBlock 100 = .ok (.bipush 25, 2) := by decide +kernel
theorem dX8_readBlock_102 : decode cX8_readBlock 102 = .ok (.iconst 3, 1) := by decide +kernel
theorem dX8_readBlock_103 : decode cX8_readBlock 103 = .ok (.iload_n 1, 1) := by decide +kernel
theorem dX8_readBlock_104 : decode cX8_readBlock 104 = .ok (.imul, 1) := by decide +kernel
theorem dX8_readBlock_105 : decode cX8_readBlock 105 = .ok (.iadd, 1) := by decide +kernel
theorem dX8_readBlock_106 : decode cX8_readBlock 106 = .ok (.aload_n 0, 1) := by decide +kernel
theorem dX8_readBlock_107 : decode cX8_readBlock 107 = .ok (.getfield 13, 3) := by decide +kernel
theorem dX8_readBlock_110 : decode cX8_readBlock 110 = .ok (.bipush 13, 2) := by decide +kernel
theorem dX8_readBlock_112 : decode cX8_readBlock 112 = .ok (.iload_n 1, 1) := by decide +kernel
theorem dX8_readBlock_113 : decode cX8_readBlock 113 = .ok (.iadd, 1) := by decide +kernel
theorem dX8_readBlock_114 : decode cX8_readBlock 114 = .ok (.iaload, 1) := by decide +kernel
theorem dX8_readBlock_115 : decode cX8_readBlock 115 = .ok (.iadd, 1) := by decide +kernel
theorem dX8_readBlock_116 : decode cX8_readBlock 116 = .ok (.aload_n 0, 1) := by decide +kernel
theorem dX8_readBlock_117 : decode cX8_readBlock 117 = .ok (.getfield 7, 3) := by decide +kernel
theorem dX8_readBlock_120 : decode cX8_readBlock 120 = .ok (.aload_n 0, 1) := by decide +kernel
theorem dX8_readBlock_121 : decode cX8_readBlock 121 = .ok (.getfield 85, 3) := by decide +kernel
theorem dX8_readBlock_124 : decode cX8_readBlock 124 = .ok (.iaload, 1) := by decide +kernel
theorem dX8_readBlock_125 : decode cX8_readBlock 125 = .ok (.bipush 48, 2) := by decide +kernel
theorem dX8_readBlock_127 : decode cX8_readBlock 127 = .ok (.isub, 1) := by decide +kernel
theorem dX8_readBlock_128 : decode cX8_readBlock 128 = .ok (.iastore, 1) := by decide +kernel
theorem dX8_readBlock_129 : decode cX8_readBlock 129 = .ok (.aload_n 0, 1) := by decide +kernel
theorem dX8_readBlock_130 : decode cX8_readBlock 130 = .ok (.getfield 13, 3) := by decide +kernel
theorem dX8_readBlock_133 : decode cX8_readBlock 133 = .ok (.bipush 13, 2) := by decide +kernel
theorem dX8_readBlock_135 : decode cX8_readBlock 135 = .ok (.iload_n 1, 1) := by decide +kernel
theorem dX8_readBlock_136 : decode cX8_readBlock 136 = .ok (.iadd, 1) := by decide +kernel
theorem dX8_readBlock_137 : decode cX8_readBlock 137 = .ok (.dup2, 1) := by decide +kernel
theorem dX8_readBlock_138 : decode cX8_readBlock 138 = .ok (.iaload, 1) := by decide +kernel
theorem dX8_readBlock_139 : decode cX8_readBlock 139 = .ok (.iconst 1, 1) := by decide +kernel
theorem dX8_readBlock_140 : decode cX8_readBlock 140 = .ok (.iadd, 1) := by decide +kernel
theorem dX8_readBlock_141 : decode cX8_readBlock 141 = .ok (.iastore, 1) := by decide +kernel
theorem dX8_readBlock_142 : decode cX8_readBlock 142 = .ok (.aload_n 0, 1) := by decide +kernel
theorem dX8_readBlock_143 : decode cX8_readBlock 143 = .ok (.dup, 1) := by decide +kernel
theorem dX8_readBlock_144 : decode cX8_readBlock 144 = .ok (.getfield 85, 3) := by decide +kernel
theorem dX8_readBlock_147 : decode cX8_readBlock 147 = .ok (.iconst 1, 1) := by decide +kernel
theorem dX8_readBlock_148 : decode cX8_readBlock 148 = .ok (.iadd, 1) := by decide +kernel
theorem dX8_readBlock_149 : decode cX8_readBlock 149 = .ok (.putfield 85, 3) := by decide +kernel
theorem dX8_readBlock_152 : decode cX8_readBlock 152 = .ok (.goto (-92), 3) := by decide +kernel
theorem dX8_readBlock_155 : decode cX8_readBlock 155 = .ok (.iconst 1, 1) := by decide +kernel
theorem dX8_readBlock_156 : decode cX8_readBlock 156 = .ok (.ireturn, 1) := by decide +kernel
theorem dX8_readGraph_0 : decode cX8_readGraph 0 = .ok (.aload_n 0, 1) := by decide +kernel
theorem dX8_readGraph_1 : decode cX8_readGraph 1 = .ok (.iconst 0, 1) := by decide +kernel
theorem dX8_readGraph_2 : decode cX8_readGraph 2 = .ok (.putfield 85, 3) := by decide +kernel
theorem dX8_readGraph_5 : decode cX8_readGraph 5 = .ok (.iconst 0, 1) := by decide +kernel
theorem dX8_readGraph_6 : decode cX8_readGraph 6 = .ok (.istore_n 1, 1) := by decide +kernel
theorem dX8_readGraph_7 : decode cX8_readGraph 7 = .ok (.iload_n 1, 1) := by decide +kernel
theorem dX8_readGraph_8 : decode cX8_readGraph 8 = .ok (.bipush 61, 2) := by decide +kernel
theorem dX8_readGraph_10 : decode cX8_readGraph 10 = .ok (.if_icmp .ge 16, 3) := by decide +kernel
theorem dX8_readGraph_13 : decode cX8_readGraph 13 = .ok (.aload_n 0, 1) := by decide +kernel
theorem dX8_readGraph_14 : decode cX8_readGraph 14 = .ok (.getfield 13, 3) := by decide +kernel
theorem dX8_readGraph_17 : decode cX8_readGraph 17 = .ok (.iload_n 1, 1) := by decide +kernel
theorem dX8_readGraph_18 : decode cX8_readGraph 18 = .ok (.iconst 0, 1) := by decide +kernel
theorem dX8_readGraph_19 : decode cX8_readGraph 19 = .ok (.iastore, 1) := by decide +kernel
theorem dX8_readGraph_20 : decode cX8_readGraph 20 = .ok (.iinc 1 1, 3) := by decide +kernel
theorem dX8_readGraph_23 : decode cX8_readGraph 23 = .ok (.goto (-16), 3) := by decide +kernel
theorem dX8_readGraph_26 : decode cX8_readGraph 26 = .ok (.aload_n 0, 1) := by decide +kernel
theorem dX8_readGraph_27 : decode cX8_readGraph 27 = .ok (.iconst 0, 1) := by decide +kernel
theorem dX8_readGraph_28 : decode cX8_readGraph 28 = .ok (.invokevirtual 88, 3) := by decide +kernel
theorem dX8_readGraph_31 : decode cX8_readGraph 31 = .ok (.bipush 71, 2) := by decide +kernel
theorem dX8_readGraph_33 : decode cX8_readGraph 33 = .ok (.if_icmp .eq 5, 3) := by decide +kernel
theorem dX8_readGraph_36 : decode cX8_readGraph 36 = .ok (.iconst 0, 1) := by decide +kernel
theorem dX8_readGraph_37 : decode cX8_readGraph 37 = .ok (.ireturn, 1) := by decide +kernel
theorem dX8_readGraph_38 : decode cX8_readGraph 38 = .ok (.aload_n 0, 1) := by decide +kernel
theorem dX8_readGraph_39 : decode cX8_readGraph 39 = .ok (.iconst 1, 1) := by decide +kernel
theorem dX8_readGraph_40 : decode cX8_readGraph 40 = .ok (.putfield 85, 3) := by decide +kernel
theorem dX8_readGraph_43 : decode cX8_readGraph 43 = .ok (.aload_n 0, 1) := by decide +kernel
theorem dX8_readGraph_44 : decode cX8_readGraph 44 = .ok (.iconst 1, 1) := by decide +kernel
theorem dX8_readGraph_45 : decode cX8_readGraph 45 = .ok (.invokevirtual 88, 3) := by decide +kernel
theorem dX8_readGraph_48 : decode cX8_readGraph 48 = .ok (.bipush 48, 2) := by decide +kernel
theorem dX8_readGraph_50 : decode cX8_readGraph 50 = .ok (.isub, 1) := by decide +kernel
theorem dX8_readGraph_51 : decode cX8_readGraph 51 = .ok (.istore_n 1, 1) := by decide +kernel
theorem dX8_readGraph_52 : decode cX8_readGraph 52 = .ok (.iload_n 1, 1) := by decide +kernel
theorem dX8_readGraph_53 : decode cX8_readGraph 53 = .ok (.i2l, 1) := by decide +kernel
theorem dX8_readGraph_54 : decode cX8_readGraph 54 = .ok (.lconst 1, 1) := by decide +kernel
theorem dX8_readGraph_55 : decode cX8_readGraph 55 = .ok (.ldc2_w 96, 3) := by decide +kernel
theorem dX8_readGraph_58 : decode cX8_readGraph 58 = .ok (.invokestatic 72, 3) := by decide +kernel
theorem dX8_readGraph_61 : decode cX8_readGraph 61 = .ok (.ifCond .ne 5, 3) := by decide +kernel
theorem dX8_readGraph_64 : decode cX8_readGraph 64 = .ok (.iconst 1, 1) := by decide +kernel
theorem dX8_readGraph_65 : decode cX8_readGraph 65 = .ok (.ireturn, 1) := by decide +kernel
theorem dX8_readGraph_66 : decode cX8_readGraph 66 = .ok (.aload_n 0, 1) := by decide +kernel
theorem dX8_readGraph_67 : decode cX8_readGraph 67 = .ok (.iconst 2, 1) := by decide +kernel
theorem dX8_readGraph_68 : decode cX8_readGraph 68 = .ok (.putfield 85, 3) := by decide +kernel
theorem dX8_readGraph_71 : decode cX8_readGraph 71 = .ok (.iconst 0, 1) := by decide +kernel
theorem dX8_readGraph_72 : decode cX8_readGraph 72 = .ok (.istore_n 2, 1) := by decide +kernel
theorem dX8_readGraph_73 : decode cX8_readGraph 73 = .ok (.iload_n 2, 1) := by decide +kernel
theorem dX8_readGraph_74 : decode cX8_readGraph 74 = .ok (.iload_n 1, 1) := by decide +kernel
theorem dX8_readGraph_75 : decode cX8_readGraph 75 = .ok (.if_icmp .ge 23, 3) := by decide +kernel
theorem dX8_readGraph_78 : decode cX8_readGraph 78 = .ok (.aload_n 0, 1) := by decide +kernel
theorem dX8_readGraph_79 : decode cX8_readGraph 79 = .ok (.iload_n 2, 1) := by decide +kernel
theorem dX8_readGraph_80 : decode cX8_readGraph 80 = .ok (.iload_n 1, 1) := by decide +kernel
theorem dX8_readGraph_81 : decode cX8_readGraph 81 = .ok (.invokevirtual 98, 3) := by decide +kernel
theorem dX8_readGraph_84 : decode cX8_readGraph 84 = .ok (.ifCond .ne 8, 3) := by decide +kernel
theorem dX8_readGraph_87 : decode cX8_readGraph 87 = .ok (.aload_n 0, 1) := by decide +kernel
theorem dX8_readGraph_88 : decode cX8_readGraph 88 = .ok (.getfield 85, 3) := by decide +kernel
theorem dX8_readGraph_91 : decode cX8_readGraph 91 = .ok (.ireturn, 1) := by decide +kernel
theorem dX8_readGraph_92 : decode cX8_readGraph 92 = .ok (.iinc 2 1, 3) := by decide +kernel
theorem dX8_readGraph_95 : decode cX8_readGraph 95 = .ok (.goto (-22), 3) := by decide +kernel
theorem dX8_readGraph_98 : decode cX8_readGraph 98 = .ok (.aload_n 0, 1) := by decide +kernel
theorem dX8_readGraph_99 : decode cX8_readGraph 99 = .ok (.getfield 13, 3) := by decide +kernel
theorem dX8_readGraph_102 : decode cX8_readGraph 102 = .ok (.iconst 0, 1) := by decide +kernel
theorem dX8_readGraph_103 : decode cX8_readGraph 103 = .ok (.iload_n 1, 1) := by decide +kernel
theorem dX8_readGraph_104 : decode cX8_readGraph 104 = .ok (.iastore, 1) := by decide +kernel
theorem dX8_readGraph_105 : decode cX8_readGraph 105 = .ok (.aload_n 0, 1) := by decide +kernel
theorem dX8_readGraph_106 : decode cX8_readGraph 106 = .ok (.getfield 85, 3) := by decide +kernel
theorem dX8_readGraph_109 : decode cX8_readGraph 109 = .ok (.aload_n 0, 1) := by decide +kernel
theorem dX8_readGraph_110 : decode cX8_readGraph 110 = .ok (.getfield 82, 3) := by decide +kernel
theorem dX8_readGraph_113 : decode cX8_readGraph 113 = .ok (.if_icmp .ne 8, 3) := by decide +kernel
theorem dX8_readGraph_116 : decode cX8_readGraph 116 = .ok (.bipush (-9), 2) := by decide +kernel
theorem dX8_readGraph_118 : decode cX8_readGraph 118 = .ok (.goto 7, 3) := by decide +kernel
theorem dX8_readGraph_121 : decode cX8_readGraph 121 = .ok (.aload_n 0, 1) := by decide +kernel
theorem dX8_readGraph_122 : decode cX8_readGraph 122 = .ok (.getfield 85, 3) := by decide +kernel
theorem dX8_readGraph_125 : decode cX8_readGraph 125 = .ok (.ireturn, 1) := by decide +kernel
theorem dX8_fault_0 : decode cX8_fault 0 = .ok (.aload_n 0, 1) := by decide +kernel
theorem dX8_fault_1 : decode cX8_fault 1 = .ok (.iconst 0, 1) := by decide +kernel
theorem dX8_fault_2 : decode cX8_fault 2 = .ok (.putfield 68, 3) := by decide +kernel
theorem dX8_fault_5 : decode cX8_fault 5 = .ok (.aload_n 0, 1) := by decide +kernel
theorem dX8_fault_6 : decode cX8_fault 6 = .ok (.invokevirtual 102, 3) := by decide +kernel
theorem dX8_fault_9 : decode cX8_fault 9 = .ok (.ireturn, 1) := by decide +kernel
theorem dX8_graph_0 : decode cX8_graph 0 = .ok (.aload_n 0, 1) := by decide +kernel
theorem dX8_graph_1 : decode cX8_graph 1 = .ok (.iconst 0, 1) := by decide +kernel
theorem dX8_graph_2 : decode cX8_graph 2 = .ok (.putfield 68, 3) := by decide +kernel
theorem dX8_graph_5 : decode cX8_graph 5 = .ok (.aload_n 0, 1) := by decide +kernel
theorem dX8_graph_6 : decode cX8_graph 6 = .ok (.invokevirtual 102, 3) := by decide +kernel
theorem dX8_graph_9 : decode cX8_graph 9 = .ok (.bipush (-9), 2) := by decide +kernel
theorem dX8_graph_11 : decode cX8_graph 11 = .ok (.if_icmp .eq 6, 3) := by decide +kernel
theorem dX8_graph_14 : decode cX8_graph 14 = .ok (.bipush (-3), 2) := by decide +kernel
theorem dX8_graph_16 : decode cX8_graph 16 = .ok (.ireturn, 1) := by decide +kernel
theorem dX8_graph_17 : decode cX8_graph 17 = .ok (.iconst 0, 1) := by decide +kernel
theorem dX8_graph_18 : decode cX8_graph 18 = .ok (.istore_n 1, 1) := by decide +kernel
theorem dX8_graph_19 : decode cX8_graph 19 = .ok (.iload_n 1, 1) := by decide +kernel
theorem dX8_graph_20 : decode cX8_graph 20 = .ok (.bipush 61, 2) := by decide +kernel
theorem dX8_graph_22 : decode cX8_graph 22 = .ok (.if_icmp .ge 21, 3) := by decide +kernel
theorem dX8_graph_25 : decode cX8_graph 25 = .ok (.aload_n 0, 1) := by decide +kernel
theorem dX8_graph_26 : decode cX8_graph 26 = .ok (.getfield 16, 3) := by decide +kernel
theorem dX8_graph_29 : decode cX8_graph 29 = .ok (.iload_n 1, 1) := by decide +kernel
theorem dX8_graph_30 : decode cX8_graph 30 = .ok (.aload_n 0, 1) := by decide +kernel
theorem dX8_graph_31 : decode cX8_graph 31 = .ok (.getfield 13, 3) := by decide +kernel
theorem dX8_graph_34 : decode cX8_graph 34 = .ok (.iload_n 1, 1) := by decide +kernel
theorem dX8_graph_35 : decode cX8_graph 35 = .ok (.iaload, 1) := by decide +kernel
theorem dX8_graph_36 : decode cX8_graph 36 = .ok (.iastore, 1) := by decide +kernel
theorem dX8_graph_37 : decode cX8_graph 37 = .ok (.iinc 1 1, 3) := by decide +kernel
theorem dX8_graph_40 : decode cX8_graph 40 = .ok (.goto (-21), 3) := by decide +kernel
theorem dX8_graph_43 : decode cX8_graph 43 = .ok (.aload_n 0, 1) := by decide +kernel
theorem dX8_graph_44 : decode cX8_graph 44 = .ok (.iconst 0, 1) := by decide +kernel
theorem dX8_graph_45 : decode cX8_graph 45 = .ok (.putfield 106, 3) := by decide +kernel
theorem dX8_graph_48 : decode cX8_graph 48 = .ok (.aload_n 0, 1) := by decide +kernel
theorem dX8_graph_49 : decode cX8_graph 49 = .ok (.getfield 28, 3) := by decide +kernel
theorem dX8_graph_52 : decode cX8_graph 52 = .ok (.iconst 0, 1) := by decide +kernel
theorem dX8_graph_53 : decode cX8_graph 53 = .ok (.iconst 0, 1) := by decide +kernel
theorem dX8_graph_54 : decode cX8_graph 54 = .ok (.bastore, 1) := by decide +kernel
theorem dX8_graph_55 : decode cX8_graph 55 = .ok (.aload_n 0, 1) := by decide +kernel
theorem dX8_graph_56 : decode cX8_graph 56 = .ok (.getfield 28, 3) := by decide +kernel
theorem dX8_graph_59 : decode cX8_graph 59 = .ok (.iconst 1, 1) := by decide +kernel
theorem dX8_graph_60 : decode cX8_graph 60 = .ok (.iconst 0, 1) := by decide +kernel
theorem dX8_graph_61 : decode cX8_graph 61 = .ok (.bastore, 1) := by decide +kernel
theorem dX8_graph_62 : decode cX8_graph 62 = .ok (.aload_n 0, 1) := by decide +kernel
theorem dX8_graph_63 : decode cX8_graph 63 = .ok (.getfield 16, 3) := by decide +kernel
theorem dX8_graph_66 : decode cX8_graph 66 = .ok (.iconst 0, 1) := by decide +kernel
theorem dX8_graph_67 : decode cX8_graph 67 = .ok (.iaload, 1) := by decide +kernel
theorem dX8_graph_68 : decode cX8_graph 68 = .ok (.ireturn, 1) := by decide +kernel
theorem dX8_goes_0 : decode cX8_goes 0 = .ok (.iconst 0, 1) := by decide +kernel
theorem dX8_goes_1 : decode cX8_goes 1 = .ok (.istore_n 3, 1) := by decide +kernel
theorem dX8_goes_2 : decode cX8_goes 2 = .ok (.iconst 0, 1) := by decide +kernel
theorem dX8_goes_3 : decode cX8_goes 3 = .ok (.istore 4, 2) := by decide +kernel
theorem dX8_goes_5 : decode cX8_goes 5 = .ok (.iload 4, 2) := by decide +kernel
theorem dX8_goes_7 : decode cX8_goes 7 = .ok (.aload_n 0, 1) := by decide +kernel
theorem dX8_goes_8 : decode cX8_goes 8 = .ok (.bipush 13, 2) := by decide +kernel
theorem dX8_goes_10 : decode cX8_goes 10 = .ok (.iload_n 1, 1) := by decide +kernel
theorem dX8_goes_11 : decode cX8_goes 11 = .ok (.iadd, 1) := by decide +kernel
theorem dX8_goes_12 : decode cX8_goes 12 = .ok (.iaload, 1) := by decide +kernel
theorem dX8_goes_13 : decode cX8_goes 13 = .ok (.if_icmp .ge 34, 3) := by decide +kernel
theorem dX8_goes_16 : decode cX8_goes 16 = .ok (.iload_n 3, 1) := by decide +kernel
theorem dX8_goes_17 : decode cX8_goes 17 = .ok (.ifCond .ne 18, 3) := by decide +kernel
theorem dX8_goes_20 : decode cX8_goes 20 = .ok (.aload_n 0, 1) := by decide +kernel
theorem dX8_goes_21 : decode cX8_goes 21 = .ok (.bipush 25, 2) := by decide +kernel
theorem dX8_goes_23 : decode cX8_goes 23 = .ok (.iconst 3, 1) := by decide +kernel
theorem dX8_goes_24 : decode cX8_goes 24 = .ok (.iload_n 1, 1) := by decide +kernel
theorem dX8_goes_25 : decode cX8_goes 25 = .ok (.imul, 1) := by decide +kernel
theorem dX8_goes_26 : decode cX8_goes 26 = .ok (.iadd, 1) := by decide +kernel
theorem dX8_goes_27 : decode cX8_goes 27 = .ok (.iload 4, 2) := by decide +kernel
theorem dX8_goes_29 : decode cX8_goes 29 = .ok (.iadd, 1) := by decide +kernel
theorem dX8_goes_30 : decode cX8_goes 30 = .ok (.iaload, 1) := by decide +kernel
theorem dX8_goes_31 : decode cX8_goes 31 = .ok (.iload_n 2, 1) := by decide +kernel
theorem dX8_goes_32 : decode cX8_goes 32 = .ok (.if_icmp .ne 7, 3) := by decide +kernel
theorem dX8_goes_35 : decode cX8_goes 35 = .ok (.iconst 1, 1) := by decide +kernel
theorem dX8_goes_36 : decode cX8_goes 36 = .ok (.goto 4, 3) := by decide +kernel
theorem dX8_goes_39 : decode cX8_goes 39 = .ok (.iconst 0, 1) := by decide +kernel
theorem dX8_goes_40 : decode cX8_goes 40 = .ok (.istore_n 3, 1) := by decide +kernel
theorem dX8_goes_41 : decode cX8_goes 41 = .ok (.iinc 4 1, 3) := by decide +kernel
theorem dX8_goes_44 : decode cX8_goes 44 = .ok (.goto (-39), 3) := by decide +kernel
theorem dX8_goes_47 : decode cX8_goes 47 = .ok (.iload_n 3, 1) := by decide +kernel
theorem dX8_goes_48 : decode cX8_goes 48 = .ok (.ireturn, 1) := by decide +kernel
theorem dX8_comeTo_0 : decode cX8_comeTo 0 = .ok (.aload_n 0, 1) := by decide +kernel
theorem dX8_comeTo_1 : decode cX8_comeTo 1 = .ok (.getfield 41, 3) := by decide +kernel
theorem dX8_comeTo_4 : decode cX8_comeTo 4 = .ok (.iload_n 1, 1) := by decide +kernel
theorem dX8_comeTo_5 : decode cX8_comeTo 5 = .ok (.aload_n 0, 1) := by decide +kernel
theorem dX8_comeTo_6 : decode cX8_comeTo 6 = .ok (.getfield 109, 3) := by decide +kernel
theorem dX8_comeTo_9 : decode cX8_comeTo 9 = .ok (.iastore, 1) := by decide +kernel
theorem dX8_comeTo_10 : decode cX8_comeTo 10 = .ok (.aload_n 0, 1) := by decide +kernel
theorem dX8_comeTo_11 : decode cX8_comeTo 11 = .ok (.dup, 1) := by decide +kernel
theorem dX8_comeTo_12 : decode cX8_comeTo 12 = .ok (.getfield 109, 3) := by decide +kernel
theorem dX8_comeTo_15 : decode cX8_comeTo 15 = .ok (.iconst 1, 1) := by decide +kernel
theorem dX8_comeTo_16 : decode cX8_comeTo 16 = .ok (.iadd, 1) := by decide +kernel
theorem dX8_comeTo_17 : decode cX8_comeTo 17 = .ok (.putfield 109, 3) := by decide +kernel
theorem dX8_comeTo_20 : decode cX8_comeTo 20 = .ok (.aload_n 0, 1) := by decide +kernel
theorem dX8_comeTo_21 : decode cX8_comeTo 21 = .ok (.getfield 47, 3) := by decide +kernel
theorem dX8_comeTo_24 : decode cX8_comeTo 24 = .ok (.iload_n 2, 1) := by decide +kernel
theorem dX8_comeTo_25 : decode cX8_comeTo 25 = .ok (.iload_n 1, 1) := by decide +kernel
theorem dX8_comeTo_26 : decode cX8_comeTo 26 = .ok (.iastore, 1) := by decide +kernel
theorem dX8_comeTo_27 : decode cX8_comeTo 27 = .ok (.aload_n 0, 1) := by decide +kernel
theorem dX8_comeTo_28 : decode cX8_comeTo 28 = .ok (.getfield 50, 3) := by decide +kernel
theorem dX8_comeTo_31 : decode cX8_comeTo 31 = .ok (.iload_n 2, 1) := by decide +kernel
theorem dX8_comeTo_32 : decode cX8_comeTo 32 = .ok (.iconst 0, 1) := by decide +kernel
theorem dX8_comeTo_33 : decode cX8_comeTo 33 = .ok (.iastore, 1) := by decide +kernel
theorem dX8_comeTo_34 : decode cX8_comeTo 34 = .ok (.return_, 1) := by decide +kernel
theorem dX8_walk_0 : decode cX8_walk 0 = .ok (.aload_n 0, 1) := by decide +kernel
theorem dX8_walk_1 : decode cX8_walk 1 = .ok (.iconst 0, 1) := by decide +kernel
theorem dX8_walk_2 : decode cX8_walk 2 = .ok (.putfield 109, 3) := by decide +kernel
theorem dX8_walk_5 : decode cX8_walk 5 = .ok (.iconst 0, 1) := by decide +kernel
theorem dX8_walk_6 : decode cX8_walk 6 = .ok (.istore_n 2, 1) := by decide +kernel
theorem dX8_walk_7 : decode cX8_walk 7 = .ok (.iload_n 2, 1) := by decide +kernel
theorem dX8_walk_8 : decode cX8_walk 8 = .ok (.bipush 12, 2) := by decide +kernel
theorem dX8_walk_10 : decode cX8_walk 10 = .ok (.if_icmp .ge 25, 3) := by decide +kernel
theorem dX8_walk_13 : decode cX8_walk 13 = .ok (.aload_n 0, 1) := by decide +kernel
theorem dX8_walk_14 : decode cX8_walk 14 = .ok (.getfield 41, 3) := by decide +kernel
theorem dX8_walk_17 : decode cX8_walk 17 = .ok (.iload_n 2, 1) := by decide +kernel
theorem dX8_walk_18 : decode cX8_walk 18 = .ok (.bipush (-9), 2) := by decide +kernel
theorem dX8_walk_20 : decode cX8_walk 20 = .ok (.iastore, 1) := by decide +kernel
theorem dX8_walk_21 : decode cX8_walk 21 = .ok (.aload_n 0, 1) := by decide +kernel
theorem dX8_walk_22 : decode cX8_walk 22 = .ok (.getfield 44, 3) := by decide +kernel
theorem dX8_walk_25 : decode cX8_walk 25 = .ok (.iload_n 2, 1) := by decide +kernel
theorem dX8_walk_26 : decode cX8_walk 26 = .ok (.bipush (-9), 2) := by decide +kernel
theorem dX8_walk_28 : decode cX8_walk 28 = .ok (.iastore, 1) := by decide +kernel
theorem dX8_walk_29 : decode cX8_walk 29 = .ok (.iinc 2 1, 3) := by decide +kernel
theorem dX8_walk_32 : decode cX8_walk 32 = .ok (.goto (-25), 3) := by decide +kernel
theorem dX8_walk_35 : decode cX8_walk 35 = .ok (.iconst (-1), 1) := by decide +kernel
theorem dX8_walk_36 : decode cX8_walk 36 = .ok (.istore_n 2, 1) := by decide +kernel
theorem dX8_walk_37 : decode cX8_walk 37 = .ok (.aload_n 1, 1) := by decide +kernel
theorem dX8_walk_38 : decode cX8_walk 38 = .ok (.iconst 0, 1) := by decide +kernel
theorem dX8_walk_39 : decode cX8_walk 39 = .ok (.iaload, 1) := by decide +kernel
theorem dX8_walk_40 : decode cX8_walk 40 = .ok (.ifCond .le 11, 3) := by decide +kernel
theorem dX8_walk_43 : decode cX8_walk 43 = .ok (.aload_n 0, 1) := by decide +kernel
theorem dX8_walk_44 : decode cX8_walk 44 = .ok (.iconst 0, 1) := by decide +kernel
theorem dX8_walk_45 : decode cX8_walk 45 = .ok (.iconst 0, 1) := by decide +kernel
theorem dX8_walk_46 : decode cX8_walk 46 = .ok (.invokevirtual 112, 3) := by decide +kernel
theorem dX8_walk_49 : decode cX8_walk 49 = .ok (.iconst 0, 1) := by decide +kernel
theorem dX8_walk_50 : decode cX8_walk 50 = .ok (.istore_n 2, 1) := by decide +kernel
theorem dX8_walk_51 : decode cX8_walk 51 = .ok (.iload_n 2, 1) := by decide +kernel
theorem dX8_walk_52 : decode cX8_walk 52 = .ok (.ifCond .lt 95, 3) := by decide +kernel
theorem dX8_walk_55 : decode cX8_walk 55 = .ok (.aload_n 0, 1) := by decide +kernel
theorem dX8_walk_56 : decode cX8_walk 56 = .ok (.getfield 47, 3) := by decide +kernel
theorem dX8_walk_59 : decode cX8_walk 59 = .ok (.iload_n 2, 1) := by decide +kernel
theorem dX8_walk_60 : decode cX8_walk 60 = .ok (.iaload, 1) := by decide +kernel
theorem dX8_walk_61 : decode cX8_walk 61 = .ok (.istore_n 3, 1) := by decide +kernel
theorem dX8_walk_62 : decode cX8_walk 62 = .ok (.aload_n 0, 1) := by decide +kernel
theorem dX8_walk_63 : decode cX8_walk 63 = .ok (.getfield 50, 3) := by decide +kernel
theorem dX8_walk_66 : decode cX8_walk 66 = .ok (.iload_n 2, 1) := by decide +kernel
theorem dX8_walk_67 : decode cX8_walk 67 = .ok (.iaload, 1) := by decide +kernel
theorem dX8_walk_68 : decode cX8_walk 68 = .ok (.aload_n 1, 1) := by decide +kernel
theorem dX8_walk_69 : decode cX8_walk 69 = .ok (.bipush 13, 2) := by decide +kernel
theorem dX8_walk_71 : decode cX8_walk 71 = .ok (.iload_n 3, 1) := by decide +kernel
theorem dX8_walk_72 : decode cX8_walk 72 = .ok (.iadd, 1) := by decide +kernel
theorem dX8_walk_73 : decode cX8_walk 73 = .ok (.iaload, 1) := by decide +kernel
theorem dX8_walk_74 : decode cX8_walk 74 = .ok (.if_icmp .ne 21, 3) := by decide +kernel
theorem dX8_walk_77 : decode cX8_walk 77 = .ok (.aload_n 0, 1) := by decide +kernel
theorem dX8_walk_78 : decode cX8_walk 78 = .ok (.getfield 44, 3) := by decide +kernel
theorem dX8_walk_81 : decode cX8_walk 81 = .ok (.iload_n 3, 1) := by decide +kernel
theorem dX8_walk_82 : decode cX8_walk 82 = .ok (.aload_n 0, 1) := by decide +kernel
theorem dX8_walk_83 : decode cX8_walk 83 = .ok (.getfield 109, 3) := by decide +kernel
theorem dX8_walk_86 : decode cX8_walk 86 = .ok (.iconst 1, 1) := by decide +kernel
theorem dX8_walk_87 : decode cX8_walk 87 = .ok (.isub, 1) := by decide +kernel
theorem dX8_walk_88 : decode cX8_walk 88 = .ok (.iastore, 1) := by decide +kernel
theorem dX8_walk_89 : decode cX8_walk 89 = .ok (.iinc 2 (-1), 3) := by decide +kernel
theorem dX8_walk_92 : decode cX8_walk 92 = .ok (.goto 52, 3) := by decide +kernel
theorem dX8_walk_95 : decode cX8_walk 95 = .ok (.aload_n 1, 1) := by decide +kernel
theorem dX8_walk_96 : decode cX8_walk 96 = .ok (.bipush 25, 2) := by decide +kernel
theorem dX8_walk_98 : decode cX8_walk 98 = .ok (.iconst 3, 1) := by decide +kernel
theorem dX8_walk_99 : decode cX8_walk 99 = .ok (.iload_n 3, 1) := by decide +kernel
theorem dX8_walk_100 : decode cX8_walk 100 = .ok (.imul, 1) := by decide +kernel
theorem dX8_walk_101 : decode cX8_walk 101 = .ok (.iadd, 1) := by decide +kernel
theorem dX8_walk_102 : decode cX8_walk 102 = .ok (.aload_n 0, 1) := by decide +kernel
theorem dX8_walk_103 : decode cX8_walk 103 = .ok (.getfield 50, 3) := by decide +kernel
theorem dX8_walk_106 : decode cX8_walk 106 = .ok (.iload_n 2, 1) := by decide +kernel
theorem dX8_walk_107 : decode cX8_walk 107 = .ok (.iaload, 1) := by decide +kernel
theorem dX8_walk_108 : decode cX8_walk 108 = .ok (.iadd, 1) := by decide +kernel
theorem dX8_walk_109 : decode cX8_walk 109 = .ok (.iaload, 1) := by decide +kernel
theorem dX8_walk_110 : decode cX8_walk 110 = .ok (.istore 4, 2) := by decide +kernel
theorem dX8_walk_112 : decode cX8_walk 112 = .ok (.aload_n 0, 1) := by decide +kernel
theorem dX8_walk_113 : decode cX8_walk 113 = .ok (.getfield 50, 3) := by decide +kernel
theorem dX8_walk_116 : decode cX8_walk 116 = .ok (.iload_n 2, 1) := by decide +kernel
theorem dX8_walk_117 : decode cX8_walk 117 = .ok (.dup2, 1) := by decide +kernel
theorem dX8_walk_118 : decode cX8_walk 118 = .ok (.iaload, 1) := by decide +kernel
theorem dX8_walk_119 : decode cX8_walk 119 = .ok (.iconst 1, 1) := by decide +kernel
theorem dX8_walk_120 : decode cX8_walk 120 = .ok (.iadd, 1) := by decide +kernel
theorem dX8_walk_121 : decode cX8_walk 121 = .ok (.iastore, 1) := by decide +kernel
theorem dX8_walk_122 : decode cX8_walk 122 = .ok (.aload_n 0, 1) := by decide +kernel
theorem dX8_walk_123 : decode cX8_walk 123 = .ok (.getfield 41, 3) := by decide +kernel
theorem dX8_walk_126 : decode cX8_walk 126 = .ok (.iload 4, 2) := by decide +kernel
theorem dX8_walk_128 : decode cX8_walk 128 = .ok (.iaload, 1) := by decide +kernel
theorem dX8_walk_129 : decode cX8_walk 129 = .ok (.bipush (-9), 2) := by decide +kernel
theorem dX8_walk_131 : decode cX8_walk 131 = .ok (.if_icmp .ne 13, 3) := by decide +kernel
theorem dX8_walk_134 : decode cX8_walk 134 = .ok (.iinc 2 1, 3) := by decide +kernel
theorem dX8_walk_137 : decode cX8_walk 137 = .ok (.aload_n 0, 1) := by decide +kernel
theorem dX8_walk_138 : decode cX8_walk 138 = .ok (.iload 4, 2) := by decide +kernel
theorem dX8_walk_140 : decode cX8_walk 140 = .ok (.iload_n 2, 1) := by decide +kernel
theorem dX8_walk_141 : decode cX8_walk 141 = .ok (.invokevirtual 112, 3) := by decide +kernel
theorem dX8_walk_144 : decode cX8_walk 144 = .ok (.goto (-93), 3) := by decide +kernel
theorem dX8_walk_147 : decode cX8_walk 147 = .ok (.return_, 1) := by decide +kernel
theorem dX8_isAbove_0 : decode cX8_isAbove 0 = .ok (.aload_n 0, 1) := by decide +kernel
theorem dX8_isAbove_1 : decode cX8_isAbove 1 = .ok (.getfield 41, 3) := by decide +kernel
theorem dX8_isAbove_4 : decode cX8_isAbove 4 = .ok (.iload_n 1, 1) := by decide +kernel
theorem dX8_isAbove_5 : decode cX8_isAbove 5 = .ok (.iaload, 1) := by decide +kernel
theorem dX8_isAbove_6 : decode cX8_isAbove 6 = .ok (.bipush (-9), 2) := by decide +kernel
theorem dX8_isAbove_8 : decode cX8_isAbove 8 = .ok (.if_icmp .eq 45, 3) := by decide +kernel
theorem dX8_isAbove_11 : decode cX8_isAbove 11 = .ok (.aload_n 0, 1) := by decide +kernel
theorem dX8_isAbove_12 : decode cX8_isAbove 12 = .ok (.getfield 41, 3) := by decide +kernel
theorem dX8_isAbove_15 : decode cX8_isAbove 15 = .ok (.iload_n 2, 1) := by decide +kernel
theorem dX8_isAbove_16 : decode cX8_isAbove 16 = .ok (.iaload, 1) := by decide +kernel
theorem dX8_isAbove_17 : decode cX8_isAbove 17 = .ok (.bipush (-9), 2) := by decide +kernel
theorem dX8_isAbove_19 : decode cX8_isAbove 19 = .ok (.if_icmp .eq 34, 3) := by decide +kernel
theorem dX8_isAbove_22 : decode cX8_isAbove 22 = .ok (.aload_n 0, 1) := by decide +kernel
theorem dX8_isAbove_23 : decode cX8_isAbove 23 = .ok (.getfield 41, 3) := by decide +kernel
theorem dX8_isAbove_26 : decode cX8_isAbove 26 = .ok (.iload_n 2, 1) := by decide +kernel
theorem dX8_isAbove_27 : decode cX8_isAbove 27 = .ok (.iaload, 1) := by decide +kernel
theorem dX8_isAbove_28 : decode cX8_isAbove 28 = .ok (.i2l, 1) := by decide +kernel
theorem dX8_isAbove_29 : decode cX8_isAbove 29 = .ok (.aload_n 0, 1) := by decide +kernel
theorem dX8_isAbove_30 : decode cX8_isAbove 30 = .ok (.getfield 41, 3) := by decide +kernel
theorem dX8_isAbove_33 : decode cX8_isAbove 33 = .ok (.iload_n 1, 1) := by decide +kernel
theorem dX8_isAbove_34 : decode cX8_isAbove 34 = .ok (.iaload, 1) := by decide +kernel
theorem dX8_isAbove_35 : decode cX8_isAbove 35 = .ok (.i2l, 1) := by decide +kernel
theorem dX8_isAbove_36 : decode cX8_isAbove 36 = .ok (.aload_n 0, 1) := by decide +kernel
theorem dX8_isAbove_37 : decode cX8_isAbove 37 = .ok (.getfield 44, 3) := by decide +kernel
theorem dX8_isAbove_40 : decode cX8_isAbove 40 = .ok (.iload_n 1, 1) := by decide +kernel
theorem dX8_isAbove_41 : decode cX8_isAbove 41 = .ok (.iaload, 1) := by decide +kernel
theorem dX8_isAbove_42 : decode cX8_isAbove 42 = .ok (.i2l, 1) := by decide +kernel
theorem dX8_isAbove_43 : decode cX8_isAbove 43 = .ok (.invokestatic 72, 3) := by decide +kernel
theorem dX8_isAbove_46 : decode cX8_isAbove 46 = .ok (.ifCond .eq 7, 3) := by decide +kernel
theorem dX8_isAbove_49 : decode cX8_isAbove 49 = .ok (.iconst 1, 1) := by decide +kernel
theorem dX8_isAbove_50 : decode cX8_isAbove 50 = .ok (.goto 4, 3) := by decide +kernel
theorem dX8_isAbove_53 : decode cX8_isAbove 53 = .ok (.iconst 0, 1) := by decide +kernel
theorem dX8_isAbove_54 : decode cX8_isAbove 54 = .ok (.ireturn, 1) := by decide +kernel
theorem dX8_leader_0 : decode cX8_leader 0 = .ok (.iload_n 1, 1) := by decide +kernel
theorem dX8_leader_1 : decode cX8_leader 1 = .ok (.istore_n 2, 1) := by decide +kernel
theorem dX8_leader_2 : decode cX8_leader 2 = .ok (.aload_n 0, 1) := by decide +kernel
theorem dX8_leader_3 : decode cX8_leader 3 = .ok (.getfield 53, 3) := by decide +kernel
theorem dX8_leader_6 : decode cX8_leader 6 = .ok (.iload_n 2, 1) := by decide +kernel
theorem dX8_leader_7 : decode cX8_leader 7 = .ok (.iaload, 1) := by decide +kernel
theorem dX8_leader_8 : decode cX8_leader 8 = .ok (.bipush (-9), 2) := by decide +kernel
theorem dX8_leader_10 : decode cX8_leader 10 = .ok (.if_icmp .eq 13, 3) := by decide +kernel
theorem dX8_leader_13 : decode cX8_leader 13 = .ok (.aload_n 0, 1) := by decide +kernel
theorem dX8_leader_14 : decode cX8_leader 14 = .ok (.getfield 53, 3) := by decide +kernel
theorem dX8_leader_17 : decode cX8_leader 17 = .ok (.iload_n 2, 1) := by decide +kernel
theorem dX8_leader_18 : decode cX8_leader 18 = .ok (.iaload, 1) := by decide +kernel
theorem dX8_leader_19 : decode cX8_leader 19 = .ok (.istore_n 2, 1) := by decide +kernel
theorem dX8_leader_20 : decode cX8_leader 20 = .ok (.goto (-18), 3) := by decide +kernel
theorem dX8_leader_23 : decode cX8_leader 23 = .ok (.iload_n 2, 1) := by decide +kernel
theorem dX8_leader_24 : decode cX8_leader 24 = .ok (.ireturn, 1) := by decide +kernel
theorem dX8_layEntries_0 : decode cX8_layEntries 0 = .ok (.iconst 0, 1) := by decide +kernel
theorem dX8_layEntries_1 : decode cX8_layEntries 1 = .ok (.istore_n 2, 1) := by decide +kernel
theorem dX8_layEntries_2 : decode cX8_layEntries 2 = .ok (.iload_n 2, 1) := by decide +kernel
theorem dX8_layEntries_3 : decode cX8_layEntries 3 = .ok (.bipush 12, 2) := by decide +kernel
theorem dX8_layEntries_5 : decode cX8_layEntries 5 = .ok (.if_icmp .ge 91, 3) := by decide +kernel
theorem dX8_layEntries_8 : decode cX8_layEntries 8 = .ok (.aload_n 0, 1) := by decide +kernel
theorem dX8_layEntries_9 : decode cX8_layEntries 9 = .ok (.getfield 59, 3) := by decide +kernel
theorem dX8_layEntries_12 : decode cX8_layEntries 12 = .ok (.iload_n 2, 1) := by decide +kernel
theorem dX8_layEntries_13 : decode cX8_layEntries 13 = .ok (.iconst 0, 1) := by decide +kernel
theorem dX8_layEntries_14 : decode cX8_layEntries 14 = .ok (.iastore, 1) := by decide +kernel
theorem dX8_layEntries_15 : decode cX8_layEntries 15 = .ok (.aload_n 0, 1) := by decide +kernel
theorem dX8_layEntries_16 : decode cX8_layEntries 16 = .ok (.getfield 53, 3) := by decide +kernel
theorem dX8_layEntries_19 : decode cX8_layEntries 19 = .ok (.iload_n 2, 1) := by decide +kernel
theorem dX8_layEntries_20 : decode cX8_layEntries 20 = .ok (.bipush (-9), 2) := by decide +kernel
theorem dX8_layEntries_22 : decode cX8_layEntries 22 = .ok (.iastore, 1) := by decide +kernel
theorem dX8_layEntries_23 : decode cX8_layEntries 23 = .ok (.aload_n 0, 1) := by decide +kernel
theorem dX8_layEntries_24 : decode cX8_layEntries 24 = .ok (.getfield 56, 3) := by decide +kernel
theorem dX8_layEntries_27 : decode cX8_layEntries 27 = .ok (.iload_n 2, 1) := by decide +kernel
theorem dX8_layEntries_28 : decode cX8_layEntries 28 = .ok (.iconst 0, 1) := by decide +kernel
theorem dX8_layEntries_29 : decode cX8_layEntries 29 = .ok (.iastore, 1) := by decide +kernel
theorem dX8_layEntries_30 : decode cX8_layEntries 30 = .ok (.iconst 0, 1) := by decide +kernel
theorem dX8_layEntries_31 : decode cX8_layEntries 31 = .ok (.istore_n 3, 1) := by decide +kernel
theorem dX8_layEntries_32 : decode cX8_layEntries 32 = .ok (.iload_n 3, 1) := by decide +kernel
theorem dX8_layEntries_33 : decode cX8_layEntries 33 = .ok (.aload_n 1, 1) := by decide +kernel
theorem dX8_layEntries_34 : decode cX8_layEntries 34 = .ok (.iconst 0, 1) := by decide +kernel
theorem dX8_layEntries_35 : decode cX8_layEntries 35 = .ok (.iaload, 1) := by decide +kernel
theorem dX8_layEntries_36 : decode cX8_layEntries 36 = .ok (.if_icmp .ge 54, 3) := by decide +kernel
theorem dX8_layEntries_39 : decode cX8_layEntries 39 = .ok (.aload_n 0, 1) := by decide +kernel
theorem dX8_layEntries_40 : decode cX8_layEntries 40 = .ok (.getfield 59, 3) := by decide +kernel
theorem dX8_layEntries_43 : decode cX8_layEntries 43 = .ok (.iload_n 2, 1) := by decide +kernel
theorem dX8_layEntries_44 : decode cX8_layEntries 44 = .ok (.dup2, 1) := by decide +kernel
theorem dX8_layEntries_45 : decode cX8_layEntries 45 = .ok (.iaload, 1) := by decide +kernel
theorem dX8_layEntries_46 : decode cX8_layEntries 46 = .ok (.aload_n 0, 1) := by decide +kernel
theorem dX8_layEntries_47 : decode cX8_layEntries 47 = .ok (.getfield 41, 3) := by decide +kernel
theorem dX8_layEntries_50 : decode cX8_layEntries 50 = .ok (.iload_n 3, 1) := by decide +kernel
theorem dX8_layEntries_51 : decode cX8_layEntries 51 = .ok (.iaload, 1) := by decide +kernel
theorem dX8_layEntries_52 : decode cX8_layEntries 52 = .ok (.bipush (-9), 2) := by decide +kernel
theorem dX8_layEntries_54 : decode cX8_layEntries 54 = .ok (.if_icmp .eq 27, 3) := by decide +kernel
theorem dX8_layEntries_57 : decode cX8_layEntries 57 = .ok (.aload_n 1, 1) := by decide +kernel
theorem dX8_layEntries_58 : decode cX8_layEntries 58 = .ok (.iload_n 3, 1) := by decide +kernel
theorem dX8_layEntries_59 : decode cX8_layEntries 59 = .ok (.iload_n 2, 1) := by decide +kernel
theorem dX8_layEntries_60 : decode cX8_layEntries 60 = .ok (.invokestatic 116, 3) := by decide +kernel
theorem dX8_layEntries_63 : decode cX8_layEntries 63 = .ok (.ifCond .eq 18, 3) := by decide +kernel
theorem dX8_layEntries_66 : decode cX8_layEntries 66 = .ok (.aload_n 0, 1) := by decide +kernel
theorem dX8_layEntries_67 : decode cX8_layEntries 67 = .ok (.iload_n 2, 1) := by decide +kernel
theorem dX8_layEntries_68 : decode cX8_layEntries 68 = .ok (.iload_n 3, 1) := by decide +kernel
theorem dX8_layEntries_69 : decode cX8_layEntries 69 = .ok (.invokevirtual 120, 3) := by decide +kernel
theorem dX8_layEntries_72 : decode cX8_layEntries 72 = .ok (.ifCond .ne 9, 3) := by decide +kernel
theorem dX8_layEntries_75 : decode cX8_layEntries 75 = .ok (.iconst 1, 1) := by decide +kernel
theorem dX8_layEntries_76 : decode cX8_layEntries 76 = .ok (.iload_n 3, 1) := by decide +kernel
theorem dX8_layEntries_77 : decode cX8_layEntries 77 = .ok (.ishl, 1) := by decide +kernel
theorem dX8_layEntries_78 : decode cX8_layEntries 78 = .ok (.goto 4, 3) := by decide +kernel
theorem dX8_layEntries_81 : decode cX8_layEntries 81 = .ok (.iconst 0, 1) := by decide +kernel
theorem dX8_layEntries_82 : decode cX8_layEntries 82 = .ok (.ior, 1) := by decide +kernel
theorem dX8_layEntries_83 : decode cX8_layEntries 83 = .ok (.iastore, 1) := by decide +kernel
theorem dX8_layEntries_84 : decode cX8_layEntries 84 = .ok (.iinc 3 1, 3) := by decide +kernel
theorem dX8_layEntries_87 : decode cX8_layEntries 87 = .ok (.goto (-55), 3) := by decide +kernel
theorem dX8_layEntries_90 : decode cX8_layEntries 90 = .ok (.iinc 2 1, 3) := by decide +kernel
theorem dX8_layEntries_93 : decode cX8_layEntries 93 = .ok (.goto (-91), 3) := by decide +kernel
theorem dX8_layEntries_96 : decode cX8_layEntries 96 = .ok (.return_, 1) := by decide +kernel
theorem dX8_backs_0 : decode cX8_backs 0 = .ok (.iconst 0, 1) := by decide +kernel
theorem dX8_backs_1 : decode cX8_backs 1 = .ok (.istore_n 3, 1) := by decide +kernel
theorem dX8_backs_2 : decode cX8_backs 2 = .ok (.iconst 0, 1) := by decide +kernel
theorem dX8_backs_3 : decode cX8_backs 3 = .ok (.istore 4, 2) := by decide +kernel
theorem dX8_backs_5 : decode cX8_backs 5 = .ok (.iload 4, 2) := by decide +kernel
theorem dX8_backs_7 : decode cX8_backs 7 = .ok (.aload_n 1, 1) := by decide +kernel
theorem dX8_backs_8 : decode cX8_backs 8 = .ok (.iconst 0, 1) := by decide +kernel
theorem dX8_backs_9 : decode cX8_backs 9 = .ok (.iaload, 1) := by decide +kernel
theorem dX8_backs_10 : decode cX8_backs 10 = .ok (.if_icmp .ge 52, 3) := by decide +kernel
theorem dX8_backs_13 : decode cX8_backs 13 = .ok (.iload_n 3, 1) := by decide +kernel
theorem dX8_backs_14 : decode cX8_backs 14 = .ok (.aload_n 0, 1) := by decide +kernel
theorem dX8_backs_15 : decode cX8_backs 15 = .ok (.getfield 41, 3) := by decide +kernel
theorem dX8_backs_18 : decode cX8_backs 18 = .ok (.iload 4, 2) := by decide +kernel
theorem dX8_backs_20 : decode cX8_backs 20 = .ok (.iaload, 1) := by decide +kernel
theorem dX8_backs_21 : decode cX8_backs 21 = .ok (.bipush (-9), 2) := by decide +kernel
theorem dX8_backs_23 : decode cX8_backs 23 = .ok (.if_icmp .eq 30, 3) := by decide +kernel
theorem dX8_backs_26 : decode cX8_backs 26 = .ok (.aload_n 1, 1) := by decide +kernel
theorem dX8_backs_27 : decode cX8_backs 27 = .ok (.iload 4, 2) := by decide +kernel
theorem dX8_backs_29 : decode cX8_backs 29 = .ok (.iload_n 2, 1) := by decide +kernel
theorem dX8_backs_30 : decode cX8_backs 30 = .ok (.invokestatic 116, 3) := by decide +kernel
theorem dX8_backs_33 : decode cX8_backs 33 = .ok (.ifCond .eq 20, 3) := by decide +kernel
theorem dX8_backs_36 : decode cX8_backs 36 = .ok (.aload_n 0, 1) := by decide +kernel
theorem dX8_backs_37 : decode cX8_backs 37 = .ok (.iload_n 2, 1) := by decide +kernel
theorem dX8_backs_38 : decode cX8_backs 38 = .ok (.iload 4, 2) := by decide +kernel
theorem dX8_backs_40 : decode cX8_backs 40 = .ok (.invokevirtual 120, 3) := by decide +kernel
theorem dX8_backs_43 : decode cX8_backs 43 = .ok (.ifCond .eq 10, 3) := by decide +kernel
theorem dX8_backs_46 : decode cX8_backs 46 = .ok (.iconst 1, 1) := by decide +kernel
theorem dX8_backs_47 : decode cX8_backs 47 = .ok (.iload 4, 2) := by decide +kernel
theorem dX8_backs_49 : decode cX8_backs 49 = .ok (.ishl, 1) := by decide +kernel
theorem dX8_backs_50 : decode cX8_backs 50 = .ok (.goto 4, 3) := by decide +kernel
theorem dX8_backs_53 : decode cX8_backs 53 = .ok (.iconst 0, 1) := by decide +kernel
theorem dX8_backs_54 : decode cX8_backs 54 = .ok (.ior, 1) := by decide +kernel
theorem dX8_backs_55 : decode cX8_backs 55 = .ok (.istore_n 3, 1) := by decide +kernel
theorem dX8_backs_56 : decode cX8_backs 56 = .ok (.iinc 4 1, 3) := by decide +kernel
theorem dX8_backs_59 : decode cX8_backs 59 = .ok (.goto (-54), 3) := by decide +kernel
theorem dX8_backs_62 : decode cX8_backs 62 = .ok (.iload_n 3, 1) := by decide +kernel
theorem dX8_backs_63 : decode cX8_backs 63 = .ok (.ireturn, 1) := by decide +kernel
theorem dX8_drawnBy_0 : decode cX8_drawnBy 0 = .ok (.iconst 0, 1) := by decide +kernel
