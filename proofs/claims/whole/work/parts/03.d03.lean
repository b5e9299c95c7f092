theorem dX8_drawnBy_1 : decode cX8_drawnBy 1 = .ok (.istore_n 3, 1) := by decide +kernel
theorem dX8_drawnBy_2 : decode cX8_drawnBy 2 = .ok (.iconst 0, 1) := by decide +kernel
theorem dX8_drawnBy_3 : decode cX8_drawnBy 3 = .ok (.istore 4, 2) := by decide +kernel
theorem dX8_drawnBy_5 : decode cX8_drawnBy 5 = .ok (.iload 4, 2) := by decide +kernel
theorem dX8_drawnBy_7 : decode cX8_drawnBy 7 = .ok (.bipush 12, 2) := by decide +kernel
theorem dX8_drawnBy_9 : decode cX8_drawnBy 9 = .ok (.if_icmp .ge 105, 3) := by decide +kernel
theorem dX8_drawnBy_12 : decode cX8_drawnBy 12 = .ok (.aload_n 0, 1) := by decide +kernel
theorem dX8_drawnBy_13 : decode cX8_drawnBy 13 = .ok (.getfield 59, 3) := by decide +kernel
theorem dX8_drawnBy_16 : decode cX8_drawnBy 16 = .ok (.iload_n 2, 1) := by decide +kernel
theorem dX8_drawnBy_17 : decode cX8_drawnBy 17 = .ok (.iaload, 1) := by decide +kernel
theorem dX8_drawnBy_18 : decode cX8_drawnBy 18 = .ok (.iload 4, 2) := by decide +kernel
theorem dX8_drawnBy_20 : decode cX8_drawnBy 20 = .ok (.invokestatic 123, 3) := by decide +kernel
theorem dX8_drawnBy_23 : decode cX8_drawnBy 23 = .ok (.ifCond .eq 85, 3) := by decide +kernel
theorem dX8_drawnBy_26 : decode cX8_drawnBy 26 = .ok (.aload_n 0, 1) := by decide +kernel
theorem dX8_drawnBy_27 : decode cX8_drawnBy 27 = .ok (.iload 4, 2) := by decide +kernel
theorem dX8_drawnBy_29 : decode cX8_drawnBy 29 = .ok (.invokevirtual 126, 3) := by decide +kernel
theorem dX8_drawnBy_32 : decode cX8_drawnBy 32 = .ok (.istore 5, 2) := by decide +kernel
theorem dX8_drawnBy_34 : decode cX8_drawnBy 34 = .ok (.aload_n 0, 1) := by decide +kernel
theorem dX8_drawnBy_35 : decode cX8_drawnBy 35 = .ok (.iload_n 1, 1) := by decide +kernel
theorem dX8_drawnBy_36 : decode cX8_drawnBy 36 = .ok (.iload 5, 2) := by decide +kernel
theorem dX8_drawnBy_38 : decode cX8_drawnBy 38 = .ok (.invokevirtual 120, 3) := by decide +kernel
theorem dX8_drawnBy_41 : decode cX8_drawnBy 41 = .ok (.istore 6, 2) := by decide +kernel
theorem dX8_drawnBy_43 : decode cX8_drawnBy 43 = .ok (.iload_n 3, 1) := by decide +kernel
theorem dX8_drawnBy_44 : decode cX8_drawnBy 44 = .ok (.iload 6, 2) := by decide +kernel
theorem dX8_drawnBy_46 : decode cX8_drawnBy 46 = .ok (.ifCond .eq 16, 3) := by decide +kernel
theorem dX8_drawnBy_49 : decode cX8_drawnBy 49 = .ok (.iload 5, 2) := by decide +kernel
theorem dX8_drawnBy_51 : decode cX8_drawnBy 51 = .ok (.iload_n 1, 1) := by decide +kernel
theorem dX8_drawnBy_52 : decode cX8_drawnBy 52 = .ok (.if_icmp .eq 10, 3) := by decide +kernel
theorem dX8_drawnBy_55 : decode cX8_drawnBy 55 = .ok (.iconst 1, 1) := by decide +kernel
theorem dX8_drawnBy_56 : decode cX8_drawnBy 56 = .ok (.iload 5, 2) := by decide +kernel
theorem dX8_drawnBy_58 : decode cX8_drawnBy 58 = .ok (.ishl, 1) := by decide +kernel
theorem dX8_drawnBy_59 : decode cX8_drawnBy 59 = .ok (.goto 4, 3) := by decide +kernel
theorem dX8_drawnBy_62 : decode cX8_drawnBy 62 = .ok (.iconst 0, 1) := by decide +kernel
theorem dX8_drawnBy_63 : decode cX8_drawnBy 63 = .ok (.ior, 1) := by decide +kernel
theorem dX8_drawnBy_64 : decode cX8_drawnBy 64 = .ok (.istore_n 3, 1) := by decide +kernel
theorem dX8_drawnBy_65 : decode cX8_drawnBy 65 = .ok (.aload_n 0, 1) := by decide +kernel
theorem dX8_drawnBy_66 : decode cX8_drawnBy 66 = .ok (.getfield 59, 3) := by decide +kernel
theorem dX8_drawnBy_69 : decode cX8_drawnBy 69 = .ok (.iload_n 1, 1) := by decide +kernel
theorem dX8_drawnBy_70 : decode cX8_drawnBy 70 = .ok (.dup2, 1) := by decide +kernel
theorem dX8_drawnBy_71 : decode cX8_drawnBy 71 = .ok (.iaload, 1) := by decide +kernel
theorem dX8_drawnBy_72 : decode cX8_drawnBy 72 = .ok (.iload 6, 2) := by decide +kernel
theorem dX8_drawnBy_74 : decode cX8_drawnBy 74 = .ok (.ifCond .eq 7, 3) := by decide +kernel
theorem dX8_drawnBy_77 : decode cX8_drawnBy 77 = .ok (.iconst 0, 1) := by decide +kernel
theorem dX8_drawnBy_78 : decode cX8_drawnBy 78 = .ok (.goto 7, 3) := by decide +kernel
theorem dX8_drawnBy_81 : decode cX8_drawnBy 81 = .ok (.iconst 1, 1) := by decide +kernel
theorem dX8_drawnBy_82 : decode cX8_drawnBy 82 = .ok (.iload 5, 2) := by decide +kernel
theorem dX8_drawnBy_84 : decode cX8_drawnBy 84 = .ok (.ishl, 1) := by decide +kernel
theorem dX8_drawnBy_85 : decode cX8_drawnBy 85 = .ok (.ior, 1) := by decide +kernel
theorem dX8_drawnBy_86 : decode cX8_drawnBy 86 = .ok (.iastore, 1) := by decide +kernel
theorem dX8_drawnBy_87 : decode cX8_drawnBy 87 = .ok (.aload_n 0, 1) := by decide +kernel
theorem dX8_drawnBy_88 : decode cX8_drawnBy 88 = .ok (.getfield 56, 3) := by decide +kernel
theorem dX8_drawnBy_91 : decode cX8_drawnBy 91 = .ok (.iload_n 1, 1) := by decide +kernel
theorem dX8_drawnBy_92 : decode cX8_drawnBy 92 = .ok (.iload 6, 2) := by decide +kernel
theorem dX8_drawnBy_94 : decode cX8_drawnBy 94 = .ok (.ifCond .eq 12, 3) := by decide +kernel
theorem dX8_drawnBy_97 : decode cX8_drawnBy 97 = .ok (.aload_n 0, 1) := by decide +kernel
theorem dX8_drawnBy_98 : decode cX8_drawnBy 98 = .ok (.getfield 56, 3) := by decide +kernel
theorem dX8_drawnBy_101 : decode cX8_drawnBy 101 = .ok (.iload_n 1, 1) := by decide +kernel
theorem dX8_drawnBy_102 : decode cX8_drawnBy 102 = .ok (.iaload, 1) := by decide +kernel
theorem dX8_drawnBy_103 : decode cX8_drawnBy 103 = .ok (.goto 4, 3) := by decide +kernel
theorem dX8_drawnBy_106 : decode cX8_drawnBy 106 = .ok (.iconst 3, 1) := by decide +kernel
theorem dX8_drawnBy_107 : decode cX8_drawnBy 107 = .ok (.iastore, 1) := by decide +kernel
theorem dX8_drawnBy_108 : decode cX8_drawnBy 108 = .ok (.iinc 4 1, 3) := by decide +kernel
theorem dX8_drawnBy_111 : decode cX8_drawnBy 111 = .ok (.goto (-106), 3) := by decide +kernel
theorem dX8_drawnBy_114 : decode cX8_drawnBy 114 = .ok (.iload_n 3, 1) := by decide +kernel
theorem dX8_drawnBy_115 : decode cX8_drawnBy 115 = .ok (.ireturn, 1) := by decide +kernel
theorem dX8_bodyOf_0 : decode cX8_bodyOf 0 = .ok (.aload_n 0, 1) := by decide +kernel
theorem dX8_bodyOf_1 : decode cX8_bodyOf 1 = .ok (.aload_n 1, 1) := by decide +kernel
theorem dX8_bodyOf_2 : decode cX8_bodyOf 2 = .ok (.iload_n 2, 1) := by decide +kernel
theorem dX8_bodyOf_3 : decode cX8_bodyOf 3 = .ok (.invokevirtual 129, 3) := by decide +kernel
theorem dX8_bodyOf_6 : decode cX8_bodyOf 6 = .ok (.istore_n 3, 1) := by decide +kernel
theorem dX8_bodyOf_7 : decode cX8_bodyOf 7 = .ok (.iconst 0, 1) := by decide +kernel
theorem dX8_bodyOf_8 : decode cX8_bodyOf 8 = .ok (.istore 4, 2) := by decide +kernel
theorem dX8_bodyOf_10 : decode cX8_bodyOf 10 = .ok (.iconst 0, 1) := by decide +kernel
theorem dX8_bodyOf_11 : decode cX8_bodyOf 11 = .ok (.istore 5, 2) := by decide +kernel
theorem dX8_bodyOf_13 : decode cX8_bodyOf 13 = .ok (.iload 5, 2) := by decide +kernel
theorem dX8_bodyOf_15 : decode cX8_bodyOf 15 = .ok (.bipush 12, 2) := by decide +kernel
theorem dX8_bodyOf_17 : decode cX8_bodyOf 17 = .ok (.if_icmp .ge 45, 3) := by decide +kernel
theorem dX8_bodyOf_20 : decode cX8_bodyOf 20 = .ok (.iload 4, 2) := by decide +kernel
theorem dX8_bodyOf_22 : decode cX8_bodyOf 22 = .ok (.iload_n 3, 1) := by decide +kernel
theorem dX8_bodyOf_23 : decode cX8_bodyOf 23 = .ok (.iload 5, 2) := by decide +kernel
theorem dX8_bodyOf_25 : decode cX8_bodyOf 25 = .ok (.invokestatic 123, 3) := by decide +kernel
theorem dX8_bodyOf_28 : decode cX8_bodyOf 28 = .ok (.ifCond .eq 24, 3) := by decide +kernel
theorem dX8_bodyOf_31 : decode cX8_bodyOf 31 = .ok (.aload_n 0, 1) := by decide +kernel
theorem dX8_bodyOf_32 : decode cX8_bodyOf 32 = .ok (.iload 5, 2) := by decide +kernel
theorem dX8_bodyOf_34 : decode cX8_bodyOf 34 = .ok (.invokevirtual 126, 3) := by decide +kernel
theorem dX8_bodyOf_37 : decode cX8_bodyOf 37 = .ok (.iload_n 2, 1) := by decide +kernel
theorem dX8_bodyOf_38 : decode cX8_bodyOf 38 = .ok (.if_icmp .eq 14, 3) := by decide +kernel
theorem dX8_bodyOf_41 : decode cX8_bodyOf 41 = .ok (.iconst 1, 1) := by decide +kernel
theorem dX8_bodyOf_42 : decode cX8_bodyOf 42 = .ok (.aload_n 0, 1) := by decide +kernel
theorem dX8_bodyOf_43 : decode cX8_bodyOf 43 = .ok (.iload 5, 2) := by decide +kernel
theorem dX8_bodyOf_45 : decode cX8_bodyOf 45 = .ok (.invokevirtual 126, 3) := by decide +kernel
theorem dX8_bodyOf_48 : decode cX8_bodyOf 48 = .ok (.ishl, 1) := by decide +kernel
theorem dX8_bodyOf_49 : decode cX8_bodyOf 49 = .ok (.goto 4, 3) := by decide +kernel
theorem dX8_bodyOf_52 : decode cX8_bodyOf 52 = .ok (.iconst 0, 1) := by decide +kernel
theorem dX8_bodyOf_53 : decode cX8_bodyOf 53 = .ok (.ior, 1) := by decide +kernel
theorem dX8_bodyOf_54 : decode cX8_bodyOf 54 = .ok (.istore 4, 2) := by decide +kernel
theorem dX8_bodyOf_56 : decode cX8_bodyOf 56 = .ok (.iinc 5 1, 3) := by decide +kernel
theorem dX8_bodyOf_59 : decode cX8_bodyOf 59 = .ok (.goto (-46), 3) := by decide +kernel
theorem dX8_bodyOf_62 : decode cX8_bodyOf 62 = .ok (.aload_n 0, 1) := by decide +kernel
theorem dX8_bodyOf_63 : decode cX8_bodyOf 63 = .ok (.getfield 56, 3) := by decide +kernel
theorem dX8_bodyOf_66 : decode cX8_bodyOf 66 = .ok (.iload_n 2, 1) := by decide +kernel
theorem dX8_bodyOf_67 : decode cX8_bodyOf 67 = .ok (.iload_n 3, 1) := by decide +kernel
theorem dX8_bodyOf_68 : decode cX8_bodyOf 68 = .ok (.ifCond .ne 7, 3) := by decide +kernel
theorem dX8_bodyOf_71 : decode cX8_bodyOf 71 = .ok (.iconst 0, 1) := by decide +kernel
theorem dX8_bodyOf_72 : decode cX8_bodyOf 72 = .ok (.goto 13, 3) := by decide +kernel
theorem dX8_bodyOf_75 : decode cX8_bodyOf 75 = .ok (.iload 4, 2) := by decide +kernel
theorem dX8_bodyOf_77 : decode cX8_bodyOf 77 = .ok (.ifCond .ne 7, 3) := by decide +kernel
theorem dX8_bodyOf_80 : decode cX8_bodyOf 80 = .ok (.iconst 1, 1) := by decide +kernel
theorem dX8_bodyOf_81 : decode cX8_bodyOf 81 = .ok (.goto 4, 3) := by decide +kernel
theorem dX8_bodyOf_84 : decode cX8_bodyOf 84 = .ok (.iconst 2, 1) := by decide +kernel
theorem dX8_bodyOf_85 : decode cX8_bodyOf 85 = .ok (.iastore, 1) := by decide +kernel
theorem dX8_bodyOf_86 : decode cX8_bodyOf 86 = .ok (.iconst 0, 1) := by decide +kernel
theorem dX8_bodyOf_87 : decode cX8_bodyOf 87 = .ok (.istore 5, 2) := by decide +kernel
theorem dX8_bodyOf_89 : decode cX8_bodyOf 89 = .ok (.iload 5, 2) := by decide +kernel
theorem dX8_bodyOf_91 : decode cX8_bodyOf 91 = .ok (.iload 4, 2) := by decide +kernel
theorem dX8_bodyOf_93 : decode cX8_bodyOf 93 = .ok (.if_icmp .eq 51, 3) := by decide +kernel
theorem dX8_bodyOf_96 : decode cX8_bodyOf 96 = .ok (.iconst 0, 1) := by decide +kernel
theorem dX8_bodyOf_97 : decode cX8_bodyOf 97 = .ok (.istore 6, 2) := by decide +kernel
theorem dX8_bodyOf_99 : decode cX8_bodyOf 99 = .ok (.iload 4, 2) := by decide +kernel
theorem dX8_bodyOf_101 : decode cX8_bodyOf 101 = .ok (.iload 5, 2) := by decide +kernel
theorem dX8_bodyOf_103 : decode cX8_bodyOf 103 = .ok (.iconst (-1), 1) := by decide +kernel
theorem dX8_bodyOf_104 : decode cX8_bodyOf 104 = .ok (.ixor, 1) := by decide +kernel
theorem dX8_bodyOf_105 : decode cX8_bodyOf 105 = .ok (.iand, 1) := by decide +kernel
theorem dX8_bodyOf_106 : decode cX8_bodyOf 106 = .ok (.iload 6, 2) := by decide +kernel
theorem dX8_bodyOf_108 : decode cX8_bodyOf 108 = .ok (.invokestatic 123, 3) := by decide +kernel
theorem dX8_bodyOf_111 : decode cX8_bodyOf 111 = .ok (.ifCond .ne 9, 3) := by decide +kernel
theorem dX8_bodyOf_114 : decode cX8_bodyOf 114 = .ok (.iinc 6 1, 3) := by decide +kernel
theorem dX8_bodyOf_117 : decode cX8_bodyOf 117 = .ok (.goto (-18), 3) := by decide +kernel
theorem dX8_bodyOf_120 : decode cX8_bodyOf 120 = .ok (.iload 5, 2) := by decide +kernel
theorem dX8_bodyOf_122 : decode cX8_bodyOf 122 = .ok (.iconst 1, 1) := by decide +kernel
theorem dX8_bodyOf_123 : decode cX8_bodyOf 123 = .ok (.iload 6, 2) := by decide +kernel
theorem dX8_bodyOf_125 : decode cX8_bodyOf 125 = .ok (.ishl, 1) := by decide +kernel
theorem dX8_bodyOf_126 : decode cX8_bodyOf 126 = .ok (.ior, 1) := by decide +kernel
theorem dX8_bodyOf_127 : decode cX8_bodyOf 127 = .ok (.istore 5, 2) := by decide +kernel
theorem dX8_bodyOf_129 : decode cX8_bodyOf 129 = .ok (.iload 4, 2) := by decide +kernel
theorem dX8_bodyOf_131 : decode cX8_bodyOf 131 = .ok (.aload_n 0, 1) := by decide +kernel
theorem dX8_bodyOf_132 : decode cX8_bodyOf 132 = .ok (.iload_n 2, 1) := by decide +kernel
theorem dX8_bodyOf_133 : decode cX8_bodyOf 133 = .ok (.iload 6, 2) := by decide +kernel
theorem dX8_bodyOf_135 : decode cX8_bodyOf 135 = .ok (.invokevirtual 133, 3) := by decide +kernel
theorem dX8_bodyOf_138 : decode cX8_bodyOf 138 = .ok (.ior, 1) := by decide +kernel
theorem dX8_bodyOf_139 : decode cX8_bodyOf 139 = .ok (.istore 4, 2) := by decide +kernel
theorem dX8_bodyOf_141 : decode cX8_bodyOf 141 = .ok (.goto (-52), 3) := by decide +kernel
theorem dX8_bodyOf_144 : decode cX8_bodyOf 144 = .ok (.iload 4, 2) := by decide +kernel
theorem dX8_bodyOf_146 : decode cX8_bodyOf 146 = .ok (.ireturn, 1) := by decide +kernel
theorem dX8_find_0 : decode cX8_find 0 = .ok (.aload_n 0, 1) := by decide +kernel
theorem dX8_find_1 : decode cX8_find 1 = .ok (.aload_n 1, 1) := by decide +kernel
theorem dX8_find_2 : decode cX8_find 2 = .ok (.invokevirtual 137, 3) := by decide +kernel
theorem dX8_find_5 : decode cX8_find 5 = .ok (.aload_n 0, 1) := by decide +kernel
theorem dX8_find_6 : decode cX8_find 6 = .ok (.aload_n 1, 1) := by decide +kernel
theorem dX8_find_7 : decode cX8_find 7 = .ok (.invokevirtual 141, 3) := by decide +kernel
theorem dX8_find_10 : decode cX8_find 10 = .ok (.aload_n 0, 1) := by decide +kernel
theorem dX8_find_11 : decode cX8_find 11 = .ok (.getfield 109, 3) := by decide +kernel
theorem dX8_find_14 : decode cX8_find 14 = .ok (.iconst 1, 1) := by decide +kernel
theorem dX8_find_15 : decode cX8_find 15 = .ok (.isub, 1) := by decide +kernel
theorem dX8_find_16 : decode cX8_find 16 = .ok (.istore_n 2, 1) := by decide +kernel
theorem dX8_find_17 : decode cX8_find 17 = .ok (.iload_n 2, 1) := by decide +kernel
theorem dX8_find_18 : decode cX8_find 18 = .ok (.ifCond .lt 79, 3) := by decide +kernel
theorem dX8_find_21 : decode cX8_find 21 = .ok (.iconst 0, 1) := by decide +kernel
theorem dX8_find_22 : decode cX8_find 22 = .ok (.istore_n 3, 1) := by decide +kernel
theorem dX8_find_23 : decode cX8_find 23 = .ok (.aload_n 0, 1) := by decide +kernel
theorem dX8_find_24 : decode cX8_find 24 = .ok (.getfield 41, 3) := by decide +kernel
theorem dX8_find_27 : decode cX8_find 27 = .ok (.iload_n 3, 1) := by decide +kernel
theorem dX8_find_28 : decode cX8_find 28 = .ok (.iaload, 1) := by decide +kernel
theorem dX8_find_29 : decode cX8_find 29 = .ok (.iload_n 2, 1) := by decide +kernel
theorem dX8_find_30 : decode cX8_find 30 = .ok (.if_icmp .eq 9, 3) := by decide +kernel
theorem dX8_find_33 : decode cX8_find 33 = .ok (.iinc 3 1, 3) := by decide +kernel
theorem dX8_find_36 : decode cX8_find 36 = .ok (.goto (-13), 3) := by decide +kernel
theorem dX8_find_39 : decode cX8_find 39 = .ok (.aload_n 0, 1) := by decide +kernel
theorem dX8_find_40 : decode cX8_find 40 = .ok (.aload_n 1, 1) := by decide +kernel
theorem dX8_find_41 : decode cX8_find 41 = .ok (.iload_n 3, 1) := by decide +kernel
theorem dX8_find_42 : decode cX8_find 42 = .ok (.invokevirtual 144, 3) := by decide +kernel
theorem dX8_find_45 : decode cX8_find 45 = .ok (.istore 4, 2) := by decide +kernel
theorem dX8_find_47 : decode cX8_find 47 = .ok (.iconst 0, 1) := by decide +kernel
theorem dX8_find_48 : decode cX8_find 48 = .ok (.istore 5, 2) := by decide +kernel
theorem dX8_find_50 : decode cX8_find 50 = .ok (.iload 5, 2) := by decide +kernel
theorem dX8_find_52 : decode cX8_find 52 = .ok (.bipush 12, 2) := by decide +kernel
theorem dX8_find_54 : decode cX8_find 54 = .ok (.if_icmp .ge 37, 3) := by decide +kernel
theorem dX8_find_57 : decode cX8_find 57 = .ok (.aload_n 0, 1) := by decide +kernel
theorem dX8_find_58 : decode cX8_find 58 = .ok (.getfield 53, 3) := by decide +kernel
theorem dX8_find_61 : decode cX8_find 61 = .ok (.iload 5, 2) := by decide +kernel
theorem dX8_find_63 : decode cX8_find 63 = .ok (.iload 4, 2) := by decide +kernel
theorem dX8_find_65 : decode cX8_find 65 = .ok (.iload 5, 2) := by decide +kernel
theorem dX8_find_67 : decode cX8_find 67 = .ok (.invokestatic 123, 3) := by decide +kernel
theorem dX8_find_70 : decode cX8_find 70 = .ok (.ifCond .eq 7, 3) := by decide +kernel
theorem dX8_find_73 : decode cX8_find 73 = .ok (.iload_n 3, 1) := by decide +kernel
theorem dX8_find_74 : decode cX8_find 74 = .ok (.goto 10, 3) := by decide +kernel
theorem dX8_find_77 : decode cX8_find 77 = .ok (.aload_n 0, 1) := by decide +kernel
theorem dX8_find_78 : decode cX8_find 78 = .ok (.getfield 53, 3) := by decide +kernel
theorem dX8_find_81 : decode cX8_find 81 = .ok (.iload 5, 2) := by decide +kernel
theorem dX8_find_83 : decode cX8_find 83 = .ok (.iaload, 1) := by decide +kernel
theorem dX8_find_84 : decode cX8_find 84 = .ok (.iastore, 1) := by decide +kernel
theorem dX8_find_85 : decode cX8_find 85 = .ok (.iinc 5 1, 3) := by decide +kernel
theorem dX8_find_88 : decode cX8_find 88 = .ok (.goto (-38), 3) := by decide +kernel
theorem dX8_find_91 : decode cX8_find 91 = .ok (.iinc 2 (-1), 3) := by decide +kernel
theorem dX8_find_94 : decode cX8_find 94 = .ok (.goto (-77), 3) := by decide +kernel
theorem dX8_find_97 : decode cX8_find 97 = .ok (.return_, 1) := by decide +kernel
theorem dX8_depth_0 : decode cX8_depth 0 = .ok (.aload_n 0, 1) := by decide +kernel
theorem dX8_depth_1 : decode cX8_depth 1 = .ok (.getfield 41, 3) := by decide +kernel
theorem dX8_depth_4 : decode cX8_depth 4 = .ok (.iload_n 1, 1) := by decide +kernel
theorem dX8_depth_5 : decode cX8_depth 5 = .ok (.iaload, 1) := by decide +kernel
theorem dX8_depth_6 : decode cX8_depth 6 = .ok (.bipush (-9), 2) := by decide +kernel
theorem dX8_depth_8 : decode cX8_depth 8 = .ok (.if_icmp .ne 5, 3) := by decide +kernel
theorem dX8_depth_11 : decode cX8_depth 11 = .ok (.iconst 0, 1) := by decide +kernel
theorem dX8_depth_12 : decode cX8_depth 12 = .ok (.ireturn, 1) := by decide +kernel
theorem dX8_depth_13 : decode cX8_depth 13 = .ok (.aload_n 0, 1) := by decide +kernel
theorem dX8_depth_14 : decode cX8_depth 14 = .ok (.getfield 56, 3) := by decide +kernel
theorem dX8_depth_17 : decode cX8_depth 17 = .ok (.iload_n 1, 1) := by decide +kernel
theorem dX8_depth_18 : decode cX8_depth 18 = .ok (.iaload, 1) := by decide +kernel
theorem dX8_depth_19 : decode cX8_depth 19 = .ok (.ifCond .le 7, 3) := by decide +kernel
theorem dX8_depth_22 : decode cX8_depth 22 = .ok (.iconst 1, 1) := by decide +kernel
theorem dX8_depth_23 : decode cX8_depth 23 = .ok (.goto 4, 3) := by decide +kernel
theorem dX8_depth_26 : decode cX8_depth 26 = .ok (.iconst 0, 1) := by decide +kernel
theorem dX8_depth_27 : decode cX8_depth 27 = .ok (.istore_n 2, 1) := by decide +kernel
theorem dX8_depth_28 : decode cX8_depth 28 = .ok (.aload_n 0, 1) := by decide +kernel
theorem dX8_depth_29 : decode cX8_depth 29 = .ok (.getfield 53, 3) := by decide +kernel
theorem dX8_depth_32 : decode cX8_depth 32 = .ok (.iload_n 1, 1) := by decide +kernel
theorem dX8_depth_33 : decode cX8_depth 33 = .ok (.iaload, 1) := by decide +kernel
theorem dX8_depth_34 : decode cX8_depth 34 = .ok (.istore_n 3, 1) := by decide +kernel
theorem dX8_depth_35 : decode cX8_depth 35 = .ok (.iload_n 3, 1) := by decide +kernel
theorem dX8_depth_36 : decode cX8_depth 36 = .ok (.bipush (-9), 2) := by decide +kernel
theorem dX8_depth_38 : decode cX8_depth 38 = .ok (.if_icmp .eq 16, 3) := by decide +kernel
theorem dX8_depth_41 : decode cX8_depth 41 = .ok (.iinc 2 1, 3) := by decide +kernel
theorem dX8_depth_44 : decode cX8_depth 44 = .ok (.aload_n 0, 1) := by decide +kernel
theorem dX8_depth_45 : decode cX8_depth 45 = .ok (.getfield 53, 3) := by decide +kernel
theorem dX8_depth_48 : decode cX8_depth 48 = .ok (.iload_n 3, 1) := by decide +kernel
theorem dX8_depth_49 : decode cX8_depth 49 = .ok (.iaload, 1) := by decide +kernel
theorem dX8_depth_50 : decode cX8_depth 50 = .ok (.istore_n 3, 1) := by decide +kernel
theorem dX8_depth_51 : decode cX8_depth 51 = .ok (.goto (-16), 3) := by decide +kernel
theorem dX8_depth_54 : decode cX8_depth 54 = .ok (.iload_n 2, 1) := by decide +kernel
theorem dX8_depth_55 : decode cX8_depth 55 = .ok (.ireturn, 1) := by decide +kernel
theorem dX8_nest_0 : decode cX8_nest 0 = .ok (.iconst 1, 1) := by decide +kernel
theorem dX8_nest_1 : decode cX8_nest 1 = .ok (.iload_n 1, 1) := by decide +kernel
theorem dX8_nest_2 : decode cX8_nest 2 = .ok (.ishl, 1) := by decide +kernel
theorem dX8_nest_3 : decode cX8_nest 3 = .ok (.istore_n 2, 1) := by decide +kernel
theorem dX8_nest_4 : decode cX8_nest 4 = .ok (.iconst 0, 1) := by decide +kernel
theorem dX8_nest_5 : decode cX8_nest 5 = .ok (.istore_n 3, 1) := by decide +kernel
theorem dX8_nest_6 : decode cX8_nest 6 = .ok (.iload_n 3, 1) := by decide +kernel
theorem dX8_nest_7 : decode cX8_nest 7 = .ok (.bipush 12, 2) := by decide +kernel
theorem dX8_nest_9 : decode cX8_nest 9 = .ok (.if_icmp .ge 62, 3) := by decide +kernel
theorem dX8_nest_12 : decode cX8_nest 12 = .ok (.iconst 0, 1) := by decide +kernel
theorem dX8_nest_13 : decode cX8_nest 13 = .ok (.istore 4, 2) := by decide +kernel
theorem dX8_nest_15 : decode cX8_nest 15 = .ok (.iload 4, 2) := by decide +kernel
theorem dX8_nest_17 : decode cX8_nest 17 = .ok (.bipush 12, 2) := by decide +kernel
theorem dX8_nest_19 : decode cX8_nest 19 = .ok (.if_icmp .ge 46, 3) := by decide +kernel
theorem dX8_nest_22 : decode cX8_nest 22 = .ok (.iload_n 2, 1) := by decide +kernel
theorem dX8_nest_23 : decode cX8_nest 23 = .ok (.aload_n 0, 1) := by decide +kernel
theorem dX8_nest_24 : decode cX8_nest 24 = .ok (.getfield 53, 3) := by decide +kernel
theorem dX8_nest_27 : decode cX8_nest 27 = .ok (.iload 4, 2) := by decide +kernel
theorem dX8_nest_29 : decode cX8_nest 29 = .ok (.iaload, 1) := by decide +kernel
theorem dX8_nest_30 : decode cX8_nest 30 = .ok (.bipush (-9), 2) := by decide +kernel
theorem dX8_nest_32 : decode cX8_nest 32 = .ok (.if_icmp .eq 24, 3) := by decide +kernel
theorem dX8_nest_35 : decode cX8_nest 35 = .ok (.iload_n 2, 1) := by decide +kernel
theorem dX8_nest_36 : decode cX8_nest 36 = .ok (.aload_n 0, 1) := by decide +kernel
theorem dX8_nest_37 : decode cX8_nest 37 = .ok (.getfield 53, 3) := by decide +kernel
theorem dX8_nest_40 : decode cX8_nest 40 = .ok (.iload 4, 2) := by decide +kernel
theorem dX8_nest_42 : decode cX8_nest 42 = .ok (.iaload, 1) := by decide +kernel
theorem dX8_nest_43 : decode cX8_nest 43 = .ok (.invokestatic 123, 3) := by decide +kernel
theorem dX8_nest_46 : decode cX8_nest 46 = .ok (.ifCond .eq 10, 3) := by decide +kernel
theorem dX8_nest_49 : decode cX8_nest 49 = .ok (.iconst 1, 1) := by decide +kernel
theorem dX8_nest_50 : decode cX8_nest 50 = .ok (.iload 4, 2) := by decide +kernel
theorem dX8_nest_52 : decode cX8_nest 52 = .ok (.ishl, 1) := by decide +kernel
theorem dX8_nest_53 : decode cX8_nest 53 = .ok (.goto 4, 3) := by decide +kernel
theorem dX8_nest_56 : decode cX8_nest 56 = .ok (.iconst 0, 1) := by decide +kernel
theorem dX8_nest_57 : decode cX8_nest 57 = .ok (.ior, 1) := by decide +kernel
theorem dX8_nest_58 : decode cX8_nest 58 = .ok (.istore_n 2, 1) := by decide +kernel
theorem dX8_nest_59 : decode cX8_nest 59 = .ok (.iinc 4 1, 3) := by decide +kernel
theorem dX8_nest_62 : decode cX8_nest 62 = .ok (.goto (-47), 3) := by decide +kernel
theorem dX8_nest_65 : decode cX8_nest 65 = .ok (.iinc 3 1, 3) := by decide +kernel
theorem dX8_nest_68 : decode cX8_nest 68 = .ok (.goto (-62), 3) := by decide +kernel
theorem dX8_nest_71 : decode cX8_nest 71 = .ok (.iload_n 2, 1) := by decide +kernel
theorem dX8_nest_72 : decode cX8_nest 72 = .ok (.ireturn, 1) := by decide +kernel
theorem dX8_reached_0 : decode cX8_reached 0 = .ok (.aload_n 0, 1) := by decide +kernel
theorem dX8_reached_1 : decode cX8_reached 1 = .ok (.iconst 0, 1) := by decide +kernel
theorem dX8_reached_2 : decode cX8_reached 2 = .ok (.iaload, 1) := by decide +kernel
theorem dX8_reached_3 : decode cX8_reached 3 = .ok (.ifCond .eq 7, 3) := by decide +kernel
theorem dX8_reached_6 : decode cX8_reached 6 = .ok (.iload_n 1, 1) := by decide +kernel
theorem dX8_reached_7 : decode cX8_reached 7 = .ok (.ifCond .ne 7, 3) := by decide +kernel
theorem dX8_reached_10 : decode cX8_reached 10 = .ok (.iconst 0, 1) := by decide +kernel
theorem dX8_reached_11 : decode cX8_reached 11 = .ok (.goto 4, 3) := by decide +kernel
theorem dX8_reached_14 : decode cX8_reached 14 = .ok (.iconst 1, 1) := by decide +kernel
theorem dX8_reached_15 : decode cX8_reached 15 = .ok (.istore_n 2, 1) := by decide +kernel
theorem dX8_reached_16 : decode cX8_reached 16 = .ok (.iconst 0, 1) := by decide +kernel
theorem dX8_reached_17 : decode cX8_reached 17 = .ok (.istore_n 3, 1) := by decide +kernel
theorem dX8_reached_18 : decode cX8_reached 18 = .ok (.iload_n 3, 1) := by decide +kernel
theorem dX8_reached_19 : decode cX8_reached 19 = .ok (.bipush 12, 2) := by decide +kernel
theorem dX8_reached_21 : decode cX8_reached 21 = .ok (.if_icmp .ge 87, 3) := by decide +kernel
theorem dX8_reached_24 : decode cX8_reached 24 = .ok (.iconst 0, 1) := by decide +kernel
theorem dX8_reached_25 : decode cX8_reached 25 = .ok (.istore 4, 2) := by decide +kernel
theorem dX8_reached_27 : decode cX8_reached 27 = .ok (.iload 4, 2) := by decide +kernel
theorem dX8_reached_29 : decode cX8_reached 29 = .ok (.aload_n 0, 1) := by decide +kernel
theorem dX8_reached_30 : decode cX8_reached 30 = .ok (.iconst 0, 1) := by decide +kernel
theorem dX8_reached_31 : decode cX8_reached 31 = .ok (.iaload, 1) := by decide +kernel
theorem dX8_reached_32 : decode cX8_reached 32 = .ok (.if_icmp .ge 70, 3) := by decide +kernel
theorem dX8_reached_35 : decode cX8_reached 35 = .ok (.iconst 0, 1) := by decide +kernel
theorem dX8_reached_36 : decode cX8_reached 36 = .ok (.istore 5, 2) := by decide +kernel
theorem dX8_reached_38 : decode cX8_reached 38 = .ok (.iload_n 2, 1) := by decide +kernel
theorem dX8_reached_39 : decode cX8_reached 39 = .ok (.iload 4, 2) := by decide +kernel
theorem dX8_reached_41 : decode cX8_reached 41 = .ok (.invokestatic 123, 3) := by decide +kernel
theorem dX8_reached_44 : decode cX8_reached 44 = .ok (.ifCond .eq 52, 3) := by decide +kernel
theorem dX8_reached_47 : decode cX8_reached 47 = .ok (.iload 5, 2) := by decide +kernel
theorem dX8_reached_49 : decode cX8_reached 49 = .ok (.aload_n 0, 1) := by decide +kernel
theorem dX8_reached_50 : decode cX8_reached 50 = .ok (.bipush 13, 2) := by decide +kernel
theorem dX8_reached_52 : decode cX8_reached 52 = .ok (.iload 4, 2) := by decide +kernel
theorem dX8_reached_54 : decode cX8_reached 54 = .ok (.iadd, 1) := by decide +kernel
theorem dX8_reached_55 : decode cX8_reached 55 = .ok (.iaload, 1) := by decide +kernel
theorem dX8_reached_56 : decode cX8_reached 56 = .ok (.if_icmp .ge 40, 3) := by decide +kernel
theorem dX8_reached_59 : decode cX8_reached 59 = .ok (.aload_n 0, 1) := by decide +kernel
theorem dX8_reached_60 : decode cX8_reached 60 = .ok (.bipush 25, 2) := by decide +kernel
theorem dX8_reached_62 : decode cX8_reached 62 = .ok (.iconst 3, 1) := by decide +kernel
theorem dX8_reached_63 : decode cX8_reached 63 = .ok (.iload 4, 2) := by decide +kernel
theorem dX8_reached_65 : decode cX8_reached 65 = .ok (.imul, 1) := by decide +kernel
theorem dX8_reached_66 : decode cX8_reached 66 = .ok (.iadd, 1) := by decide +kernel
theorem dX8_reached_67 : decode cX8_reached 67 = .ok (.iload 5, 2) := by decide +kernel
theorem dX8_reached_69 : decode cX8_reached 69 = .ok (.iadd, 1) := by decide +kernel
theorem dX8_reached_70 : decode cX8_reached 70 = .ok (.iaload, 1) := by decide +kernel
theorem dX8_reached_71 : decode cX8_reached 71 = .ok (.istore 6, 2) := by decide +kernel
theorem dX8_reached_73 : decode cX8_reached 73 = .ok (.iload_n 2, 1) := by decide +kernel
theorem dX8_reached_74 : decode cX8_reached 74 = .ok (.iload 6, 2) := by decide +kernel
theorem dX8_reached_76 : decode cX8_reached 76 = .ok (.iload_n 1, 1) := by decide +kernel
theorem dX8_reached_77 : decode cX8_reached 77 = .ok (.if_icmp .ne 7, 3) := by decide +kernel
theorem dX8_reached_80 : decode cX8_reached 80 = .ok (.iconst 0, 1) := by decide +kernel
theorem dX8_reached_81 : decode cX8_reached 81 = .ok (.goto 7, 3) := by decide +kernel
theorem dX8_reached_84 : decode cX8_reached 84 = .ok (.iconst 1, 1) := by decide +kernel
theorem dX8_reached_85 : decode cX8_reached 85 = .ok (.iload 6, 2) := by decide +kernel
theorem dX8_reached_87 : decode cX8_reached 87 = .ok (.ishl, 1) := by decide +kernel
theorem dX8_reached_88 : decode cX8_reached 88 = .ok (.ior, 1) := by decide +kernel
theorem dX8_reached_89 : decode cX8_reached 89 = .ok (.istore_n 2, 1) := by decide +kernel
theorem dX8_reached_90 : decode cX8_reached 90 = .ok (.iinc 5 1, 3) := by decide +kernel
theorem dX8_reached_93 : decode cX8_reached 93 = .ok (.goto (-55), 3) := by decide +kernel
theorem dX8_reached_96 : decode cX8_reached 96 = .ok (.iinc 4 1, 3) := by decide +kernel
theorem dX8_reached_99 : decode cX8_reached 99 = .ok (.goto (-72), 3) := by decide +kernel
theorem dX8_reached_102 : decode cX8_reached 102 = .ok (.iinc 3 1, 3) := by decide +kernel
theorem dX8_reached_105 : decode cX8_reached 105 = .ok (.goto (-87), 3) := by decide +kernel
theorem dX8_reached_108 : decode cX8_reached 108 = .ok (.iload_n 2, 1) := by decide +kernel
theorem dX8_reached_109 : decode cX8_reached 109 = .ok (.ireturn, 1) := by decide +kernel
theorem dX8_passed_0 : decode cX8_passed 0 = .ok (.aload_n 0, 1) := by decide +kernel
theorem dX8_passed_1 : decode cX8_passed 1 = .ok (.bipush (-9), 2) := by decide +kernel
theorem dX8_passed_3 : decode cX8_passed 3 = .ok (.invokestatic 147, 3) := by decide +kernel
theorem dX8_passed_6 : decode cX8_passed 6 = .ok (.istore_n 2, 1) := by decide +kernel
theorem dX8_passed_7 : decode cX8_passed 7 = .ok (.iload_n 2, 1) := by decide +kernel
theorem dX8_passed_8 : decode cX8_passed 8 = .ok (.iload_n 1, 1) := by decide +kernel
theorem dX8_passed_9 : decode cX8_passed 9 = .ok (.invokestatic 123, 3) := by decide +kernel
theorem dX8_passed_12 : decode cX8_passed 12 = .ok (.ifCond .eq 15, 3) := by decide +kernel
theorem dX8_passed_15 : decode cX8_passed 15 = .ok (.iload_n 2, 1) := by decide +kernel
theorem dX8_passed_16 : decode cX8_passed 16 = .ok (.aload_n 0, 1) := by decide +kernel
theorem dX8_passed_17 : decode cX8_passed 17 = .ok (.iload_n 1, 1) := by decide +kernel
theorem dX8_passed_18 : decode cX8_passed 18 = .ok (.invokestatic 147, 3) := by decide +kernel
theorem dX8_passed_21 : decode cX8_passed 21 = .ok (.iconst (-1), 1) := by decide +kernel
theorem dX8_passed_22 : decode cX8_passed 22 = .ok (.ixor, 1) := by decide +kernel
theorem dX8_passed_23 : decode cX8_passed 23 = .ok (.iand, 1) := by decide +kernel
theorem dX8_passed_24 : decode cX8_passed 24 = .ok (.goto 4, 3) := by decide +kernel
theorem dX8_passed_27 : decode cX8_passed 27 = .ok (.iconst 0, 1) := by decide +kernel
theorem dX8_passed_28 : decode cX8_passed 28 = .ok (.ireturn, 1) := by decide +kernel
theorem dX8_isTame_0 : decode cX8_isTame 0 = .ok (.iconst 1, 1) := by decide +kernel
theorem dX8_isTame_1 : decode cX8_isTame 1 = .ok (.istore_n 2, 1) := by decide +kernel
theorem dX8_isTame_2 : decode cX8_isTame 2 = .ok (.iconst 0, 1) := by decide +kernel
theorem dX8_isTame_3 : decode cX8_isTame 3 = .ok (.istore_n 3, 1) := by decide +kernel
theorem dX8_isTame_4 : decode cX8_isTame 4 = .ok (.iload_n 3, 1) := by decide +kernel
theorem dX8_isTame_5 : decode cX8_isTame 5 = .ok (.aload_n 1, 1) := by decide +kernel
theorem dX8_isTame_6 : decode cX8_isTame 6 = .ok (.iconst 0, 1) := by decide +kernel
theorem dX8_isTame_7 : decode cX8_isTame 7 = .ok (.iaload, 1) := by decide +kernel
theorem dX8_isTame_8 : decode cX8_isTame 8 = .ok (.if_icmp .ge 55, 3) := by decide +kernel
theorem dX8_isTame_11 : decode cX8_isTame 11 = .ok (.aload_n 0, 1) := by decide +kernel
theorem dX8_isTame_12 : decode cX8_isTame 12 = .ok (.getfield 41, 3) := by decide +kernel
theorem dX8_isTame_15 : decode cX8_isTame 15 = .ok (.iload_n 3, 1) := by decide +kernel
theorem dX8_isTame_16 : decode cX8_isTame 16 = .ok (.iaload, 1) := by decide +kernel
theorem dX8_isTame_17 : decode cX8_isTame 17 = .ok (.bipush (-9), 2) := by decide +kernel
theorem dX8_isTame_19 : decode cX8_isTame 19 = .ok (.if_icmp .ne 7, 3) := by decide +kernel
theorem dX8_isTame_22 : decode cX8_isTame 22 = .ok (.iconst 0, 1) := by decide +kernel
theorem dX8_isTame_23 : decode cX8_isTame 23 = .ok (.goto 9, 3) := by decide +kernel
theorem dX8_isTame_26 : decode cX8_isTame 26 = .ok (.aload_n 0, 1) := by decide +kernel
theorem dX8_isTame_27 : decode cX8_isTame 27 = .ok (.aload_n 1, 1) := by decide +kernel
theorem dX8_isTame_28 : decode cX8_isTame 28 = .ok (.iload_n 3, 1) := by decide +kernel
theorem dX8_isTame_29 : decode cX8_isTame 29 = .ok (.invokevirtual 129, 3) := by decide +kernel
theorem dX8_isTame_32 : decode cX8_isTame 32 = .ok (.istore 4, 2) := by decide +kernel
theorem dX8_isTame_34 : decode cX8_isTame 34 = .ok (.iload_n 2, 1) := by decide +kernel
theorem dX8_isTame_35 : decode cX8_isTame 35 = .ok (.ifCond .eq 20, 3) := by decide +kernel
theorem dX8_isTame_38 : decode cX8_isTame 38 = .ok (.iload 4, 2) := by decide +kernel
theorem dX8_isTame_40 : decode cX8_isTame 40 = .ok (.aload_n 1, 1) := by decide +kernel
theorem dX8_isTame_41 : decode cX8_isTame 41 = .ok (.iload_n 3, 1) := by decide +kernel
theorem dX8_isTame_42 : decode cX8_isTame 42 = .ok (.invokestatic 150, 3) := by decide +kernel
theorem dX8_isTame_45 : decode cX8_isTame 45 = .ok (.iconst (-1), 1) := by decide +kernel
theorem dX8_isTame_46 : decode cX8_isTame 46 = .ok (.ixor, 1) := by decide +kernel
theorem dX8_isTame_47 : decode cX8_isTame 47 = .ok (.iand, 1) := by decide +kernel
theorem dX8_isTame_48 : decode cX8_isTame 48 = .ok (.ifCond .ne 7, 3) := by decide +kernel
theorem dX8_isTame_51 : decode cX8_isTame 51 = .ok (.iconst 1, 1) := by decide +kernel
theorem dX8_isTame_52 : decode cX8_isTame 52 = .ok (.goto 4, 3) := by decide +kernel
theorem dX8_isTame_55 : decode cX8_isTame 55 = .ok (.iconst 0, 1) := by decide +kernel
theorem dX8_isTame_56 : decode cX8_isTame 56 = .ok (.istore_n 2, 1) := by decide +kernel
theorem dX8_isTame_57 : decode cX8_isTame 57 = .ok (.iinc 3 1, 3) := by decide +kernel
theorem dX8_isTame_60 : decode cX8_isTame 60 = .ok (.goto (-56), 3) := by decide +kernel
theorem dX8_isTame_63 : decode cX8_isTame 63 = .ok (.iload_n 2, 1) := by decide +kernel
theorem dX8_isTame_64 : decode cX8_isTame 64 = .ok (.ireturn, 1) := by decide +kernel
theorem dX8_arcs_0 : decode cX8_arcs 0 = .ok (.iconst 0, 1) := by decide +kernel
theorem dX8_arcs_1 : decode cX8_arcs 1 = .ok (.istore_n 1, 1) := by decide +kernel
theorem dX8_arcs_2 : decode cX8_arcs 2 = .ok (.iconst 0, 1) := by decide +kernel
theorem dX8_arcs_3 : decode cX8_arcs 3 = .ok (.istore_n 2, 1) := by decide +kernel
theorem dX8_arcs_4 : decode cX8_arcs 4 = .ok (.iload_n 2, 1) := by decide +kernel
theorem dX8_arcs_5 : decode cX8_arcs 5 = .ok (.aload_n 0, 1) := by decide +kernel
theorem dX8_arcs_6 : decode cX8_arcs 6 = .ok (.iconst 0, 1) := by decide +kernel
theorem dX8_arcs_7 : decode cX8_arcs 7 = .ok (.iaload, 1) := by decide +kernel
theorem dX8_arcs_8 : decode cX8_arcs 8 = .ok (.if_icmp .ge 18, 3) := by decide +kernel
theorem dX8_arcs_11 : decode cX8_arcs 11 = .ok (.iload_n 1, 1) := by decide +kernel
theorem dX8_arcs_12 : decode cX8_arcs 12 = .ok (.aload_n 0, 1) := by decide +kernel
theorem dX8_arcs_13 : decode cX8_arcs 13 = .ok (.bipush 13, 2) := by decide +kernel
theorem dX8_arcs_15 : decode cX8_arcs 15 = .ok (.iload_n 2, 1) := by decide +kernel
theorem dX8_arcs_16 : decode cX8_arcs 16 = .ok (.iadd, 1) := by decide +kernel
theorem dX8_arcs_17 : decode cX8_arcs 17 = .ok (.iaload, 1) := by decide +kernel
theorem dX8_arcs_18 : decode cX8_arcs 18 = .ok (.iadd, 1) := by decide +kernel
theorem dX8_arcs_19 : decode cX8_arcs 19 = .ok (.istore_n 1, 1) := by decide +kernel
theorem dX8_arcs_20 : decode cX8_arcs 20 = .ok (.iinc 2 1, 3) := by decide +kernel
theorem dX8_arcs_23 : decode cX8_arcs 23 = .ok (.goto (-19), 3) := by decide +kernel
theorem dX8_arcs_26 : decode cX8_arcs 26 = .ok (.iload_n 1, 1) := by decide +kernel
theorem dX8_arcs_27 : decode cX8_arcs 27 = .ok (.ireturn, 1) := by decide +kernel
theorem dX8_kinds_0 : decode cX8_kinds 0 = .ok (.iconst 0, 1) := by decide +kernel
theorem dX8_kinds_1 : decode cX8_kinds 1 = .ok (.istore_n 2, 1) := by decide +kernel
theorem dX8_kinds_2 : decode cX8_kinds 2 = .ok (.iconst 0, 1) := by decide +kernel
theorem dX8_kinds_3 : decode cX8_kinds 3 = .ok (.istore_n 3, 1) := by decide +kernel
theorem dX8_kinds_4 : decode cX8_kinds 4 = .ok (.iload_n 3, 1) := by decide +kernel
theorem dX8_kinds_5 : decode cX8_kinds 5 = .ok (.bipush 12, 2) := by decide +kernel
theorem dX8_kinds_7 : decode cX8_kinds 7 = .ok (.if_icmp .ge 38, 3) := by decide +kernel
theorem dX8_kinds_10 : decode cX8_kinds 10 = .ok (.iload_n 2, 1) := by decide +kernel
theorem dX8_kinds_11 : decode cX8_kinds 11 = .ok (.aload_n 0, 1) := by decide +kernel
theorem dX8_kinds_12 : decode cX8_kinds 12 = .ok (.getfield 41, 3) := by decide +kernel
theorem dX8_kinds_15 : decode cX8_kinds 15 = .ok (.iload_n 3, 1) := by decide +kernel
theorem dX8_kinds_16 : decode cX8_kinds 16 = .ok (.iaload, 1) := by decide +kernel
theorem dX8_kinds_17 : decode cX8_kinds 17 = .ok (.bipush (-9), 2) := by decide +kernel
theorem dX8_kinds_19 : decode cX8_kinds 19 = .ok (.if_icmp .eq 17, 3) := by decide +kernel
theorem dX8_kinds_22 : decode cX8_kinds 22 = .ok (.aload_n 0, 1) := by decide +kernel
theorem dX8_kinds_23 : decode cX8_kinds 23 = .ok (.getfield 56, 3) := by decide +kernel
theorem dX8_kinds_26 : decode cX8_kinds 26 = .ok (.iload_n 3, 1) := by decide +kernel
theorem dX8_kinds_27 : decode cX8_kinds 27 = .ok (.iaload, 1) := by decide +kernel
theorem dX8_kinds_28 : decode cX8_kinds 28 = .ok (.iload_n 1, 1) := by decide +kernel
theorem dX8_kinds_29 : decode cX8_kinds 29 = .ok (.if_icmp .lt 7, 3) := by decide +kernel
theorem dX8_kinds_32 : decode cX8_kinds 32 = .ok (.iconst 1, 1) := by decide +kernel
theorem dX8_kinds_33 : decode cX8_kinds 33 = .ok (.goto 4, 3) := by decide +kernel
theorem dX8_kinds_36 : decode cX8_kinds 36 = .ok (.iconst 0, 1) := by decide +kernel
theorem dX8_kinds_37 : decode cX8_kinds 37 = .ok (.iadd, 1) := by decide +kernel
theorem dX8_kinds_38 : decode cX8_kinds 38 = .ok (.istore_n 2, 1) := by decide +kernel
theorem dX8_kinds_39 : decode cX8_kinds 39 = .ok (.iinc 3 1, 3) := by decide +kernel
theorem dX8_kinds_42 : decode cX8_kinds 42 = .ok (.goto (-38), 3) := by decide +kernel
theorem dX8_kinds_45 : decode cX8_kinds 45 = .ok (.iload_n 2, 1) := by decide +kernel
theorem dX8_kinds_46 : decode cX8_kinds 46 = .ok (.ireturn, 1) := by decide +kernel
theorem dX8_deepest_0 : decode cX8_deepest 0 = .ok (.iconst 0, 1) := by decide +kernel
theorem dX8_deepest_1 : decode cX8_deepest 1 = .ok (.istore_n 1, 1) := by decide +kernel
theorem dX8_deepest_2 : decode cX8_deepest 2 = .ok (.iconst 0, 1) := by decide +kernel
theorem dX8_deepest_3 : decode cX8_deepest 3 = .ok (.istore_n 2, 1) := by decide +kernel
theorem dX8_deepest_4 : decode cX8_deepest 4 = .ok (.iload_n 2, 1) := by decide +kernel
theorem dX8_deepest_5 : decode cX8_deepest 5 = .ok (.bipush 12, 2) := by decide +kernel
theorem dX8_deepest_7 : decode cX8_deepest 7 = .ok (.if_icmp .ge 26, 3) := by decide +kernel
theorem dX8_deepest_10 : decode cX8_deepest 10 = .ok (.aload_n 0, 1) := by decide +kernel
theorem dX8_deepest_11 : decode cX8_deepest 11 = .ok (.iload_n 2, 1) := by decide +kernel
theorem dX8_deepest_12 : decode cX8_deepest 12 = .ok (.invokevirtual 153, 3) := by decide +kernel
theorem dX8_deepest_15 : decode cX8_deepest 15 = .ok (.istore_n 3, 1) := by decide +kernel
theorem dX8_deepest_16 : decode cX8_deepest 16 = .ok (.iload_n 3, 1) := by decide +kernel
theorem dX8_deepest_17 : decode cX8_deepest 17 = .ok (.iload_n 1, 1) := by decide +kernel
theorem dX8_deepest_18 : decode cX8_deepest 18 = .ok (.if_icmp .le 7, 3) := by decide +kernel
theorem dX8_deepest_21 : decode cX8_deepest 21 = .ok (.iload_n 3, 1) := by decide +kernel
theorem dX8_deepest_22 : decode cX8_deepest 22 = .ok (.goto 4, 3) := by decide +kernel
theorem dX8_deepest_25 : decode cX8_deepest 25 = .ok (.iload_n 1, 1) := by decide +kernel
theorem dX8_deepest_26 : decode cX8_deepest 26 = .ok (.istore_n 1, 1) := by decide +kernel
theorem dX8_deepest_27 : decode cX8_deepest 27 = .ok (.iinc 2 1, 3) := by decide +kernel
theorem dX8_deepest_30 : decode cX8_deepest 30 = .ok (.goto (-26), 3) := by decide +kernel
theorem dX8_deepest_33 : decode cX8_deepest 33 = .ok (.iload_n 1, 1) := by decide +kernel
theorem dX8_deepest_34 : decode cX8_deepest 34 = .ok (.ireturn, 1) := by decide +kernel
theorem dX8_backArcs_0 : decode cX8_backArcs 0 = .ok (.iconst 0, 1) := by decide +kernel
theorem dX8_backArcs_1 : decode cX8_backArcs 1 = .ok (.istore_n 2, 1) := by decide +kernel
theorem dX8_backArcs_2 : decode cX8_backArcs 2 = .ok (.iconst 0, 1) := by decide +kernel
theorem dX8_backArcs_3 : decode cX8_backArcs 3 = .ok (.istore_n 3, 1) := by decide +kernel
theorem dX8_backArcs_4 : decode cX8_backArcs 4 = .ok (.iload_n 3, 1) := by decide +kernel
theorem dX8_backArcs_5 : decode cX8_backArcs 5 = .ok (.aload_n 1, 1) := by decide +kernel
theorem dX8_backArcs_6 : decode cX8_backArcs 6 = .ok (.iconst 0, 1) := by decide +kernel
theorem dX8_backArcs_7 : decode cX8_backArcs 7 = .ok (.iaload, 1) := by decide +kernel
theorem dX8_backArcs_8 : decode cX8_backArcs 8 = .ok (.if_icmp .ge 56, 3) := by decide +kernel
theorem dX8_backArcs_11 : decode cX8_backArcs 11 = .ok (.iconst 0, 1) := by decide +kernel
theorem dX8_backArcs_12 : decode cX8_backArcs 12 = .ok (.istore 4, 2) := by decide +kernel
theorem dX8_backArcs_14 : decode cX8_backArcs 14 = .ok (.iload 4, 2) := by decide +kernel
theorem dX8_backArcs_16 : decode cX8_backArcs 16 = .ok (.aload_n 1, 1) := by decide +kernel
theorem dX8_backArcs_17 : decode cX8_backArcs 17 = .ok (.bipush 13, 2) := by decide +kernel
theorem dX8_backArcs_19 : decode cX8_backArcs 19 = .ok (.iload_n 3, 1) := by decide +kernel
theorem dX8_backArcs_20 : decode cX8_backArcs 20 = .ok (.iadd, 1) := by decide +kernel
theorem dX8_backArcs_21 : decode cX8_backArcs 21 = .ok (.iaload, 1) := by decide +kernel
theorem dX8_backArcs_22 : decode cX8_backArcs 22 = .ok (.if_icmp .ge 36, 3) := by decide +kernel
theorem dX8_backArcs_25 : decode cX8_backArcs 25 = .ok (.iload_n 2, 1) := by decide +kernel
theorem dX8_backArcs_26 : decode cX8_backArcs 26 = .ok (.aload_n 0, 1) := by decide +kernel
theorem dX8_backArcs_27 : decode cX8_backArcs 27 = .ok (.aload_n 1, 1) := by decide +kernel
theorem dX8_backArcs_28 : decode cX8_backArcs 28 = .ok (.bipush 25, 2) := by decide +kernel
theorem dX8_backArcs_30 : decode cX8_backArcs 30 = .ok (.iconst 3, 1) := by decide +kernel
theorem dX8_backArcs_31 : decode cX8_backArcs 31 = .ok (.iload_n 3, 1) := by decide +kernel
theorem dX8_backArcs_32 : decode cX8_backArcs 32 = .ok (.imul, 1) := by decide +kernel
theorem dX8_backArcs_33 : decode cX8_backArcs 33 = .ok (.iadd, 1) := by decide +kernel
theorem dX8_backArcs_34 : decode cX8_backArcs 34 = .ok (.iload 4, 2) := by decide +kernel
theorem dX8_backArcs_36 : decode cX8_backArcs 36 = .ok (.iadd, 1) := by decide +kernel
theorem dX8_backArcs_37 : decode cX8_backArcs 37 = .ok (.iaload, 1) := by decide +kernel
theorem dX8_backArcs_38 : decode cX8_backArcs 38 = .ok (.iload_n 3, 1) := by decide +kernel
theorem dX8_backArcs_39 : decode cX8_backArcs 39 = .ok (.invokevirtual 120, 3) := by decide +kernel
theorem dX8_backArcs_42 : decode cX8_backArcs 42 = .ok (.ifCond .eq 7, 3) := by decide +kernel
theorem dX8_backArcs_45 : decode cX8_backArcs 45 = .ok (.iconst 1, 1) := by decide +kernel
theorem dX8_backArcs_46 : decode cX8_backArcs 46 = .ok (.goto 4, 3) := by decide +kernel
theorem dX8_backArcs_49 : decode cX8_backArcs 49 = .ok (.iconst 0, 1) := by decide +kernel
theorem dX8_backArcs_50 : decode cX8_backArcs 50 = .ok (.iadd, 1) := by decide +kernel
theorem dX8_backArcs_51 : decode cX8_backArcs 51 = .ok (.istore_n 2, 1) := by decide +kernel
theorem dX8_backArcs_52 : decode cX8_backArcs 52 = .ok (.iinc 4 1, 3) := by decide +kernel
theorem dX8_backArcs_55 : decode cX8_backArcs 55 = .ok (.goto (-41), 3) := by decide +kernel
theorem dX8_backArcs_58 : decode cX8_backArcs 58 = .ok (.iinc 3 1, 3) := by decide +kernel
theorem dX8_backArcs_61 : decode cX8_backArcs 61 = .ok (.goto (-57), 3) := by decide +kernel
theorem dX8_backArcs_64 : decode cX8_backArcs 64 = .ok (.iload_n 2, 1) := by decide +kernel
theorem dX8_backArcs_65 : decode cX8_backArcs 65 = .ok (.ireturn, 1) := by decide +kernel
theorem dX8_about_0 : decode cX8_about 0 = .ok (.aload_n 0, 1) := by decide +kernel
theorem dX8_about_1 : decode cX8_about 1 = .ok (.iconst 0, 1) := by decide +kernel
theorem dX8_about_2 : decode cX8_about 2 = .ok (.putfield 68, 3) := by decide +kernel
theorem dX8_about_5 : decode cX8_about 5 = .ok (.aload_n 0, 1) := by decide +kernel
theorem dX8_about_6 : decode cX8_about 6 = .ok (.aload_n 0, 1) := by decide +kernel
theorem dX8_about_7 : decode cX8_about 7 = .ok (.getfield 16, 3) := by decide +kernel
theorem dX8_about_10 : decode cX8_about 10 = .ok (.invokevirtual 156, 3) := by decide +kernel
theorem dX8_about_13 : decode cX8_about 13 = .ok (.iload_n 1, 1) := by decide +kernel
theorem dX8_about_14 : decode cX8_about 14 = .ok (.tableswitch 136 0 10 #[58, 65, 73, 78, 84, 90, 95, 112, 121, 126, 131], 58) := by decide +kernel
theorem dX8_about_72 : decode cX8_about 72 = .ok (.aload_n 0, 1) := by decide +kernel
theorem dX8_about_73 : decode cX8_about 73 = .ok (.getfield 16, 3) := by decide +kernel
theorem dX8_about_76 : decode cX8_about 76 = .ok (.iconst 0, 1) := by decide +kernel
theorem dX8_about_77 : decode cX8_about 77 = .ok (.iaload, 1) := by decide +kernel
theorem dX8_about_78 : decode cX8_about 78 = .ok (.ireturn, 1) := by decide +kernel
theorem dX8_about_79 : decode cX8_about 79 = .ok (.aload_n 0, 1) := by decide +kernel
theorem dX8_about_80 : decode cX8_about 80 = .ok (.getfield 16, 3) := by decide +kernel
theorem dX8_about_83 : decode cX8_about 83 = .ok (.invokestatic 159, 3) := by decide +kernel
theorem dX8_about_86 : decode cX8_about 86 = .ok (.ireturn, 1) := by decide +kernel
theorem dX8_about_87 : decode cX8_about 87 = .ok (.aload_n 0, 1) := by decide +kernel
theorem dX8_about_88 : decode cX8_about 88 = .ok (.getfield 109, 3) := by decide +kernel
theorem dX8_about_91 : decode cX8_about 91 = .ok (.ireturn, 1) := by decide +kernel
theorem dX8_about_92 : decode cX8_about 92 = .ok (.aload_n 0, 1) := by decide +kernel
theorem dX8_about_93 : decode cX8_about 93 = .ok (.iconst 1, 1) := by decide +kernel
theorem dX8_about_94 : decode cX8_about 94 = .ok (.invokevirtual 163, 3) := by decide +kernel
theorem dX8_about_97 : decode cX8_about 97 = .ok (.ireturn, 1) := by decide +kernel
theorem dX8_about_98 : decode cX8_about 98 = .ok (.aload_n 0, 1) := by decide +kernel
theorem dX8_about_99 : decode cX8_about 99 = .ok (.iconst 3, 1) := by decide +kernel
theorem dX8_about_100 : decode cX8_about 100 = .ok (.invokevirtual 163, 3) := by decide +kernel
theorem dX8_about_103 : decode cX8_about 103 = .ok (.ireturn, 1) := by decide +kernel
theorem dX8_about_104 : decode cX8_about 104 = .ok (.aload_n 0, 1) := by decide +kernel
theorem dX8_about_105 : decode cX8_about 105 = .ok (.invokevirtual 166, 3) := by decide +kernel
theorem dX8_about_108 : decode cX8_about 108 = .ok (.ireturn, 1) := by decide +kernel
theorem dX8_about_109 : decode cX8_about 109 = .ok (.aload_n 0, 1) := by decide +kernel
theorem dX8_about_110 : decode cX8_about 110 = .ok (.aload_n 0, 1) := by decide +kernel
theorem dX8_about_111 : decode cX8_about 111 = .ok (.getfield 16, 3) := by decide +kernel
theorem dX8_about_114 : decode cX8_about 114 = .ok (.invokevirtual 169, 3) := by decide +kernel
theorem dX8_about_117 : decode cX8_about 117 = .ok (.ifCond .eq 7, 3) := by decide +kernel
theorem dX8_about_120 : decode cX8_about 120 = .ok (.iconst 1, 1) := by decide +kernel
theorem dX8_about_121 : decode cX8_about 121 = .ok (.goto 4, 3) := by decide +kernel
theorem dX8_about_124 : decode cX8_about 124 = .ok (.iconst 0, 1) := by decide +kernel
theorem dX8_about_125 : decode cX8_about 125 = .ok (.ireturn, 1) := by decide +kernel
theorem dX8_about_126 : decode cX8_about 126 = .ok (.aload_n 0, 1) := by decide +kernel
theorem dX8_about_127 : decode cX8_about 127 = .ok (.aload_n 0, 1) := by decide +kernel
theorem dX8_about_128 : decode cX8_about 128 = .ok (.getfield 16, 3) := by decide +kernel
theorem dX8_about_131 : decode cX8_about 131 = .ok (.invokevirtual 173, 3) := by decide +kernel
theorem dX8_about_134 : decode cX8_about 134 = .ok (.ireturn, 1) := by decide +kernel
theorem dX8_about_135 : decode cX8_about 135 = .ok (.aload_n 0, 1) := by decide +kernel
theorem dX8_about_136 : decode cX8_about 136 = .ok (.getfield 106, 3) := by decide +kernel
theorem dX8_about_139 : decode cX8_about 139 = .ok (.ireturn, 1) := by decide +kernel
theorem dX8_about_140 : decode cX8_about 140 = .ok (.aload_n 0, 1) := by decide +kernel
theorem dX8_about_141 : decode cX8_about 141 = .ok (.getfield 176, 3) := by decide +kernel
theorem dX8_about_144 : decode cX8_about 144 = .ok (.ireturn, 1) := by decide +kernel
theorem dX8_about_145 : decode cX8_about 145 = .ok (.aload_n 0, 1) := by decide +kernel
theorem dX8_about_146 : decode cX8_about 146 = .ok (.getfield 82, 3) := by decide +kernel
theorem dX8_about_149 : decode cX8_about 149 = .ok (.ireturn, 1) := by decide +kernel
theorem dX8_about_150 : decode cX8_about 150 = .ok (.bipush (-2), 2) := by decide +kernel
theorem dX8_about_152 : decode cX8_about 152 = .ok (.ireturn, 1) := by decide +kernel
theorem dX8_block_0 : decode cX8_block 0 = .ok (.aload_n 0, 1) := by decide +kernel
theorem dX8_block_1 : decode cX8_block 1 = .ok (.iconst 0, 1) := by decide +kernel
theorem dX8_block_2 : decode cX8_block 2 = .ok (.putfield 68, 3) := by decide +kernel
theorem dX8_block_5 : decode cX8_block 5 = .ok (.aload_n 0, 1) := by decide +kernel
theorem dX8_block_6 : decode cX8_block 6 = .ok (.iload_n 1, 1) := by decide +kernel
theorem dX8_block_7 : decode cX8_block 7 = .ok (.invokevirtual 76, 3) := by decide +kernel
theorem dX8_block_10 : decode cX8_block 10 = .ok (.ifCond .eq 5, 3) := by decide +kernel
theorem dX8_block_13 : decode cX8_block 13 = .ok (.iconst (-1), 1) := by decide +kernel
theorem dX8_block_14 : decode cX8_block 14 = .ok (.ireturn, 1) := by decide +kernel
theorem dX8_block_15 : decode cX8_block 15 = .ok (.aload_n 0, 1) := by decide +kernel
theorem dX8_block_16 : decode cX8_block 16 = .ok (.aload_n 0, 1) := by decide +kernel
theorem dX8_block_17 : decode cX8_block 17 = .ok (.getfield 16, 3) := by decide +kernel
theorem dX8_block_20 : decode cX8_block 20 = .ok (.invokevirtual 156, 3) := by decide +kernel
theorem dX8_block_23 : decode cX8_block 23 = .ok (.iload_n 2, 1) := by decide +kernel
theorem dX8_block_24 : decode cX8_block 24 = .ok (.tableswitch 86 0 5 #[40, 49, 59, 66, 73, 80], 40) := by decide +kernel
theorem dX8_block_64 : decode cX8_block 64 = .ok (.aload_n 0, 1) := by decide +kernel
theorem dX8_block_65 : decode cX8_block 65 = .ok (.getfield 16, 3) := by decide +kernel
theorem dX8_block_68 : decode cX8_block 68 = .ok (.iconst 1, 1) := by decide +kernel
theorem dX8_block_69 : decode cX8_block 69 = .ok (.iload_n 1, 1) := by decide +kernel
theorem dX8_block_70 : decode cX8_block 70 = .ok (.iadd, 1) := by decide +kernel
theorem dX8_block_71 : decode cX8_block 71 = .ok (.iaload, 1) := by decide +kernel
theorem dX8_block_72 : decode cX8_block 72 = .ok (.ireturn, 1) := by decide +kernel
theorem dX8_block_73 : decode cX8_block 73 = .ok (.aload_n 0, 1) := by decide +kernel
theorem dX8_block_74 : decode cX8_block 74 = .ok (.getfield 16, 3) := by decide +kernel
theorem dX8_block_77 : decode cX8_block 77 = .ok (.bipush 13, 2) := by decide +kernel
theorem dX8_block_79 : decode cX8_block 79 = .ok (.iload_n 1, 1) := by decide +kernel
theorem dX8_block_80 : decode cX8_block 80 = .ok (.iadd, 1) := by decide +kernel
theorem dX8_block_81 : decode cX8_block 81 = .ok (.iaload, 1) := by decide +kernel
theorem dX8_block_82 : decode cX8_block 82 = .ok (.ireturn, 1) := by decide +kernel
theorem dX8_block_83 : decode cX8_block 83 = .ok (.aload_n 0, 1) := by decide +kernel
theorem dX8_block_84 : decode cX8_block 84 = .ok (.getfield 41, 3) := by decide +kernel
theorem dX8_block_87 : decode cX8_block 87 = .ok (.iload_n 1, 1) := by decide +kernel
theorem dX8_block_88 : decode cX8_block 88 = .ok (.iaload, 1) := by decide +kernel
theorem dX8_block_89 : decode cX8_block 89 = .ok (.ireturn, 1) := by decide +kernel
theorem dX8_block_90 : decode cX8_block 90 = .ok (.aload_n 0, 1) := by decide +kernel
theorem dX8_block_91 : decode cX8_block 91 = .ok (.getfield 53, 3) := by decide +kernel
theorem dX8_block_94 : decode cX8_block 94 = .ok (.iload_n 1, 1) := by decide +kernel
theorem dX8_block_95 : decode cX8_block 95 = .ok (.iaload, 1) := by decide +kernel
theorem dX8_block_96 : decode cX8_block 96 = .ok (.ireturn, 1) := by decide +kernel
theorem dX8_block_97 : decode cX8_block 97 = .ok (.aload_n 0, 1) := by decide +kernel
theorem dX8_block_98 : decode cX8_block 98 = .ok (.getfield 56, 3) := by decide +kernel
theorem dX8_block_101 : decode cX8_block 101 = .ok (.iload_n 1, 1) := by decide +kernel
theorem dX8_block_102 : decode cX8_block 102 = .ok (.iaload, 1) := by decide +kernel
theorem dX8_block_103 : decode cX8_block 103 = .ok (.ireturn, 1) := by decide +kernel
theorem dX8_block_104 : decode cX8_block 104 = .ok (.aload_n 0, 1) := by decide +kernel
theorem dX8_block_105 : decode cX8_block 105 = .ok (.iload_n 1, 1) := by decide +kernel
theorem dX8_block_106 : decode cX8_block 106 = .ok (.invokevirtual 153, 3) := by decide +kernel
theorem dX8_block_109 : decode cX8_block 109 = .ok (.ireturn, 1) := by decide +kernel
theorem dX8_block_110 : decode cX8_block 110 = .ok (.bipush (-2), 2) := by decide +kernel
theorem dX8_block_112 : decode cX8_block 112 = .ok (.ireturn, 1) := by decide +kernel
theorem dX8_arc_0 : decode cX8_arc 0 = .ok (.aload_n 0, 1) := by decide +kernel
theorem dX8_arc_1 : decode cX8_arc 1 = .ok (.iconst 0, 1) := by decide +kernel
theorem dX8_arc_2 : decode cX8_arc 2 = .ok (.putfield 68, 3) := by decide +kernel
theorem dX8_arc_5 : decode cX8_arc 5 = .ok (.aload_n 0, 1) := by decide +kernel
theorem dX8_arc_6 : decode cX8_arc 6 = .ok (.iload_n 1, 1) := by decide +kernel
theorem dX8_arc_7 : decode cX8_arc 7 = .ok (.iload_n 2, 1) := by decide +kernel
theorem dX8_arc_8 : decode cX8_arc 8 = .ok (.invokevirtual 179, 3) := by decide +kernel
theorem dX8_arc_11 : decode cX8_arc 11 = .ok (.ifCond .eq 7, 3) := by decide +kernel
theorem dX8_arc_14 : decode cX8_arc 14 = .ok (.iconst (-1), 1) := by decide +kernel
theorem dX8_arc_15 : decode cX8_arc 15 = .ok (.goto 16, 3) := by decide +kernel
theorem dX8_arc_18 : decode cX8_arc 18 = .ok (.aload_n 0, 1) := by decide +kernel
theorem dX8_arc_19 : decode cX8_arc 19 = .ok (.getfield 16, 3) := by decide +kernel
theorem dX8_arc_22 : decode cX8_arc 22 = .ok (.bipush 25, 2) := by decide +kernel
theorem dX8_arc_24 : decode cX8_arc 24 = .ok (.iconst 3, 1) := by decide +kernel
theorem dX8_arc_25 : decode cX8_arc 25 = .ok (.iload_n 1, 1) := by decide +kernel
theorem dX8_arc_26 : decode cX8_arc 26 = .ok (.imul, 1) := by decide +kernel
theorem dX8_arc_27 : decode cX8_arc 27 = .ok (.iadd, 1) := by decide +kernel
theorem dX8_arc_28 : decode cX8_arc 28 = .ok (.iload_n 2, 1) := by decide +kernel
theorem dX8_arc_29 : decode cX8_arc 29 = .ok (.iadd, 1) := by decide +kernel
theorem dX8_arc_30 : decode cX8_arc 30 = .ok (.iaload, 1) := by decide +kernel
theorem dX8_arc_31 : decode cX8_arc 31 = .ok (.ireturn, 1) := by decide +kernel
theorem dX8_aboveSet_0 : decode cX8_aboveSet 0 = .ok (.iconst 0, 1) := by decide +kernel
theorem dX8_aboveSet_1 : decode cX8_aboveSet 1 = .ok (.istore_n 2, 1) := by decide +kernel
theorem dX8_aboveSet_2 : decode cX8_aboveSet 2 = .ok (.iconst 0, 1) := by decide +kernel
theorem dX8_aboveSet_3 : decode cX8_aboveSet 3 = .ok (.istore_n 3, 1) := by decide +kernel
theorem dX8_aboveSet_4 : decode cX8_aboveSet 4 = .ok (.iload_n 3, 1) := by decide +kernel
theorem dX8_aboveSet_5 : decode cX8_aboveSet 5 = .ok (.bipush 12, 2) := by decide +kernel
theorem dX8_aboveSet_7 : decode cX8_aboveSet 7 = .ok (.if_icmp .ge 28, 3) := by decide +kernel
theorem dX8_aboveSet_10 : decode cX8_aboveSet 10 = .ok (.iload_n 2, 1) := by decide +kernel
theorem dX8_aboveSet_11 : decode cX8_aboveSet 11 = .ok (.aload_n 0, 1) := by decide +kernel
theorem dX8_aboveSet_12 : decode cX8_aboveSet 12 = .ok (.iload_n 1, 1) := by decide +kernel
theorem dX8_aboveSet_13 : decode cX8_aboveSet 13 = .ok (.iload_n 3, 1) := by decide +kernel
theorem dX8_aboveSet_14 : decode cX8_aboveSet 14 = .ok (.invokevirtual 120, 3) := by decide +kernel
theorem dX8_aboveSet_17 : decode cX8_aboveSet 17 = .ok (.ifCond .eq 9, 3) := by decide +kernel
theorem dX8_aboveSet_20 : decode cX8_aboveSet 20 = .ok (.iconst 1, 1) := by decide +kernel
theorem dX8_aboveSet_21 : decode cX8_aboveSet 21 = .ok (.iload_n 3, 1) := by decide +kernel
theorem dX8_aboveSet_22 : decode cX8_aboveSet 22 = .ok (.ishl, 1) := by decide +kernel
theorem dX8_aboveSet_23 : decode cX8_aboveSet 23 = .ok (.goto 4, 3) := by decide +kernel
theorem dX8_aboveSet_26 : decode cX8_aboveSet 26 = .ok (.iconst 0, 1) := by decide +kernel
theorem dX8_aboveSet_27 : decode cX8_aboveSet 27 = .ok (.ior, 1) := by decide +kernel
theorem dX8_aboveSet_28 : decode cX8_aboveSet 28 = .ok (.istore_n 2, 1) := by decide +kernel
theorem dX8_aboveSet_29 : decode cX8_aboveSet 29 = .ok (.iinc 3 1, 3) := by decide +kernel
theorem dX8_aboveSet_32 : decode cX8_aboveSet 32 = .ok (.goto (-28), 3) := by decide +kernel
theorem dX8_aboveSet_35 : decode cX8_aboveSet 35 = .ok (.iload_n 2, 1) := by decide +kernel
theorem dX8_aboveSet_36 : decode cX8_aboveSet 36 = .ok (.ireturn, 1) := by decide +kernel
theorem dX8_sets_0 : decode cX8_sets 0 = .ok (.aload_n 0, 1) := by decide +kernel
theorem dX8_sets_1 : decode cX8_sets 1 = .ok (.iconst 0, 1) := by decide +kernel
theorem dX8_sets_2 : decode cX8_sets 2 = .ok (.putfield 68, 3) := by decide +kernel
theorem dX8_sets_5 : decode cX8_sets 5 = .ok (.aload_n 0, 1) := by decide +kernel
theorem dX8_sets_6 : decode cX8_sets 6 = .ok (.iload_n 1, 1) := by decide +kernel
theorem dX8_sets_7 : decode cX8_sets 7 = .ok (.invokevirtual 76, 3) := by decide +kernel
theorem dX8_sets_10 : decode cX8_sets 10 = .ok (.ifCond .eq 5, 3) := by decide +kernel
theorem dX8_sets_13 : decode cX8_sets 13 = .ok (.iconst (-1), 1) := by decide +kernel
theorem dX8_sets_14 : decode cX8_sets 14 = .ok (.ireturn, 1) := by decide +kernel
theorem dX8_sets_15 : decode cX8_sets 15 = .ok (.iload_n 2, 1) := by decide +kernel
theorem dX8_sets_16 : decode cX8_sets 16 = .ok (.i2l, 1) := by decide +kernel
theorem dX8_sets_17 : decode cX8_sets 17 = .ok (.lconst 0, 1) := by decide +kernel
theorem dX8_sets_18 : decode cX8_sets 18 = .ok (.ldc2_w 182, 3) := by decide +kernel
theorem dX8_sets_21 : decode cX8_sets 21 = .ok (.invokestatic 72, 3) := by decide +kernel
theorem dX8_sets_24 : decode cX8_sets 24 = .ok (.ifCond .ne 6, 3) := by decide +kernel
theorem dX8_sets_27 : decode cX8_sets 27 = .ok (.bipush (-2), 2) := by decide +kernel
theorem dX8_sets_29 : decode cX8_sets 29 = .ok (.ireturn, 1) := by decide +kernel
theorem dX8_sets_30 : decode cX8_sets 30 = .ok (.aload_n 0, 1) := by decide +kernel
theorem dX8_sets_31 : decode cX8_sets 31 = .ok (.aload_n 0, 1) := by decide +kernel
theorem dX8_sets_32 : decode cX8_sets 32 = .ok (.getfield 16, 3) := by decide +kernel
theorem dX8_sets_35 : decode cX8_sets 35 = .ok (.invokevirtual 156, 3) := by decide +kernel
theorem dX8_sets_38 : decode cX8_sets 38 = .ok (.aload_n 0, 1) := by decide +kernel
theorem dX8_sets_39 : decode cX8_sets 39 = .ok (.getfield 41, 3) := by decide +kernel
theorem dX8_sets_42 : decode cX8_sets 42 = .ok (.iload_n 1, 1) := by decide +kernel
theorem dX8_sets_43 : decode cX8_sets 43 = .ok (.iaload, 1) := by decide +kernel
theorem dX8_sets_44 : decode cX8_sets 44 = .ok (.bipush (-9), 2) := by decide +kernel
theorem dX8_sets_46 : decode cX8_sets 46 = .ok (.if_icmp .ne 5, 3) := by decide +kernel
theorem dX8_sets_49 : decode cX8_sets 49 = .ok (.iconst 0, 1) := by decide +kernel
theorem dX8_sets_50 : decode cX8_sets 50 = .ok (.ireturn, 1) := by decide +kernel
theorem dX8_sets_51 : decode cX8_sets 51 = .ok (.iload_n 2, 1) := by decide +kernel
theorem dX8_sets_52 : decode cX8_sets 52 = .ok (.ifCond .ne 11, 3) := by decide +kernel
theorem dX8_sets_55 : decode cX8_sets 55 = .ok (.aload_n 0, 1) := by decide +kernel
theorem dX8_sets_56 : decode cX8_sets 56 = .ok (.iload_n 1, 1) := by decide +kernel
theorem dX8_sets_57 : decode cX8_sets 57 = .ok (.invokevirtual 184, 3) := by decide +kernel
theorem dX8_sets_60 : decode cX8_sets 60 = .ok (.goto 38, 3) := by decide +kernel
theorem dX8_sets_63 : decode cX8_sets 63 = .ok (.iload_n 2, 1) := by decide +kernel
theorem dX8_sets_64 : decode cX8_sets 64 = .ok (.iconst 1, 1) := by decide +kernel
theorem dX8_sets_65 : decode cX8_sets 65 = .ok (.if_icmp .ne 11, 3) := by decide +kernel
theorem dX8_sets_68 : decode cX8_sets 68 = .ok (.aload_n 0, 1) := by decide +kernel
theorem dX8_sets_69 : decode cX8_sets 69 = .ok (.iload_n 1, 1) := by decide +kernel
theorem dX8_sets_70 : decode cX8_sets 70 = .ok (.invokevirtual 187, 3) := by decide +kernel
theorem dX8_sets_73 : decode cX8_sets 73 = .ok (.goto 25, 3) := by decide +kernel
theorem dX8_sets_76 : decode cX8_sets 76 = .ok (.iload_n 2, 1) := by decide +kernel
theorem dX8_sets_77 : decode cX8_sets 77 = .ok (.iconst 2, 1) := by decide +kernel
theorem dX8_sets_78 : decode cX8_sets 78 = .ok (.if_icmp .ne 14, 3) := by decide +kernel
theorem dX8_sets_81 : decode cX8_sets 81 = .ok (.aload_n 0, 1) := by decide +kernel
theorem dX8_sets_82 : decode cX8_sets 82 = .ok (.getfield 16, 3) := by decide +kernel
theorem dX8_sets_85 : decode cX8_sets 85 = .ok (.iload_n 1, 1) := by decide +kernel
theorem dX8_sets_86 : decode cX8_sets 86 = .ok (.invokestatic 150, 3) := by decide +kernel
theorem dX8_sets_89 : decode cX8_sets 89 = .ok (.goto 9, 3) := by decide +kernel
theorem dX8_sets_92 : decode cX8_sets 92 = .ok (.aload_n 0, 1) := by decide +kernel
theorem dX8_sets_93 : decode cX8_sets 93 = .ok (.getfield 59, 3) := by decide +kernel
theorem dX8_sets_96 : decode cX8_sets 96 = .ok (.iload_n 1, 1) := by decide +kernel
theorem dX8_sets_97 : decode cX8_sets 97 = .ok (.iaload, 1) := by decide +kernel
theorem dX8_sets_98 : decode cX8_sets 98 = .ok (.ireturn, 1) := by decide +kernel
theorem dX8_note_0 : decode cX8_note 0 = .ok (.aload_n 0, 1) := by decide +kernel
theorem dX8_note_1 : decode cX8_note 1 = .ok (.getfield 106, 3) := by decide +kernel
theorem dX8_note_4 : decode cX8_note 4 = .ok (.bipush 14, 2) := by decide +kernel
theorem dX8_note_6 : decode cX8_note 6 = .ok (.if_icmp .ne 43, 3) := by decide +kernel
theorem dX8_note_9 : decode cX8_note 9 = .ok (.iconst 0, 1) := by decide +kernel
theorem dX8_note_10 : decode cX8_note 10 = .ok (.istore_n 1, 1) := by decide +kernel
theorem dX8_note_11 : decode cX8_note 11 = .ok (.iload_n 1, 1) := by decide +kernel
theorem dX8_note_12 : decode cX8_note 12 = .ok (.sipush 793, 3) := by decide +kernel
theorem dX8_note_15 : decode cX8_note 15 = .ok (.if_icmp .ge 24, 3) := by decide +kernel
theorem dX8_note_18 : decode cX8_note 18 = .ok (.aload_n 0, 1) := by decide +kernel
theorem dX8_note_19 : decode cX8_note 19 = .ok (.getfield 22, 3) := by decide +kernel
theorem dX8_note_22 : decode cX8_note 22 = .ok (.iload_n 1, 1) := by decide +kernel
theorem dX8_note_23 : decode cX8_note 23 = .ok (.aload_n 0, 1) := by decide +kernel
theorem dX8_note_24 : decode cX8_note 24 = .ok (.getfield 22, 3) := by decide +kernel
theorem dX8_note_27 : decode cX8_note 27 = .ok (.iload_n 1, 1) := by decide +kernel
theorem dX8_note_28 : decode cX8_note 28 = .ok (.bipush 61, 2) := by decide +kernel
theorem dX8_note_30 : decode cX8_note 30 = .ok (.iadd, 1) := by decide +kernel
theorem dX8_note_31 : decode cX8_note 31 = .ok (.iaload, 1) := by decide +kernel
theorem dX8_note_32 : decode cX8_note 32 = .ok (.iastore, 1) := by decide +kernel
theorem dX8_note_33 : decode cX8_note 33 = .ok (.iinc 1 1, 3) := by decide +kernel
theorem dX8_note_36 : decode cX8_note 36 = .ok (.goto (-25), 3) := by decide +kernel
theorem dX8_note_39 : decode cX8_note 39 = .ok (.aload_n 0, 1) := by decide +kernel
theorem dX8_note_40 : decode cX8_note 40 = .ok (.dup, 1) := by decide +kernel
theorem dX8_note_41 : decode cX8_note 41 = .ok (.getfield 106, 3) := by decide +kernel
theorem dX8_note_44 : decode cX8_note 44 = .ok (.iconst 1, 1) := by decide +kernel
theorem dX8_note_45 : decode cX8_note 45 = .ok (.isub, 1) := by decide +kernel
theorem dX8_note_46 : decode cX8_note 46 = .ok (.putfield 106, 3) := by decide +kernel
theorem dX8_note_49 : decode cX8_note 49 = .ok (.iconst 0, 1) := by decide +kernel
theorem dX8_note_50 : decode cX8_note 50 = .ok (.istore_n 1, 1) := by decide +kernel
theorem dX8_note_51 : decode cX8_note 51 = .ok (.iload_n 1, 1) := by decide +kernel
theorem dX8_note_52 : decode cX8_note 52 = .ok (.bipush 61, 2) := by decide +kernel
theorem dX8_note_54 : decode cX8_note 54 = .ok (.if_icmp .ge 29, 3) := by decide +kernel
theorem dX8_note_57 : decode cX8_note 57 = .ok (.aload_n 0, 1) := by decide +kernel
theorem dX8_note_58 : decode cX8_note 58 = .ok (.getfield 22, 3) := by decide +kernel
theorem dX8_note_61 : decode cX8_note 61 = .ok (.bipush 61, 2) := by decide +kernel
theorem dX8_note_63 : decode cX8_note 63 = .ok (.aload_n 0, 1) := by decide +kernel
theorem dX8_note_64 : decode cX8_note 64 = .ok (.getfield 106, 3) := by decide +kernel
theorem dX8_note_67 : decode cX8_note 67 = .ok (.imul, 1) := by decide +kernel
theorem dX8_note_68 : decode cX8_note 68 = .ok (.iload_n 1, 1) := by decide +kernel
theorem dX8_note_69 : decode cX8_note 69 = .ok (.iadd, 1) := by decide +kernel
theorem dX8_note_70 : decode cX8_note 70 = .ok (.aload_n 0, 1) := by decide +kernel
theorem dX8_note_71 : decode cX8_note 71 = .ok (.getfield 16, 3) := by decide +kernel
theorem dX8_note_74 : decode cX8_note 74 = .ok (.iload_n 1, 1) := by decide +kernel
theorem dX8_note_75 : decode cX8_note 75 = .ok (.iaload, 1) := by decide +kernel
theorem dX8_note_76 : decode cX8_note 76 = .ok (.iastore, 1) := by decide +kernel
theorem dX8_note_77 : decode cX8_note 77 = .ok (.iinc 1 1, 3) := by decide +kernel
theorem dX8_note_80 : decode cX8_note 80 = .ok (.goto (-29), 3) := by decide +kernel
theorem dX8_note_83 : decode cX8_note 83 = .ok (.aload_n 0, 1) := by decide +kernel
theorem dX8_note_84 : decode cX8_note 84 = .ok (.dup, 1) := by decide +kernel
theorem dX8_note_85 : decode cX8_note 85 = .ok (.getfield 106, 3) := by decide +kernel
theorem dX8_note_88 : decode cX8_note 88 = .ok (.iconst 1, 1) := by decide +kernel
theorem dX8_note_89 : decode cX8_note 89 = .ok (.iadd, 1) := by decide +kernel
theorem dX8_note_90 : decode cX8_note 90 = .ok (.putfield 106, 3) := by decide +kernel
theorem dX8_note_93 : decode cX8_note 93 = .ok (.return_, 1) := by decide +kernel
theorem dX8_goAdd_0 : decode cX8_goAdd 0 = .ok (.aload_n 0, 1) := by decide +kernel
theorem dX8_goAdd_1 : decode cX8_goAdd 1 = .ok (.bipush 25, 2) := by decide +kernel
theorem dX8_goAdd_3 : decode cX8_goAdd 3 = .ok (.iconst 3, 1) := by decide +kernel
theorem dX8_goAdd_4 : decode cX8_goAdd 4 = .ok (.iload_n 1, 1) := by decide +kernel
theorem dX8_goAdd_5 : decode cX8_goAdd 5 = .ok (.imul, 1) := by decide +kernel
theorem dX8_goAdd_6 : decode cX8_goAdd 6 = .ok (.iadd, 1) := by decide +kernel
theorem dX8_goAdd_7 : decode cX8_goAdd 7 = .ok (.aload_n 0, 1) := by decide +kernel
theorem dX8_goAdd_8 : decode cX8_goAdd 8 = .ok (.bipush 13, 2) := by decide +kernel
theorem dX8_goAdd_10 : decode cX8_goAdd 10 = .ok (.iload_n 1, 1) := by decide +kernel
theorem dX8_goAdd_11 : decode cX8_goAdd 11 = .ok (.iadd, 1) := by decide +kernel
theorem dX8_goAdd_12 : decode cX8_goAdd 12 = .ok (.iaload, 1) := by decide +kernel
theorem dX8_goAdd_13 : decode cX8_goAdd 13 = .ok (.iadd, 1) := by decide +kernel
theorem dX8_goAdd_14 : decode cX8_goAdd 14 = .ok (.iload_n 2, 1) := by decide +kernel
theorem dX8_goAdd_15 : decode cX8_goAdd 15 = .ok (.iastore, 1) := by decide +kernel
theorem dX8_goAdd_16 : decode cX8_goAdd 16 = .ok (.aload_n 0, 1) := by decide +kernel
theorem dX8_goAdd_17 : decode cX8_goAdd 17 = .ok (.bipush 13, 2) := by decide +kernel
theorem dX8_goAdd_19 : decode cX8_goAdd 19 = .ok (.iload_n 1, 1) := by decide +kernel
theorem dX8_goAdd_20 : decode cX8_goAdd 20 = .ok (.iadd, 1) := by decide +kernel
theorem dX8_goAdd_21 : decode cX8_goAdd 21 = .ok (.dup2, 1) := by decide +kernel
theorem dX8_goAdd_22 : decode cX8_goAdd 22 = .ok (.iaload, 1) := by decide +kernel
theorem dX8_goAdd_23 : decode cX8_goAdd 23 = .ok (.iconst 1, 1) := by decide +kernel
theorem dX8_goAdd_24 : decode cX8_goAdd 24 = .ok (.iadd, 1) := by decide +kernel
theorem dX8_goAdd_25 : decode cX8_goAdd 25 = .ok (.iastore, 1) := by decide +kernel
theorem dX8_goAdd_26 : decode cX8_goAdd 26 = .ok (.return_, 1) := by decide +kernel
theorem dX8_goCut_0 : decode cX8_goCut 0 = .ok (.bipush 25, 2) := by decide +kernel
theorem dX8_goCut_2 : decode cX8_goCut 2 = .ok (.iconst 3, 1) := by decide +kernel
theorem dX8_goCut_3 : decode cX8_goCut 3 = .ok (.iload_n 1, 1) := by decide +kernel
theorem dX8_goCut_4 : decode cX8_goCut 4 = .ok (.imul, 1) := by decide +kernel
theorem dX8_goCut_5 : decode cX8_goCut 5 = .ok (.iadd, 1) := by decide +kernel
theorem dX8_goCut_6 : decode cX8_goCut 6 = .ok (.istore_n 3, 1) := by decide +kernel
theorem dX8_goCut_7 : decode cX8_goCut 7 = .ok (.aload_n 0, 1) := by decide +kernel
theorem dX8_goCut_8 : decode cX8_goCut 8 = .ok (.iload_n 3, 1) := by decide +kernel
theorem dX8_goCut_9 : decode cX8_goCut 9 = .ok (.iload_n 2, 1) := by decide +kernel
theorem dX8_goCut_10 : decode cX8_goCut 10 = .ok (.iadd, 1) := by decide +kernel
theorem dX8_goCut_11 : decode cX8_goCut 11 = .ok (.iaload, 1) := by decide +kernel
theorem dX8_goCut_12 : decode cX8_goCut 12 = .ok (.istore 4, 2) := by decide +kernel
theorem dX8_goCut_14 : decode cX8_goCut 14 = .ok (.aload_n 0, 1) := by decide +kernel
theorem dX8_goCut_15 : decode cX8_goCut 15 = .ok (.bipush 13, 2) := by decide +kernel
theorem dX8_goCut_17 : decode cX8_goCut 17 = .ok (.iload_n 1, 1) := by decide +kernel
theorem dX8_goCut_18 : decode cX8_goCut 18 = .ok (.iadd, 1) := by decide +kernel
theorem dX8_goCut_19 : decode cX8_goCut 19 = .ok (.dup2, 1) := by decide +kernel
theorem dX8_goCut_20 : decode cX8_goCut 20 = .ok (.iaload, 1) := by decide +kernel
theorem dX8_goCut_21 : decode cX8_goCut 21 = .ok (.iconst 1, 1) := by decide +kernel
theorem dX8_goCut_22 : decode cX8_goCut 22 = .ok (.isub, 1) := by decide +kernel
theorem dX8_goCut_23 : decode cX8_goCut 23 = .ok (.iastore, 1) := by decide +kernel
theorem dX8_goCut_24 : decode cX8_goCut 24 = .ok (.iload_n 2, 1) := by decide +kernel
theorem dX8_goCut_25 : decode cX8_goCut 25 = .ok (.istore 5, 2) := by decide +kernel
theorem dX8_goCut_27 : decode cX8_goCut 27 = .ok (.iload 5, 2) := by decide +kernel
theorem dX8_goCut_29 : decode cX8_goCut 29 = .ok (.aload_n 0, 1) := by decide +kernel
theorem dX8_goCut_30 : decode cX8_goCut 30 = .ok (.bipush 13, 2) := by decide +kernel
theorem dX8_goCut_32 : decode cX8_goCut 32 = .ok (.iload_n 1, 1) := by decide +kernel
theorem dX8_goCut_33 : decode cX8_goCut 33 = .ok (.iadd, 1) := by decide +kernel
theorem dX8_goCut_34 : decode cX8_goCut 34 = .ok (.iaload, 1) := by decide +kernel
theorem dX8_goCut_35 : decode cX8_goCut 35 = .ok (.if_icmp .ge 23, 3) := by decide +kernel
theorem dX8_goCut_38 : decode cX8_goCut 38 = .ok (.aload_n 0, 1) := by decide +kernel
theorem dX8_goCut_39 : decode cX8_goCut 39 = .ok (.iload_n 3, 1) := by decide +kernel
theorem dX8_goCut_40 : decode cX8_goCut 40 = .ok (.iload 5, 2) := by decide +kernel
theorem dX8_goCut_42 : decode cX8_goCut 42 = .ok (.iadd, 1) := by decide +kernel
theorem dX8_goCut_43 : decode cX8_goCut 43 = .ok (.aload_n 0, 1) := by decide +kernel
theorem dX8_goCut_44 : decode cX8_goCut 44 = .ok (.iload_n 3, 1) := by decide +kernel
theorem dX8_goCut_45 : decode cX8_goCut 45 = .ok (.iload 5, 2) := by decide +kernel
theorem dX8_goCut_47 : decode cX8_goCut 47 = .ok (.iadd, 1) := by decide +kernel
theorem dX8_goCut_48 : decode cX8_goCut 48 = .ok (.iconst 1, 1) := by decide +kernel
theorem dX8_goCut_49 : decode cX8_goCut 49 = .ok (.iadd, 1) := by decide +kernel
theorem dX8_goCut_50 : decode cX8_goCut 50 = .ok (.iaload, 1) := by decide +kernel
theorem dX8_goCut_51 : decode cX8_goCut 51 = .ok (.iastore, 1) := by decide +kernel
theorem dX8_goCut_52 : decode cX8_goCut 52 = .ok (.iinc 5 1, 3) := by decide +kernel
theorem dX8_goCut_55 : decode cX8_goCut 55 = .ok (.goto (-28), 3) := by decide +kernel
theorem dX8_goCut_58 : decode cX8_goCut 58 = .ok (.iload 4, 2) := by decide +kernel
theorem dX8_goCut_60 : decode cX8_goCut 60 = .ok (.ireturn, 1) := by decide +kernel
theorem dX8_goSplit_0 : decode cX8_goSplit 0 = .ok (.aload_n 0, 1) := by decide +kernel
theorem dX8_goSplit_1 : decode cX8_goSplit 1 = .ok (.iconst 0, 1) := by decide +kernel
theorem dX8_goSplit_2 : decode cX8_goSplit 2 = .ok (.iaload, 1) := by decide +kernel
theorem dX8_goSplit_3 : decode cX8_goSplit 3 = .ok (.istore_n 3, 1) := by decide +kernel
theorem dX8_goSplit_4 : decode cX8_goSplit 4 = .ok (.aload_n 0, 1) := by decide +kernel
theorem dX8_goSplit_5 : decode cX8_goSplit 5 = .ok (.iconst 1, 1) := by decide +kernel
theorem dX8_goSplit_6 : decode cX8_goSplit 6 = .ok (.iload_n 3, 1) := by decide +kernel
theorem dX8_goSplit_7 : decode cX8_goSplit 7 = .ok (.iadd, 1) := by decide +kernel
theorem dX8_goSplit_8 : decode cX8_goSplit 8 = .ok (.aload_n 0, 1) := by decide +kernel
theorem dX8_goSplit_9 : decode cX8_goSplit 9 = .ok (.iconst 1, 1) := by decide +kernel
theorem dX8_goSplit_10 : decode cX8_goSplit 10 = .ok (.iload_n 2, 1) := by decide +kernel
theorem dX8_goSplit_11 : decode cX8_goSplit 11 = .ok (.iadd, 1) := by decide +kernel
theorem dX8_goSplit_12 : decode cX8_goSplit 12 = .ok (.iaload, 1) := by decide +kernel
theorem dX8_goSplit_13 : decode cX8_goSplit 13 = .ok (.iastore, 1) := by decide +kernel
theorem dX8_goSplit_14 : decode cX8_goSplit 14 = .ok (.aload_n 0, 1) := by decide +kernel
theorem dX8_goSplit_15 : decode cX8_goSplit 15 = .ok (.bipush 13, 2) := by decide +kernel
theorem dX8_goSplit_17 : decode cX8_goSplit 17 = .ok (.iload_n 3, 1) := by decide +kernel
theorem dX8_goSplit_18 : decode cX8_goSplit 18 = .ok (.iadd, 1) := by decide +kernel
theorem dX8_goSplit_19 : decode cX8_goSplit 19 = .ok (.aload_n 0, 1) := by decide +kernel
theorem dX8_goSplit_20 : decode cX8_goSplit 20 = .ok (.bipush 13, 2) := by decide +kernel
theorem dX8_goSplit_22 : decode cX8_goSplit 22 = .ok (.iload_n 2, 1) := by decide +kernel
theorem dX8_goSplit_23 : decode cX8_goSplit 23 = .ok (.iadd, 1) := by decide +kernel
theorem dX8_goSplit_24 : decode cX8_goSplit 24 = .ok (.iaload, 1) := by decide +kernel
theorem dX8_goSplit_25 : decode cX8_goSplit 25 = .ok (.iastore, 1) := by decide +kernel
theorem dX8_goSplit_26 : decode cX8_goSplit 26 = .ok (.iconst 0, 1) := by decide +kernel
theorem dX8_goSplit_27 : decode cX8_goSplit 27 = .ok (.istore 4, 2) := by decide +kernel
theorem dX8_goSplit_29 : decode cX8_goSplit 29 = .ok (.iload 4, 2) := by decide +kernel
theorem dX8_goSplit_31 : decode cX8_goSplit 31 = .ok (.iconst 3, 1) := by decide +kernel
theorem dX8_goSplit_32 : decode cX8_goSplit 32 = .ok (.if_icmp .ge 31, 3) := by decide +kernel
theorem dX8_goSplit_35 : decode cX8_goSplit 35 = .ok (.aload_n 0, 1) := by decide +kernel
theorem dX8_goSplit_36 : decode cX8_goSplit 36 = .ok (.bipush 25, 2) := by decide +kernel
theorem dX8_goSplit_38 : decode cX8_goSplit 38 = .ok (.iconst 3, 1) := by decide +kernel
theorem dX8_goSplit_39 : decode cX8_goSplit 39 = .ok (.iload_n 3, 1) := by decide +kernel
theorem dX8_goSplit_40 : decode cX8_goSplit 40 = .ok (.imul, 1) := by decide +kernel
theorem dX8_goSplit_41 : decode cX8_goSplit 41 = .ok (.iadd, 1) := by decide +kernel
theorem dX8_goSplit_42 : decode cX8_goSplit 42 = .ok (.iload 4, 2) := by decide +kernel
theorem dX8_goSplit_44 : decode cX8_goSplit 44 = .ok (.iadd, 1) := by decide +kernel
theorem dX8_goSplit_45 : decode cX8_goSplit 45 = .ok (.aload_n 0, 1) := by decide +kernel
theorem dX8_goSplit_46 : decode cX8_goSplit 46 = .ok (.bipush 25, 2) := by decide +kernel
theorem dX8_goSplit_48 : decode cX8_goSplit 48 = .ok (.iconst 3, 1) := by decide +kernel
theorem dX8_goSplit_49 : decode cX8_goSplit 49 = .ok (.iload_n 2, 1) := by decide +kernel
theorem dX8_goSplit_50 : decode cX8_goSplit 50 = .ok (.imul, 1) := by decide +kernel
theorem dX8_goSplit_51 : decode cX8_goSplit 51 = .ok (.iadd, 1) := by decide +kernel
theorem dX8_goSplit_52 : decode cX8_goSplit 52 = .ok (.iload 4, 2) := by decide +kernel
theorem dX8_goSplit_54 : decode cX8_goSplit 54 = .ok (.iadd, 1) := by decide +kernel
theorem dX8_goSplit_55 : decode cX8_goSplit 55 = .ok (.iaload, 1) := by decide +kernel
theorem dX8_goSplit_56 : decode cX8_goSplit 56 = .ok (.iastore, 1) := by decide +kernel
theorem dX8_goSplit_57 : decode cX8_goSplit 57 = .ok (.iinc 4 1, 3) := by decide +kernel
theorem dX8_goSplit_60 : decode cX8_goSplit 60 = .ok (.goto (-31), 3) := by decide +kernel
theorem dX8_goSplit_63 : decode cX8_goSplit 63 = .ok (.iconst 0, 1) := by decide +kernel
theorem dX8_goSplit_64 : decode cX8_goSplit 64 = .ok (.istore 4, 2) := by decide +kernel
theorem dX8_goSplit_66 : decode cX8_goSplit 66 = .ok (.iload 4, 2) := by decide +kernel
theorem dX8_goSplit_68 : decode cX8_goSplit 68 = .ok (.aload_n 0, 1) := by decide +kernel
theorem dX8_goSplit_69 : decode cX8_goSplit 69 = .ok (.bipush 13, 2) := by decide +kernel
theorem dX8_goSplit_71 : decode cX8_goSplit 71 = .ok (.iload_n 1, 1) := by decide +kernel
theorem dX8_goSplit_72 : decode cX8_goSplit 72 = .ok (.iadd, 1) := by decide +kernel
theorem dX8_goSplit_73 : decode cX8_goSplit 73 = .ok (.iaload, 1) := by decide +kernel
theorem dX8_goSplit_74 : decode cX8_goSplit 74 = .ok (.if_icmp .ge 40, 3) := by decide +kernel
theorem dX8_goSplit_77 : decode cX8_goSplit 77 = .ok (.bipush 25, 2) := by decide +kernel
theorem dX8_goSplit_79 : decode cX8_goSplit 79 = .ok (.iconst 3, 1) := by decide +kernel
theorem dX8_goSplit_80 : decode cX8_goSplit 80 = .ok (.iload_n 1, 1) := by decide +kernel
theorem dX8_goSplit_81 : decode cX8_goSplit 81 = .ok (.imul, 1) := by decide +kernel
theorem dX8_goSplit_82 : decode cX8_goSplit 82 = .ok (.iadd, 1) := by decide +kernel
theorem dX8_goSplit_83 : decode cX8_goSplit 83 = .ok (.iload 4, 2) := by decide +kernel
theorem dX8_goSplit_85 : decode cX8_goSplit 85 = .ok (.iadd, 1) := by decide +kernel
theorem dX8_goSplit_86 : decode cX8_goSplit 86 = .ok (.istore 5, 2) := by decide +kernel
theorem dX8_goSplit_88 : decode cX8_goSplit 88 = .ok (.aload_n 0, 1) := by decide +kernel
theorem dX8_goSplit_89 : decode cX8_goSplit 89 = .ok (.iload 5, 2) := by decide +kernel
theorem dX8_goSplit_91 : decode cX8_goSplit 91 = .ok (.aload_n 0, 1) := by decide +kernel
theorem dX8_goSplit_92 : decode cX8_goSplit 92 = .ok (.iload 5, 2) := by decide +kernel
theorem dX8_goSplit_94 : decode cX8_goSplit 94 = .ok (.iaload, 1) := by decide +kernel
theorem dX8_goSplit_95 : decode cX8_goSplit 95 = .ok (.iload_n 2, 1) := by decide +kernel
theorem dX8_goSplit_96 : decode cX8_goSplit 96 = .ok (.if_icmp .ne 7, 3) := by decide +kernel
theorem dX8_goSplit_99 : decode cX8_goSplit 99 = .ok (.iload_n 3, 1) := by decide +kernel
theorem dX8_goSplit_100 : decode cX8_goSplit 100 = .ok (.goto 7, 3) := by decide +kernel
theorem dX8_goSplit_103 : decode cX8_goSplit 103 = .ok (.aload_n 0, 1) := by decide +kernel
theorem dX8_goSplit_104 : decode cX8_goSplit 104 = .ok (.iload 5, 2) := by decide +kernel
theorem dX8_goSplit_106 : decode cX8_goSplit 106 = .ok (.iaload, 1) := by decide +kernel
theorem dX8_goSplit_107 : decode cX8_goSplit 107 = .ok (.iastore, 1) := by decide +kernel
theorem dX8_goSplit_108 : decode cX8_goSplit 108 = .ok (.iinc 4 1, 3) := by decide +kernel
theorem dX8_goSplit_111 : decode cX8_goSplit 111 = .ok (.goto (-45), 3) := by decide +kernel
theorem dX8_goSplit_114 : decode cX8_goSplit 114 = .ok (.aload_n 0, 1) := by decide +kernel
theorem dX8_goSplit_115 : decode cX8_goSplit 115 = .ok (.iconst 0, 1) := by decide +kernel
theorem dX8_goSplit_116 : decode cX8_goSplit 116 = .ok (.dup2, 1) := by decide +kernel
theorem dX8_goSplit_117 : decode cX8_goSplit 117 = .ok (.iaload, 1) := by decide +kernel
theorem dX8_goSplit_118 : decode cX8_goSplit 118 = .ok (.iconst 1, 1) := by decide +kernel
theorem dX8_goSplit_119 : decode cX8_goSplit 119 = .ok (.iadd, 1) := by decide +kernel
theorem dX8_goSplit_120 : decode cX8_goSplit 120 = .ok (.iastore, 1) := by decide +kernel
theorem dX8_goSplit_121 : decode cX8_goSplit 121 = .ok (.iload_n 3, 1) := by decide +kernel
theorem dX8_goSplit_122 : decode cX8_goSplit 122 = .ok (.ireturn, 1) := by decide +kernel
theorem dX8_add_0 : decode cX8_add 0 = .ok (.aload_n 0, 1) := by decide +kernel
theorem dX8_add_1 : decode cX8_add 1 = .ok (.iconst 0, 1) := by decide +kernel
theorem dX8_add_2 : decode cX8_add 2 = .ok (.putfield 68, 3) := by decide +kernel
theorem dX8_add_5 : decode cX8_add 5 = .ok (.aload_n 0, 1) := by decide +kernel
theorem dX8_add_6 : decode cX8_add 6 = .ok (.iload_n 1, 1) := by decide +kernel
theorem dX8_add_7 : decode cX8_add 7 = .ok (.invokevirtual 76, 3) := by decide +kernel
theorem dX8_add_10 : decode cX8_add 10 = .ok (.ifCond .ne 11, 3) := by decide +kernel
theorem dX8_add_13 : decode cX8_add 13 = .ok (.aload_n 0, 1) := by decide +kernel
theorem dX8_add_14 : decode cX8_add 14 = .ok (.iload_n 2, 1) := by decide +kernel
theorem dX8_add_15 : decode cX8_add 15 = .ok (.invokevirtual 76, 3) := by decide +kernel
theorem dX8_add_18 : decode cX8_add 18 = .ok (.ifCond .eq 5, 3) := by decide +kernel
theorem dX8_add_21 : decode cX8_add 21 = .ok (.iconst (-1), 1) := by decide +kernel
theorem dX8_add_22 : decode cX8_add 22 = .ok (.ireturn, 1) := by decide +kernel
theorem dX8_add_23 : decode cX8_add 23 = .ok (.aload_n 0, 1) := by decide +kernel
theorem dX8_add_24 : decode cX8_add 24 = .ok (.getfield 16, 3) := by decide +kernel
theorem dX8_add_27 : decode cX8_add 27 = .ok (.bipush 13, 2) := by decide +kernel
theorem dX8_add_29 : decode cX8_add 29 = .ok (.iload_n 1, 1) := by decide +kernel
theorem dX8_add_30 : decode cX8_add 30 = .ok (.iadd, 1) := by decide +kernel
theorem dX8_add_31 : decode cX8_add 31 = .ok (.iaload, 1) := by decide +kernel
theorem dX8_add_32 : decode cX8_add 32 = .ok (.iconst 3, 1) := by decide +kernel
theorem dX8_add_33 : decode cX8_add 33 = .ok (.if_icmp .ne 6, 3) := by decide +kernel
theorem dX8_add_36 : decode cX8_add 36 = .ok (.bipush (-4), 2) := by decide +kernel
theorem dX8_add_38 : decode cX8_add 38 = .ok (.ireturn, 1) := by decide +kernel
theorem dX8_add_39 : decode cX8_add 39 = .ok (.aload_n 0, 1) := by decide +kernel
theorem dX8_add_40 : decode cX8_add 40 = .ok (.invokevirtual 190, 3) := by decide +kernel
theorem dX8_add_43 : decode cX8_add 43 = .ok (.aload_n 0, 1) := by decide +kernel
theorem dX8_add_44 : decode cX8_add 44 = .ok (.getfield 16, 3) := by decide +kernel
theorem dX8_add_47 : decode cX8_add 47 = .ok (.iload_n 1, 1) := by decide +kernel
theorem dX8_add_48 : decode cX8_add 48 = .ok (.iload_n 2, 1) := by decide +kernel
theorem dX8_add_49 : decode cX8_add 49 = .ok (.invokestatic 193, 3) := by decide +kernel
theorem dX8_add_52 : decode cX8_add 52 = .ok (.aload_n 0, 1) := by decide +kernel
theorem dX8_add_53 : decode cX8_add 53 = .ok (.getfield 16, 3) := by decide +kernel
theorem dX8_add_56 : decode cX8_add 56 = .ok (.bipush 13, 2) := by decide +kernel
theorem dX8_add_58 : decode cX8_add 58 = .ok (.iload_n 1, 1) := by decide +kernel
theorem dX8_add_59 : decode cX8_add 59 = .ok (.iadd, 1) := by decide +kernel
theorem dX8_add_60 : decode cX8_add 60 = .ok (.iaload, 1) := by decide +kernel
theorem dX8_add_61 : decode cX8_add 61 = .ok (.ireturn, 1) := by decide +kernel
theorem dX8_cut_0 : decode cX8_cut 0 = .ok (.aload_n 0, 1) := by decide +kernel
theorem dX8_cut_1 : decode cX8_cut 1 = .ok (.iconst 0, 1) := by decide +kernel
theorem dX8_cut_2 : decode cX8_cut 2 = .ok (.putfield 68, 3) := by decide +kernel
theorem dX8_cut_5 : decode cX8_cut 5 = .ok (.aload_n 0, 1) := by decide +kernel
theorem dX8_cut_6 : decode cX8_cut 6 = .ok (.iload_n 1, 1) := by decide +kernel
theorem dX8_cut_7 : decode cX8_cut 7 = .ok (.iload_n 2, 1) := by decide +kernel
theorem dX8_cut_8 : decode cX8_cut 8 = .ok (.invokevirtual 179, 3) := by decide +kernel
theorem dX8_cut_11 : decode cX8_cut 11 = .ok (.ifCond .eq 5, 3) := by decide +kernel
theorem dX8_cut_14 : decode cX8_cut 14 = .ok (.iconst (-1), 1) := by decide +kernel
theorem dX8_cut_15 : decode cX8_cut 15 = .ok (.ireturn, 1) := by decide +kernel
theorem dX8_cut_16 : decode cX8_cut 16 = .ok (.aload_n 0, 1) := by decide +kernel
theorem dX8_cut_17 : decode cX8_cut 17 = .ok (.invokevirtual 190, 3) := by decide +kernel
theorem dX8_cut_20 : decode cX8_cut 20 = .ok (.aload_n 0, 1) := by decide +kernel
theorem dX8_cut_21 : decode cX8_cut 21 = .ok (.getfield 16, 3) := by decide +kernel
theorem dX8_cut_24 : decode cX8_cut 24 = .ok (.iload_n 1, 1) := by decide +kernel
theorem dX8_cut_25 : decode cX8_cut 25 = .ok (.iload_n 2, 1) := by decide +kernel
theorem dX8_cut_26 : decode cX8_cut 26 = .ok (.invokestatic 197, 3) := by decide +kernel
theorem dX8_cut_29 : decode cX8_cut 29 = .ok (.ireturn, 1) := by decide +kernel
theorem dX8_split_0 : decode cX8_split 0 = .ok (.aload_n 0, 1) := by decide +kernel
theorem dX8_split_1 : decode cX8_split 1 = .ok (.iconst 0, 1) := by decide +kernel
theorem dX8_split_2 : decode cX8_split 2 = .ok (.putfield 68, 3) := by decide +kernel
theorem dX8_split_5 : decode cX8_split 5 = .ok (.aload_n 0, 1) := by decide +kernel
theorem dX8_split_6 : decode cX8_split 6 = .ok (.iload_n 1, 1) := by decide +kernel
theorem dX8_split_7 : decode cX8_split 7 = .ok (.invokevirtual 76, 3) := by decide +kernel
theorem dX8_split_10 : decode cX8_split 10 = .ok (.ifCond .ne 11, 3) := by decide +kernel
theorem dX8_split_13 : decode cX8_split 13 = .ok (.aload_n 0, 1) := by decide +kernel
theorem dX8_split_14 : decode cX8_split 14 = .ok (.iload_n 2, 1) := by decide +kernel
theorem dX8_split_15 : decode cX8_split 15 = .ok (.invokevirtual 76, 3) := by decide +kernel
theorem dX8_split_18 : decode cX8_split 18 = .ok (.ifCond .eq 5, 3) := by decide +kernel
theorem dX8_split_21 : decode cX8_split 21 = .ok (.iconst (-1), 1) := by decide +kernel
theorem dX8_split_22 : decode cX8_split 22 = .ok (.ireturn, 1) := by decide +kernel
theorem dX8_split_23 : decode cX8_split 23 = .ok (.aload_n 0, 1) := by decide +kernel
theorem dX8_split_24 : decode cX8_split 24 = .ok (.getfield 16, 3) := by decide +kernel
theorem dX8_split_27 : decode cX8_split 27 = .ok (.iload_n 1, 1) := by decide +kernel
theorem dX8_split_28 : decode cX8_split 28 = .ok (.iload_n 2, 1) := by decide +kernel
theorem dX8_split_29 : decode cX8_split 29 = .ok (.invokestatic 116, 3) := by decide +kernel
theorem dX8_split_32 : decode cX8_split 32 = .ok (.ifCond .ne 6, 3) := by decide +kernel
theorem dX8_split_35 : decode cX8_split 35 = .ok (.bipush (-3), 2) := by decide +kernel
theorem dX8_split_37 : decode cX8_split 37 = .ok (.ireturn, 1) := by decide +kernel
theorem dX8_split_38 : decode cX8_split 38 = .ok (.aload_n 0, 1) := by decide +kernel
theorem dX8_split_39 : decode cX8_split 39 = .ok (.getfield 16, 3) := by decide +kernel
theorem dX8_split_42 : decode cX8_split 42 = .ok (.iconst 0, 1) := by decide +kernel
theorem dX8_split_43 : decode cX8_split 43 = .ok (.iaload, 1) := by decide +kernel
theorem dX8_split_44 : decode cX8_split 44 = .ok (.bipush 12, 2) := by decide +kernel
theorem dX8_split_46 : decode cX8_split 46 = .ok (.if_icmp .ne 6, 3) := by decide +kernel
theorem dX8_split_49 : decode cX8_split 49 = .ok (.bipush (-4), 2) := by decide +kernel
theorem dX8_split_51 : decode cX8_split 51 = .ok (.ireturn, 1) := by decide +kernel
theorem dX8_split_52 : decode cX8_split 52 = .ok (.aload_n 0, 1) := by decide +kernel
theorem dX8_split_53 : decode cX8_split 53 = .ok (.invokevirtual 190, 3) := by decide +kernel
theorem dX8_split_56 : decode cX8_split 56 = .ok (.aload_n 0, 1) := by decide +kernel
theorem dX8_split_57 : decode cX8_split 57 = .ok (.getfield 16, 3) := by decide +kernel
theorem dX8_split_60 : decode cX8_split 60 = .ok (.iload_n 1, 1) := by decide +kernel
theorem dX8_split_61 : decode cX8_split 61 = .ok (.iload_n 2, 1) := by decide +kernel
theorem dX8_split_62 : decode cX8_split 62 = .ok (.invokestatic 201, 3) := by decide +kernel
theorem dX8_split_65 : decode cX8_split 65 = .ok (.ireturn, 1) := by decide +kernel
theorem dX8_worst_0 : decode cX8_worst 0 = .ok (.bipush (-9), 2) := by decide +kernel
theorem dX8_worst_2 : decode cX8_worst 2 = .ok (.istore_n 1, 1) := by decide +kernel
theorem dX8_worst_3 : decode cX8_worst 3 = .ok (.iconst 0, 1) := by decide +kernel
theorem dX8_worst_4 : decode cX8_worst 4 = .ok (.istore_n 2, 1) := by decide +kernel
theorem dX8_worst_5 : decode cX8_worst 5 = .ok (.iload_n 2, 1) := by decide +kernel
theorem dX8_worst_6 : decode cX8_worst 6 = .ok (.bipush 12, 2) := by decide +kernel
theorem dX8_worst_8 : decode cX8_worst 8 = .ok (.if_icmp .ge 67, 3) := by decide +kernel
theorem dX8_worst_11 : decode cX8_worst 11 = .ok (.aload_n 0, 1) := by decide +kernel
theorem dX8_worst_12 : decode cX8_worst 12 = .ok (.getfield 41, 3) := by decide +kernel
theorem dX8_worst_15 : decode cX8_worst 15 = .ok (.iload_n 2, 1) := by decide +kernel
theorem dX8_worst_16 : decode cX8_worst 16 = .ok (.iaload, 1) := by decide +kernel
theorem dX8_worst_17 : decode cX8_worst 17 = .ok (.bipush (-9), 2) := by decide +kernel
theorem dX8_worst_19 : decode cX8_worst 19 = .ok (.if_icmp .eq 38, 3) := by decide +kernel
theorem dX8_worst_22 : decode cX8_worst 22 = .ok (.aload_n 0, 1) := by decide +kernel
theorem dX8_worst_23 : decode cX8_worst 23 = .ok (.getfield 56, 3) := by decide +kernel
theorem dX8_worst_26 : decode cX8_worst 26 = .ok (.iload_n 2, 1) := by decide +kernel
theorem dX8_worst_27 : decode cX8_worst 27 = .ok (.iaload, 1) := by decide +kernel
theorem dX8_worst_28 : decode cX8_worst 28 = .ok (.iconst 3, 1) := by decide +kernel
theorem dX8_worst_29 : decode cX8_worst 29 = .ok (.if_icmp .ne 28, 3) := by decide +kernel
theorem dX8_worst_32 : decode cX8_worst 32 = .ok (.iload_n 1, 1) := by decide +kernel
theorem dX8_worst_33 : decode cX8_worst 33 = .ok (.bipush (-9), 2) := by decide +kernel
theorem dX8_worst_35 : decode cX8_worst 35 = .ok (.if_icmp .eq 18, 3) := by decide +kernel
theorem dX8_worst_38 : decode cX8_worst 38 = .ok (.aload_n 0, 1) := by decide +kernel
theorem dX8_worst_39 : decode cX8_worst 39 = .ok (.getfield 41, 3) := by decide +kernel
theorem dX8_worst_42 : decode cX8_worst 42 = .ok (.iload_n 2, 1) := by decide +kernel
theorem dX8_worst_43 : decode cX8_worst 43 = .ok (.iaload, 1) := by decide +kernel
theorem dX8_worst_44 : decode cX8_worst 44 = .ok (.aload_n 0, 1) := by decide +kernel
theorem dX8_worst_45 : decode cX8_worst 45 = .ok (.getfield 41, 3) := by decide +kernel
theorem dX8_worst_48 : decode cX8_worst 48 = .ok (.iload_n 1, 1) := by decide +kernel
theorem dX8_worst_49 : decode cX8_worst 49 = .ok (.iaload, 1) := by decide +kernel
theorem dX8_worst_50 : decode cX8_worst 50 = .ok (.if_icmp .le 7, 3) := by decide +kernel
theorem dX8_worst_53 : decode cX8_worst 53 = .ok (.iconst 1, 1) := by decide +kernel
theorem dX8_worst_54 : decode cX8_worst 54 = .ok (.goto 4, 3) := by decide +kernel
theorem dX8_worst_57 : decode cX8_worst 57 = .ok (.iconst 0, 1) := by decide +kernel
theorem dX8_worst_58 : decode cX8_worst 58 = .ok (.istore_n 3, 1) := by decide +kernel
theorem dX8_worst_59 : decode cX8_worst 59 = .ok (.iload_n 3, 1) := by decide +kernel
theorem dX8_worst_60 : decode cX8_worst 60 = .ok (.ifCond .eq 7, 3) := by decide +kernel
theorem dX8_worst_63 : decode cX8_worst 63 = .ok (.iload_n 2, 1) := by decide +kernel
theorem dX8_worst_64 : decode cX8_worst 64 = .ok (.goto 4, 3) := by decide +kernel
theorem dX8_worst_67 : decode cX8_worst 67 = .ok (.iload_n 1, 1) := by decide +kernel
theorem dX8_worst_68 : decode cX8_worst 68 = .ok (.istore_n 1, 1) := by decide +kernel
theorem dX8_worst_69 : decode cX8_worst 69 = .ok (.iinc 2 1, 3) := by decide +kernel
theorem dX8_worst_72 : decode cX8_worst 72 = .ok (.goto (-67), 3) := by decide +kernel
theorem dX8_worst_75 : decode cX8_worst 75 = .ok (.iload_n 1, 1) := by decide +kernel
theorem dX8_worst_76 : decode cX8_worst 76 = .ok (.ireturn, 1) := by decide +kernel
theorem dX8_comes_0 : decode cX8_comes 0 = .ok (.iconst 0, 1) := by decide +kernel
theorem dX8_comes_1 : decode cX8_comes 1 = .ok (.istore 4, 2) := by decide +kernel
theorem dX8_comes_3 : decode cX8_comes 3 = .ok (.iload 4, 2) := by decide +kernel
theorem dX8_comes_5 : decode cX8_comes 5 = .ok (.aload_n 1, 1) := by decide +kernel
theorem dX8_comes_6 : decode cX8_comes 6 = .ok (.iconst 0, 1) := by decide +kernel
theorem dX8_comes_7 : decode cX8_comes 7 = .ok (.iaload, 1) := by decide +kernel
theorem dX8_comes_8 : decode cX8_comes 8 = .ok (.if_icmp .ge 43, 3) := by decide +kernel
theorem dX8_comes_11 : decode cX8_comes 11 = .ok (.aload_n 0, 1) := by decide +kernel
theorem dX8_comes_12 : decode cX8_comes 12 = .ok (.getfield 41, 3) := by decide +kernel
theorem dX8_comes_15 : decode cX8_comes 15 = .ok (.iload 4, 2) := by decide +kernel
theorem dX8_comes_17 : decode cX8_comes 17 = .ok (.iaload, 1) := by decide +kernel
theorem dX8_comes_18 : decode cX8_comes 18 = .ok (.bipush (-9), 2) := by decide +kernel
theorem dX8_comes_20 : decode cX8_comes 20 = .ok (.if_icmp .eq 25, 3) := by decide +kernel
theorem dX8_comes_23 : decode cX8_comes 23 = .ok (.iload_n 2, 1) := by decide +kernel
theorem dX8_comes_24 : decode cX8_comes 24 = .ok (.iload 4, 2) := by decide +kernel
theorem dX8_comes_26 : decode cX8_comes 26 = .ok (.invokestatic 123, 3) := by decide +kernel
theorem dX8_comes_29 : decode cX8_comes 29 = .ok (.ifCond .ne 16, 3) := by decide +kernel
theorem dX8_comes_32 : decode cX8_comes 32 = .ok (.aload_n 1, 1) := by decide +kernel
theorem dX8_comes_33 : decode cX8_comes 33 = .ok (.iload 4, 2) := by decide +kernel
theorem dX8_comes_35 : decode cX8_comes 35 = .ok (.iload_n 3, 1) := by decide +kernel
theorem dX8_comes_36 : decode cX8_comes 36 = .ok (.invokestatic 116, 3) := by decide +kernel
theorem dX8_comes_39 : decode cX8_comes 39 = .ok (.ifCond .eq 6, 3) := by decide +kernel
theorem dX8_comes_42 : decode cX8_comes 42 = .ok (.iload 4, 2) := by decide +kernel
theorem dX8_comes_44 : decode cX8_comes 44 = .ok (.ireturn, 1) := by decide +kernel
theorem dX8_comes_45 : decode cX8_comes 45 = .ok (.iinc 4 1, 3) := by decide +kernel
theorem dX8_comes_48 : decode cX8_comes 48 = .ok (.goto (-45), 3) := by decide +kernel
theorem dX8_comes_51 : decode cX8_comes 51 = .ok (.bipush (-9), 2) := by decide +kernel
theorem dX8_comes_53 : decode cX8_comes 53 = .ok (.ireturn, 1) := by decide +kernel
theorem dX8_mends_0 : decode cX8_mends 0 = .ok (.aload_n 0, 1) := by decide +kernel
theorem dX8_mends_1 : decode cX8_mends 1 = .ok (.aload_n 1, 1) := by decide +kernel
theorem dX8_mends_2 : decode cX8_mends 2 = .ok (.invokevirtual 156, 3) := by decide +kernel
theorem dX8_mends_5 : decode cX8_mends 5 = .ok (.aload_n 0, 1) := by decide +kernel
theorem dX8_mends_6 : decode cX8_mends 6 = .ok (.invokevirtual 204, 3) := by decide +kernel
theorem dX8_mends_9 : decode cX8_mends 9 = .ok (.istore_n 2, 1) := by decide +kernel
theorem dX8_mends_10 : decode cX8_mends 10 = .ok (.iload_n 2, 1) := by decide +kernel
theorem dX8_mends_11 : decode cX8_mends 11 = .ok (.bipush (-9), 2) := by decide +kernel
theorem dX8_mends_13 : decode cX8_mends 13 = .ok (.if_icmp .eq 11, 3) := by decide +kernel
theorem dX8_mends_16 : decode cX8_mends 16 = .ok (.aload_n 1, 1) := by decide +kernel
theorem dX8_mends_17 : decode cX8_mends 17 = .ok (.iconst 0, 1) := by decide +kernel
theorem dX8_mends_18 : decode cX8_mends 18 = .ok (.iaload, 1) := by decide +kernel
theorem dX8_mends_19 : decode cX8_mends 19 = .ok (.bipush 12, 2) := by decide +kernel
theorem dX8_mends_21 : decode cX8_mends 21 = .ok (.if_icmp .ne 5, 3) := by decide +kernel
theorem dX8_mends_24 : decode cX8_mends 24 = .ok (.iconst 0, 1) := by decide +kernel
theorem dX8_mends_25 : decode cX8_mends 25 = .ok (.ireturn, 1) := by decide +kernel
theorem dX8_mends_26 : decode cX8_mends 26 = .ok (.aload_n 0, 1) := by decide +kernel
theorem dX8_mends_27 : decode cX8_mends 27 = .ok (.iload_n 2, 1) := by decide +kernel
theorem dX8_mends_28 : decode cX8_mends 28 = .ok (.invokevirtual 187, 3) := by decide +kernel
theorem dX8_mends_31 : decode cX8_mends 31 = .ok (.istore_n 3, 1) := by decide +kernel
theorem dX8_mends_32 : decode cX8_mends 32 = .ok (.iconst 0, 1) := by decide +kernel
theorem dX8_mends_33 : decode cX8_mends 33 = .ok (.istore 4, 2) := by decide +kernel
theorem dX8_mends_35 : decode cX8_mends 35 = .ok (.iload 4, 2) := by decide +kernel
theorem dX8_mends_37 : decode cX8_mends 37 = .ok (.aload_n 1, 1) := by decide +kernel
theorem dX8_mends_38 : decode cX8_mends 38 = .ok (.iconst 0, 1) := by decide +kernel
theorem dX8_mends_39 : decode cX8_mends 39 = .ok (.iaload, 1) := by decide +kernel
theorem dX8_mends_40 : decode cX8_mends 40 = .ok (.if_icmp .ge 57, 3) := by decide +kernel
theorem dX8_mends_43 : decode cX8_mends 43 = .ok (.iload 4, 2) := by decide +kernel
theorem dX8_mends_45 : decode cX8_mends 45 = .ok (.iload_n 2, 1) := by decide +kernel
theorem dX8_mends_46 : decode cX8_mends 46 = .ok (.if_icmp .eq 23, 3) := by decide +kernel
theorem dX8_mends_49 : decode cX8_mends 49 = .ok (.iload_n 3, 1) := by decide +kernel
theorem dX8_mends_50 : decode cX8_mends 50 = .ok (.iload 4, 2) := by decide +kernel
theorem dX8_mends_52 : decode cX8_mends 52 = .ok (.invokestatic 123, 3) := by decide +kernel
theorem dX8_mends_55 : decode cX8_mends 55 = .ok (.ifCond .eq 14, 3) := by decide +kernel
theorem dX8_mends_58 : decode cX8_mends 58 = .ok (.aload_n 0, 1) := by decide +kernel
theorem dX8_mends_59 : decode cX8_mends 59 = .ok (.aload_n 1, 1) := by decide +kernel
theorem dX8_mends_60 : decode cX8_mends 60 = .ok (.iload_n 3, 1) := by decide +kernel
theorem dX8_mends_61 : decode cX8_mends 61 = .ok (.iload 4, 2) := by decide +kernel
theorem dX8_mends_63 : decode cX8_mends 63 = .ok (.invokevirtual 207, 3) := by decide +kernel
theorem dX8_mends_66 : decode cX8_mends 66 = .ok (.goto 5, 3) := by decide +kernel
theorem dX8_mends_69 : decode cX8_mends 69 = .ok (.bipush (-9), 2) := by decide +kernel
theorem dX8_mends_71 : decode cX8_mends 71 = .ok (.istore 5, 2) := by decide +kernel
theorem dX8_mends_73 : decode cX8_mends 73 = .ok (.iload 5, 2) := by decide +kernel
theorem dX8_mends_75 : decode cX8_mends 75 = .ok (.bipush (-9), 2) := by decide +kernel
theorem dX8_mends_77 : decode cX8_mends 77 = .ok (.if_icmp .eq 14, 3) := by decide +kernel
theorem dX8_mends_80 : decode cX8_mends 80 = .ok (.aload_n 1, 1) := by decide +kernel
theorem dX8_mends_81 : decode cX8_mends 81 = .ok (.iload 5, 2) := by decide +kernel
theorem dX8_mends_83 : decode cX8_mends 83 = .ok (.iload 4, 2) := by decide +kernel
theorem dX8_mends_85 : decode cX8_mends 85 = .ok (.invokestatic 201, 3) := by decide +kernel
theorem dX8_mends_88 : decode cX8_mends 88 = .ok (.pop, 1) := by decide +kernel
theorem dX8_mends_89 : decode cX8_mends 89 = .ok (.iconst 1, 1) := by decide +kernel
theorem dX8_mends_90 : decode cX8_mends 90 = .ok (.ireturn, 1) := by decide +kernel
theorem dX8_mends_91 : decode cX8_mends 91 = .ok (.iinc 4 1, 3) := by decide +kernel
theorem dX8_mends_94 : decode cX8_mends 94 = .ok (.goto (-59), 3) := by decide +kernel
theorem dX8_mends_97 : decode cX8_mends 97 = .ok (.iconst 0, 1) := by decide +kernel
theorem dX8_mends_98 : decode cX8_mends 98 = .ok (.ireturn, 1) := by decide +kernel
theorem dX8_goMend_0 : decode cX8_goMend 0 = .ok (.iconst 0, 1) := by decide +kernel
theorem dX8_goMend_1 : decode cX8_goMend 1 = .ok (.istore_n 2, 1) := by decide +kernel
theorem dX8_goMend_2 : decode cX8_goMend 2 = .ok (.iload_n 2, 1) := by decide +kernel
theorem dX8_goMend_3 : decode cX8_goMend 3 = .ok (.bipush 12, 2) := by decide +kernel
theorem dX8_goMend_5 : decode cX8_goMend 5 = .ok (.if_icmp .ge 17, 3) := by decide +kernel
theorem dX8_goMend_8 : decode cX8_goMend 8 = .ok (.aload_n 0, 1) := by decide +kernel
theorem dX8_goMend_9 : decode cX8_goMend 9 = .ok (.aload_n 1, 1) := by decide +kernel
theorem dX8_goMend_10 : decode cX8_goMend 10 = .ok (.invokevirtual 210, 3) := by decide +kernel
theorem dX8_goMend_13 : decode cX8_goMend 13 = .ok (.ifCond .eq 9, 3) := by decide +kernel
theorem dX8_goMend_16 : decode cX8_goMend 16 = .ok (.iinc 2 1, 3) := by decide +kernel
theorem dX8_goMend_19 : decode cX8_goMend 19 = .ok (.goto (-17), 3) := by decide +kernel
theorem dX8_goMend_22 : decode cX8_goMend 22 = .ok (.iload_n 2, 1) := by decide +kernel
theorem dX8_goMend_23 : decode cX8_goMend 23 = .ok (.ireturn, 1) := by decide +kernel
theorem dX8_mend_0 : decode cX8_mend 0 = .ok (.aload_n 0, 1) := by decide +kernel
theorem dX8_mend_1 : decode cX8_mend 1 = .ok (.iconst 0, 1) := by decide +kernel
theorem dX8_mend_2 : decode cX8_mend 2 = .ok (.putfield 68, 3) := by decide +kernel
theorem dX8_mend_5 : decode cX8_mend 5 = .ok (.aload_n 0, 1) := by decide +kernel
theorem dX8_mend_6 : decode cX8_mend 6 = .ok (.aload_n 0, 1) := by decide +kernel
theorem dX8_mend_7 : decode cX8_mend 7 = .ok (.getfield 16, 3) := by decide +kernel
theorem dX8_mend_10 : decode cX8_mend 10 = .ok (.invokevirtual 156, 3) := by decide +kernel
theorem dX8_mend_13 : decode cX8_mend 13 = .ok (.aload_n 0, 1) := by decide +kernel
theorem dX8_mend_14 : decode cX8_mend 14 = .ok (.invokevirtual 204, 3) := by decide +kernel
theorem dX8_mend_17 : decode cX8_mend 17 = .ok (.bipush (-9), 2) := by decide +kernel
theorem dX8_mend_19 : decode cX8_mend 19 = .ok (.if_icmp .ne 6, 3) := by decide +kernel
theorem dX8_mend_22 : decode cX8_mend 22 = .ok (.bipush (-3), 2) := by decide +kernel
theorem dX8_mend_24 : decode cX8_mend 24 = .ok (.ireturn, 1) := by decide +kernel
theorem dX8_mend_25 : decode cX8_mend 25 = .ok (.aload_n 0, 1) := by decide +kernel
theorem dX8_mend_26 : decode cX8_mend 26 = .ok (.invokevirtual 190, 3) := by decide +kernel
theorem dX8_mend_29 : decode cX8_mend 29 = .ok (.aload_n 0, 1) := by decide +kernel
theorem dX8_mend_30 : decode cX8_mend 30 = .ok (.aload_n 0, 1) := by decide +kernel
theorem dX8_mend_31 : decode cX8_mend 31 = .ok (.getfield 16, 3) := by decide +kernel
theorem dX8_mend_34 : decode cX8_mend 34 = .ok (.invokevirtual 213, 3) := by decide +kernel
theorem dX8_mend_37 : decode cX8_mend 37 = .ok (.ireturn, 1) := by decide +kernel
theorem dX8_undo_0 : decode cX8_undo 0 = .ok (.aload_n 0, 1) := by decide +kernel
theorem dX8_undo_1 : decode cX8_undo 1 = .ok (.iconst 0, 1) := by decide +kernel
theorem dX8_undo_2 : decode cX8_undo 2 = .ok (.putfield 68, 3) := by decide +kernel
theorem dX8_undo_5 : decode cX8_undo 5 = .ok (.aload_n 0, 1) := by decide +kernel
theorem dX8_undo_6 : decode cX8_undo 6 = .ok (.getfield 106, 3) := by decide +kernel
theorem dX8_undo_9 : decode cX8_undo 9 = .ok (.ifCond .ne 6, 3) := by decide +kernel
theorem dX8_undo_12 : decode cX8_undo 12 = .ok (.bipush (-3), 2) := by decide +kernel
theorem dX8_undo_14 : decode cX8_undo 14 = .ok (.ireturn, 1) := by decide +kernel
theorem dX8_undo_15 : decode cX8_undo 15 = .ok (.aload_n 0, 1) := by decide +kernel
theorem dX8_undo_16 : decode cX8_undo 16 = .ok (.dup, 1) := by decide +kernel
theorem dX8_undo_17 : decode cX8_undo 17 = .ok (.getfield 106, 3) := by decide +kernel
theorem dX8_undo_20 : decode cX8_undo 20 = .ok (.iconst 1, 1) := by decide +kernel
theorem dX8_undo_21 : decode cX8_undo 21 = .ok (.isub, 1) := by decide +kernel
theorem dX8_undo_22 : decode cX8_undo 22 = .ok (.putfield 106, 3) := by decide +kernel
theorem dX8_undo_25 : decode cX8_undo 25 = .ok (.iconst 0, 1) := by decide +kernel
theorem dX8_undo_26 : decode cX8_undo 26 = .ok (.istore_n 1, 1) := by decide +kernel
theorem dX8_undo_27 : decode cX8_undo 27 = .ok (.iload_n 1, 1) := by decide +kernel
