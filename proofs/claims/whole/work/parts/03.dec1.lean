theorem dX6_init_20 : decode cX6_init 20 = .ok (.invokespecial 11, 3) := by decide +kernel
theorem dX6_init_23 : decode cX6_init 23 = .ok (.putfield 18, 3) := by decide +kernel
theorem dX6_init_26 : decode cX6_init 26 = .ok (.aload_n 0, 1) := by decide +kernel
theorem dX6_init_27 : decode cX6_init 27 = .ok (.sipush 4096, 3) := by decide +kernel
theorem dX6_init_30 : decode cX6_init 30 = .ok (.newarray .int, 2) := by decide +kernel
theorem dX6_init_32 : decode cX6_init 32 = .ok (.putfield 21, 3) := by decide +kernel
theorem dX6_init_35 : decode cX6_init 35 = .ok (.aload_n 0, 1) := by decide +kernel
theorem dX6_init_36 : decode cX6_init 36 = .ok (.sipush 4096, 3) := by decide +kernel
theorem dX6_init_39 : decode cX6_init 39 = .ok (.newarray .int, 2) := by decide +kernel
theorem dX6_init_41 : decode cX6_init 41 = .ok (.putfield 25, 3) := by decide +kernel
theorem dX6_init_44 : decode cX6_init 44 = .ok (.aload_n 0, 1) := by decide +kernel
theorem dX6_init_45 : decode cX6_init 45 = .ok (.aload_n 1, 1) := by decide +kernel
theorem dX6_init_46 : decode cX6_init 46 = .ok (.putfield 28, 3) := by decide +kernel
theorem dX6_init_49 : decode cX6_init 49 = .ok (.aload_n 0, 1) := by decide +kernel
theorem dX6_init_50 : decode cX6_init 50 = .ok (.aload_n 2, 1) := by decide +kernel
theorem dX6_init_51 : decode cX6_init 51 = .ok (.putfield 32, 3) := by decide +kernel
theorem dX6_init_54 : decode cX6_init 54 = .ok (.return_, 1) := by decide +kernel
theorem dX6_dearestWith_0 : decode cX6_dearestWith 0 = .ok (.iconst 0, 1) := by decide +kernel
theorem dX6_dearestWith_1 : decode cX6_dearestWith 1 = .ok (.istore_n 2, 1) := by decide +kernel
theorem dX6_dearestWith_2 : decode cX6_dearestWith 2 = .ok (.iconst 0, 1) := by decide +kernel
theorem dX6_dearestWith_3 : decode cX6_dearestWith 3 = .ok (.istore_n 3, 1) := by decide +kernel
theorem dX6_dearestWith_4 : decode cX6_dearestWith 4 = .ok (.iload_n 3, 1) := by decide +kernel
theorem dX6_dearestWith_5 : decode cX6_dearestWith 5 = .ok (.bipush 8, 2) := by decide +kernel
theorem dX6_dearestWith_7 : decode cX6_dearestWith 7 = .ok (.if_icmp .ge 31, 3) := by decide +kernel
theorem dX6_dearestWith_10 : decode cX6_dearestWith 10 = .ok (.aload_n 0, 1) := by decide +kernel
theorem dX6_dearestWith_11 : decode cX6_dearestWith 11 = .ok (.getfield 28, 3) := by decide +kernel
theorem dX6_dearestWith_14 : decode cX6_dearestWith 14 = .ok (.iload_n 3, 1) := by decide +kernel
theorem dX6_dearestWith_15 : decode cX6_dearestWith 15 = .ok (.invokevirtual 36, 3) := by decide +kernel
theorem dX6_dearestWith_18 : decode cX6_dearestWith 18 = .ok (.ifCond .eq 14, 3) := by decide +kernel
theorem dX6_dearestWith_21 : decode cX6_dearestWith 21 = .ok (.iload_n 2, 1) := by decide +kernel
theorem dX6_dearestWith_22 : decode cX6_dearestWith 22 = .ok (.aload_n 0, 1) := by decide +kernel
theorem dX6_dearestWith_23 : decode cX6_dearestWith 23 = .ok (.iload_n 3, 1) := by decide +kernel
theorem dX6_dearestWith_24 : decode cX6_dearestWith 24 = .ok (.iload_n 1, 1) := by decide +kernel
theorem dX6_dearestWith_25 : decode cX6_dearestWith 25 = .ok (.invokevirtual 42, 3) := by decide +kernel
theorem dX6_dearestWith_28 : decode cX6_dearestWith 28 = .ok (.invokestatic 46, 3) := by decide +kernel
theorem dX6_dearestWith_31 : decode cX6_dearestWith 31 = .ok (.istore_n 2, 1) := by decide +kernel
theorem dX6_dearestWith_32 : decode cX6_dearestWith 32 = .ok (.iinc 3 1, 3) := by decide +kernel
theorem dX6_dearestWith_35 : decode cX6_dearestWith 35 = .ok (.goto (-31), 3) := by decide +kernel
theorem dX6_dearestWith_38 : decode cX6_dearestWith 38 = .ok (.aload_n 0, 1) := by decide +kernel
theorem dX6_dearestWith_39 : decode cX6_dearestWith 39 = .ok (.getfield 18, 3) := by decide +kernel
theorem dX6_dearestWith_42 : decode cX6_dearestWith 42 = .ok (.aload_n 0, 1) := by decide +kernel
theorem dX6_dearestWith_43 : decode cX6_dearestWith 43 = .ok (.getfield 28, 3) := by decide +kernel
theorem dX6_dearestWith_46 : decode cX6_dearestWith 46 = .ok (.getfield 51, 3) := by decide +kernel
theorem dX6_dearestWith_49 : decode cX6_dearestWith 49 = .ok (.invokevirtual 54, 3) := by decide +kernel
theorem dX6_dearestWith_52 : decode cX6_dearestWith 52 = .ok (.aload_n 0, 1) := by decide +kernel
theorem dX6_dearestWith_53 : decode cX6_dearestWith 53 = .ok (.getfield 18, 3) := by decide +kernel
theorem dX6_dearestWith_56 : decode cX6_dearestWith 56 = .ok (.iload_n 1, 1) := by decide +kernel
theorem dX6_dearestWith_57 : decode cX6_dearestWith 57 = .ok (.invokevirtual 58, 3) := by decide +kernel
theorem dX6_dearestWith_60 : decode cX6_dearestWith 60 = .ok (.iload_n 2, 1) := by decide +kernel
theorem dX6_dearestWith_61 : decode cX6_dearestWith 61 = .ok (.iadd, 1) := by decide +kernel
theorem dX6_dearestWith_62 : decode cX6_dearestWith 62 = .ok (.ireturn, 1) := by decide +kernel
theorem dX6_leastDearSet_0 : decode cX6_leastDearSet 0 = .ok (.iconst 1, 1) := by decide +kernel
theorem dX6_leastDearSet_1 : decode cX6_leastDearSet 1 = .ok (.aload_n 0, 1) := by decide +kernel
theorem dX6_leastDearSet_2 : decode cX6_leastDearSet 2 = .ok (.getfield 28, 3) := by decide +kernel
theorem dX6_leastDearSet_5 : decode cX6_leastDearSet 5 = .ok (.getfield 62, 3) := by decide +kernel
theorem dX6_leastDearSet_8 : decode cX6_leastDearSet 8 = .ok (.ishl, 1) := by decide +kernel
theorem dX6_leastDearSet_9 : decode cX6_leastDearSet 9 = .ok (.istore_n 1, 1) := by decide +kernel
theorem dX6_leastDearSet_10 : decode cX6_leastDearSet 10 = .ok (.iconst 0, 1) := by decide +kernel
theorem dX6_leastDearSet_11 : decode cX6_leastDearSet 11 = .ok (.istore_n 2, 1) := by decide +kernel
theorem dX6_leastDearSet_12 : decode cX6_leastDearSet 12 = .ok (.iload_n 2, 1) := by decide +kernel
theorem dX6_leastDearSet_13 : decode cX6_leastDearSet 13 = .ok (.iload_n 1, 1) := by decide +kernel
theorem dX6_leastDearSet_14 : decode cX6_leastDearSet 14 = .ok (.if_icmp .ge 16, 3) := by decide +kernel
theorem dX6_leastDearSet_17 : decode cX6_leastDearSet 17 = .ok (.aload_n 0, 1) := by decide +kernel
theorem dX6_leastDearSet_18 : decode cX6_leastDearSet 18 = .ok (.getfield 25, 3) := by decide +kernel
theorem dX6_leastDearSet_21 : decode cX6_leastDearSet 21 = .ok (.iload_n 2, 1) := by decide +kernel
theorem dX6_leastDearSet_22 : decode cX6_leastDearSet 22 = .ok (.iconst 0, 1) := by decide +kernel
theorem dX6_leastDearSet_23 : decode cX6_leastDearSet 23 = .ok (.iastore, 1) := by decide +kernel
theorem dX6_leastDearSet_24 : decode cX6_leastDearSet 24 = .ok (.iinc 2 1, 3) := by decide +kernel
theorem dX6_leastDearSet_27 : decode cX6_leastDearSet 27 = .ok (.goto (-15), 3) := by decide +kernel
theorem dX6_leastDearSet_30 : decode cX6_leastDearSet 30 = .ok (.iconst 0, 1) := by decide +kernel
theorem dX6_leastDearSet_31 : decode cX6_leastDearSet 31 = .ok (.istore_n 2, 1) := by decide +kernel
theorem dX6_leastDearSet_32 : decode cX6_leastDearSet 32 = .ok (.iload_n 2, 1) := by decide +kernel
theorem dX6_leastDearSet_33 : decode cX6_leastDearSet 33 = .ok (.bipush 8, 2) := by decide +kernel
theorem dX6_leastDearSet_35 : decode cX6_leastDearSet 35 = .ok (.if_icmp .ge 68, 3) := by decide +kernel
theorem dX6_leastDearSet_38 : decode cX6_leastDearSet 38 = .ok (.aload_n 0, 1) := by decide +kernel
theorem dX6_leastDearSet_39 : decode cX6_leastDearSet 39 = .ok (.getfield 28, 3) := by decide +kernel
theorem dX6_leastDearSet_42 : decode cX6_leastDearSet 42 = .ok (.iload_n 2, 1) := by decide +kernel
theorem dX6_leastDearSet_43 : decode cX6_leastDearSet 43 = .ok (.invokevirtual 36, 3) := by decide +kernel
theorem dX6_leastDearSet_46 : decode cX6_leastDearSet 46 = .ok (.ifCond .eq 51, 3) := by decide +kernel
theorem dX6_leastDearSet_49 : decode cX6_leastDearSet 49 = .ok (.aload_n 0, 1) := by decide +kernel
theorem dX6_leastDearSet_50 : decode cX6_leastDearSet 50 = .ok (.aload_n 0, 1) := by decide +kernel
theorem dX6_leastDearSet_51 : decode cX6_leastDearSet 51 = .ok (.getfield 28, 3) := by decide +kernel
theorem dX6_leastDearSet_54 : decode cX6_leastDearSet 54 = .ok (.getfield 66, 3) := by decide +kernel
theorem dX6_leastDearSet_57 : decode cX6_leastDearSet 57 = .ok (.iload_n 2, 1) := by decide +kernel
theorem dX6_leastDearSet_58 : decode cX6_leastDearSet 58 = .ok (.aaload, 1) := by decide +kernel
theorem dX6_leastDearSet_59 : decode cX6_leastDearSet 59 = .ok (.iload_n 1, 1) := by decide +kernel
theorem dX6_leastDearSet_60 : decode cX6_leastDearSet 60 = .ok (.invokevirtual 69, 3) := by decide +kernel
theorem dX6_leastDearSet_63 : decode cX6_leastDearSet 63 = .ok (.iconst 0, 1) := by decide +kernel
theorem dX6_leastDearSet_64 : decode cX6_leastDearSet 64 = .ok (.istore_n 3, 1) := by decide +kernel
theorem dX6_leastDearSet_65 : decode cX6_leastDearSet 65 = .ok (.iload_n 3, 1) := by decide +kernel
theorem dX6_leastDearSet_66 : decode cX6_leastDearSet 66 = .ok (.iload_n 1, 1) := by decide +kernel
theorem dX6_leastDearSet_67 : decode cX6_leastDearSet 67 = .ok (.if_icmp .ge 30, 3) := by decide +kernel
theorem dX6_leastDearSet_70 : decode cX6_leastDearSet 70 = .ok (.aload_n 0, 1) := by decide +kernel
theorem dX6_leastDearSet_71 : decode cX6_leastDearSet 71 = .ok (.getfield 25, 3) := by decide +kernel
theorem dX6_leastDearSet_74 : decode cX6_leastDearSet 74 = .ok (.iload_n 3, 1) := by decide +kernel
theorem dX6_leastDearSet_75 : decode cX6_leastDearSet 75 = .ok (.aload_n 0, 1) := by decide +kernel
theorem dX6_leastDearSet_76 : decode cX6_leastDearSet 76 = .ok (.getfield 25, 3) := by decide +kernel
theorem dX6_leastDearSet_79 : decode cX6_leastDearSet 79 = .ok (.iload_n 3, 1) := by decide +kernel
theorem dX6_leastDearSet_80 : decode cX6_leastDearSet 80 = .ok (.iaload, 1) := by decide +kernel
theorem dX6_leastDearSet_81 : decode cX6_leastDearSet 81 = .ok (.aload_n 0, 1) := by decide +kernel
theorem dX6_leastDearSet_82 : decode cX6_leastDearSet 82 = .ok (.getfield 21, 3) := by decide +kernel
theorem dX6_leastDearSet_85 : decode cX6_leastDearSet 85 = .ok (.iload_n 3, 1) := by decide +kernel
theorem dX6_leastDearSet_86 : decode cX6_leastDearSet 86 = .ok (.iaload, 1) := by decide +kernel
theorem dX6_leastDearSet_87 : decode cX6_leastDearSet 87 = .ok (.invokestatic 46, 3) := by decide +kernel
theorem dX6_leastDearSet_90 : decode cX6_leastDearSet 90 = .ok (.iastore, 1) := by decide +kernel
theorem dX6_leastDearSet_91 : decode cX6_leastDearSet 91 = .ok (.iinc 3 1, 3) := by decide +kernel
theorem dX6_leastDearSet_94 : decode cX6_leastDearSet 94 = .ok (.goto (-29), 3) := by decide +kernel
theorem dX6_leastDearSet_97 : decode cX6_leastDearSet 97 = .ok (.iinc 2 1, 3) := by decide +kernel
theorem dX6_leastDearSet_100 : decode cX6_leastDearSet 100 = .ok (.goto (-68), 3) := by decide +kernel
theorem dX6_leastDearSet_103 : decode cX6_leastDearSet 103 = .ok (.aload_n 0, 1) := by decide +kernel
theorem dX6_leastDearSet_104 : decode cX6_leastDearSet 104 = .ok (.getfield 18, 3) := by decide +kernel
theorem dX6_leastDearSet_107 : decode cX6_leastDearSet 107 = .ok (.aload_n 0, 1) := by decide +kernel
theorem dX6_leastDearSet_108 : decode cX6_leastDearSet 108 = .ok (.getfield 28, 3) := by decide +kernel
theorem dX6_leastDearSet_111 : decode cX6_leastDearSet 111 = .ok (.getfield 51, 3) := by decide +kernel
theorem dX6_leastDearSet_114 : decode cX6_leastDearSet 114 = .ok (.invokevirtual 54, 3) := by decide +kernel
theorem dX6_leastDearSet_117 : decode cX6_leastDearSet 117 = .ok (.iconst 0, 1) := by decide +kernel
theorem dX6_leastDearSet_118 : decode cX6_leastDearSet 118 = .ok (.istore_n 2, 1) := by decide +kernel
theorem dX6_leastDearSet_119 : decode cX6_leastDearSet 119 = .ok (.iload_n 2, 1) := by decide +kernel
theorem dX6_leastDearSet_120 : decode cX6_leastDearSet 120 = .ok (.iload_n 1, 1) := by decide +kernel
theorem dX6_leastDearSet_121 : decode cX6_leastDearSet 121 = .ok (.if_icmp .ge 26, 3) := by decide +kernel
theorem dX6_leastDearSet_124 : decode cX6_leastDearSet 124 = .ok (.aload_n 0, 1) := by decide +kernel
theorem dX6_leastDearSet_125 : decode cX6_leastDearSet 125 = .ok (.getfield 25, 3) := by decide +kernel
theorem dX6_leastDearSet_128 : decode cX6_leastDearSet 128 = .ok (.iload_n 2, 1) := by decide +kernel
theorem dX6_leastDearSet_129 : decode cX6_leastDearSet 129 = .ok (.dup2, 1) := by decide +kernel
theorem dX6_leastDearSet_130 : decode cX6_leastDearSet 130 = .ok (.iaload, 1) := by decide +kernel
theorem dX6_leastDearSet_131 : decode cX6_leastDearSet 131 = .ok (.aload_n 0, 1) := by decide +kernel
theorem dX6_leastDearSet_132 : decode cX6_leastDearSet 132 = .ok (.getfield 18, 3) := by decide +kernel
theorem dX6_leastDearSet_135 : decode cX6_leastDearSet 135 = .ok (.iload_n 2, 1) := by decide +kernel
theorem dX6_leastDearSet_136 : decode cX6_leastDearSet 136 = .ok (.invokevirtual 58, 3) := by decide +kernel
theorem dX6_leastDearSet_139 : decode cX6_leastDearSet 139 = .ok (.iadd, 1) := by decide +kernel
theorem dX6_leastDearSet_140 : decode cX6_leastDearSet 140 = .ok (.iastore, 1) := by decide +kernel
theorem dX6_leastDearSet_141 : decode cX6_leastDearSet 141 = .ok (.iinc 2 1, 3) := by decide +kernel
theorem dX6_leastDearSet_144 : decode cX6_leastDearSet 144 = .ok (.goto (-25), 3) := by decide +kernel
theorem dX6_leastDearSet_147 : decode cX6_leastDearSet 147 = .ok (.aload_n 0, 1) := by decide +kernel
theorem dX6_leastDearSet_148 : decode cX6_leastDearSet 148 = .ok (.getfield 25, 3) := by decide +kernel
theorem dX6_leastDearSet_151 : decode cX6_leastDearSet 151 = .ok (.iload_n 1, 1) := by decide +kernel
theorem dX6_leastDearSet_152 : decode cX6_leastDearSet 152 = .ok (.invokestatic 73, 3) := by decide +kernel
theorem dX6_leastDearSet_155 : decode cX6_leastDearSet 155 = .ok (.ireturn, 1) := by decide +kernel
theorem dX6_leastLater_0 : decode cX6_leastLater 0 = .ok (.aload_n 0, 1) := by decide +kernel
theorem dX6_leastLater_1 : decode cX6_leastLater 1 = .ok (.getfield 12, 3) := by decide +kernel
theorem dX6_leastLater_4 : decode cX6_leastLater 4 = .ok (.aload_n 0, 1) := by decide +kernel
theorem dX6_leastLater_5 : decode cX6_leastLater 5 = .ok (.getfield 28, 3) := by decide +kernel
theorem dX6_leastLater_8 : decode cX6_leastLater 8 = .ok (.getfield 66, 3) := by decide +kernel
theorem dX6_leastLater_11 : decode cX6_leastLater 11 = .ok (.iload_n 1, 1) := by decide +kernel
theorem dX6_leastLater_12 : decode cX6_leastLater 12 = .ok (.aaload, 1) := by decide +kernel
theorem dX6_leastLater_13 : decode cX6_leastLater 13 = .ok (.invokevirtual 54, 3) := by decide +kernel
theorem dX6_leastLater_16 : decode cX6_leastLater 16 = .ok (.ldc 77, 2) := by decide +kernel
theorem dX6_leastLater_18 : decode cX6_leastLater 18 = .ok (.istore_n 3, 1) := by decide +kernel
theorem dX6_leastLater_19 : decode cX6_leastLater 19 = .ok (.iconst 0, 1) := by decide +kernel
theorem dX6_leastLater_20 : decode cX6_leastLater 20 = .ok (.istore 4, 2) := by decide +kernel
theorem dX6_leastLater_22 : decode cX6_leastLater 22 = .ok (.iload 4, 2) := by decide +kernel
theorem dX6_leastLater_24 : decode cX6_leastLater 24 = .ok (.aload_n 0, 1) := by decide +kernel
theorem dX6_leastLater_25 : decode cX6_leastLater 25 = .ok (.getfield 32, 3) := by decide +kernel
theorem dX6_leastLater_28 : decode cX6_leastLater 28 = .ok (.getfield 78, 3) := by decide +kernel
theorem dX6_leastLater_31 : decode cX6_leastLater 31 = .ok (.if_icmp .ge 35, 3) := by decide +kernel
theorem dX6_leastLater_34 : decode cX6_leastLater 34 = .ok (.iload_n 3, 1) := by decide +kernel
theorem dX6_leastLater_35 : decode cX6_leastLater 35 = .ok (.aload_n 0, 1) := by decide +kernel
theorem dX6_leastLater_36 : decode cX6_leastLater 36 = .ok (.getfield 12, 3) := by decide +kernel
theorem dX6_leastLater_39 : decode cX6_leastLater 39 = .ok (.aload_n 0, 1) := by decide +kernel
theorem dX6_leastLater_40 : decode cX6_leastLater 40 = .ok (.getfield 32, 3) := by decide +kernel
theorem dX6_leastLater_43 : decode cX6_leastLater 43 = .ok (.getfield 83, 3) := by decide +kernel
theorem dX6_leastLater_46 : decode cX6_leastLater 46 = .ok (.iload 4, 2) := by decide +kernel
theorem dX6_leastLater_48 : decode cX6_leastLater 48 = .ok (.iaload, 1) := by decide +kernel
theorem dX6_leastLater_49 : decode cX6_leastLater 49 = .ok (.iload_n 2, 1) := by decide +kernel
theorem dX6_leastLater_50 : decode cX6_leastLater 50 = .ok (.iconst (-1), 1) := by decide +kernel
theorem dX6_leastLater_51 : decode cX6_leastLater 51 = .ok (.ixor, 1) := by decide +kernel
theorem dX6_leastLater_52 : decode cX6_leastLater 52 = .ok (.iand, 1) := by decide +kernel
theorem dX6_leastLater_53 : decode cX6_leastLater 53 = .ok (.invokevirtual 58, 3) := by decide +kernel
theorem dX6_leastLater_56 : decode cX6_leastLater 56 = .ok (.invokestatic 86, 3) := by decide +kernel
theorem dX6_leastLater_59 : decode cX6_leastLater 59 = .ok (.istore_n 3, 1) := by decide +kernel
theorem dX6_leastLater_60 : decode cX6_leastLater 60 = .ok (.iinc 4 1, 3) := by decide +kernel
theorem dX6_leastLater_63 : decode cX6_leastLater 63 = .ok (.goto (-41), 3) := by decide +kernel
theorem dX6_leastLater_66 : decode cX6_leastLater 66 = .ok (.iload_n 3, 1) := by decide +kernel
theorem dX6_leastLater_67 : decode cX6_leastLater 67 = .ok (.ireturn, 1) := by decide +kernel
theorem dX6_spreadLeast_0 : decode cX6_spreadLeast 0 = .ok (.iconst 0, 1) := by decide +kernel
theorem dX6_spreadLeast_1 : decode cX6_spreadLeast 1 = .ok (.istore_n 3, 1) := by decide +kernel
theorem dX6_spreadLeast_2 : decode cX6_spreadLeast 2 = .ok (.iload_n 3, 1) := by decide +kernel
theorem dX6_spreadLeast_3 : decode cX6_spreadLeast 3 = .ok (.iload_n 2, 1) := by decide +kernel
theorem dX6_spreadLeast_4 : decode cX6_spreadLeast 4 = .ok (.if_icmp .ge 17, 3) := by decide +kernel
theorem dX6_spreadLeast_7 : decode cX6_spreadLeast 7 = .ok (.aload_n 0, 1) := by decide +kernel
theorem dX6_spreadLeast_8 : decode cX6_spreadLeast 8 = .ok (.getfield 21, 3) := by decide +kernel
theorem dX6_spreadLeast_11 : decode cX6_spreadLeast 11 = .ok (.iload_n 3, 1) := by decide +kernel
theorem dX6_spreadLeast_12 : decode cX6_spreadLeast 12 = .ok (.ldc 77, 2) := by decide +kernel
theorem dX6_spreadLeast_14 : decode cX6_spreadLeast 14 = .ok (.iastore, 1) := by decide +kernel
theorem dX6_spreadLeast_15 : decode cX6_spreadLeast 15 = .ok (.iinc 3 1, 3) := by decide +kernel
theorem dX6_spreadLeast_18 : decode cX6_spreadLeast 18 = .ok (.goto (-16), 3) := by decide +kernel
theorem dX6_spreadLeast_21 : decode cX6_spreadLeast 21 = .ok (.iconst 0, 1) := by decide +kernel
theorem dX6_spreadLeast_22 : decode cX6_spreadLeast 22 = .ok (.istore_n 3, 1) := by decide +kernel
theorem dX6_spreadLeast_23 : decode cX6_spreadLeast 23 = .ok (.iload_n 3, 1) := by decide +kernel
theorem dX6_spreadLeast_24 : decode cX6_spreadLeast 24 = .ok (.aload_n 0, 1) := by decide +kernel
theorem dX6_spreadLeast_25 : decode cX6_spreadLeast 25 = .ok (.getfield 32, 3) := by decide +kernel
theorem dX6_spreadLeast_28 : decode cX6_spreadLeast 28 = .ok (.getfield 78, 3) := by decide +kernel
theorem dX6_spreadLeast_31 : decode cX6_spreadLeast 31 = .ok (.if_icmp .ge 24, 3) := by decide +kernel
theorem dX6_spreadLeast_34 : decode cX6_spreadLeast 34 = .ok (.aload_n 0, 1) := by decide +kernel
theorem dX6_spreadLeast_35 : decode cX6_spreadLeast 35 = .ok (.getfield 21, 3) := by decide +kernel
theorem dX6_spreadLeast_38 : decode cX6_spreadLeast 38 = .ok (.aload_n 0, 1) := by decide +kernel
theorem dX6_spreadLeast_39 : decode cX6_spreadLeast 39 = .ok (.getfield 32, 3) := by decide +kernel
theorem dX6_spreadLeast_42 : decode cX6_spreadLeast 42 = .ok (.getfield 83, 3) := by decide +kernel
theorem dX6_spreadLeast_45 : decode cX6_spreadLeast 45 = .ok (.iload_n 3, 1) := by decide +kernel
theorem dX6_spreadLeast_46 : decode cX6_spreadLeast 46 = .ok (.iaload, 1) := by decide +kernel
theorem dX6_spreadLeast_47 : decode cX6_spreadLeast 47 = .ok (.iconst 0, 1) := by decide +kernel
theorem dX6_spreadLeast_48 : decode cX6_spreadLeast 48 = .ok (.iastore, 1) := by decide +kernel
theorem dX6_spreadLeast_49 : decode cX6_spreadLeast 49 = .ok (.iinc 3 1, 3) := by decide +kernel
theorem dX6_spreadLeast_52 : decode cX6_spreadLeast 52 = .ok (.goto (-29), 3) := by decide +kernel
theorem dX6_spreadLeast_55 : decode cX6_spreadLeast 55 = .ok (.iconst 0, 1) := by decide +kernel
theorem dX6_spreadLeast_56 : decode cX6_spreadLeast 56 = .ok (.istore_n 3, 1) := by decide +kernel
theorem dX6_spreadLeast_57 : decode cX6_spreadLeast 57 = .ok (.iload_n 3, 1) := by decide +kernel
theorem dX6_spreadLeast_58 : decode cX6_spreadLeast 58 = .ok (.aload_n 0, 1) := by decide +kernel
theorem dX6_spreadLeast_59 : decode cX6_spreadLeast 59 = .ok (.getfield 28, 3) := by decide +kernel
theorem dX6_spreadLeast_62 : decode cX6_spreadLeast 62 = .ok (.getfield 62, 3) := by decide +kernel
theorem dX6_spreadLeast_65 : decode cX6_spreadLeast 65 = .ok (.if_icmp .ge 18, 3) := by decide +kernel
theorem dX6_spreadLeast_68 : decode cX6_spreadLeast 68 = .ok (.aload_n 0, 1) := by decide +kernel
theorem dX6_spreadLeast_69 : decode cX6_spreadLeast 69 = .ok (.iload_n 3, 1) := by decide +kernel
theorem dX6_spreadLeast_70 : decode cX6_spreadLeast 70 = .ok (.aload_n 1, 1) := by decide +kernel
theorem dX6_spreadLeast_71 : decode cX6_spreadLeast 71 = .ok (.iload_n 3, 1) := by decide +kernel
theorem dX6_spreadLeast_72 : decode cX6_spreadLeast 72 = .ok (.iaload, 1) := by decide +kernel
theorem dX6_spreadLeast_73 : decode cX6_spreadLeast 73 = .ok (.iload_n 2, 1) := by decide +kernel
theorem dX6_spreadLeast_74 : decode cX6_spreadLeast 74 = .ok (.invokevirtual 89, 3) := by decide +kernel
theorem dX6_spreadLeast_77 : decode cX6_spreadLeast 77 = .ok (.iinc 3 1, 3) := by decide +kernel
theorem dX6_spreadLeast_80 : decode cX6_spreadLeast 80 = .ok (.goto (-23), 3) := by decide +kernel
theorem dX6_spreadLeast_83 : decode cX6_spreadLeast 83 = .ok (.return_, 1) := by decide +kernel
theorem dX6_settle_0 : decode cX6_settle 0 = .ok (.iconst 1, 1) := by decide +kernel
theorem dX6_settle_1 : decode cX6_settle 1 = .ok (.iload_n 1, 1) := by decide +kernel
theorem dX6_settle_2 : decode cX6_settle 2 = .ok (.ishl, 1) := by decide +kernel
theorem dX6_settle_3 : decode cX6_settle 3 = .ok (.istore 4, 2) := by decide +kernel
theorem dX6_settle_5 : decode cX6_settle 5 = .ok (.iconst 0, 1) := by decide +kernel
theorem dX6_settle_6 : decode cX6_settle 6 = .ok (.istore 5, 2) := by decide +kernel
theorem dX6_settle_8 : decode cX6_settle 8 = .ok (.iload 5, 2) := by decide +kernel
theorem dX6_settle_10 : decode cX6_settle 10 = .ok (.iload_n 3, 1) := by decide +kernel
theorem dX6_settle_11 : decode cX6_settle 11 = .ok (.if_icmp .ge 98, 3) := by decide +kernel
theorem dX6_settle_14 : decode cX6_settle 14 = .ok (.iload 5, 2) := by decide +kernel
theorem dX6_settle_16 : decode cX6_settle 16 = .ok (.istore 6, 2) := by decide +kernel
theorem dX6_settle_18 : decode cX6_settle 18 = .ok (.iload 6, 2) := by decide +kernel
theorem dX6_settle_20 : decode cX6_settle 20 = .ok (.iload 5, 2) := by decide +kernel
theorem dX6_settle_22 : decode cX6_settle 22 = .ok (.iload 4, 2) := by decide +kernel
theorem dX6_settle_24 : decode cX6_settle 24 = .ok (.iadd, 1) := by decide +kernel
theorem dX6_settle_25 : decode cX6_settle 25 = .ok (.if_icmp .ge 72, 3) := by decide +kernel
theorem dX6_settle_28 : decode cX6_settle 28 = .ok (.aload_n 0, 1) := by decide +kernel
theorem dX6_settle_29 : decode cX6_settle 29 = .ok (.getfield 21, 3) := by decide +kernel
theorem dX6_settle_32 : decode cX6_settle 32 = .ok (.iload 6, 2) := by decide +kernel
theorem dX6_settle_34 : decode cX6_settle 34 = .ok (.iaload, 1) := by decide +kernel
theorem dX6_settle_35 : decode cX6_settle 35 = .ok (.istore 7, 2) := by decide +kernel
theorem dX6_settle_37 : decode cX6_settle 37 = .ok (.aload_n 0, 1) := by decide +kernel
theorem dX6_settle_38 : decode cX6_settle 38 = .ok (.getfield 21, 3) := by decide +kernel
theorem dX6_settle_41 : decode cX6_settle 41 = .ok (.iload 6, 2) := by decide +kernel
theorem dX6_settle_43 : decode cX6_settle 43 = .ok (.iload 4, 2) := by decide +kernel
theorem dX6_settle_45 : decode cX6_settle 45 = .ok (.ior, 1) := by decide +kernel
theorem dX6_settle_46 : decode cX6_settle 46 = .ok (.iaload, 1) := by decide +kernel
theorem dX6_settle_47 : decode cX6_settle 47 = .ok (.istore 8, 2) := by decide +kernel
theorem dX6_settle_49 : decode cX6_settle 49 = .ok (.iload 8, 2) := by decide +kernel
theorem dX6_settle_51 : decode cX6_settle 51 = .ok (.iload 7, 2) := by decide +kernel
theorem dX6_settle_53 : decode cX6_settle 53 = .ok (.if_icmp .lt 18, 3) := by decide +kernel
theorem dX6_settle_56 : decode cX6_settle 56 = .ok (.aload_n 0, 1) := by decide +kernel
theorem dX6_settle_57 : decode cX6_settle 57 = .ok (.getfield 21, 3) := by decide +kernel
theorem dX6_settle_60 : decode cX6_settle 60 = .ok (.iload 6, 2) := by decide +kernel
theorem dX6_settle_62 : decode cX6_settle 62 = .ok (.iload 4, 2) := by decide +kernel
theorem dX6_settle_64 : decode cX6_settle 64 = .ok (.ior, 1) := by decide +kernel
theorem dX6_settle_65 : decode cX6_settle 65 = .ok (.iload 7, 2) := by decide +kernel
theorem dX6_settle_67 : decode cX6_settle 67 = .ok (.iastore, 1) := by decide +kernel
theorem dX6_settle_68 : decode cX6_settle 68 = .ok (.goto 23, 3) := by decide +kernel
theorem dX6_settle_71 : decode cX6_settle 71 = .ok (.iload 8, 2) := by decide +kernel
theorem dX6_settle_73 : decode cX6_settle 73 = .ok (.iload_n 2, 1) := by decide +kernel
theorem dX6_settle_74 : decode cX6_settle 74 = .ok (.iadd, 1) := by decide +kernel
theorem dX6_settle_75 : decode cX6_settle 75 = .ok (.iload 7, 2) := by decide +kernel
theorem dX6_settle_77 : decode cX6_settle 77 = .ok (.if_icmp .ge 14, 3) := by decide +kernel
theorem dX6_settle_80 : decode cX6_settle 80 = .ok (.aload_n 0, 1) := by decide +kernel
theorem dX6_settle_81 : decode cX6_settle 81 = .ok (.getfield 21, 3) := by decide +kernel
theorem dX6_settle_84 : decode cX6_settle 84 = .ok (.iload 6, 2) := by decide +kernel
theorem dX6_settle_86 : decode cX6_settle 86 = .ok (.iload 8, 2) := by decide +kernel
theorem dX6_settle_88 : decode cX6_settle 88 = .ok (.iload_n 2, 1) := by decide +kernel
theorem dX6_settle_89 : decode cX6_settle 89 = .ok (.iadd, 1) := by decide +kernel
theorem dX6_settle_90 : decode cX6_settle 90 = .ok (.iastore, 1) := by decide +kernel
theorem dX6_settle_91 : decode cX6_settle 91 = .ok (.iinc 6 1, 3) := by decide +kernel
theorem dX6_settle_94 : decode cX6_settle 94 = .ok (.goto (-76), 3) := by decide +kernel
theorem dX6_settle_97 : decode cX6_settle 97 = .ok (.iload 5, 2) := by decide +kernel
theorem dX6_settle_99 : decode cX6_settle 99 = .ok (.iconst 2, 1) := by decide +kernel
theorem dX6_settle_100 : decode cX6_settle 100 = .ok (.iload 4, 2) := by decide +kernel
theorem dX6_settle_102 : decode cX6_settle 102 = .ok (.imul, 1) := by decide +kernel
theorem dX6_settle_103 : decode cX6_settle 103 = .ok (.iadd, 1) := by decide +kernel
theorem dX6_settle_104 : decode cX6_settle 104 = .ok (.istore 5, 2) := by decide +kernel
theorem dX6_settle_106 : decode cX6_settle 106 = .ok (.goto (-98), 3) := by decide +kernel
theorem dX6_settle_109 : decode cX6_settle 109 = .ok (.return_, 1) := by decide +kernel
theorem dX7_init_0 : decode cX7_init 0 = .ok (.aload_n 0, 1) := by decide +kernel
theorem dX7_init_1 : decode cX7_init 1 = .ok (.invokespecial 3, 3) := by decide +kernel
theorem dX7_init_4 : decode cX7_init 4 = .ok (.aload_n 0, 1) := by decide +kernel
theorem dX7_init_5 : decode cX7_init 5 = .ok (.new 9, 3) := by decide +kernel
theorem dX7_init_8 : decode cX7_init 8 = .ok (.dup, 1) := by decide +kernel
theorem dX7_init_9 : decode cX7_init 9 = .ok (.invokespecial 11, 3) := by decide +kernel
theorem dX7_init_12 : decode cX7_init 12 = .ok (.putfield 12, 3) := by decide +kernel
theorem dX7_init_15 : decode cX7_init 15 = .ok (.aload_n 0, 1) := by decide +kernel
theorem dX7_init_16 : decode cX7_init 16 = .ok (.sipush 500, 3) := by decide +kernel
theorem dX7_init_19 : decode cX7_init 19 = .ok (.newarray .int, 2) := by decide +kernel
theorem dX7_init_21 : decode cX7_init 21 = .ok (.putfield 18, 3) := by decide +kernel
theorem dX7_init_24 : decode cX7_init 24 = .ok (.aload_n 0, 1) := by decide +kernel
theorem dX7_init_25 : decode cX7_init 25 = .ok (.sipush 500, 3) := by decide +kernel
theorem dX7_init_28 : decode cX7_init 28 = .ok (.newarray .int, 2) := by decide +kernel
theorem dX7_init_30 : decode cX7_init 30 = .ok (.putfield 22, 3) := by decide +kernel
theorem dX7_init_33 : decode cX7_init 33 = .ok (.aload_n 0, 1) := by decide +kernel
theorem dX7_init_34 : decode cX7_init 34 = .ok (.aload_n 1, 1) := by decide +kernel
theorem dX7_init_35 : decode cX7_init 35 = .ok (.putfield 25, 3) := by decide +kernel
theorem dX7_init_38 : decode cX7_init 38 = .ok (.aload_n 0, 1) := by decide +kernel
theorem dX7_init_39 : decode cX7_init 39 = .ok (.aload_n 2, 1) := by decide +kernel
theorem dX7_init_40 : decode cX7_init 40 = .ok (.putfield 29, 3) := by decide +kernel
theorem dX7_init_43 : decode cX7_init 43 = .ok (.return_, 1) := by decide +kernel
theorem dX7_look_0 : decode cX7_look 0 = .ok (.aload_n 0, 1) := by decide +kernel
theorem dX7_look_1 : decode cX7_look 1 = .ok (.aload_n 0, 1) := by decide +kernel
theorem dX7_look_2 : decode cX7_look 2 = .ok (.getfield 18, 3) := by decide +kernel
theorem dX7_look_5 : decode cX7_look 5 = .ok (.iload_n 1, 1) := by decide +kernel
theorem dX7_look_6 : decode cX7_look 6 = .ok (.invokevirtual 33, 3) := by decide +kernel
theorem dX7_look_9 : decode cX7_look 9 = .ok (.aload_n 0, 1) := by decide +kernel
theorem dX7_look_10 : decode cX7_look 10 = .ok (.aload_n 0, 1) := by decide +kernel
theorem dX7_look_11 : decode cX7_look 11 = .ok (.getfield 22, 3) := by decide +kernel
theorem dX7_look_14 : decode cX7_look 14 = .ok (.iload_n 2, 1) := by decide +kernel
theorem dX7_look_15 : decode cX7_look 15 = .ok (.invokevirtual 33, 3) := by decide +kernel
theorem dX7_look_18 : decode cX7_look 18 = .ok (.return_, 1) := by decide +kernel
theorem dX7_pairsOnFront_0 : decode cX7_pairsOnFront 0 = .ok (.iconst 0, 1) := by decide +kernel
theorem dX7_pairsOnFront_1 : decode cX7_pairsOnFront 1 = .ok (.istore_n 1, 1) := by decide +kernel
theorem dX7_pairsOnFront_2 : decode cX7_pairsOnFront 2 = .ok (.aload_n 0, 1) := by decide +kernel
theorem dX7_pairsOnFront_3 : decode cX7_pairsOnFront 3 = .ok (.ldc 39, 2) := by decide +kernel
theorem dX7_pairsOnFront_5 : decode cX7_pairsOnFront 5 = .ok (.invokevirtual 40, 3) := by decide +kernel
theorem dX7_pairsOnFront_8 : decode cX7_pairsOnFront 8 = .ok (.istore_n 2, 1) := by decide +kernel
theorem dX7_pairsOnFront_9 : decode cX7_pairsOnFront 9 = .ok (.iload_n 2, 1) := by decide +kernel
theorem dX7_pairsOnFront_10 : decode cX7_pairsOnFront 10 = .ok (.iconst (-1), 1) := by decide +kernel
theorem dX7_pairsOnFront_11 : decode cX7_pairsOnFront 11 = .ok (.if_icmp .eq 27, 3) := by decide +kernel
theorem dX7_pairsOnFront_14 : decode cX7_pairsOnFront 14 = .ok (.iload_n 1, 1) := by decide +kernel
theorem dX7_pairsOnFront_15 : decode cX7_pairsOnFront 15 = .ok (.sipush 500, 3) := by decide +kernel
theorem dX7_pairsOnFront_18 : decode cX7_pairsOnFront 18 = .ok (.if_icmp .ge 20, 3) := by decide +kernel
theorem dX7_pairsOnFront_21 : decode cX7_pairsOnFront 21 = .ok (.iinc 1 1, 3) := by decide +kernel
theorem dX7_pairsOnFront_24 : decode cX7_pairsOnFront 24 = .ok (.aload_n 0, 1) := by decide +kernel
theorem dX7_pairsOnFront_25 : decode cX7_pairsOnFront 25 = .ok (.aload_n 0, 1) := by decide +kernel
theorem dX7_pairsOnFront_26 : decode cX7_pairsOnFront 26 = .ok (.getfield 22, 3) := by decide +kernel
theorem dX7_pairsOnFront_29 : decode cX7_pairsOnFront 29 = .ok (.iload_n 2, 1) := by decide +kernel
theorem dX7_pairsOnFront_30 : decode cX7_pairsOnFront 30 = .ok (.iaload, 1) := by decide +kernel
theorem dX7_pairsOnFront_31 : decode cX7_pairsOnFront 31 = .ok (.invokevirtual 40, 3) := by decide +kernel
theorem dX7_pairsOnFront_34 : decode cX7_pairsOnFront 34 = .ok (.istore_n 2, 1) := by decide +kernel
theorem dX7_pairsOnFront_35 : decode cX7_pairsOnFront 35 = .ok (.goto (-26), 3) := by decide +kernel
theorem dX7_pairsOnFront_38 : decode cX7_pairsOnFront 38 = .ok (.iload_n 1, 1) := by decide +kernel
theorem dX7_pairsOnFront_39 : decode cX7_pairsOnFront 39 = .ok (.ireturn, 1) := by decide +kernel
theorem dX7_pairOnFront_0 : decode cX7_pairOnFront 0 = .ok (.aload_n 0, 1) := by decide +kernel
theorem dX7_pairOnFront_1 : decode cX7_pairOnFront 1 = .ok (.ldc 39, 2) := by decide +kernel
theorem dX7_pairOnFront_3 : decode cX7_pairOnFront 3 = .ok (.invokevirtual 40, 3) := by decide +kernel
theorem dX7_pairOnFront_6 : decode cX7_pairOnFront 6 = .ok (.istore_n 2, 1) := by decide +kernel
theorem dX7_pairOnFront_7 : decode cX7_pairOnFront 7 = .ok (.iconst 0, 1) := by decide +kernel
theorem dX7_pairOnFront_8 : decode cX7_pairOnFront 8 = .ok (.istore_n 3, 1) := by decide +kernel
theorem dX7_pairOnFront_9 : decode cX7_pairOnFront 9 = .ok (.iload_n 3, 1) := by decide +kernel
theorem dX7_pairOnFront_10 : decode cX7_pairOnFront 10 = .ok (.iload_n 1, 1) := by decide +kernel
theorem dX7_pairOnFront_11 : decode cX7_pairOnFront 11 = .ok (.if_icmp .ge 25, 3) := by decide +kernel
theorem dX7_pairOnFront_14 : decode cX7_pairOnFront 14 = .ok (.iload_n 2, 1) := by decide +kernel
theorem dX7_pairOnFront_15 : decode cX7_pairOnFront 15 = .ok (.iconst (-1), 1) := by decide +kernel
theorem dX7_pairOnFront_16 : decode cX7_pairOnFront 16 = .ok (.if_icmp .eq 20, 3) := by decide +kernel
theorem dX7_pairOnFront_19 : decode cX7_pairOnFront 19 = .ok (.aload_n 0, 1) := by decide +kernel
theorem dX7_pairOnFront_20 : decode cX7_pairOnFront 20 = .ok (.aload_n 0, 1) := by decide +kernel
theorem dX7_pairOnFront_21 : decode cX7_pairOnFront 21 = .ok (.getfield 22, 3) := by decide +kernel
theorem dX7_pairOnFront_24 : decode cX7_pairOnFront 24 = .ok (.iload_n 2, 1) := by decide +kernel
theorem dX7_pairOnFront_25 : decode cX7_pairOnFront 25 = .ok (.iaload, 1) := by decide +kernel
theorem dX7_pairOnFront_26 : decode cX7_pairOnFront 26 = .ok (.invokevirtual 40, 3) := by decide +kernel
theorem dX7_pairOnFront_29 : decode cX7_pairOnFront 29 = .ok (.istore_n 2, 1) := by decide +kernel
theorem dX7_pairOnFront_30 : decode cX7_pairOnFront 30 = .ok (.iinc 3 1, 3) := by decide +kernel
theorem dX7_pairOnFront_33 : decode cX7_pairOnFront 33 = .ok (.goto (-24), 3) := by decide +kernel
theorem dX7_pairOnFront_36 : decode cX7_pairOnFront 36 = .ok (.iload_n 2, 1) := by decide +kernel
theorem dX7_pairOnFront_37 : decode cX7_pairOnFront 37 = .ok (.ireturn, 1) := by decide +kernel
theorem dX7_draw_0 : decode cX7_draw 0 = .ok (.aload_n 0, 1) := by decide +kernel
theorem dX7_draw_1 : decode cX7_draw 1 = .ok (.aload_n 0, 1) := by decide +kernel
theorem dX7_draw_2 : decode cX7_draw 2 = .ok (.getfield 18, 3) := by decide +kernel
theorem dX7_draw_5 : decode cX7_draw 5 = .ok (.aload_n 0, 1) := by decide +kernel
theorem dX7_draw_6 : decode cX7_draw 6 = .ok (.getfield 22, 3) := by decide +kernel
theorem dX7_draw_9 : decode cX7_draw 9 = .ok (.invokevirtual 44, 3) := by decide +kernel
theorem dX7_draw_12 : decode cX7_draw 12 = .ok (.istore_n 1, 1) := by decide +kernel
theorem dX7_draw_13 : decode cX7_draw 13 = .ok (.aload_n 0, 1) := by decide +kernel
theorem dX7_draw_14 : decode cX7_draw 14 = .ok (.aload_n 0, 1) := by decide +kernel
theorem dX7_draw_15 : decode cX7_draw 15 = .ok (.getfield 22, 3) := by decide +kernel
theorem dX7_draw_18 : decode cX7_draw 18 = .ok (.aload_n 0, 1) := by decide +kernel
theorem dX7_draw_19 : decode cX7_draw 19 = .ok (.getfield 18, 3) := by decide +kernel
theorem dX7_draw_22 : decode cX7_draw 22 = .ok (.invokevirtual 44, 3) := by decide +kernel
theorem dX7_draw_25 : decode cX7_draw 25 = .ok (.istore_n 2, 1) := by decide +kernel
theorem dX7_draw_26 : decode cX7_draw 26 = .ok (.aload_n 0, 1) := by decide +kernel
theorem dX7_draw_27 : decode cX7_draw 27 = .ok (.getfield 22, 3) := by decide +kernel
theorem dX7_draw_30 : decode cX7_draw 30 = .ok (.iload_n 1, 1) := by decide +kernel
theorem dX7_draw_31 : decode cX7_draw 31 = .ok (.iaload, 1) := by decide +kernel
theorem dX7_draw_32 : decode cX7_draw 32 = .ok (.ifCond .ne 14, 3) := by decide +kernel
theorem dX7_draw_35 : decode cX7_draw 35 = .ok (.aload_n 0, 1) := by decide +kernel
theorem dX7_draw_36 : decode cX7_draw 36 = .ok (.lconst 0, 1) := by decide +kernel
theorem dX7_draw_37 : decode cX7_draw 37 = .ok (.putfield 48, 3) := by decide +kernel
theorem dX7_draw_40 : decode cX7_draw 40 = .ok (.aload_n 0, 1) := by decide +kernel
theorem dX7_draw_41 : decode cX7_draw 41 = .ok (.lconst 1, 1) := by decide +kernel
theorem dX7_draw_42 : decode cX7_draw 42 = .ok (.putfield 52, 3) := by decide +kernel
theorem dX7_draw_45 : decode cX7_draw 45 = .ok (.return_, 1) := by decide +kernel
theorem dX7_draw_46 : decode cX7_draw 46 = .ok (.iconst 0, 1) := by decide +kernel
theorem dX7_draw_47 : decode cX7_draw 47 = .ok (.istore_n 3, 1) := by decide +kernel
theorem dX7_draw_48 : decode cX7_draw 48 = .ok (.iload_n 3, 1) := by decide +kernel
theorem dX7_draw_49 : decode cX7_draw 49 = .ok (.aload_n 0, 1) := by decide +kernel
theorem dX7_draw_50 : decode cX7_draw 50 = .ok (.getfield 29, 3) := by decide +kernel
theorem dX7_draw_53 : decode cX7_draw 53 = .ok (.getfield 55, 3) := by decide +kernel
theorem dX7_draw_56 : decode cX7_draw 56 = .ok (.if_icmp .ge 52, 3) := by decide +kernel
theorem dX7_draw_59 : decode cX7_draw 59 = .ok (.aload_n 0, 1) := by decide +kernel
theorem dX7_draw_60 : decode cX7_draw 60 = .ok (.iload_n 1, 1) := by decide +kernel
theorem dX7_draw_61 : decode cX7_draw 61 = .ok (.iload_n 2, 1) := by decide +kernel
theorem dX7_draw_62 : decode cX7_draw 62 = .ok (.invokevirtual 61, 3) := by decide +kernel
theorem dX7_draw_65 : decode cX7_draw 65 = .ok (.istore 4, 2) := by decide +kernel
theorem dX7_draw_67 : decode cX7_draw 67 = .ok (.iload 4, 2) := by decide +kernel
theorem dX7_draw_69 : decode cX7_draw 69 = .ok (.iconst (-1), 1) := by decide +kernel
theorem dX7_draw_70 : decode cX7_draw 70 = .ok (.if_icmp .ne 6, 3) := by decide +kernel
theorem dX7_draw_73 : decode cX7_draw 73 = .ok (.goto 35, 3) := by decide +kernel
theorem dX7_draw_76 : decode cX7_draw 76 = .ok (.aload_n 0, 1) := by decide +kernel
theorem dX7_draw_77 : decode cX7_draw 77 = .ok (.getfield 18, 3) := by decide +kernel
theorem dX7_draw_80 : decode cX7_draw 80 = .ok (.iload 4, 2) := by decide +kernel
theorem dX7_draw_82 : decode cX7_draw 82 = .ok (.iaload, 1) := by decide +kernel
theorem dX7_draw_83 : decode cX7_draw 83 = .ok (.aload_n 0, 1) := by decide +kernel
theorem dX7_draw_84 : decode cX7_draw 84 = .ok (.getfield 22, 3) := by decide +kernel
theorem dX7_draw_87 : decode cX7_draw 87 = .ok (.iload 4, 2) := by decide +kernel
theorem dX7_draw_89 : decode cX7_draw 89 = .ok (.iaload, 1) := by decide +kernel
theorem dX7_draw_90 : decode cX7_draw 90 = .ok (.if_icmp .le 9, 3) := by decide +kernel
theorem dX7_draw_93 : decode cX7_draw 93 = .ok (.iload 4, 2) := by decide +kernel
theorem dX7_draw_95 : decode cX7_draw 95 = .ok (.istore_n 2, 1) := by decide +kernel
theorem dX7_draw_96 : decode cX7_draw 96 = .ok (.goto 6, 3) := by decide +kernel
theorem dX7_draw_99 : decode cX7_draw 99 = .ok (.iload 4, 2) := by decide +kernel
theorem dX7_draw_101 : decode cX7_draw 101 = .ok (.istore_n 1, 1) := by decide +kernel
theorem dX7_draw_102 : decode cX7_draw 102 = .ok (.iinc 3 1, 3) := by decide +kernel
theorem dX7_draw_105 : decode cX7_draw 105 = .ok (.goto (-57), 3) := by decide +kernel
theorem dX7_draw_108 : decode cX7_draw 108 = .ok (.aload_n 0, 1) := by decide +kernel
theorem dX7_draw_109 : decode cX7_draw 109 = .ok (.iload_n 1, 1) := by decide +kernel
theorem dX7_draw_110 : decode cX7_draw 110 = .ok (.iload_n 2, 1) := by decide +kernel
theorem dX7_draw_111 : decode cX7_draw 111 = .ok (.invokevirtual 65, 3) := by decide +kernel
theorem dX7_draw_114 : decode cX7_draw 114 = .ok (.return_, 1) := by decide +kernel
theorem dX7_fillRues_0 : decode cX7_fillRues 0 = .ok (.aload_n 0, 1) := by decide +kernel
theorem dX7_fillRues_1 : decode cX7_fillRues 1 = .ok (.getfield 12, 3) := by decide +kernel
theorem dX7_fillRues_4 : decode cX7_fillRues 4 = .ok (.aload_n 0, 1) := by decide +kernel
theorem dX7_fillRues_5 : decode cX7_fillRues 5 = .ok (.getfield 25, 3) := by decide +kernel
theorem dX7_fillRues_8 : decode cX7_fillRues 8 = .ok (.getfield 69, 3) := by decide +kernel
theorem dX7_fillRues_11 : decode cX7_fillRues 11 = .ok (.iload_n 2, 1) := by decide +kernel
theorem dX7_fillRues_12 : decode cX7_fillRues 12 = .ok (.aaload, 1) := by decide +kernel
theorem dX7_fillRues_13 : decode cX7_fillRues 13 = .ok (.invokevirtual 74, 3) := by decide +kernel
theorem dX7_fillRues_16 : decode cX7_fillRues 16 = .ok (.iconst 0, 1) := by decide +kernel
theorem dX7_fillRues_17 : decode cX7_fillRues 17 = .ok (.istore_n 3, 1) := by decide +kernel
theorem dX7_fillRues_18 : decode cX7_fillRues 18 = .ok (.iload_n 3, 1) := by decide +kernel
theorem dX7_fillRues_19 : decode cX7_fillRues 19 = .ok (.aload_n 0, 1) := by decide +kernel
theorem dX7_fillRues_20 : decode cX7_fillRues 20 = .ok (.getfield 29, 3) := by decide +kernel
theorem dX7_fillRues_23 : decode cX7_fillRues 23 = .ok (.getfield 55, 3) := by decide +kernel
theorem dX7_fillRues_26 : decode cX7_fillRues 26 = .ok (.if_icmp .ge 28, 3) := by decide +kernel
theorem dX7_fillRues_29 : decode cX7_fillRues 29 = .ok (.aload_n 1, 1) := by decide +kernel
theorem dX7_fillRues_30 : decode cX7_fillRues 30 = .ok (.iload_n 3, 1) := by decide +kernel
theorem dX7_fillRues_31 : decode cX7_fillRues 31 = .ok (.aload_n 0, 1) := by decide +kernel
theorem dX7_fillRues_32 : decode cX7_fillRues 32 = .ok (.getfield 12, 3) := by decide +kernel
theorem dX7_fillRues_35 : decode cX7_fillRues 35 = .ok (.aload_n 0, 1) := by decide +kernel
theorem dX7_fillRues_36 : decode cX7_fillRues 36 = .ok (.getfield 29, 3) := by decide +kernel
theorem dX7_fillRues_39 : decode cX7_fillRues 39 = .ok (.getfield 78, 3) := by decide +kernel
theorem dX7_fillRues_42 : decode cX7_fillRues 42 = .ok (.iload_n 3, 1) := by decide +kernel
theorem dX7_fillRues_43 : decode cX7_fillRues 43 = .ok (.iaload, 1) := by decide +kernel
theorem dX7_fillRues_44 : decode cX7_fillRues 44 = .ok (.invokevirtual 81, 3) := by decide +kernel
theorem dX7_fillRues_47 : decode cX7_fillRues 47 = .ok (.iastore, 1) := by decide +kernel
theorem dX7_fillRues_48 : decode cX7_fillRues 48 = .ok (.iinc 3 1, 3) := by decide +kernel
theorem dX7_fillRues_51 : decode cX7_fillRues 51 = .ok (.goto (-33), 3) := by decide +kernel
theorem dX7_fillRues_54 : decode cX7_fillRues 54 = .ok (.aload_n 1, 1) := by decide +kernel
theorem dX7_fillRues_55 : decode cX7_fillRues 55 = .ok (.aload_n 0, 1) := by decide +kernel
theorem dX7_fillRues_56 : decode cX7_fillRues 56 = .ok (.getfield 29, 3) := by decide +kernel
theorem dX7_fillRues_59 : decode cX7_fillRues 59 = .ok (.getfield 55, 3) := by decide +kernel
theorem dX7_fillRues_62 : decode cX7_fillRues 62 = .ok (.invokestatic 84, 3) := by decide +kernel
theorem dX7_fillRues_65 : decode cX7_fillRues 65 = .ok (.istore_n 3, 1) := by decide +kernel
theorem dX7_fillRues_66 : decode cX7_fillRues 66 = .ok (.iload_n 3, 1) := by decide +kernel
theorem dX7_fillRues_67 : decode cX7_fillRues 67 = .ok (.iconst (-1), 1) := by decide +kernel
theorem dX7_fillRues_68 : decode cX7_fillRues 68 = .ok (.if_icmp .ne 7, 3) := by decide +kernel
theorem dX7_fillRues_71 : decode cX7_fillRues 71 = .ok (.iconst 0, 1) := by decide +kernel
theorem dX7_fillRues_72 : decode cX7_fillRues 72 = .ok (.goto 6, 3) := by decide +kernel
theorem dX7_fillRues_75 : decode cX7_fillRues 75 = .ok (.aload_n 1, 1) := by decide +kernel
theorem dX7_fillRues_76 : decode cX7_fillRues 76 = .ok (.iload_n 3, 1) := by decide +kernel
theorem dX7_fillRues_77 : decode cX7_fillRues 77 = .ok (.iaload, 1) := by decide +kernel
theorem dX7_fillRues_78 : decode cX7_fillRues 78 = .ok (.istore 4, 2) := by decide +kernel
theorem dX7_fillRues_80 : decode cX7_fillRues 80 = .ok (.iconst 0, 1) := by decide +kernel
theorem dX7_fillRues_81 : decode cX7_fillRues 81 = .ok (.istore 5, 2) := by decide +kernel
theorem dX7_fillRues_83 : decode cX7_fillRues 83 = .ok (.iload 5, 2) := by decide +kernel
theorem dX7_fillRues_85 : decode cX7_fillRues 85 = .ok (.aload_n 0, 1) := by decide +kernel
theorem dX7_fillRues_86 : decode cX7_fillRues 86 = .ok (.getfield 29, 3) := by decide +kernel
theorem dX7_fillRues_89 : decode cX7_fillRues 89 = .ok (.getfield 55, 3) := by decide +kernel
theorem dX7_fillRues_92 : decode cX7_fillRues 92 = .ok (.if_icmp .ge 18, 3) := by decide +kernel
theorem dX7_fillRues_95 : decode cX7_fillRues 95 = .ok (.aload_n 1, 1) := by decide +kernel
theorem dX7_fillRues_96 : decode cX7_fillRues 96 = .ok (.iload 5, 2) := by decide +kernel
theorem dX7_fillRues_98 : decode cX7_fillRues 98 = .ok (.dup2, 1) := by decide +kernel
theorem dX7_fillRues_99 : decode cX7_fillRues 99 = .ok (.iaload, 1) := by decide +kernel
theorem dX7_fillRues_100 : decode cX7_fillRues 100 = .ok (.iload 4, 2) := by decide +kernel
theorem dX7_fillRues_102 : decode cX7_fillRues 102 = .ok (.isub, 1) := by decide +kernel
theorem dX7_fillRues_103 : decode cX7_fillRues 103 = .ok (.iastore, 1) := by decide +kernel
theorem dX7_fillRues_104 : decode cX7_fillRues 104 = .ok (.iinc 5 1, 3) := by decide +kernel
theorem dX7_fillRues_107 : decode cX7_fillRues 107 = .ok (.goto (-24), 3) := by decide +kernel
theorem dX7_fillRues_110 : decode cX7_fillRues 110 = .ok (.return_, 1) := by decide +kernel
theorem dX7_leftmostBelow_0 : decode cX7_leftmostBelow 0 = .ok (.iconst (-1), 1) := by decide +kernel
theorem dX7_leftmostBelow_1 : decode cX7_leftmostBelow 1 = .ok (.istore_n 2, 1) := by decide +kernel
theorem dX7_leftmostBelow_2 : decode cX7_leftmostBelow 2 = .ok (.iconst 0, 1) := by decide +kernel
theorem dX7_leftmostBelow_3 : decode cX7_leftmostBelow 3 = .ok (.istore_n 3, 1) := by decide +kernel
theorem dX7_leftmostBelow_4 : decode cX7_leftmostBelow 4 = .ok (.iload_n 3, 1) := by decide +kernel
theorem dX7_leftmostBelow_5 : decode cX7_leftmostBelow 5 = .ok (.aload_n 0, 1) := by decide +kernel
theorem dX7_leftmostBelow_6 : decode cX7_leftmostBelow 6 = .ok (.getfield 29, 3) := by decide +kernel
theorem dX7_leftmostBelow_9 : decode cX7_leftmostBelow 9 = .ok (.getfield 55, 3) := by decide +kernel
theorem dX7_leftmostBelow_12 : decode cX7_leftmostBelow 12 = .ok (.if_icmp .ge 42, 3) := by decide +kernel
theorem dX7_leftmostBelow_15 : decode cX7_leftmostBelow 15 = .ok (.aload_n 0, 1) := by decide +kernel
theorem dX7_leftmostBelow_16 : decode cX7_leftmostBelow 16 = .ok (.getfield 22, 3) := by decide +kernel
theorem dX7_leftmostBelow_19 : decode cX7_leftmostBelow 19 = .ok (.iload_n 3, 1) := by decide +kernel
theorem dX7_leftmostBelow_20 : decode cX7_leftmostBelow 20 = .ok (.iaload, 1) := by decide +kernel
theorem dX7_leftmostBelow_21 : decode cX7_leftmostBelow 21 = .ok (.iload_n 1, 1) := by decide +kernel
theorem dX7_leftmostBelow_22 : decode cX7_leftmostBelow 22 = .ok (.if_icmp .ge 26, 3) := by decide +kernel
theorem dX7_leftmostBelow_25 : decode cX7_leftmostBelow 25 = .ok (.iload_n 2, 1) := by decide +kernel
theorem dX7_leftmostBelow_26 : decode cX7_leftmostBelow 26 = .ok (.iconst (-1), 1) := by decide +kernel
theorem dX7_leftmostBelow_27 : decode cX7_leftmostBelow 27 = .ok (.if_icmp .eq 19, 3) := by decide +kernel
theorem dX7_leftmostBelow_30 : decode cX7_leftmostBelow 30 = .ok (.iload_n 3, 1) := by decide +kernel
theorem dX7_leftmostBelow_31 : decode cX7_leftmostBelow 31 = .ok (.iload_n 2, 1) := by decide +kernel
theorem dX7_leftmostBelow_32 : decode cX7_leftmostBelow 32 = .ok (.aload_n 0, 1) := by decide +kernel
theorem dX7_leftmostBelow_33 : decode cX7_leftmostBelow 33 = .ok (.getfield 18, 3) := by decide +kernel
theorem dX7_leftmostBelow_36 : decode cX7_leftmostBelow 36 = .ok (.aload_n 0, 1) := by decide +kernel
theorem dX7_leftmostBelow_37 : decode cX7_leftmostBelow 37 = .ok (.getfield 22, 3) := by decide +kernel
theorem dX7_leftmostBelow_40 : decode cX7_leftmostBelow 40 = .ok (.invokestatic 88, 3) := by decide +kernel
theorem dX7_leftmostBelow_43 : decode cX7_leftmostBelow 43 = .ok (.ifCond .eq 5, 3) := by decide +kernel
theorem dX7_leftmostBelow_46 : decode cX7_leftmostBelow 46 = .ok (.iload_n 3, 1) := by decide +kernel
theorem dX7_leftmostBelow_47 : decode cX7_leftmostBelow 47 = .ok (.istore_n 2, 1) := by decide +kernel
theorem dX7_leftmostBelow_48 : decode cX7_leftmostBelow 48 = .ok (.iinc 3 1, 3) := by decide +kernel
theorem dX7_leftmostBelow_51 : decode cX7_leftmostBelow 51 = .ok (.goto (-47), 3) := by decide +kernel
theorem dX7_leftmostBelow_54 : decode cX7_leftmostBelow 54 = .ok (.iload_n 2, 1) := by decide +kernel
theorem dX7_leftmostBelow_55 : decode cX7_leftmostBelow 55 = .ok (.ireturn, 1) := by decide +kernel
theorem dX7_leastBy_0 : decode cX7_leastBy 0 = .ok (.iconst 0, 1) := by decide +kernel
theorem dX7_leastBy_1 : decode cX7_leastBy 1 = .ok (.istore_n 3, 1) := by decide +kernel
theorem dX7_leastBy_2 : decode cX7_leastBy 2 = .ok (.iconst 1, 1) := by decide +kernel
theorem dX7_leastBy_3 : decode cX7_leastBy 3 = .ok (.istore 4, 2) := by decide +kernel
theorem dX7_leastBy_5 : decode cX7_leastBy 5 = .ok (.iload 4, 2) := by decide +kernel
theorem dX7_leastBy_7 : decode cX7_leastBy 7 = .ok (.aload_n 0, 1) := by decide +kernel
theorem dX7_leastBy_8 : decode cX7_leastBy 8 = .ok (.getfield 29, 3) := by decide +kernel
theorem dX7_leastBy_11 : decode cX7_leastBy 11 = .ok (.getfield 55, 3) := by decide +kernel
theorem dX7_leastBy_14 : decode cX7_leastBy 14 = .ok (.if_icmp .ge 23, 3) := by decide +kernel
theorem dX7_leastBy_17 : decode cX7_leastBy 17 = .ok (.iload 4, 2) := by decide +kernel
theorem dX7_leastBy_19 : decode cX7_leastBy 19 = .ok (.iload_n 3, 1) := by decide +kernel
theorem dX7_leastBy_20 : decode cX7_leastBy 20 = .ok (.aload_n 1, 1) := by decide +kernel
theorem dX7_leastBy_21 : decode cX7_leastBy 21 = .ok (.aload_n 2, 1) := by decide +kernel
theorem dX7_leastBy_22 : decode cX7_leastBy 22 = .ok (.invokestatic 88, 3) := by decide +kernel
theorem dX7_leastBy_25 : decode cX7_leastBy 25 = .ok (.ifCond .eq 6, 3) := by decide +kernel
theorem dX7_leastBy_28 : decode cX7_leastBy 28 = .ok (.iload 4, 2) := by decide +kernel
theorem dX7_leastBy_30 : decode cX7_leastBy 30 = .ok (.istore_n 3, 1) := by decide +kernel
theorem dX7_leastBy_31 : decode cX7_leastBy 31 = .ok (.iinc 4 1, 3) := by decide +kernel
theorem dX7_leastBy_34 : decode cX7_leastBy 34 = .ok (.goto (-29), 3) := by decide +kernel
theorem dX7_leastBy_37 : decode cX7_leastBy 37 = .ok (.iload_n 3, 1) := by decide +kernel
theorem dX7_leastBy_38 : decode cX7_leastBy 38 = .ok (.ireturn, 1) := by decide +kernel
theorem dX7_comesBefore_0 : decode cX7_comesBefore 0 = .ok (.aload_n 2, 1) := by decide +kernel
theorem dX7_comesBefore_1 : decode cX7_comesBefore 1 = .ok (.iload_n 0, 1) := by decide +kernel
theorem dX7_comesBefore_2 : decode cX7_comesBefore 2 = .ok (.iaload, 1) := by decide +kernel
theorem dX7_comesBefore_3 : decode cX7_comesBefore 3 = .ok (.aload_n 2, 1) := by decide +kernel
theorem dX7_comesBefore_4 : decode cX7_comesBefore 4 = .ok (.iload_n 1, 1) := by decide +kernel
theorem dX7_comesBefore_5 : decode cX7_comesBefore 5 = .ok (.iaload, 1) := by decide +kernel
theorem dX7_comesBefore_6 : decode cX7_comesBefore 6 = .ok (.if_icmp .lt 21, 3) := by decide +kernel
theorem dX7_comesBefore_9 : decode cX7_comesBefore 9 = .ok (.aload_n 2, 1) := by decide +kernel
theorem dX7_comesBefore_10 : decode cX7_comesBefore 10 = .ok (.iload_n 0, 1) := by decide +kernel
theorem dX7_comesBefore_11 : decode cX7_comesBefore 11 = .ok (.iaload, 1) := by decide +kernel
theorem dX7_comesBefore_12 : decode cX7_comesBefore 12 = .ok (.aload_n 2, 1) := by decide +kernel
theorem dX7_comesBefore_13 : decode cX7_comesBefore 13 = .ok (.iload_n 1, 1) := by decide +kernel
theorem dX7_comesBefore_14 : decode cX7_comesBefore 14 = .ok (.iaload, 1) := by decide +kernel
theorem dX7_comesBefore_15 : decode cX7_comesBefore 15 = .ok (.if_icmp .ne 16, 3) := by decide +kernel
theorem dX7_comesBefore_18 : decode cX7_comesBefore 18 = .ok (.aload_n 3, 1) := by decide +kernel
theorem dX7_comesBefore_19 : decode cX7_comesBefore 19 = .ok (.iload_n 0, 1) := by decide +kernel
theorem dX7_comesBefore_20 : decode cX7_comesBefore 20 = .ok (.iaload, 1) := by decide +kernel
theorem dX7_comesBefore_21 : decode cX7_comesBefore 21 = .ok (.aload_n 3, 1) := by decide +kernel
theorem dX7_comesBefore_22 : decode cX7_comesBefore 22 = .ok (.iload_n 1, 1) := by decide +kernel
theorem dX7_comesBefore_23 : decode cX7_comesBefore 23 = .ok (.iaload, 1) := by decide +kernel
theorem dX7_comesBefore_24 : decode cX7_comesBefore 24 = .ok (.if_icmp .ge 7, 3) := by decide +kernel
theorem dX7_comesBefore_27 : decode cX7_comesBefore 27 = .ok (.iconst 1, 1) := by decide +kernel
theorem dX7_comesBefore_28 : decode cX7_comesBefore 28 = .ok (.goto 4, 3) := by decide +kernel
theorem dX7_comesBefore_31 : decode cX7_comesBefore 31 = .ok (.iconst 0, 1) := by decide +kernel
theorem dX7_comesBefore_32 : decode cX7_comesBefore 32 = .ok (.ireturn, 1) := by decide +kernel
theorem dX7_lowestUnder_0 : decode cX7_lowestUnder 0 = .ok (.aload_n 0, 1) := by decide +kernel
theorem dX7_lowestUnder_1 : decode cX7_lowestUnder 1 = .ok (.getfield 22, 3) := by decide +kernel
theorem dX7_lowestUnder_4 : decode cX7_lowestUnder 4 = .ok (.iload_n 1, 1) := by decide +kernel
theorem dX7_lowestUnder_5 : decode cX7_lowestUnder 5 = .ok (.iaload, 1) := by decide +kernel
theorem dX7_lowestUnder_6 : decode cX7_lowestUnder 6 = .ok (.aload_n 0, 1) := by decide +kernel
theorem dX7_lowestUnder_7 : decode cX7_lowestUnder 7 = .ok (.getfield 22, 3) := by decide +kernel
theorem dX7_lowestUnder_10 : decode cX7_lowestUnder 10 = .ok (.iload_n 2, 1) := by decide +kernel
theorem dX7_lowestUnder_11 : decode cX7_lowestUnder 11 = .ok (.iaload, 1) := by decide +kernel
theorem dX7_lowestUnder_12 : decode cX7_lowestUnder 12 = .ok (.isub, 1) := by decide +kernel
theorem dX7_lowestUnder_13 : decode cX7_lowestUnder 13 = .ok (.i2l, 1) := by decide +kernel
theorem dX7_lowestUnder_14 : decode cX7_lowestUnder 14 = .ok (.lstore_n 3, 1) := by decide +kernel
theorem dX7_lowestUnder_15 : decode cX7_lowestUnder 15 = .ok (.aload_n 0, 1) := by decide +kernel
theorem dX7_lowestUnder_16 : decode cX7_lowestUnder 16 = .ok (.getfield 18, 3) := by decide +kernel
theorem dX7_lowestUnder_19 : decode cX7_lowestUnder 19 = .ok (.iload_n 2, 1) := by decide +kernel
theorem dX7_lowestUnder_20 : decode cX7_lowestUnder 20 = .ok (.iaload, 1) := by decide +kernel
theorem dX7_lowestUnder_21 : decode cX7_lowestUnder 21 = .ok (.aload_n 0, 1) := by decide +kernel
theorem dX7_lowestUnder_22 : decode cX7_lowestUnder 22 = .ok (.getfield 18, 3) := by decide +kernel
theorem dX7_lowestUnder_25 : decode cX7_lowestUnder 25 = .ok (.iload_n 1, 1) := by decide +kernel
theorem dX7_lowestUnder_26 : decode cX7_lowestUnder 26 = .ok (.iaload, 1) := by decide +kernel
theorem dX7_lowestUnder_27 : decode cX7_lowestUnder 27 = .ok (.isub, 1) := by decide +kernel
theorem dX7_lowestUnder_28 : decode cX7_lowestUnder 28 = .ok (.i2l, 1) := by decide +kernel
theorem dX7_lowestUnder_29 : decode cX7_lowestUnder 29 = .ok (.lstore 5, 2) := by decide +kernel
theorem dX7_lowestUnder_31 : decode cX7_lowestUnder 31 = .ok (.lload_n 3, 1) := by decide +kernel
theorem dX7_lowestUnder_32 : decode cX7_lowestUnder 32 = .ok (.aload_n 0, 1) := by decide +kernel
theorem dX7_lowestUnder_33 : decode cX7_lowestUnder 33 = .ok (.getfield 18, 3) := by decide +kernel
theorem dX7_lowestUnder_36 : decode cX7_lowestUnder 36 = .ok (.iload_n 1, 1) := by decide +kernel
theorem dX7_lowestUnder_37 : decode cX7_lowestUnder 37 = .ok (.iaload, 1) := by decide +kernel
theorem dX7_lowestUnder_38 : decode cX7_lowestUnder 38 = .ok (.i2l, 1) := by decide +kernel
theorem dX7_lowestUnder_39 : decode cX7_lowestUnder 39 = .ok (.lmul, 1) := by decide +kernel
theorem dX7_lowestUnder_40 : decode cX7_lowestUnder 40 = .ok (.lload 5, 2) := by decide +kernel
theorem dX7_lowestUnder_42 : decode cX7_lowestUnder 42 = .ok (.aload_n 0, 1) := by decide +kernel
theorem dX7_lowestUnder_43 : decode cX7_lowestUnder 43 = .ok (.getfield 22, 3) := by decide +kernel
theorem dX7_lowestUnder_46 : decode cX7_lowestUnder 46 = .ok (.iload_n 1, 1) := by decide +kernel
theorem dX7_lowestUnder_47 : decode cX7_lowestUnder 47 = .ok (.iaload, 1) := by decide +kernel
theorem dX7_lowestUnder_48 : decode cX7_lowestUnder 48 = .ok (.i2l, 1) := by decide +kernel
theorem dX7_lowestUnder_49 : decode cX7_lowestUnder 49 = .ok (.lmul, 1) := by decide +kernel
theorem dX7_lowestUnder_50 : decode cX7_lowestUnder 50 = .ok (.ladd, 1) := by decide +kernel
theorem dX7_lowestUnder_51 : decode cX7_lowestUnder 51 = .ok (.lstore 7, 2) := by decide +kernel
theorem dX7_lowestUnder_53 : decode cX7_lowestUnder 53 = .ok (.iconst (-1), 1) := by decide +kernel
theorem dX7_lowestUnder_54 : decode cX7_lowestUnder 54 = .ok (.istore 9, 2) := by decide +kernel
theorem dX7_lowestUnder_56 : decode cX7_lowestUnder 56 = .ok (.iconst 0, 1) := by decide +kernel
theorem dX7_lowestUnder_57 : decode cX7_lowestUnder 57 = .ok (.istore 10, 2) := by decide +kernel
theorem dX7_lowestUnder_59 : decode cX7_lowestUnder 59 = .ok (.iload 10, 2) := by decide +kernel
theorem dX7_lowestUnder_61 : decode cX7_lowestUnder 61 = .ok (.aload_n 0, 1) := by decide +kernel
theorem dX7_lowestUnder_62 : decode cX7_lowestUnder 62 = .ok (.getfield 29, 3) := by decide +kernel
theorem dX7_lowestUnder_65 : decode cX7_lowestUnder 65 = .ok (.getfield 55, 3) := by decide +kernel
theorem dX7_lowestUnder_68 : decode cX7_lowestUnder 68 = .ok (.if_icmp .ge 49, 3) := by decide +kernel
theorem dX7_lowestUnder_71 : decode cX7_lowestUnder 71 = .ok (.lload_n 3, 1) := by decide +kernel
theorem dX7_lowestUnder_72 : decode cX7_lowestUnder 72 = .ok (.aload_n 0, 1) := by decide +kernel
theorem dX7_lowestUnder_73 : decode cX7_lowestUnder 73 = .ok (.getfield 18, 3) := by decide +kernel
theorem dX7_lowestUnder_76 : decode cX7_lowestUnder 76 = .ok (.iload 10, 2) := by decide +kernel
theorem dX7_lowestUnder_78 : decode cX7_lowestUnder 78 = .ok (.iaload, 1) := by decide +kernel
theorem dX7_lowestUnder_79 : decode cX7_lowestUnder 79 = .ok (.i2l, 1) := by decide +kernel
theorem dX7_lowestUnder_80 : decode cX7_lowestUnder 80 = .ok (.lmul, 1) := by decide +kernel
theorem dX7_lowestUnder_81 : decode cX7_lowestUnder 81 = .ok (.lload 5, 2) := by decide +kernel
theorem dX7_lowestUnder_83 : decode cX7_lowestUnder 83 = .ok (.aload_n 0, 1) := by decide +kernel
theorem dX7_lowestUnder_84 : decode cX7_lowestUnder 84 = .ok (.getfield 22, 3) := by decide +kernel
theorem dX7_lowestUnder_87 : decode cX7_lowestUnder 87 = .ok (.iload 10, 2) := by decide +kernel
theorem dX7_lowestUnder_89 : decode cX7_lowestUnder 89 = .ok (.iaload, 1) := by decide +kernel
theorem dX7_lowestUnder_90 : decode cX7_lowestUnder 90 = .ok (.i2l, 1) := by decide +kernel
theorem dX7_lowestUnder_91 : decode cX7_lowestUnder 91 = .ok (.lmul, 1) := by decide +kernel
theorem dX7_lowestUnder_92 : decode cX7_lowestUnder 92 = .ok (.ladd, 1) := by decide +kernel
theorem dX7_lowestUnder_93 : decode cX7_lowestUnder 93 = .ok (.lstore 11, 2) := by decide +kernel
theorem dX7_lowestUnder_95 : decode cX7_lowestUnder 95 = .ok (.lload 11, 2) := by decide +kernel
theorem dX7_lowestUnder_97 : decode cX7_lowestUnder 97 = .ok (.lload 7, 2) := by decide +kernel
theorem dX7_lowestUnder_99 : decode cX7_lowestUnder 99 = .ok (.lcmp, 1) := by decide +kernel
theorem dX7_lowestUnder_100 : decode cX7_lowestUnder 100 = .ok (.ifCond .ge 11, 3) := by decide +kernel
theorem dX7_lowestUnder_103 : decode cX7_lowestUnder 103 = .ok (.lload 11, 2) := by decide +kernel
theorem dX7_lowestUnder_105 : decode cX7_lowestUnder 105 = .ok (.lstore 7, 2) := by decide +kernel
theorem dX7_lowestUnder_107 : decode cX7_lowestUnder 107 = .ok (.iload 10, 2) := by decide +kernel
theorem dX7_lowestUnder_109 : decode cX7_lowestUnder 109 = .ok (.istore 9, 2) := by decide +kernel
theorem dX7_lowestUnder_111 : decode cX7_lowestUnder 111 = .ok (.iinc 10 1, 3) := by decide +kernel
theorem dX7_lowestUnder_114 : decode cX7_lowestUnder 114 = .ok (.goto (-55), 3) := by decide +kernel
theorem dX7_lowestUnder_117 : decode cX7_lowestUnder 117 = .ok (.iload 9, 2) := by decide +kernel
theorem dX7_lowestUnder_119 : decode cX7_lowestUnder 119 = .ok (.ireturn, 1) := by decide +kernel
theorem dX7_meet_0 : decode cX7_meet 0 = .ok (.aload_n 0, 1) := by decide +kernel
theorem dX7_meet_1 : decode cX7_meet 1 = .ok (.getfield 22, 3) := by decide +kernel
theorem dX7_meet_4 : decode cX7_meet 4 = .ok (.iload_n 1, 1) := by decide +kernel
theorem dX7_meet_5 : decode cX7_meet 5 = .ok (.iaload, 1) := by decide +kernel
theorem dX7_meet_6 : decode cX7_meet 6 = .ok (.i2l, 1) := by decide +kernel
theorem dX7_meet_7 : decode cX7_meet 7 = .ok (.aload_n 0, 1) := by decide +kernel
theorem dX7_meet_8 : decode cX7_meet 8 = .ok (.getfield 18, 3) := by decide +kernel
theorem dX7_meet_11 : decode cX7_meet 11 = .ok (.iload_n 2, 1) := by decide +kernel
theorem dX7_meet_12 : decode cX7_meet 12 = .ok (.iaload, 1) := by decide +kernel
theorem dX7_meet_13 : decode cX7_meet 13 = .ok (.i2l, 1) := by decide +kernel
theorem dX7_meet_14 : decode cX7_meet 14 = .ok (.lmul, 1) := by decide +kernel
theorem dX7_meet_15 : decode cX7_meet 15 = .ok (.aload_n 0, 1) := by decide +kernel
theorem dX7_meet_16 : decode cX7_meet 16 = .ok (.getfield 18, 3) := by decide +kernel
theorem dX7_meet_19 : decode cX7_meet 19 = .ok (.iload_n 1, 1) := by decide +kernel
theorem dX7_meet_20 : decode cX7_meet 20 = .ok (.iaload, 1) := by decide +kernel
theorem dX7_meet_21 : decode cX7_meet 21 = .ok (.i2l, 1) := by decide +kernel
theorem dX7_meet_22 : decode cX7_meet 22 = .ok (.aload_n 0, 1) := by decide +kernel
theorem dX7_meet_23 : decode cX7_meet 23 = .ok (.getfield 22, 3) := by decide +kernel
theorem dX7_meet_26 : decode cX7_meet 26 = .ok (.iload_n 2, 1) := by decide +kernel
theorem dX7_meet_27 : decode cX7_meet 27 = .ok (.iaload, 1) := by decide +kernel
theorem dX7_meet_28 : decode cX7_meet 28 = .ok (.i2l, 1) := by decide +kernel
theorem dX7_meet_29 : decode cX7_meet 29 = .ok (.lmul, 1) := by decide +kernel
theorem dX7_meet_30 : decode cX7_meet 30 = .ok (.lsub, 1) := by decide +kernel
theorem dX7_meet_31 : decode cX7_meet 31 = .ok (.lstore_n 3, 1) := by decide +kernel
theorem dX7_meet_32 : decode cX7_meet 32 = .ok (.aload_n 0, 1) := by decide +kernel
theorem dX7_meet_33 : decode cX7_meet 33 = .ok (.getfield 22, 3) := by decide +kernel
theorem dX7_meet_36 : decode cX7_meet 36 = .ok (.iload_n 1, 1) := by decide +kernel
theorem dX7_meet_37 : decode cX7_meet 37 = .ok (.iaload, 1) := by decide +kernel
theorem dX7_meet_38 : decode cX7_meet 38 = .ok (.i2l, 1) := by decide +kernel
theorem dX7_meet_39 : decode cX7_meet 39 = .ok (.aload_n 0, 1) := by decide +kernel
theorem dX7_meet_40 : decode cX7_meet 40 = .ok (.getfield 18, 3) := by decide +kernel
theorem dX7_meet_43 : decode cX7_meet 43 = .ok (.iload_n 1, 1) := by decide +kernel
theorem dX7_meet_44 : decode cX7_meet 44 = .ok (.iaload, 1) := by decide +kernel
theorem dX7_meet_45 : decode cX7_meet 45 = .ok (.i2l, 1) := by decide +kernel
theorem dX7_meet_46 : decode cX7_meet 46 = .ok (.lsub, 1) := by decide +kernel
theorem dX7_meet_47 : decode cX7_meet 47 = .ok (.aload_n 0, 1) := by decide +kernel
theorem dX7_meet_48 : decode cX7_meet 48 = .ok (.getfield 18, 3) := by decide +kernel
theorem dX7_meet_51 : decode cX7_meet 51 = .ok (.iload_n 2, 1) := by decide +kernel
theorem dX7_meet_52 : decode cX7_meet 52 = .ok (.iaload, 1) := by decide +kernel
theorem dX7_meet_53 : decode cX7_meet 53 = .ok (.i2l, 1) := by decide +kernel
theorem dX7_meet_54 : decode cX7_meet 54 = .ok (.ladd, 1) := by decide +kernel
theorem dX7_meet_55 : decode cX7_meet 55 = .ok (.aload_n 0, 1) := by decide +kernel
theorem dX7_meet_56 : decode cX7_meet 56 = .ok (.getfield 22, 3) := by decide +kernel
theorem dX7_meet_59 : decode cX7_meet 59 = .ok (.iload_n 2, 1) := by decide +kernel
theorem dX7_meet_60 : decode cX7_meet 60 = .ok (.iaload, 1) := by decide +kernel
theorem dX7_meet_61 : decode cX7_meet 61 = .ok (.i2l, 1) := by decide +kernel
theorem dX7_meet_62 : decode cX7_meet 62 = .ok (.lsub, 1) := by decide +kernel
theorem dX7_meet_63 : decode cX7_meet 63 = .ok (.lstore 5, 2) := by decide +kernel
theorem dX7_meet_65 : decode cX7_meet 65 = .ok (.lload_n 3, 1) := by decide +kernel
theorem dX7_meet_66 : decode cX7_meet 66 = .ok (.lload 5, 2) := by decide +kernel
theorem dX7_meet_68 : decode cX7_meet 68 = .ok (.invokestatic 92, 3) := by decide +kernel
theorem dX7_meet_71 : decode cX7_meet 71 = .ok (.lstore 7, 2) := by decide +kernel
theorem dX7_meet_73 : decode cX7_meet 73 = .ok (.lload 7, 2) := by decide +kernel
theorem dX7_meet_75 : decode cX7_meet 75 = .ok (.lconst 0, 1) := by decide +kernel
theorem dX7_meet_76 : decode cX7_meet 76 = .ok (.lcmp, 1) := by decide +kernel
theorem dX7_meet_77 : decode cX7_meet 77 = .ok (.ifCond .le 20, 3) := by decide +kernel
theorem dX7_meet_80 : decode cX7_meet 80 = .ok (.aload_n 0, 1) := by decide +kernel
theorem dX7_meet_81 : decode cX7_meet 81 = .ok (.lload_n 3, 1) := by decide +kernel
theorem dX7_meet_82 : decode cX7_meet 82 = .ok (.lload 7, 2) := by decide +kernel
theorem dX7_meet_84 : decode cX7_meet 84 = .ok (.ldiv, 1) := by decide +kernel
theorem dX7_meet_85 : decode cX7_meet 85 = .ok (.putfield 48, 3) := by decide +kernel
theorem dX7_meet_88 : decode cX7_meet 88 = .ok (.aload_n 0, 1) := by decide +kernel
theorem dX7_meet_89 : decode cX7_meet 89 = .ok (.lload 5, 2) := by decide +kernel
theorem dX7_meet_91 : decode cX7_meet 91 = .ok (.lload 7, 2) := by decide +kernel
theorem dX7_meet_93 : decode cX7_meet 93 = .ok (.ldiv, 1) := by decide +kernel
theorem dX7_meet_94 : decode cX7_meet 94 = .ok (.putfield 52, 3) := by decide +kernel
theorem dX7_meet_97 : decode cX7_meet 97 = .ok (.return_, 1) := by decide +kernel
theorem dX7_commonDivisor_0 : decode cX7_commonDivisor 0 = .ok (.lload_n 0, 1) := by decide +kernel
theorem dX7_commonDivisor_1 : decode cX7_commonDivisor 1 = .ok (.lstore 4, 2) := by decide +kernel
theorem dX7_commonDivisor_3 : decode cX7_commonDivisor 3 = .ok (.lload_n 2, 1) := by decide +kernel
theorem dX7_commonDivisor_4 : decode cX7_commonDivisor 4 = .ok (.lstore 6, 2) := by decide +kernel
theorem dX7_commonDivisor_6 : decode cX7_commonDivisor 6 = .ok (.iconst 0, 1) := by decide +kernel
theorem dX7_commonDivisor_7 : decode cX7_commonDivisor 7 = .ok (.istore 8, 2) := by decide +kernel
theorem dX7_commonDivisor_9 : decode cX7_commonDivisor 9 = .ok (.iload 8, 2) := by decide +kernel
theorem dX7_commonDivisor_11 : decode cX7_commonDivisor 11 = .ok (.bipush 100, 2) := by decide +kernel
theorem dX7_commonDivisor_13 : decode cX7_commonDivisor 13 = .ok (.if_icmp .ge 31, 3) := by decide +kernel
theorem dX7_commonDivisor_16 : decode cX7_commonDivisor 16 = .ok (.lload 6, 2) := by decide +kernel
theorem dX7_commonDivisor_18 : decode cX7_commonDivisor 18 = .ok (.lconst 0, 1) := by decide +kernel
theorem dX7_commonDivisor_19 : decode cX7_commonDivisor 19 = .ok (.lcmp, 1) := by decide +kernel
theorem dX7_commonDivisor_20 : decode cX7_commonDivisor 20 = .ok (.ifCond .eq 24, 3) := by decide +kernel
theorem dX7_commonDivisor_23 : decode cX7_commonDivisor 23 = .ok (.lload 4, 2) := by decide +kernel
theorem dX7_commonDivisor_25 : decode cX7_commonDivisor 25 = .ok (.lload 6, 2) := by decide +kernel
theorem dX7_commonDivisor_27 : decode cX7_commonDivisor 27 = .ok (.lrem, 1) := by decide +kernel
theorem dX7_commonDivisor_28 : decode cX7_commonDivisor 28 = .ok (.lstore 9, 2) := by decide +kernel
theorem dX7_commonDivisor_30 : decode cX7_commonDivisor 30 = .ok (.lload 6, 2) := by decide +kernel
theorem dX7_commonDivisor_32 : decode cX7_commonDivisor 32 = .ok (.lstore 4, 2) := by decide +kernel
theorem dX7_commonDivisor_34 : decode cX7_commonDivisor 34 = .ok (.lload 9, 2) := by decide +kernel
theorem dX7_commonDivisor_36 : decode cX7_commonDivisor 36 = .ok (.lstore 6, 2) := by decide +kernel
theorem dX7_commonDivisor_38 : decode cX7_commonDivisor 38 = .ok (.iinc 8 1, 3) := by decide +kernel
theorem dX7_commonDivisor_41 : decode cX7_commonDivisor 41 = .ok (.goto (-32), 3) := by decide +kernel
theorem dX7_commonDivisor_44 : decode cX7_commonDivisor 44 = .ok (.lload 4, 2) := by decide +kernel
theorem dX7_commonDivisor_46 : decode cX7_commonDivisor 46 = .ok (.lreturn, 1) := by decide +kernel
theorem dX8_init_0 : decode cX8_init 0 = .ok (.aload_n 0, 1) := by decide +kernel
theorem dX8_init_1 : decode cX8_init 1 = .ok (.invokespecial 1, 3) := by decide +kernel
theorem dX8_init_4 : decode cX8_init 4 = .ok (.aload_n 0, 1) := by decide +kernel
theorem dX8_init_5 : decode cX8_init 5 = .ok (.new 7, 3) := by decide +kernel
theorem dX8_init_8 : decode cX8_init 8 = .ok (.dup, 1) := by decide +kernel
theorem dX8_init_9 : decode cX8_init 9 = .ok (.invokespecial 9, 3) := by decide +kernel
theorem dX8_init_12 : decode cX8_init 12 = .ok (.putfield 10, 3) := by decide +kernel
theorem dX8_init_15 : decode cX8_init 15 = .ok (.aload_n 0, 1) := by decide +kernel
theorem dX8_init_16 : decode cX8_init 16 = .ok (.new 16, 3) := by decide +kernel
theorem dX8_init_19 : decode cX8_init 19 = .ok (.dup, 1) := by decide +kernel
theorem dX8_init_20 : decode cX8_init 20 = .ok (.invokespecial 18, 3) := by decide +kernel
theorem dX8_init_23 : decode cX8_init 23 = .ok (.putfield 19, 3) := by decide +kernel
theorem dX8_init_26 : decode cX8_init 26 = .ok (.aload_n 0, 1) := by decide +kernel
theorem dX8_init_27 : decode cX8_init 27 = .ok (.getfield 19, 3) := by decide +kernel
theorem dX8_init_30 : decode cX8_init 30 = .ok (.aload_n 0, 1) := by decide +kernel
theorem dX8_init_31 : decode cX8_init 31 = .ok (.getfield 10, 3) := by decide +kernel
theorem dX8_init_34 : decode cX8_init 34 = .ok (.invokevirtual 23, 3) := by decide +kernel
theorem dX8_init_37 : decode cX8_init 37 = .ok (.pop, 1) := by decide +kernel
theorem dX8_init_38 : decode cX8_init 38 = .ok (.aload_n 0, 1) := by decide +kernel
theorem dX8_init_39 : decode cX8_init 39 = .ok (.iconst 4, 1) := by decide +kernel
theorem dX8_init_40 : decode cX8_init 40 = .ok (.anewarray 27, 3) := by decide +kernel
theorem dX8_init_43 : decode cX8_init 43 = .ok (.putfield 29, 3) := by decide +kernel
theorem dX8_init_46 : decode cX8_init 46 = .ok (.iconst 0, 1) := by decide +kernel
theorem dX8_init_47 : decode cX8_init 47 = .ok (.istore_n 1, 1) := by decide +kernel
theorem dX8_init_48 : decode cX8_init 48 = .ok (.iload_n 1, 1) := by decide +kernel
theorem dX8_init_49 : decode cX8_init 49 = .ok (.iconst 4, 1) := by decide +kernel
theorem dX8_init_50 : decode cX8_init 50 = .ok (.if_icmp .ge 22, 3) := by decide +kernel
theorem dX8_init_53 : decode cX8_init 53 = .ok (.aload_n 0, 1) := by decide +kernel
theorem dX8_init_54 : decode cX8_init 54 = .ok (.getfield 29, 3) := by decide +kernel
theorem dX8_init_57 : decode cX8_init 57 = .ok (.iload_n 1, 1) := by decide +kernel
theorem dX8_init_58 : decode cX8_init 58 = .ok (.new 27, 3) := by decide +kernel
theorem dX8_init_61 : decode cX8_init 61 = .ok (.dup, 1) := by decide +kernel
theorem dX8_init_62 : decode cX8_init 62 = .ok (.invokespecial 33, 3) := by decide +kernel
theorem dX8_init_65 : decode cX8_init 65 = .ok (.aastore, 1) := by decide +kernel
theorem dX8_init_66 : decode cX8_init 66 = .ok (.iinc 1 1, 3) := by decide +kernel
theorem dX8_init_69 : decode cX8_init 69 = .ok (.goto (-21), 3) := by decide +kernel
theorem dX8_init_72 : decode cX8_init 72 = .ok (.aload_n 0, 1) := by decide +kernel
theorem dX8_init_73 : decode cX8_init 73 = .ok (.iconst 3, 1) := by decide +kernel
theorem dX8_init_74 : decode cX8_init 74 = .ok (.anewarray 7, 3) := by decide +kernel
theorem dX8_init_77 : decode cX8_init 77 = .ok (.putfield 34, 3) := by decide +kernel
theorem dX8_init_80 : decode cX8_init 80 = .ok (.iconst 0, 1) := by decide +kernel
theorem dX8_init_81 : decode cX8_init 81 = .ok (.istore_n 1, 1) := by decide +kernel
theorem dX8_init_82 : decode cX8_init 82 = .ok (.iload_n 1, 1) := by decide +kernel
theorem dX8_init_83 : decode cX8_init 83 = .ok (.iconst 3, 1) := by decide +kernel
theorem dX8_init_84 : decode cX8_init 84 = .ok (.if_icmp .ge 22, 3) := by decide +kernel
theorem dX8_init_87 : decode cX8_init 87 = .ok (.aload_n 0, 1) := by decide +kernel
theorem dX8_init_88 : decode cX8_init 88 = .ok (.getfield 34, 3) := by decide +kernel
theorem dX8_init_91 : decode cX8_init 91 = .ok (.iload_n 1, 1) := by decide +kernel
theorem dX8_init_92 : decode cX8_init 92 = .ok (.new 7, 3) := by decide +kernel
theorem dX8_init_95 : decode cX8_init 95 = .ok (.dup, 1) := by decide +kernel
theorem dX8_init_96 : decode cX8_init 96 = .ok (.invokespecial 9, 3) := by decide +kernel
theorem dX8_init_99 : decode cX8_init 99 = .ok (.aastore, 1) := by decide +kernel
theorem dX8_init_100 : decode cX8_init 100 = .ok (.iinc 1 1, 3) := by decide +kernel
theorem dX8_init_103 : decode cX8_init 103 = .ok (.goto (-21), 3) := by decide +kernel
theorem dX8_init_106 : decode cX8_init 106 = .ok (.aload_n 0, 1) := by decide +kernel
theorem dX8_init_107 : decode cX8_init 107 = .ok (.iconst 3, 1) := by decide +kernel
theorem dX8_init_108 : decode cX8_init 108 = .ok (.newarray .boolean, 2) := by decide +kernel
theorem dX8_init_110 : decode cX8_init 110 = .ok (.putfield 38, 3) := by decide +kernel
theorem dX8_init_113 : decode cX8_init 113 = .ok (.aload_n 0, 1) := by decide +kernel
theorem dX8_init_114 : decode cX8_init 114 = .ok (.new 42, 3) := by decide +kernel
theorem dX8_init_117 : decode cX8_init 117 = .ok (.dup, 1) := by decide +kernel
theorem dX8_init_118 : decode cX8_init 118 = .ok (.aload_n 0, 1) := by decide +kernel
theorem dX8_init_119 : decode cX8_init 119 = .ok (.getfield 10, 3) := by decide +kernel
theorem dX8_init_122 : decode cX8_init 122 = .ok (.aload_n 0, 1) := by decide +kernel
theorem dX8_init_123 : decode cX8_init 123 = .ok (.getfield 19, 3) := by decide +kernel
theorem dX8_init_126 : decode cX8_init 126 = .ok (.invokespecial 44, 3) := by decide +kernel
theorem dX8_init_129 : decode cX8_init 129 = .ok (.putfield 47, 3) := by decide +kernel
theorem dX8_init_132 : decode cX8_init 132 = .ok (.aload_n 0, 1) := by decide +kernel
theorem dX8_init_133 : decode cX8_init 133 = .ok (.new 51, 3) := by decide +kernel
theorem dX8_init_136 : decode cX8_init 136 = .ok (.dup, 1) := by decide +kernel
theorem dX8_init_137 : decode cX8_init 137 = .ok (.aload_n 0, 1) := by decide +kernel
theorem dX8_init_138 : decode cX8_init 138 = .ok (.getfield 10, 3) := by decide +kernel
theorem dX8_init_141 : decode cX8_init 141 = .ok (.aload_n 0, 1) := by decide +kernel
theorem dX8_init_142 : decode cX8_init 142 = .ok (.getfield 19, 3) := by decide +kernel
theorem dX8_init_145 : decode cX8_init 145 = .ok (.invokespecial 53, 3) := by decide +kernel
theorem dX8_init_148 : decode cX8_init 148 = .ok (.putfield 54, 3) := by decide +kernel
theorem dX8_init_151 : decode cX8_init 151 = .ok (.aload_n 0, 1) := by decide +kernel
theorem dX8_init_152 : decode cX8_init 152 = .ok (.new 58, 3) := by decide +kernel
theorem dX8_init_155 : decode cX8_init 155 = .ok (.dup, 1) := by decide +kernel
theorem dX8_init_156 : decode cX8_init 156 = .ok (.aload_n 0, 1) := by decide +kernel
theorem dX8_init_157 : decode cX8_init 157 = .ok (.getfield 10, 3) := by decide +kernel
theorem dX8_init_160 : decode cX8_init 160 = .ok (.aload_n 0, 1) := by decide +kernel
theorem dX8_init_161 : decode cX8_init 161 = .ok (.getfield 19, 3) := by decide +kernel
theorem dX8_init_164 : decode cX8_init 164 = .ok (.invokespecial 60, 3) := by decide +kernel
theorem dX8_init_167 : decode cX8_init 167 = .ok (.putfield 61, 3) := by decide +kernel
theorem dX8_init_170 : decode cX8_init 170 = .ok (.aload_n 0, 1) := by decide +kernel
theorem dX8_init_171 : decode cX8_init 171 = .ok (.new 65, 3) := by decide +kernel
theorem dX8_init_174 : decode cX8_init 174 = .ok (.dup, 1) := by decide +kernel
theorem dX8_init_175 : decode cX8_init 175 = .ok (.aload_n 0, 1) := by decide +kernel
theorem dX8_init_176 : decode cX8_init 176 = .ok (.getfield 10, 3) := by decide +kernel
theorem dX8_init_179 : decode cX8_init 179 = .ok (.aload_n 0, 1) := by decide +kernel
theorem dX8_init_180 : decode cX8_init 180 = .ok (.getfield 19, 3) := by decide +kernel
theorem dX8_init_183 : decode cX8_init 183 = .ok (.invokespecial 67, 3) := by decide +kernel
theorem dX8_init_186 : decode cX8_init 186 = .ok (.putfield 68, 3) := by decide +kernel
theorem dX8_init_189 : decode cX8_init 189 = .ok (.return_, 1) := by decide +kernel
theorem dX8_thing_0 : decode cX8_thing 0 = .ok (.iload_n 1, 1) := by decide +kernel
theorem dX8_thing_1 : decode cX8_thing 1 = .ok (.iload_n 2, 1) := by decide +kernel
theorem dX8_thing_2 : decode cX8_thing 2 = .ok (.invokestatic 72, 3) := by decide +kernel
theorem dX8_thing_5 : decode cX8_thing 5 = .ok (.ifCond .ne 9, 3) := by decide +kernel
theorem dX8_thing_8 : decode cX8_thing 8 = .ok (.aload_n 0, 1) := by decide +kernel
theorem dX8_thing_9 : decode cX8_thing 9 = .ok (.iconst (-1), 1) := by decide +kernel
theorem dX8_thing_10 : decode cX8_thing 10 = .ok (.invokevirtual 76, 3) := by decide +kernel
theorem dX8_thing_13 : decode cX8_thing 13 = .ok (.ireturn, 1) := by decide +kernel
theorem dX8_thing_14 : decode cX8_thing 14 = .ok (.aload_n 0, 1) := by decide +kernel
theorem dX8_thing_15 : decode cX8_thing 15 = .ok (.getfield 10, 3) := by decide +kernel
theorem dX8_thing_18 : decode cX8_thing 18 = .ok (.getfield 80, 3) := by decide +kernel
theorem dX8_thing_21 : decode cX8_thing 21 = .ok (.bipush 12, 2) := by decide +kernel
theorem dX8_thing_23 : decode cX8_thing 23 = .ok (.if_icmp .ne 10, 3) := by decide +kernel
theorem dX8_thing_26 : decode cX8_thing 26 = .ok (.aload_n 0, 1) := by decide +kernel
theorem dX8_thing_27 : decode cX8_thing 27 = .ok (.bipush (-5), 2) := by decide +kernel
theorem dX8_thing_29 : decode cX8_thing 29 = .ok (.invokevirtual 76, 3) := by decide +kernel
theorem dX8_thing_32 : decode cX8_thing 32 = .ok (.ireturn, 1) := by decide +kernel
theorem dX8_thing_33 : decode cX8_thing 33 = .ok (.aload_n 0, 1) := by decide +kernel
theorem dX8_thing_34 : decode cX8_thing 34 = .ok (.getfield 10, 3) := by decide +kernel
theorem dX8_thing_37 : decode cX8_thing 37 = .ok (.iload_n 1, 1) := by decide +kernel
theorem dX8_thing_38 : decode cX8_thing 38 = .ok (.iload_n 2, 1) := by decide +kernel
theorem dX8_thing_39 : decode cX8_thing 39 = .ok (.invokevirtual 84, 3) := by decide +kernel
theorem dX8_thing_42 : decode cX8_thing 42 = .ok (.aload_n 0, 1) := by decide +kernel
theorem dX8_thing_43 : decode cX8_thing 43 = .ok (.getfield 19, 3) := by decide +kernel
theorem dX8_thing_46 : decode cX8_thing 46 = .ok (.aload_n 0, 1) := by decide +kernel
theorem dX8_thing_47 : decode cX8_thing 47 = .ok (.getfield 10, 3) := by decide +kernel
theorem dX8_thing_50 : decode cX8_thing 50 = .ok (.invokevirtual 23, 3) := by decide +kernel
theorem dX8_thing_53 : decode cX8_thing 53 = .ok (.ifCond .ne 23, 3) := by decide +kernel
theorem dX8_thing_56 : decode cX8_thing 56 = .ok (.aload_n 0, 1) := by decide +kernel
theorem dX8_thing_57 : decode cX8_thing 57 = .ok (.getfield 10, 3) := by decide +kernel
theorem dX8_thing_60 : decode cX8_thing 60 = .ok (.dup, 1) := by decide +kernel
theorem dX8_thing_61 : decode cX8_thing 61 = .ok (.getfield 80, 3) := by decide +kernel
theorem dX8_thing_64 : decode cX8_thing 64 = .ok (.iconst 1, 1) := by decide +kernel
theorem dX8_thing_65 : decode cX8_thing 65 = .ok (.isub, 1) := by decide +kernel
theorem dX8_thing_66 : decode cX8_thing 66 = .ok (.putfield 80, 3) := by decide +kernel
theorem dX8_thing_69 : decode cX8_thing 69 = .ok (.aload_n 0, 1) := by decide +kernel
theorem dX8_thing_70 : decode cX8_thing 70 = .ok (.bipush (-5), 2) := by decide +kernel
theorem dX8_thing_72 : decode cX8_thing 72 = .ok (.invokevirtual 76, 3) := by decide +kernel
theorem dX8_thing_75 : decode cX8_thing 75 = .ok (.ireturn, 1) := by decide +kernel
theorem dX8_thing_76 : decode cX8_thing 76 = .ok (.aload_n 0, 1) := by decide +kernel
theorem dX8_thing_77 : decode cX8_thing 77 = .ok (.aload_n 0, 1) := by decide +kernel
theorem dX8_thing_78 : decode cX8_thing 78 = .ok (.getfield 10, 3) := by decide +kernel
theorem dX8_thing_81 : decode cX8_thing 81 = .ok (.getfield 80, 3) := by decide +kernel
theorem dX8_thing_84 : decode cX8_thing 84 = .ok (.iconst 1, 1) := by decide +kernel
theorem dX8_thing_85 : decode cX8_thing 85 = .ok (.isub, 1) := by decide +kernel
theorem dX8_thing_86 : decode cX8_thing 86 = .ok (.invokevirtual 88, 3) := by decide +kernel
theorem dX8_thing_89 : decode cX8_thing 89 = .ok (.ireturn, 1) := by decide +kernel
theorem dX8_ends_0 : decode cX8_ends 0 = .ok (.iload_n 2, 1) := by decide +kernel
theorem dX8_ends_1 : decode cX8_ends 1 = .ok (.iload_n 3, 1) := by decide +kernel
theorem dX8_ends_2 : decode cX8_ends 2 = .ok (.invokestatic 72, 3) := by decide +kernel
theorem dX8_ends_5 : decode cX8_ends 5 = .ok (.ifCond .ne 9, 3) := by decide +kernel
theorem dX8_ends_8 : decode cX8_ends 8 = .ok (.aload_n 0, 1) := by decide +kernel
theorem dX8_ends_9 : decode cX8_ends 9 = .ok (.iconst (-1), 1) := by decide +kernel
theorem dX8_ends_10 : decode cX8_ends 10 = .ok (.invokevirtual 76, 3) := by decide +kernel
theorem dX8_ends_13 : decode cX8_ends 13 = .ok (.ireturn, 1) := by decide +kernel
theorem dX8_ends_14 : decode cX8_ends 14 = .ok (.aload_n 0, 1) := by decide +kernel
theorem dX8_ends_15 : decode cX8_ends 15 = .ok (.iload_n 1, 1) := by decide +kernel
theorem dX8_ends_16 : decode cX8_ends 16 = .ok (.invokevirtual 91, 3) := by decide +kernel
theorem dX8_ends_19 : decode cX8_ends 19 = .ok (.ifCond .ne 10, 3) := by decide +kernel
theorem dX8_ends_22 : decode cX8_ends 22 = .ok (.aload_n 0, 1) := by decide +kernel
theorem dX8_ends_23 : decode cX8_ends 23 = .ok (.bipush (-2), 2) := by decide +kernel
theorem dX8_ends_25 : decode cX8_ends 25 = .ok (.invokevirtual 76, 3) := by decide +kernel
theorem dX8_ends_28 : decode cX8_ends 28 = .ok (.ireturn, 1) := by decide +kernel
theorem dX8_ends_29 : decode cX8_ends 29 = .ok (.aload_n 0, 1) := by decide +kernel
theorem dX8_ends_30 : decode cX8_ends 30 = .ok (.getfield 10, 3) := by decide +kernel
theorem dX8_ends_33 : decode cX8_ends 33 = .ok (.getfield 95, 3) := by decide +kernel
theorem dX8_ends_36 : decode cX8_ends 36 = .ok (.iload_n 1, 1) := by decide +kernel
theorem dX8_ends_37 : decode cX8_ends 37 = .ok (.iload_n 2, 1) := by decide +kernel
theorem dX8_ends_38 : decode cX8_ends 38 = .ok (.iastore, 1) := by decide +kernel
theorem dX8_ends_39 : decode cX8_ends 39 = .ok (.aload_n 0, 1) := by decide +kernel
theorem dX8_ends_40 : decode cX8_ends 40 = .ok (.getfield 10, 3) := by decide +kernel
theorem dX8_ends_43 : decode cX8_ends 43 = .ok (.getfield 99, 3) := by decide +kernel
theorem dX8_ends_46 : decode cX8_ends 46 = .ok (.iload_n 1, 1) := by decide +kernel
theorem dX8_ends_47 : decode cX8_ends 47 = .ok (.iload_n 3, 1) := by decide +kernel
theorem dX8_ends_48 : decode cX8_ends 48 = .ok (.iastore, 1) := by decide +kernel
theorem dX8_ends_49 : decode cX8_ends 49 = .ok (.aload_n 0, 1) := by decide +kernel
theorem dX8_ends_50 : decode cX8_ends 50 = .ok (.iconst 0, 1) := by decide +kernel
theorem dX8_ends_51 : decode cX8_ends 51 = .ok (.invokevirtual 88, 3) := by decide +kernel
theorem dX8_ends_54 : decode cX8_ends 54 = .ok (.ireturn, 1) := by decide +kernel
theorem dX8_posts_0 : decode cX8_posts 0 = .ok (.iload_n 2, 1) := by decide +kernel
theorem dX8_posts_1 : decode cX8_posts 1 = .ok (.bipush 6, 2) := by decide +kernel
theorem dX8_posts_3 : decode cX8_posts 3 = .ok (.invokestatic 102, 3) := by decide +kernel
theorem dX8_posts_6 : decode cX8_posts 6 = .ok (.ifCond .eq 12, 3) := by decide +kernel
theorem dX8_posts_9 : decode cX8_posts 9 = .ok (.iload_n 3, 1) := by decide +kernel
theorem dX8_posts_10 : decode cX8_posts 10 = .ok (.bipush 6, 2) := by decide +kernel
theorem dX8_posts_12 : decode cX8_posts 12 = .ok (.invokestatic 102, 3) := by decide +kernel
theorem dX8_posts_15 : decode cX8_posts 15 = .ok (.ifCond .ne 9, 3) := by decide +kernel
theorem dX8_posts_18 : decode cX8_posts 18 = .ok (.aload_n 0, 1) := by decide +kernel
theorem dX8_posts_19 : decode cX8_posts 19 = .ok (.iconst (-1), 1) := by decide +kernel
theorem dX8_posts_20 : decode cX8_posts 20 = .ok (.invokevirtual 76, 3) := by decide +kernel
theorem dX8_posts_23 : decode cX8_posts 23 = .ok (.ireturn, 1) := by decide +kernel
theorem dX8_posts_24 : decode cX8_posts 24 = .ok (.aload_n 0, 1) := by decide +kernel
theorem dX8_posts_25 : decode cX8_posts 25 = .ok (.iload_n 1, 1) := by decide +kernel
theorem dX8_posts_26 : decode cX8_posts 26 = .ok (.invokevirtual 91, 3) := by decide +kernel
theorem dX8_posts_29 : decode cX8_posts 29 = .ok (.ifCond .ne 10, 3) := by decide +kernel
theorem dX8_posts_32 : decode cX8_posts 32 = .ok (.aload_n 0, 1) := by decide +kernel
theorem dX8_posts_33 : decode cX8_posts 33 = .ok (.bipush (-2), 2) := by decide +kernel
theorem dX8_posts_35 : decode cX8_posts 35 = .ok (.invokevirtual 76, 3) := by decide +kernel
theorem dX8_posts_38 : decode cX8_posts 38 = .ok (.ireturn, 1) := by decide +kernel
theorem dX8_posts_39 : decode cX8_posts 39 = .ok (.aload_n 0, 1) := by decide +kernel
theorem dX8_posts_40 : decode cX8_posts 40 = .ok (.getfield 10, 3) := by decide +kernel
theorem dX8_posts_43 : decode cX8_posts 43 = .ok (.getfield 105, 3) := by decide +kernel
theorem dX8_posts_46 : decode cX8_posts 46 = .ok (.iload_n 1, 1) := by decide +kernel
theorem dX8_posts_47 : decode cX8_posts 47 = .ok (.iaload, 1) := by decide +kernel
theorem dX8_posts_48 : decode cX8_posts 48 = .ok (.istore 4, 2) := by decide +kernel
theorem dX8_posts_50 : decode cX8_posts 50 = .ok (.aload_n 0, 1) := by decide +kernel
theorem dX8_posts_51 : decode cX8_posts 51 = .ok (.getfield 10, 3) := by decide +kernel
theorem dX8_posts_54 : decode cX8_posts 54 = .ok (.getfield 108, 3) := by decide +kernel
theorem dX8_posts_57 : decode cX8_posts 57 = .ok (.iload_n 1, 1) := by decide +kernel
theorem dX8_posts_58 : decode cX8_posts 58 = .ok (.iaload, 1) := by decide +kernel
theorem dX8_posts_59 : decode cX8_posts 59 = .ok (.istore 5, 2) := by decide +kernel
theorem dX8_posts_61 : decode cX8_posts 61 = .ok (.aload_n 0, 1) := by decide +kernel
theorem dX8_posts_62 : decode cX8_posts 62 = .ok (.getfield 10, 3) := by decide +kernel
theorem dX8_posts_65 : decode cX8_posts 65 = .ok (.getfield 105, 3) := by decide +kernel
theorem dX8_posts_68 : decode cX8_posts 68 = .ok (.iload_n 1, 1) := by decide +kernel
theorem dX8_posts_69 : decode cX8_posts 69 = .ok (.iload_n 2, 1) := by decide +kernel
theorem dX8_posts_70 : decode cX8_posts 70 = .ok (.iastore, 1) := by decide +kernel
theorem dX8_posts_71 : decode cX8_posts 71 = .ok (.aload_n 0, 1) := by decide +kernel
theorem dX8_posts_72 : decode cX8_posts 72 = .ok (.getfield 10, 3) := by decide +kernel
theorem dX8_posts_75 : decode cX8_posts 75 = .ok (.getfield 108, 3) := by decide +kernel
theorem dX8_posts_78 : decode cX8_posts 78 = .ok (.iload_n 1, 1) := by decide +kernel
theorem dX8_posts_79 : decode cX8_posts 79 = .ok (.iload_n 3, 1) := by decide +kernel
theorem dX8_posts_80 : decode cX8_posts 80 = .ok (.iastore, 1) := by decide +kernel
theorem dX8_posts_81 : decode cX8_posts 81 = .ok (.aload_n 0, 1) := by decide +kernel
theorem dX8_posts_82 : decode cX8_posts 82 = .ok (.getfield 19, 3) := by decide +kernel
theorem dX8_posts_85 : decode cX8_posts 85 = .ok (.aload_n 0, 1) := by decide +kernel
theorem dX8_posts_86 : decode cX8_posts 86 = .ok (.getfield 10, 3) := by decide +kernel
theorem dX8_posts_89 : decode cX8_posts 89 = .ok (.invokevirtual 23, 3) := by decide +kernel
theorem dX8_posts_92 : decode cX8_posts 92 = .ok (.ifCond .ne 32, 3) := by decide +kernel
theorem dX8_posts_95 : decode cX8_posts 95 = .ok (.aload_n 0, 1) := by decide +kernel
theorem dX8_posts_96 : decode cX8_posts 96 = .ok (.getfield 10, 3) := by decide +kernel
theorem dX8_posts_99 : decode cX8_posts 99 = .ok (.getfield 105, 3) := by decide +kernel
theorem dX8_posts_102 : decode cX8_posts 102 = .ok (.iload_n 1, 1) := by decide +kernel
theorem dX8_posts_103 : decode cX8_posts 103 = .ok (.iload 4, 2) := by decide +kernel
theorem dX8_posts_105 : decode cX8_posts 105 = .ok (.iastore, 1) := by decide +kernel
theorem dX8_posts_106 : decode cX8_posts 106 = .ok (.aload_n 0, 1) := by decide +kernel
theorem dX8_posts_107 : decode cX8_posts 107 = .ok (.getfield 10, 3) := by decide +kernel
theorem dX8_posts_110 : decode cX8_posts 110 = .ok (.getfield 108, 3) := by decide +kernel
theorem dX8_posts_113 : decode cX8_posts 113 = .ok (.iload_n 1, 1) := by decide +kernel
theorem dX8_posts_114 : decode cX8_posts 114 = .ok (.iload 5, 2) := by decide +kernel
theorem dX8_posts_116 : decode cX8_posts 116 = .ok (.iastore, 1) := by decide +kernel
theorem dX8_posts_117 : decode cX8_posts 117 = .ok (.aload_n 0, 1) := by decide +kernel
theorem dX8_posts_118 : decode cX8_posts 118 = .ok (.bipush (-5), 2) := by decide +kernel
theorem dX8_posts_120 : decode cX8_posts 120 = .ok (.invokevirtual 76, 3) := by decide +kernel
theorem dX8_posts_123 : decode cX8_posts 123 = .ok (.ireturn, 1) := by decide +kernel
theorem dX8_posts_124 : decode cX8_posts 124 = .ok (.aload_n 0, 1) := by decide +kernel
theorem dX8_posts_125 : decode cX8_posts 125 = .ok (.iconst 0, 1) := by decide +kernel
theorem dX8_posts_126 : decode cX8_posts 126 = .ok (.invokevirtual 88, 3) := by decide +kernel
theorem dX8_posts_129 : decode cX8_posts 129 = .ok (.ireturn, 1) := by decide +kernel
theorem dX8_price_0 : decode cX8_price 0 = .ok (.iload_n 2, 1) := by decide +kernel
theorem dX8_price_1 : decode cX8_price 1 = .ok (.invokestatic 111, 3) := by decide +kernel
theorem dX8_price_4 : decode cX8_price 4 = .ok (.ifCond .ne 9, 3) := by decide +kernel
theorem dX8_price_7 : decode cX8_price 7 = .ok (.aload_n 0, 1) := by decide +kernel
theorem dX8_price_8 : decode cX8_price 8 = .ok (.iconst (-1), 1) := by decide +kernel
theorem dX8_price_9 : decode cX8_price 9 = .ok (.invokevirtual 76, 3) := by decide +kernel
theorem dX8_price_12 : decode cX8_price 12 = .ok (.ireturn, 1) := by decide +kernel
theorem dX8_price_13 : decode cX8_price 13 = .ok (.aload_n 0, 1) := by decide +kernel
theorem dX8_price_14 : decode cX8_price 14 = .ok (.iload_n 1, 1) := by decide +kernel
theorem dX8_price_15 : decode cX8_price 15 = .ok (.invokevirtual 91, 3) := by decide +kernel
theorem dX8_price_18 : decode cX8_price 18 = .ok (.ifCond .ne 10, 3) := by decide +kernel
theorem dX8_price_21 : decode cX8_price 21 = .ok (.aload_n 0, 1) := by decide +kernel
theorem dX8_price_22 : decode cX8_price 22 = .ok (.bipush (-2), 2) := by decide +kernel
theorem dX8_price_24 : decode cX8_price 24 = .ok (.invokevirtual 76, 3) := by decide +kernel
theorem dX8_price_27 : decode cX8_price 27 = .ok (.ireturn, 1) := by decide +kernel
theorem dX8_price_28 : decode cX8_price 28 = .ok (.aload_n 0, 1) := by decide +kernel
theorem dX8_price_29 : decode cX8_price 29 = .ok (.getfield 10, 3) := by decide +kernel
theorem dX8_price_32 : decode cX8_price 32 = .ok (.getfield 114, 3) := by decide +kernel
theorem dX8_price_35 : decode cX8_price 35 = .ok (.iload_n 1, 1) := by decide +kernel
theorem dX8_price_36 : decode cX8_price 36 = .ok (.iaload, 1) := by decide +kernel
theorem dX8_price_37 : decode cX8_price 37 = .ok (.istore_n 3, 1) := by decide +kernel
theorem dX8_price_38 : decode cX8_price 38 = .ok (.aload_n 0, 1) := by decide +kernel
theorem dX8_price_39 : decode cX8_price 39 = .ok (.getfield 10, 3) := by decide +kernel
theorem dX8_price_42 : decode cX8_price 42 = .ok (.getfield 114, 3) := by decide +kernel
theorem dX8_price_45 : decode cX8_price 45 = .ok (.iload_n 1, 1) := by decide +kernel
theorem dX8_price_46 : decode cX8_price 46 = .ok (.iload_n 2, 1) := by decide +kernel
theorem dX8_price_47 : decode cX8_price 47 = .ok (.iastore, 1) := by decide +kernel
theorem dX8_price_48 : decode cX8_price 48 = .ok (.aload_n 0, 1) := by decide +kernel
theorem dX8_price_49 : decode cX8_price 49 = .ok (.iload_n 3, 1) := by decide +kernel
theorem dX8_price_50 : decode cX8_price 50 = .ok (.invokevirtual 88, 3) := by decide +kernel
theorem dX8_price_53 : decode cX8_price 53 = .ok (.ireturn, 1) := by decide +kernel
theorem dX8_kind_0 : decode cX8_kind 0 = .ok (.iload_n 1, 1) := by decide +kernel
theorem dX8_kind_1 : decode cX8_kind 1 = .ok (.iconst 4, 1) := by decide +kernel
theorem dX8_kind_2 : decode cX8_kind 2 = .ok (.invokestatic 102, 3) := by decide +kernel
theorem dX8_kind_5 : decode cX8_kind 5 = .ok (.ifCond .eq 21, 3) := by decide +kernel
theorem dX8_kind_8 : decode cX8_kind 8 = .ok (.iload_n 2, 1) := by decide +kernel
theorem dX8_kind_9 : decode cX8_kind 9 = .ok (.getstatic 117, 3) := by decide +kernel
theorem dX8_kind_12 : decode cX8_kind 12 = .ok (.iload_n 1, 1) := by decide +kernel
theorem dX8_kind_13 : decode cX8_kind 13 = .ok (.iaload, 1) := by decide +kernel
theorem dX8_kind_14 : decode cX8_kind 14 = .ok (.if_icmp .lt 12, 3) := by decide +kernel
theorem dX8_kind_17 : decode cX8_kind 17 = .ok (.iload_n 2, 1) := by decide +kernel
theorem dX8_kind_18 : decode cX8_kind 18 = .ok (.getstatic 120, 3) := by decide +kernel
theorem dX8_kind_21 : decode cX8_kind 21 = .ok (.iload_n 1, 1) := by decide +kernel
theorem dX8_kind_22 : decode cX8_kind 22 = .ok (.iaload, 1) := by decide +kernel
theorem dX8_kind_23 : decode cX8_kind 23 = .ok (.if_icmp .le 9, 3) := by decide +kernel
theorem dX8_kind_26 : decode cX8_kind 26 = .ok (.aload_n 0, 1) := by decide +kernel
theorem dX8_kind_27 : decode cX8_kind 27 = .ok (.iconst (-1), 1) := by decide +kernel
theorem dX8_kind_28 : decode cX8_kind 28 = .ok (.invokevirtual 76, 3) := by decide +kernel
theorem dX8_kind_31 : decode cX8_kind 31 = .ok (.ireturn, 1) := by decide +kernel
theorem dX8_kind_32 : decode cX8_kind 32 = .ok (.aload_n 0, 1) := by decide +kernel
theorem dX8_kind_33 : decode cX8_kind 33 = .ok (.getfield 10, 3) := by decide +kernel
theorem dX8_kind_36 : decode cX8_kind 36 = .ok (.getfield 123, 3) := by decide +kernel
theorem dX8_kind_39 : decode cX8_kind 39 = .ok (.istore_n 3, 1) := by decide +kernel
theorem dX8_kind_40 : decode cX8_kind 40 = .ok (.aload_n 0, 1) := by decide +kernel
theorem dX8_kind_41 : decode cX8_kind 41 = .ok (.getfield 10, 3) := by decide +kernel
theorem dX8_kind_44 : decode cX8_kind 44 = .ok (.getfield 126, 3) := by decide +kernel
theorem dX8_kind_47 : decode cX8_kind 47 = .ok (.istore 4, 2) := by decide +kernel
theorem dX8_kind_49 : decode cX8_kind 49 = .ok (.aload_n 0, 1) := by decide +kernel
theorem dX8_kind_50 : decode cX8_kind 50 = .ok (.getfield 10, 3) := by decide +kernel
theorem dX8_kind_53 : decode cX8_kind 53 = .ok (.iload_n 1, 1) := by decide +kernel
theorem dX8_kind_54 : decode cX8_kind 54 = .ok (.putfield 123, 3) := by decide +kernel
theorem dX8_kind_57 : decode cX8_kind 57 = .ok (.aload_n 0, 1) := by decide +kernel
theorem dX8_kind_58 : decode cX8_kind 58 = .ok (.getfield 10, 3) := by decide +kernel
theorem dX8_kind_61 : decode cX8_kind 61 = .ok (.iload_n 2, 1) := by decide +kernel
theorem dX8_kind_62 : decode cX8_kind 62 = .ok (.putfield 126, 3) := by decide +kernel
theorem dX8_kind_65 : decode cX8_kind 65 = .ok (.aload_n 0, 1) := by decide +kernel
theorem dX8_kind_66 : decode cX8_kind 66 = .ok (.getfield 19, 3) := by decide +kernel
theorem dX8_kind_69 : decode cX8_kind 69 = .ok (.aload_n 0, 1) := by decide +kernel
theorem dX8_kind_70 : decode cX8_kind 70 = .ok (.getfield 10, 3) := by decide +kernel
theorem dX8_kind_73 : decode cX8_kind 73 = .ok (.invokevirtual 23, 3) := by decide +kernel
theorem dX8_kind_76 : decode cX8_kind 76 = .ok (.ifCond .ne 27, 3) := by decide +kernel
theorem dX8_kind_79 : decode cX8_kind 79 = .ok (.aload_n 0, 1) := by decide +kernel
theorem dX8_kind_80 : decode cX8_kind 80 = .ok (.getfield 10, 3) := by decide +kernel
theorem dX8_kind_83 : decode cX8_kind 83 = .ok (.iload_n 3, 1) := by decide +kernel
theorem dX8_kind_84 : decode cX8_kind 84 = .ok (.putfield 123, 3) := by decide +kernel
theorem dX8_kind_87 : decode cX8_kind 87 = .ok (.aload_n 0, 1) := by decide +kernel
theorem dX8_kind_88 : decode cX8_kind 88 = .ok (.getfield 10, 3) := by decide +kernel
theorem dX8_kind_91 : decode cX8_kind 91 = .ok (.iload 4, 2) := by decide +kernel
theorem dX8_kind_93 : decode cX8_kind 93 = .ok (.putfield 126, 3) := by decide +kernel
theorem dX8_kind_96 : decode cX8_kind 96 = .ok (.aload_n 0, 1) := by decide +kernel
theorem dX8_kind_97 : decode cX8_kind 97 = .ok (.bipush (-5), 2) := by decide +kernel
theorem dX8_kind_99 : decode cX8_kind 99 = .ok (.invokevirtual 76, 3) := by decide +kernel
theorem dX8_kind_102 : decode cX8_kind 102 = .ok (.ireturn, 1) := by decide +kernel
theorem dX8_kind_103 : decode cX8_kind 103 = .ok (.aload_n 0, 1) := by decide +kernel
theorem dX8_kind_104 : decode cX8_kind 104 = .ok (.aload_n 0, 1) := by decide +kernel
theorem dX8_kind_105 : decode cX8_kind 105 = .ok (.getfield 19, 3) := by decide +kernel
theorem dX8_kind_108 : decode cX8_kind 108 = .ok (.getfield 129, 3) := by decide +kernel
theorem dX8_kind_111 : decode cX8_kind 111 = .ok (.invokevirtual 88, 3) := by decide +kernel
theorem dX8_kind_114 : decode cX8_kind 114 = .ok (.ireturn, 1) := by decide +kernel
theorem dX8_sheet_0 : decode cX8_sheet 0 = .ok (.iload_n 1, 1) := by decide +kernel
theorem dX8_sheet_1 : decode cX8_sheet 1 = .ok (.iconst 4, 1) := by decide +kernel
theorem dX8_sheet_2 : decode cX8_sheet 2 = .ok (.invokestatic 102, 3) := by decide +kernel
theorem dX8_sheet_5 : decode cX8_sheet 5 = .ok (.ifCond .eq 17, 3) := by decide +kernel
theorem dX8_sheet_8 : decode cX8_sheet 8 = .ok (.iload_n 2, 1) := by decide +kernel
theorem dX8_sheet_9 : decode cX8_sheet 9 = .ok (.iconst 3, 1) := by decide +kernel
theorem dX8_sheet_10 : decode cX8_sheet 10 = .ok (.invokestatic 102, 3) := by decide +kernel
theorem dX8_sheet_13 : decode cX8_sheet 13 = .ok (.ifCond .eq 9, 3) := by decide +kernel
theorem dX8_sheet_16 : decode cX8_sheet 16 = .ok (.iload_n 3, 1) := by decide +kernel
theorem dX8_sheet_17 : decode cX8_sheet 17 = .ok (.bipush 100, 2) := by decide +kernel
theorem dX8_sheet_19 : decode cX8_sheet 19 = .ok (.if_icmp .le 9, 3) := by decide +kernel
theorem dX8_sheet_22 : decode cX8_sheet 22 = .ok (.aload_n 0, 1) := by decide +kernel
theorem dX8_sheet_23 : decode cX8_sheet 23 = .ok (.iconst (-1), 1) := by decide +kernel
theorem dX8_sheet_24 : decode cX8_sheet 24 = .ok (.invokevirtual 76, 3) := by decide +kernel
theorem dX8_sheet_27 : decode cX8_sheet 27 = .ok (.ireturn, 1) := by decide +kernel
theorem dX8_sheet_28 : decode cX8_sheet 28 = .ok (.iload_n 3, 1) := by decide +kernel
theorem dX8_sheet_29 : decode cX8_sheet 29 = .ok (.ifCond .ge 19, 3) := by decide +kernel
theorem dX8_sheet_32 : decode cX8_sheet 32 = .ok (.aload_n 0, 1) := by decide +kernel
theorem dX8_sheet_33 : decode cX8_sheet 33 = .ok (.getfield 29, 3) := by decide +kernel
theorem dX8_sheet_36 : decode cX8_sheet 36 = .ok (.iload_n 1, 1) := by decide +kernel
theorem dX8_sheet_37 : decode cX8_sheet 37 = .ok (.aaload, 1) := by decide +kernel
theorem dX8_sheet_38 : decode cX8_sheet 38 = .ok (.invokevirtual 132, 3) := by decide +kernel
theorem dX8_sheet_41 : decode cX8_sheet 41 = .ok (.aload_n 0, 1) := by decide +kernel
theorem dX8_sheet_42 : decode cX8_sheet 42 = .ok (.bipush (-4), 2) := by decide +kernel
theorem dX8_sheet_44 : decode cX8_sheet 44 = .ok (.invokevirtual 76, 3) := by decide +kernel
theorem dX8_sheet_47 : decode cX8_sheet 47 = .ok (.ireturn, 1) := by decide +kernel
theorem dX8_sheet_48 : decode cX8_sheet 48 = .ok (.aload_n 0, 1) := by decide +kernel
theorem dX8_sheet_49 : decode cX8_sheet 49 = .ok (.getfield 29, 3) := by decide +kernel
theorem dX8_sheet_52 : decode cX8_sheet 52 = .ok (.iload_n 1, 1) := by decide +kernel
theorem dX8_sheet_53 : decode cX8_sheet 53 = .ok (.aaload, 1) := by decide +kernel
theorem dX8_sheet_54 : decode cX8_sheet 54 = .ok (.iload_n 2, 1) := by decide +kernel
theorem dX8_sheet_55 : decode cX8_sheet 55 = .ok (.iload_n 3, 1) := by decide +kernel
theorem dX8_sheet_56 : decode cX8_sheet 56 = .ok (.invokevirtual 135, 3) := by decide +kernel
theorem dX8_sheet_59 : decode cX8_sheet 59 = .ok (.aload_n 0, 1) := by decide +kernel
theorem dX8_sheet_60 : decode cX8_sheet 60 = .ok (.iload_n 3, 1) := by decide +kernel
theorem dX8_sheet_61 : decode cX8_sheet 61 = .ok (.invokevirtual 88, 3) := by decide +kernel
theorem dX8_sheet_64 : decode cX8_sheet 64 = .ok (.ireturn, 1) := by decide +kernel
theorem dX8_write_0 : decode cX8_write 0 = .ok (.iload_n 1, 1) := by decide +kernel
theorem dX8_write_1 : decode cX8_write 1 = .ok (.iconst 4, 1) := by decide +kernel
theorem dX8_write_2 : decode cX8_write 2 = .ok (.invokestatic 102, 3) := by decide +kernel
theorem dX8_write_5 : decode cX8_write 5 = .ok (.ifCond .ne 9, 3) := by decide +kernel
theorem dX8_write_8 : decode cX8_write 8 = .ok (.aload_n 0, 1) := by decide +kernel
theorem dX8_write_9 : decode cX8_write 9 = .ok (.iconst (-1), 1) := by decide +kernel
theorem dX8_write_10 : decode cX8_write 10 = .ok (.invokevirtual 76, 3) := by decide +kernel
theorem dX8_write_13 : decode cX8_write 13 = .ok (.ireturn, 1) := by decide +kernel
theorem dX8_write_14 : decode cX8_write 14 = .ok (.aload_n 0, 1) := by decide +kernel
theorem dX8_write_15 : decode cX8_write 15 = .ok (.getfield 29, 3) := by decide +kernel
theorem dX8_write_18 : decode cX8_write 18 = .ok (.iload_n 1, 1) := by decide +kernel
theorem dX8_write_19 : decode cX8_write 19 = .ok (.aaload, 1) := by decide +kernel
theorem dX8_write_20 : decode cX8_write 20 = .ok (.invokevirtual 138, 3) := by decide +kernel
theorem dX8_write_23 : decode cX8_write 23 = .ok (.ifCond .eq 10, 3) := by decide +kernel
theorem dX8_write_26 : decode cX8_write 26 = .ok (.aload_n 0, 1) := by decide +kernel
theorem dX8_write_27 : decode cX8_write 27 = .ok (.bipush (-2), 2) := by decide +kernel
theorem dX8_write_29 : decode cX8_write 29 = .ok (.invokevirtual 76, 3) := by decide +kernel
theorem dX8_write_32 : decode cX8_write 32 = .ok (.ireturn, 1) := by decide +kernel
theorem dX8_write_33 : decode cX8_write 33 = .ok (.aload_n 0, 1) := by decide +kernel
theorem dX8_write_34 : decode cX8_write 34 = .ok (.getfield 29, 3) := by decide +kernel
theorem dX8_write_37 : decode cX8_write 37 = .ok (.iload_n 1, 1) := by decide +kernel
theorem dX8_write_38 : decode cX8_write 38 = .ok (.aaload, 1) := by decide +kernel
theorem dX8_write_39 : decode cX8_write 39 = .ok (.iload_n 2, 1) := by decide +kernel
theorem dX8_write_40 : decode cX8_write 40 = .ok (.i2l, 1) := by decide +kernel
theorem dX8_write_41 : decode cX8_write 41 = .ok (.invokevirtual 142, 3) := by decide +kernel
theorem dX8_write_44 : decode cX8_write 44 = .ok (.ifCond .ne 10, 3) := by decide +kernel
theorem dX8_write_47 : decode cX8_write 47 = .ok (.aload_n 0, 1) := by decide +kernel
theorem dX8_write_48 : decode cX8_write 48 = .ok (.bipush (-3), 2) := by decide +kernel
theorem dX8_write_50 : decode cX8_write 50 = .ok (.invokevirtual 76, 3) := by decide +kernel
theorem dX8_write_53 : decode cX8_write 53 = .ok (.ireturn, 1) := by decide +kernel
theorem dX8_write_54 : decode cX8_write 54 = .ok (.aload_n 0, 1) := by decide +kernel
theorem dX8_write_55 : decode cX8_write 55 = .ok (.getfield 29, 3) := by decide +kernel
theorem dX8_write_58 : decode cX8_write 58 = .ok (.iload_n 1, 1) := by decide +kernel
theorem dX8_write_59 : decode cX8_write 59 = .ok (.aaload, 1) := by decide +kernel
theorem dX8_write_60 : decode cX8_write 60 = .ok (.iload_n 2, 1) := by decide +kernel
theorem dX8_write_61 : decode cX8_write 61 = .ok (.iload_n 3, 1) := by decide +kernel
theorem dX8_write_62 : decode cX8_write 62 = .ok (.invokevirtual 146, 3) := by decide +kernel
theorem dX8_write_65 : decode cX8_write 65 = .ok (.aload_n 0, 1) := by decide +kernel
theorem dX8_write_66 : decode cX8_write 66 = .ok (.iconst 0, 1) := by decide +kernel
theorem dX8_write_67 : decode cX8_write 67 = .ok (.invokevirtual 88, 3) := by decide +kernel
theorem dX8_write_70 : decode cX8_write 70 = .ok (.ireturn, 1) := by decide +kernel
theorem dX8_world_0 : decode cX8_world 0 = .ok (.iload_n 1, 1) := by decide +kernel
theorem dX8_world_1 : decode cX8_world 1 = .ok (.bipush 8, 2) := by decide +kernel
theorem dX8_world_3 : decode cX8_world 3 = .ok (.invokestatic 102, 3) := by decide +kernel
theorem dX8_world_6 : decode cX8_world 6 = .ok (.ifCond .eq 15, 3) := by decide +kernel
theorem dX8_world_9 : decode cX8_world 9 = .ok (.iload_n 2, 1) := by decide +kernel
theorem dX8_world_10 : decode cX8_world 10 = .ok (.iconst 4, 1) := by decide +kernel
theorem dX8_world_11 : decode cX8_world 11 = .ok (.invokestatic 102, 3) := by decide +kernel
theorem dX8_world_14 : decode cX8_world 14 = .ok (.ifCond .eq 7, 3) := by decide +kernel
theorem dX8_world_17 : decode cX8_world 17 = .ok (.iload_n 3, 1) := by decide +kernel
theorem dX8_world_18 : decode cX8_world 18 = .ok (.ifCond .ge 9, 3) := by decide +kernel
theorem dX8_world_21 : decode cX8_world 21 = .ok (.aload_n 0, 1) := by decide +kernel
theorem dX8_world_22 : decode cX8_world 22 = .ok (.iconst (-1), 1) := by decide +kernel
theorem dX8_world_23 : decode cX8_world 23 = .ok (.invokevirtual 76, 3) := by decide +kernel
theorem dX8_world_26 : decode cX8_world 26 = .ok (.ireturn, 1) := by decide +kernel
theorem dX8_world_27 : decode cX8_world 27 = .ok (.aload_n 0, 1) := by decide +kernel
theorem dX8_world_28 : decode cX8_world 28 = .ok (.aload_n 0, 1) := by decide +kernel
theorem dX8_world_29 : decode cX8_world 29 = .ok (.getfield 29, 3) := by decide +kernel
theorem dX8_world_32 : decode cX8_world 32 = .ok (.iload_n 2, 1) := by decide +kernel
theorem dX8_world_33 : decode cX8_world 33 = .ok (.aaload, 1) := by decide +kernel
theorem dX8_world_34 : decode cX8_world 34 = .ok (.iload_n 3, 1) := by decide +kernel
theorem dX8_world_35 : decode cX8_world 35 = .ok (.invokevirtual 149, 3) := by decide +kernel
theorem dX8_world_38 : decode cX8_world 38 = .ok (.ifCond .ne 9, 3) := by decide +kernel
theorem dX8_world_41 : decode cX8_world 41 = .ok (.aload_n 0, 1) := by decide +kernel
theorem dX8_world_42 : decode cX8_world 42 = .ok (.iconst (-1), 1) := by decide +kernel
theorem dX8_world_43 : decode cX8_world 43 = .ok (.invokevirtual 76, 3) := by decide +kernel
theorem dX8_world_46 : decode cX8_world 46 = .ok (.ireturn, 1) := by decide +kernel
theorem dX8_world_47 : decode cX8_world 47 = .ok (.iconst 0, 1) := by decide +kernel
theorem dX8_world_48 : decode cX8_world 48 = .ok (.istore 4, 2) := by decide +kernel
theorem dX8_world_50 : decode cX8_world 50 = .ok (.iload 4, 2) := by decide +kernel
theorem dX8_world_52 : decode cX8_world 52 = .ok (.aload_n 0, 1) := by decide +kernel
theorem dX8_world_53 : decode cX8_world 53 = .ok (.getfield 10, 3) := by decide +kernel
theorem dX8_world_56 : decode cX8_world 56 = .ok (.getfield 80, 3) := by decide +kernel
theorem dX8_world_59 : decode cX8_world 59 = .ok (.if_icmp .ge 36, 3) := by decide +kernel
theorem dX8_world_62 : decode cX8_world 62 = .ok (.aload_n 0, 1) := by decide +kernel
theorem dX8_world_63 : decode cX8_world 63 = .ok (.getfield 10, 3) := by decide +kernel
theorem dX8_world_66 : decode cX8_world 66 = .ok (.getfield 153, 3) := by decide +kernel
theorem dX8_world_69 : decode cX8_world 69 = .ok (.iload_n 1, 1) := by decide +kernel
theorem dX8_world_70 : decode cX8_world 70 = .ok (.aaload, 1) := by decide +kernel
theorem dX8_world_71 : decode cX8_world 71 = .ok (.iload 4, 2) := by decide +kernel
theorem dX8_world_73 : decode cX8_world 73 = .ok (.aload_n 0, 1) := by decide +kernel
theorem dX8_world_74 : decode cX8_world 74 = .ok (.getfield 29, 3) := by decide +kernel
theorem dX8_world_77 : decode cX8_world 77 = .ok (.iload_n 2, 1) := by decide +kernel
theorem dX8_world_78 : decode cX8_world 78 = .ok (.aaload, 1) := by decide +kernel
theorem dX8_world_79 : decode cX8_world 79 = .ok (.iload_n 3, 1) := by decide +kernel
theorem dX8_world_80 : decode cX8_world 80 = .ok (.i2l, 1) := by decide +kernel
theorem dX8_world_81 : decode cX8_world 81 = .ok (.iload 4, 2) := by decide +kernel
theorem dX8_world_83 : decode cX8_world 83 = .ok (.i2l, 1) := by decide +kernel
theorem dX8_world_84 : decode cX8_world 84 = .ok (.ladd, 1) := by decide +kernel
theorem dX8_world_85 : decode cX8_world 85 = .ok (.invokevirtual 157, 3) := by decide +kernel
theorem dX8_world_88 : decode cX8_world 88 = .ok (.iastore, 1) := by decide +kernel
theorem dX8_world_89 : decode cX8_world 89 = .ok (.iinc 4 1, 3) := by decide +kernel
theorem dX8_world_92 : decode cX8_world 92 = .ok (.goto (-42), 3) := by decide +kernel
theorem dX8_world_95 : decode cX8_world 95 = .ok (.aload_n 0, 1) := by decide +kernel
theorem dX8_world_96 : decode cX8_world 96 = .ok (.getfield 10, 3) := by decide +kernel
theorem dX8_world_99 : decode cX8_world 99 = .ok (.dup, 1) := by decide +kernel
theorem dX8_world_100 : decode cX8_world 100 = .ok (.getfield 161, 3) := by decide +kernel
theorem dX8_world_103 : decode cX8_world 103 = .ok (.iconst 1, 1) := by decide +kernel
theorem dX8_world_104 : decode cX8_world 104 = .ok (.iload_n 1, 1) := by decide +kernel
theorem dX8_world_105 : decode cX8_world 105 = .ok (.ishl, 1) := by decide +kernel
theorem dX8_world_106 : decode cX8_world 106 = .ok (.ior, 1) := by decide +kernel
theorem dX8_world_107 : decode cX8_world 107 = .ok (.putfield 161, 3) := by decide +kernel
theorem dX8_world_110 : decode cX8_world 110 = .ok (.aload_n 0, 1) := by decide +kernel
theorem dX8_world_111 : decode cX8_world 111 = .ok (.aload_n 0, 1) := by decide +kernel
theorem dX8_world_112 : decode cX8_world 112 = .ok (.getfield 10, 3) := by decide +kernel
theorem dX8_world_115 : decode cX8_world 115 = .ok (.getfield 161, 3) := by decide +kernel
theorem dX8_world_118 : decode cX8_world 118 = .ok (.invokestatic 164, 3) := by decide +kernel
theorem dX8_world_121 : decode cX8_world 121 = .ok (.invokevirtual 88, 3) := by decide +kernel
theorem dX8_world_124 : decode cX8_world 124 = .ok (.ireturn, 1) := by decide +kernel
theorem dX8_forget_0 : decode cX8_forget 0 = .ok (.iload_n 1, 1) := by decide +kernel
theorem dX8_forget_1 : decode cX8_forget 1 = .ok (.bipush 8, 2) := by decide +kernel
theorem dX8_forget_3 : decode cX8_forget 3 = .ok (.invokestatic 102, 3) := by decide +kernel
theorem dX8_forget_6 : decode cX8_forget 6 = .ok (.ifCond .ne 9, 3) := by decide +kernel
theorem dX8_forget_9 : decode cX8_forget 9 = .ok (.aload_n 0, 1) := by decide +kernel
theorem dX8_forget_10 : decode cX8_forget 10 = .ok (.iconst (-1), 1) := by decide +kernel
theorem dX8_forget_11 : decode cX8_forget 11 = .ok (.invokevirtual 76, 3) := by decide +kernel
theorem dX8_forget_14 : decode cX8_forget 14 = .ok (.ireturn, 1) := by decide +kernel
theorem dX8_forget_15 : decode cX8_forget 15 = .ok (.aload_n 0, 1) := by decide +kernel
theorem dX8_forget_16 : decode cX8_forget 16 = .ok (.getfield 10, 3) := by decide +kernel
theorem dX8_forget_19 : decode cX8_forget 19 = .ok (.iload_n 1, 1) := by decide +kernel
theorem dX8_forget_20 : decode cX8_forget 20 = .ok (.invokevirtual 169, 3) := by decide +kernel
theorem dX8_forget_23 : decode cX8_forget 23 = .ok (.ifCond .ne 10, 3) := by decide +kernel
theorem dX8_forget_26 : decode cX8_forget 26 = .ok (.aload_n 0, 1) := by decide +kernel
theorem dX8_forget_27 : decode cX8_forget 27 = .ok (.bipush (-2), 2) := by decide +kernel
theorem dX8_forget_29 : decode cX8_forget 29 = .ok (.invokevirtual 76, 3) := by decide +kernel
theorem dX8_forget_32 : decode cX8_forget 32 = .ok (.ireturn, 1) := by decide +kernel
theorem dX8_forget_33 : decode cX8_forget 33 = .ok (.aload_n 0, 1) := by decide +kernel
theorem dX8_forget_34 : decode cX8_forget 34 = .ok (.getfield 10, 3) := by decide +kernel
theorem dX8_forget_37 : decode cX8_forget 37 = .ok (.dup, 1) := by decide +kernel
theorem dX8_forget_38 : decode cX8_forget 38 = .ok (.getfield 161, 3) := by decide +kernel
theorem dX8_forget_41 : decode cX8_forget 41 = .ok (.iconst 1, 1) := by decide +kernel
theorem dX8_forget_42 : decode cX8_forget 42 = .ok (.iload_n 1, 1) := by decide +kernel
theorem dX8_forget_43 : decode cX8_forget 43 = .ok (.ishl, 1) := by decide +kernel
theorem dX8_forget_44 : decode cX8_forget 44 = .ok (.iconst (-1), 1) := by decide +kernel
theorem dX8_forget_45 : decode cX8_forget 45 = .ok (.ixor, 1) := by decide +kernel
theorem dX8_forget_46 : decode cX8_forget 46 = .ok (.iand, 1) := by decide +kernel
theorem dX8_forget_47 : decode cX8_forget 47 = .ok (.putfield 161, 3) := by decide +kernel
theorem dX8_forget_50 : decode cX8_forget 50 = .ok (.aload_n 0, 1) := by decide +kernel
theorem dX8_forget_51 : decode cX8_forget 51 = .ok (.iconst 0, 1) := by decide +kernel
theorem dX8_forget_52 : decode cX8_forget 52 = .ok (.invokevirtual 88, 3) := by decide +kernel
theorem dX8_forget_55 : decode cX8_forget 55 = .ok (.ireturn, 1) := by decide +kernel
theorem dX8_count_0 : decode cX8_count 0 = .ok (.iload_n 1, 1) := by decide +kernel
theorem dX8_count_1 : decode cX8_count 1 = .ok (.tableswitch 87 0 5 #[39, 47, 55, 66, 74, 82], 39) := by decide +kernel
theorem dX8_count_40 : decode cX8_count 40 = .ok (.aload_n 0, 1) := by decide +kernel
theorem dX8_count_41 : decode cX8_count 41 = .ok (.getfield 10, 3) := by decide +kernel
theorem dX8_count_44 : decode cX8_count 44 = .ok (.getfield 80, 3) := by decide +kernel
theorem dX8_count_47 : decode cX8_count 47 = .ok (.ireturn, 1) := by decide +kernel
theorem dX8_count_48 : decode cX8_count 48 = .ok (.aload_n 0, 1) := by decide +kernel
theorem dX8_count_49 : decode cX8_count 49 = .ok (.getfield 19, 3) := by decide +kernel
theorem dX8_count_52 : decode cX8_count 52 = .ok (.getfield 129, 3) := by decide +kernel
theorem dX8_count_55 : decode cX8_count 55 = .ok (.ireturn, 1) := by decide +kernel
theorem dX8_count_56 : decode cX8_count 56 = .ok (.aload_n 0, 1) := by decide +kernel
theorem dX8_count_57 : decode cX8_count 57 = .ok (.getfield 10, 3) := by decide +kernel
theorem dX8_count_60 : decode cX8_count 60 = .ok (.getfield 161, 3) := by decide +kernel
theorem dX8_count_63 : decode cX8_count 63 = .ok (.invokestatic 164, 3) := by decide +kernel
theorem dX8_count_66 : decode cX8_count 66 = .ok (.ireturn, 1) := by decide +kernel
theorem dX8_count_67 : decode cX8_count 67 = .ok (.aload_n 0, 1) := by decide +kernel
theorem dX8_count_68 : decode cX8_count 68 = .ok (.getfield 10, 3) := by decide +kernel
theorem dX8_count_71 : decode cX8_count 71 = .ok (.getfield 123, 3) := by decide +kernel
theorem dX8_count_74 : decode cX8_count 74 = .ok (.ireturn, 1) := by decide +kernel
theorem dX8_count_75 : decode cX8_count 75 = .ok (.aload_n 0, 1) := by decide +kernel
theorem dX8_count_76 : decode cX8_count 76 = .ok (.getfield 10, 3) := by decide +kernel
theorem dX8_count_79 : decode cX8_count 79 = .ok (.getfield 126, 3) := by decide +kernel
theorem dX8_count_82 : decode cX8_count 82 = .ok (.ireturn, 1) := by decide +kernel
theorem dX8_count_83 : decode cX8_count 83 = .ok (.aload_n 0, 1) := by decide +kernel
theorem dX8_count_84 : decode cX8_count 84 = .ok (.invokevirtual 172, 3) := by decide +kernel
theorem dX8_count_87 : decode cX8_count 87 = .ok (.ireturn, 1) := by decide +kernel
theorem dX8_count_88 : decode cX8_count 88 = .ok (.iconst (-1), 1) := by decide +kernel
theorem dX8_count_89 : decode cX8_count 89 = .ok (.ireturn, 1) := by decide +kernel
theorem dX8_choice_0 : decode cX8_choice 0 = .ok (.aload_n 0, 1) := by decide +kernel
theorem dX8_choice_1 : decode cX8_choice 1 = .ok (.getfield 19, 3) := by decide +kernel
theorem dX8_choice_4 : decode cX8_choice 4 = .ok (.iload_n 1, 1) := by decide +kernel
theorem dX8_choice_5 : decode cX8_choice 5 = .ok (.invokevirtual 176, 3) := by decide +kernel
theorem dX8_choice_8 : decode cX8_choice 8 = .ok (.ifCond .eq 15, 3) := by decide +kernel
theorem dX8_choice_11 : decode cX8_choice 11 = .ok (.aload_n 0, 1) := by decide +kernel
theorem dX8_choice_12 : decode cX8_choice 12 = .ok (.getfield 19, 3) := by decide +kernel
theorem dX8_choice_15 : decode cX8_choice 15 = .ok (.getfield 179, 3) := by decide +kernel
theorem dX8_choice_18 : decode cX8_choice 18 = .ok (.iload_n 1, 1) := by decide +kernel
theorem dX8_choice_19 : decode cX8_choice 19 = .ok (.iaload, 1) := by decide +kernel
theorem dX8_choice_20 : decode cX8_choice 20 = .ok (.goto 4, 3) := by decide +kernel
theorem dX8_choice_23 : decode cX8_choice 23 = .ok (.iconst (-1), 1) := by decide +kernel
theorem dX8_choice_24 : decode cX8_choice 24 = .ok (.ireturn, 1) := by decide +kernel
theorem dX8_find_0 : decode cX8_find 0 = .ok (.iconst 0, 1) := by decide +kernel
theorem dX8_find_1 : decode cX8_find 1 = .ok (.istore_n 2, 1) := by decide +kernel
theorem dX8_find_2 : decode cX8_find 2 = .ok (.iload_n 2, 1) := by decide +kernel
theorem dX8_find_3 : decode cX8_find 3 = .ok (.aload_n 0, 1) := by decide +kernel
theorem dX8_find_4 : decode cX8_find 4 = .ok (.getfield 19, 3) := by decide +kernel
theorem dX8_find_7 : decode cX8_find 7 = .ok (.getfield 129, 3) := by decide +kernel
theorem dX8_find_10 : decode cX8_find 10 = .ok (.if_icmp .ge 24, 3) := by decide +kernel
theorem dX8_find_13 : decode cX8_find 13 = .ok (.aload_n 0, 1) := by decide +kernel
theorem dX8_find_14 : decode cX8_find 14 = .ok (.getfield 19, 3) := by decide +kernel
theorem dX8_find_17 : decode cX8_find 17 = .ok (.getfield 179, 3) := by decide +kernel
theorem dX8_find_20 : decode cX8_find 20 = .ok (.iload_n 2, 1) := by decide +kernel
theorem dX8_find_21 : decode cX8_find 21 = .ok (.iaload, 1) := by decide +kernel
theorem dX8_find_22 : decode cX8_find 22 = .ok (.iload_n 1, 1) := by decide +kernel
theorem dX8_find_23 : decode cX8_find 23 = .ok (.if_icmp .ne 5, 3) := by decide +kernel
theorem dX8_find_26 : decode cX8_find 26 = .ok (.iload_n 2, 1) := by decide +kernel
theorem dX8_find_27 : decode cX8_find 27 = .ok (.ireturn, 1) := by decide +kernel
theorem dX8_find_28 : decode cX8_find 28 = .ok (.iinc 2 1, 3) := by decide +kernel
theorem dX8_find_31 : decode cX8_find 31 = .ok (.goto (-29), 3) := by decide +kernel
theorem dX8_find_34 : decode cX8_find 34 = .ok (.iconst (-1), 1) := by decide +kernel
theorem dX8_find_35 : decode cX8_find 35 = .ok (.ireturn, 1) := by decide +kernel
theorem dX8_of_0 : decode cX8_of 0 = .ok (.aload_n 0, 1) := by decide +kernel
theorem dX8_of_1 : decode cX8_of 1 = .ok (.iload_n 1, 1) := by decide +kernel
theorem dX8_of_2 : decode cX8_of 2 = .ok (.invokevirtual 91, 3) := by decide +kernel
theorem dX8_of_5 : decode cX8_of 5 = .ok (.ifCond .ne 5, 3) := by decide +kernel
theorem dX8_of_8 : decode cX8_of 8 = .ok (.iconst (-1), 1) := by decide +kernel
theorem dX8_of_9 : decode cX8_of 9 = .ok (.ireturn, 1) := by decide +kernel
theorem dX8_of_10 : decode cX8_of 10 = .ok (.iload_n 2, 1) := by decide +kernel
theorem dX8_of_11 : decode cX8_of 11 = .ok (.tableswitch 83 0 4 #[33, 43, 53, 63, 73], 33) := by decide +kernel
theorem dX8_of_44 : decode cX8_of 44 = .ok (.aload_n 0, 1) := by decide +kernel
theorem dX8_of_45 : decode cX8_of 45 = .ok (.getfield 10, 3) := by decide +kernel
theorem dX8_of_48 : decode cX8_of 48 = .ok (.getfield 95, 3) := by decide +kernel
theorem dX8_of_51 : decode cX8_of 51 = .ok (.iload_n 1, 1) := by decide +kernel
theorem dX8_of_52 : decode cX8_of 52 = .ok (.iaload, 1) := by decide +kernel
theorem dX8_of_53 : decode cX8_of 53 = .ok (.ireturn, 1) := by decide +kernel
theorem dX8_of_54 : decode cX8_of 54 = .ok (.aload_n 0, 1) := by decide +kernel
theorem dX8_of_55 : decode cX8_of 55 = .ok (.getfield 10, 3) := by decide +kernel
theorem dX8_of_58 : decode cX8_of 58 = .ok (.getfield 99, 3) := by decide +kernel
theorem dX8_of_61 : decode cX8_of 61 = .ok (.iload_n 1, 1) := by decide +kernel
theorem dX8_of_62 : decode cX8_of 62 = .ok (.iaload, 1) := by decide +kernel
theorem dX8_of_63 : decode cX8_of 63 = .ok (.ireturn, 1) := by decide +kernel
theorem dX8_of_64 : decode cX8_of 64 = .ok (.aload_n 0, 1) := by decide +kernel
theorem dX8_of_65 : decode cX8_of 65 = .ok (.getfield 10, 3) := by decide +kernel
theorem dX8_of_68 : decode cX8_of 68 = .ok (.getfield 105, 3) := by decide +kernel
theorem dX8_of_71 : decode cX8_of 71 = .ok (.iload_n 1, 1) := by decide +kernel
theorem dX8_of_72 : decode cX8_of 72 = .ok (.iaload, 1) := by decide +kernel
theorem dX8_of_73 : decode cX8_of 73 = .ok (.ireturn, 1) := by decide +kernel
theorem dX8_of_74 : decode cX8_of 74 = .ok (.aload_n 0, 1) := by decide +kernel
theorem dX8_of_75 : decode cX8_of 75 = .ok (.getfield 10, 3) := by decide +kernel
theorem dX8_of_78 : decode cX8_of 78 = .ok (.getfield 108, 3) := by decide +kernel
theorem dX8_of_81 : decode cX8_of 81 = .ok (.iload_n 1, 1) := by decide +kernel
theorem dX8_of_82 : decode cX8_of 82 = .ok (.iaload, 1) := by decide +kernel
theorem dX8_of_83 : decode cX8_of 83 = .ok (.ireturn, 1) := by decide +kernel
theorem dX8_of_84 : decode cX8_of 84 = .ok (.aload_n 0, 1) := by decide +kernel
theorem dX8_of_85 : decode cX8_of 85 = .ok (.getfield 10, 3) := by decide +kernel
theorem dX8_of_88 : decode cX8_of 88 = .ok (.getfield 114, 3) := by decide +kernel
theorem dX8_of_91 : decode cX8_of 91 = .ok (.iload_n 1, 1) := by decide +kernel
theorem dX8_of_92 : decode cX8_of 92 = .ok (.iaload, 1) := by decide +kernel
theorem dX8_of_93 : decode cX8_of 93 = .ok (.ireturn, 1) := by decide +kernel
theorem dX8_of_94 : decode cX8_of 94 = .ok (.aload_n 0, 1) := by decide +kernel
theorem dX8_of_95 : decode cX8_of 95 = .ok (.iload_n 1, 1) := by decide +kernel
theorem dX8_of_96 : decode cX8_of 96 = .ok (.iload_n 2, 1) := by decide +kernel
theorem dX8_of_97 : decode cX8_of 97 = .ok (.invokevirtual 182, 3) := by decide +kernel
theorem dX8_of_100 : decode cX8_of 100 = .ok (.ireturn, 1) := by decide +kernel
theorem dX8_cost_0 : decode cX8_cost 0 = .ok (.aload_n 0, 1) := by decide +kernel
theorem dX8_cost_1 : decode cX8_cost 1 = .ok (.getfield 19, 3) := by decide +kernel
theorem dX8_cost_4 : decode cX8_cost 4 = .ok (.iload_n 1, 1) := by decide +kernel
theorem dX8_cost_5 : decode cX8_cost 5 = .ok (.invokevirtual 176, 3) := by decide +kernel
theorem dX8_cost_8 : decode cX8_cost 8 = .ok (.ifCond .eq 11, 3) := by decide +kernel
theorem dX8_cost_11 : decode cX8_cost 11 = .ok (.aload_n 0, 1) := by decide +kernel
theorem dX8_cost_12 : decode cX8_cost 12 = .ok (.iload_n 2, 1) := by decide +kernel
theorem dX8_cost_13 : decode cX8_cost 13 = .ok (.invokevirtual 186, 3) := by decide +kernel
theorem dX8_cost_16 : decode cX8_cost 16 = .ok (.ifCond .eq 5, 3) := by decide +kernel
theorem dX8_cost_19 : decode cX8_cost 19 = .ok (.iconst (-1), 1) := by decide +kernel
theorem dX8_cost_20 : decode cX8_cost 20 = .ok (.ireturn, 1) := by decide +kernel
theorem dX8_cost_21 : decode cX8_cost 21 = .ok (.aload_n 0, 1) := by decide +kernel
theorem dX8_cost_22 : decode cX8_cost 22 = .ok (.getfield 47, 3) := by decide +kernel
theorem dX8_cost_25 : decode cX8_cost 25 = .ok (.iload_n 1, 1) := by decide +kernel
theorem dX8_cost_26 : decode cX8_cost 26 = .ok (.iload_n 2, 1) := by decide +kernel
theorem dX8_cost_27 : decode cX8_cost 27 = .ok (.invokevirtual 189, 3) := by decide +kernel
theorem dX8_cost_30 : decode cX8_cost 30 = .ok (.ireturn, 1) := by decide +kernel
theorem dX8_cheapest_0 : decode cX8_cheapest 0 = .ok (.aload_n 0, 1) := by decide +kernel
theorem dX8_cheapest_1 : decode cX8_cheapest 1 = .ok (.iload_n 1, 1) := by decide +kernel
theorem dX8_cheapest_2 : decode cX8_cheapest 2 = .ok (.invokevirtual 186, 3) := by decide +kernel
theorem dX8_cheapest_5 : decode cX8_cheapest 5 = .ok (.ifCond .eq 5, 3) := by decide +kernel
theorem dX8_cheapest_8 : decode cX8_cheapest 8 = .ok (.iconst (-1), 1) := by decide +kernel
theorem dX8_cheapest_9 : decode cX8_cheapest 9 = .ok (.ireturn, 1) := by decide +kernel
theorem dX8_cheapest_10 : decode cX8_cheapest 10 = .ok (.aload_n 0, 1) := by decide +kernel
theorem dX8_cheapest_11 : decode cX8_cheapest 11 = .ok (.getfield 19, 3) := by decide +kernel
theorem dX8_cheapest_14 : decode cX8_cheapest 14 = .ok (.getfield 129, 3) := by decide +kernel
theorem dX8_cheapest_17 : decode cX8_cheapest 17 = .ok (.ifCond .ne 8, 3) := by decide +kernel
theorem dX8_cheapest_20 : decode cX8_cheapest 20 = .ok (.bipush (-6), 2) := by decide +kernel
theorem dX8_cheapest_22 : decode cX8_cheapest 22 = .ok (.goto 11, 3) := by decide +kernel
theorem dX8_cheapest_25 : decode cX8_cheapest 25 = .ok (.aload_n 0, 1) := by decide +kernel
theorem dX8_cheapest_26 : decode cX8_cheapest 26 = .ok (.getfield 47, 3) := by decide +kernel
theorem dX8_cheapest_29 : decode cX8_cheapest 29 = .ok (.iload_n 1, 1) := by decide +kernel
theorem dX8_cheapest_30 : decode cX8_cheapest 30 = .ok (.invokevirtual 192, 3) := by decide +kernel
theorem dX8_cheapest_33 : decode cX8_cheapest 33 = .ok (.ireturn, 1) := by decide +kernel
theorem dX8_rue_0 : decode cX8_rue 0 = .ok (.aload_n 0, 1) := by decide +kernel
theorem dX8_rue_1 : decode cX8_rue 1 = .ok (.getfield 19, 3) := by decide +kernel
theorem dX8_rue_4 : decode cX8_rue 4 = .ok (.iload_n 1, 1) := by decide +kernel
theorem dX8_rue_5 : decode cX8_rue 5 = .ok (.invokevirtual 176, 3) := by decide +kernel
theorem dX8_rue_8 : decode cX8_rue 8 = .ok (.ifCond .eq 14, 3) := by decide +kernel
theorem dX8_rue_11 : decode cX8_rue 11 = .ok (.aload_n 0, 1) := by decide +kernel
theorem dX8_rue_12 : decode cX8_rue 12 = .ok (.getfield 47, 3) := by decide +kernel
theorem dX8_rue_15 : decode cX8_rue 15 = .ok (.iload_n 1, 1) := by decide +kernel
theorem dX8_rue_16 : decode cX8_rue 16 = .ok (.invokevirtual 195, 3) := by decide +kernel
theorem dX8_rue_19 : decode cX8_rue 19 = .ok (.goto 4, 3) := by decide +kernel
theorem dX8_rue_22 : decode cX8_rue 22 = .ok (.iconst (-1), 1) := by decide +kernel
theorem dX8_rue_23 : decode cX8_rue 23 = .ok (.ireturn, 1) := by decide +kernel
theorem dX8_rival_0 : decode cX8_rival 0 = .ok (.aload_n 0, 1) := by decide +kernel
theorem dX8_rival_1 : decode cX8_rival 1 = .ok (.getfield 19, 3) := by decide +kernel
theorem dX8_rival_4 : decode cX8_rival 4 = .ok (.iload_n 1, 1) := by decide +kernel
theorem dX8_rival_5 : decode cX8_rival 5 = .ok (.invokevirtual 176, 3) := by decide +kernel
theorem dX8_rival_8 : decode cX8_rival 8 = .ok (.ifCond .eq 22, 3) := by decide +kernel
theorem dX8_rival_11 : decode cX8_rival 11 = .ok (.aload_n 0, 1) := by decide +kernel
theorem dX8_rival_12 : decode cX8_rival 12 = .ok (.getfield 47, 3) := by decide +kernel
theorem dX8_rival_15 : decode cX8_rival 15 = .ok (.aload_n 0, 1) := by decide +kernel
theorem dX8_rival_16 : decode cX8_rival 16 = .ok (.getfield 19, 3) := by decide +kernel
theorem dX8_rival_19 : decode cX8_rival 19 = .ok (.getfield 179, 3) := by decide +kernel
