theorem dX9_stands_29 : decode cX9_stands 29 = .ok (.ireturn, 1) := by decide +kernel
theorem dX9_world_0 : decode cX9_world 0 = .ok (.iload_n 1, 1) := by decide +kernel
theorem dX9_world_1 : decode cX9_world 1 = .ok (.iconst 0, 1) := by decide +kernel
theorem dX9_world_2 : decode cX9_world 2 = .ok (.bipush 7, 2) := by decide +kernel
theorem dX9_world_4 : decode cX9_world 4 = .ok (.invokestatic 70, 3) := by decide +kernel
theorem dX9_world_7 : decode cX9_world 7 = .ok (.ifCond .eq 16, 3) := by decide +kernel
theorem dX9_world_10 : decode cX9_world 10 = .ok (.iload_n 2, 1) := by decide +kernel
theorem dX9_world_11 : decode cX9_world 11 = .ok (.iconst 0, 1) := by decide +kernel
theorem dX9_world_12 : decode cX9_world 12 = .ok (.iconst 3, 1) := by decide +kernel
theorem dX9_world_13 : decode cX9_world 13 = .ok (.invokestatic 70, 3) := by decide +kernel
theorem dX9_world_16 : decode cX9_world 16 = .ok (.ifCond .eq 7, 3) := by decide +kernel
theorem dX9_world_19 : decode cX9_world 19 = .ok (.iload_n 3, 1) := by decide +kernel
theorem dX9_world_20 : decode cX9_world 20 = .ok (.ifCond .ge 9, 3) := by decide +kernel
theorem dX9_world_23 : decode cX9_world 23 = .ok (.aload_n 0, 1) := by decide +kernel
theorem dX9_world_24 : decode cX9_world 24 = .ok (.iconst (-1), 1) := by decide +kernel
theorem dX9_world_25 : decode cX9_world 25 = .ok (.invokevirtual 107, 3) := by decide +kernel
theorem dX9_world_28 : decode cX9_world 28 = .ok (.ireturn, 1) := by decide +kernel
theorem dX9_world_29 : decode cX9_world 29 = .ok (.iconst 0, 1) := by decide +kernel
theorem dX9_world_30 : decode cX9_world 30 = .ok (.istore 4, 2) := by decide +kernel
theorem dX9_world_32 : decode cX9_world 32 = .ok (.iload 4, 2) := by decide +kernel
theorem dX9_world_34 : decode cX9_world 34 = .ok (.aload_n 0, 1) := by decide +kernel
theorem dX9_world_35 : decode cX9_world 35 = .ok (.getfield 67, 3) := by decide +kernel
theorem dX9_world_38 : decode cX9_world 38 = .ok (.if_icmp .ge 33, 3) := by decide +kernel
theorem dX9_world_41 : decode cX9_world 41 = .ok (.aload_n 0, 1) := by decide +kernel
theorem dX9_world_42 : decode cX9_world 42 = .ok (.iload_n 2, 1) := by decide +kernel
theorem dX9_world_43 : decode cX9_world 43 = .ok (.iload_n 3, 1) := by decide +kernel
theorem dX9_world_44 : decode cX9_world 44 = .ok (.iload 4, 2) := by decide +kernel
theorem dX9_world_46 : decode cX9_world 46 = .ok (.invokevirtual 113, 3) := by decide +kernel
theorem dX9_world_49 : decode cX9_world 49 = .ok (.iconst 0, 1) := by decide +kernel
theorem dX9_world_50 : decode cX9_world 50 = .ok (.sipush 1000, 3) := by decide +kernel
theorem dX9_world_53 : decode cX9_world 53 = .ok (.invokestatic 70, 3) := by decide +kernel
theorem dX9_world_56 : decode cX9_world 56 = .ok (.ifCond .ne 9, 3) := by decide +kernel
theorem dX9_world_59 : decode cX9_world 59 = .ok (.aload_n 0, 1) := by decide +kernel
theorem dX9_world_60 : decode cX9_world 60 = .ok (.iconst (-1), 1) := by decide +kernel
theorem dX9_world_61 : decode cX9_world 61 = .ok (.invokevirtual 107, 3) := by decide +kernel
theorem dX9_world_64 : decode cX9_world 64 = .ok (.ireturn, 1) := by decide +kernel
theorem dX9_world_65 : decode cX9_world 65 = .ok (.iinc 4 1, 3) := by decide +kernel
theorem dX9_world_68 : decode cX9_world 68 = .ok (.goto (-36), 3) := by decide +kernel
theorem dX9_world_71 : decode cX9_world 71 = .ok (.aload_n 0, 1) := by decide +kernel
theorem dX9_world_72 : decode cX9_world 72 = .ok (.getfield 29, 3) := by decide +kernel
theorem dX9_world_75 : decode cX9_world 75 = .ok (.iload_n 1, 1) := by decide +kernel
theorem dX9_world_76 : decode cX9_world 76 = .ok (.iconst 1, 1) := by decide +kernel
theorem dX9_world_77 : decode cX9_world 77 = .ok (.bastore, 1) := by decide +kernel
theorem dX9_world_78 : decode cX9_world 78 = .ok (.iconst 0, 1) := by decide +kernel
theorem dX9_world_79 : decode cX9_world 79 = .ok (.istore 4, 2) := by decide +kernel
theorem dX9_world_81 : decode cX9_world 81 = .ok (.iload 4, 2) := by decide +kernel
theorem dX9_world_83 : decode cX9_world 83 = .ok (.bipush 12, 2) := by decide +kernel
theorem dX9_world_85 : decode cX9_world 85 = .ok (.if_icmp .ge 42, 3) := by decide +kernel
theorem dX9_world_88 : decode cX9_world 88 = .ok (.aload_n 0, 1) := by decide +kernel
theorem dX9_world_89 : decode cX9_world 89 = .ok (.getfield 33, 3) := by decide +kernel
theorem dX9_world_92 : decode cX9_world 92 = .ok (.bipush 12, 2) := by decide +kernel
theorem dX9_world_94 : decode cX9_world 94 = .ok (.iload_n 1, 1) := by decide +kernel
theorem dX9_world_95 : decode cX9_world 95 = .ok (.imul, 1) := by decide +kernel
theorem dX9_world_96 : decode cX9_world 96 = .ok (.iload 4, 2) := by decide +kernel
theorem dX9_world_98 : decode cX9_world 98 = .ok (.iadd, 1) := by decide +kernel
theorem dX9_world_99 : decode cX9_world 99 = .ok (.iload 4, 2) := by decide +kernel
theorem dX9_world_101 : decode cX9_world 101 = .ok (.aload_n 0, 1) := by decide +kernel
theorem dX9_world_102 : decode cX9_world 102 = .ok (.getfield 67, 3) := by decide +kernel
theorem dX9_world_105 : decode cX9_world 105 = .ok (.if_icmp .ge 14, 3) := by decide +kernel
theorem dX9_world_108 : decode cX9_world 108 = .ok (.aload_n 0, 1) := by decide +kernel
theorem dX9_world_109 : decode cX9_world 109 = .ok (.iload_n 2, 1) := by decide +kernel
theorem dX9_world_110 : decode cX9_world 110 = .ok (.iload_n 3, 1) := by decide +kernel
theorem dX9_world_111 : decode cX9_world 111 = .ok (.iload 4, 2) := by decide +kernel
theorem dX9_world_113 : decode cX9_world 113 = .ok (.invokevirtual 113, 3) := by decide +kernel
theorem dX9_world_116 : decode cX9_world 116 = .ok (.goto 4, 3) := by decide +kernel
theorem dX9_world_119 : decode cX9_world 119 = .ok (.iconst 0, 1) := by decide +kernel
theorem dX9_world_120 : decode cX9_world 120 = .ok (.iastore, 1) := by decide +kernel
theorem dX9_world_121 : decode cX9_world 121 = .ok (.iinc 4 1, 3) := by decide +kernel
theorem dX9_world_124 : decode cX9_world 124 = .ok (.goto (-43), 3) := by decide +kernel
theorem dX9_world_127 : decode cX9_world 127 = .ok (.aload_n 0, 1) := by decide +kernel
theorem dX9_world_128 : decode cX9_world 128 = .ok (.aload_n 0, 1) := by decide +kernel
theorem dX9_world_129 : decode cX9_world 129 = .ok (.invokevirtual 117, 3) := by decide +kernel
theorem dX9_world_132 : decode cX9_world 132 = .ok (.invokevirtual 107, 3) := by decide +kernel
theorem dX9_world_135 : decode cX9_world 135 = .ok (.ireturn, 1) := by decide +kernel
theorem dX9_forget_0 : decode cX9_forget 0 = .ok (.iload_n 1, 1) := by decide +kernel
theorem dX9_forget_1 : decode cX9_forget 1 = .ok (.iconst 0, 1) := by decide +kernel
theorem dX9_forget_2 : decode cX9_forget 2 = .ok (.bipush 7, 2) := by decide +kernel
theorem dX9_forget_4 : decode cX9_forget 4 = .ok (.invokestatic 70, 3) := by decide +kernel
theorem dX9_forget_7 : decode cX9_forget 7 = .ok (.ifCond .ne 9, 3) := by decide +kernel
theorem dX9_forget_10 : decode cX9_forget 10 = .ok (.aload_n 0, 1) := by decide +kernel
theorem dX9_forget_11 : decode cX9_forget 11 = .ok (.iconst (-1), 1) := by decide +kernel
theorem dX9_forget_12 : decode cX9_forget 12 = .ok (.invokevirtual 107, 3) := by decide +kernel
theorem dX9_forget_15 : decode cX9_forget 15 = .ok (.ireturn, 1) := by decide +kernel
theorem dX9_forget_16 : decode cX9_forget 16 = .ok (.aload_n 0, 1) := by decide +kernel
theorem dX9_forget_17 : decode cX9_forget 17 = .ok (.getfield 29, 3) := by decide +kernel
theorem dX9_forget_20 : decode cX9_forget 20 = .ok (.iload_n 1, 1) := by decide +kernel
theorem dX9_forget_21 : decode cX9_forget 21 = .ok (.baload, 1) := by decide +kernel
theorem dX9_forget_22 : decode cX9_forget 22 = .ok (.ifCond .ne 10, 3) := by decide +kernel
theorem dX9_forget_25 : decode cX9_forget 25 = .ok (.aload_n 0, 1) := by decide +kernel
theorem dX9_forget_26 : decode cX9_forget 26 = .ok (.bipush (-2), 2) := by decide +kernel
theorem dX9_forget_28 : decode cX9_forget 28 = .ok (.invokevirtual 107, 3) := by decide +kernel
theorem dX9_forget_31 : decode cX9_forget 31 = .ok (.ireturn, 1) := by decide +kernel
theorem dX9_forget_32 : decode cX9_forget 32 = .ok (.aload_n 0, 1) := by decide +kernel
theorem dX9_forget_33 : decode cX9_forget 33 = .ok (.getfield 29, 3) := by decide +kernel
theorem dX9_forget_36 : decode cX9_forget 36 = .ok (.iload_n 1, 1) := by decide +kernel
theorem dX9_forget_37 : decode cX9_forget 37 = .ok (.iconst 0, 1) := by decide +kernel
theorem dX9_forget_38 : decode cX9_forget 38 = .ok (.bastore, 1) := by decide +kernel
theorem dX9_forget_39 : decode cX9_forget 39 = .ok (.aload_n 0, 1) := by decide +kernel
theorem dX9_forget_40 : decode cX9_forget 40 = .ok (.iconst 0, 1) := by decide +kernel
theorem dX9_forget_41 : decode cX9_forget 41 = .ok (.invokevirtual 107, 3) := by decide +kernel
theorem dX9_forget_44 : decode cX9_forget 44 = .ok (.ireturn, 1) := by decide +kernel
theorem dX9_count_0 : decode cX9_count 0 = .ok (.iload_n 1, 1) := by decide +kernel
theorem dX9_count_1 : decode cX9_count 1 = .ok (.tableswitch 99 0 5 #[39, 44, 49, 54, 59, 64], 39) := by decide +kernel
theorem dX9_count_40 : decode cX9_count 40 = .ok (.aload_n 0, 1) := by decide +kernel
theorem dX9_count_41 : decode cX9_count 41 = .ok (.getfield 67, 3) := by decide +kernel
theorem dX9_count_44 : decode cX9_count 44 = .ok (.ireturn, 1) := by decide +kernel
theorem dX9_count_45 : decode cX9_count 45 = .ok (.aload_n 0, 1) := by decide +kernel
theorem dX9_count_46 : decode cX9_count 46 = .ok (.getfield 101, 3) := by decide +kernel
theorem dX9_count_49 : decode cX9_count 49 = .ok (.ireturn, 1) := by decide +kernel
theorem dX9_count_50 : decode cX9_count 50 = .ok (.aload_n 0, 1) := by decide +kernel
theorem dX9_count_51 : decode cX9_count 51 = .ok (.invokevirtual 117, 3) := by decide +kernel
theorem dX9_count_54 : decode cX9_count 54 = .ok (.ireturn, 1) := by decide +kernel
theorem dX9_count_55 : decode cX9_count 55 = .ok (.aload_n 0, 1) := by decide +kernel
theorem dX9_count_56 : decode cX9_count 56 = .ok (.getfield 88, 3) := by decide +kernel
theorem dX9_count_59 : decode cX9_count 59 = .ok (.ireturn, 1) := by decide +kernel
theorem dX9_count_60 : decode cX9_count 60 = .ok (.aload_n 0, 1) := by decide +kernel
theorem dX9_count_61 : decode cX9_count 61 = .ok (.getfield 82, 3) := by decide +kernel
theorem dX9_count_64 : decode cX9_count 64 = .ok (.ireturn, 1) := by decide +kernel
theorem dX9_count_65 : decode cX9_count 65 = .ok (.iconst 0, 1) := by decide +kernel
theorem dX9_count_66 : decode cX9_count 66 = .ok (.istore_n 2, 1) := by decide +kernel
theorem dX9_count_67 : decode cX9_count 67 = .ok (.iconst 0, 1) := by decide +kernel
theorem dX9_count_68 : decode cX9_count 68 = .ok (.istore_n 3, 1) := by decide +kernel
theorem dX9_count_69 : decode cX9_count 69 = .ok (.iload_n 3, 1) := by decide +kernel
theorem dX9_count_70 : decode cX9_count 70 = .ok (.iconst 4, 1) := by decide +kernel
theorem dX9_count_71 : decode cX9_count 71 = .ok (.if_icmp .ge 27, 3) := by decide +kernel
theorem dX9_count_74 : decode cX9_count 74 = .ok (.iload_n 2, 1) := by decide +kernel
theorem dX9_count_75 : decode cX9_count 75 = .ok (.aload_n 0, 1) := by decide +kernel
theorem dX9_count_76 : decode cX9_count 76 = .ok (.getfield 42, 3) := by decide +kernel
theorem dX9_count_79 : decode cX9_count 79 = .ok (.iload_n 3, 1) := by decide +kernel
theorem dX9_count_80 : decode cX9_count 80 = .ok (.iaload, 1) := by decide +kernel
theorem dX9_count_81 : decode cX9_count 81 = .ok (.iconst (-1), 1) := by decide +kernel
theorem dX9_count_82 : decode cX9_count 82 = .ok (.if_icmp .ne 7, 3) := by decide +kernel
theorem dX9_count_85 : decode cX9_count 85 = .ok (.iconst 0, 1) := by decide +kernel
theorem dX9_count_86 : decode cX9_count 86 = .ok (.goto 4, 3) := by decide +kernel
theorem dX9_count_89 : decode cX9_count 89 = .ok (.iconst 1, 1) := by decide +kernel
theorem dX9_count_90 : decode cX9_count 90 = .ok (.iadd, 1) := by decide +kernel
theorem dX9_count_91 : decode cX9_count 91 = .ok (.istore_n 2, 1) := by decide +kernel
theorem dX9_count_92 : decode cX9_count 92 = .ok (.iinc 3 1, 3) := by decide +kernel
theorem dX9_count_95 : decode cX9_count 95 = .ok (.goto (-26), 3) := by decide +kernel
theorem dX9_count_98 : decode cX9_count 98 = .ok (.iload_n 2, 1) := by decide +kernel
theorem dX9_count_99 : decode cX9_count 99 = .ok (.ireturn, 1) := by decide +kernel
theorem dX9_count_100 : decode cX9_count 100 = .ok (.iconst (-1), 1) := by decide +kernel
theorem dX9_count_101 : decode cX9_count 101 = .ok (.ireturn, 1) := by decide +kernel
theorem dX9_isChoiceNumber_0 : decode cX9_isChoiceNumber 0 = .ok (.iload_n 1, 1) := by decide +kernel
theorem dX9_isChoiceNumber_1 : decode cX9_isChoiceNumber 1 = .ok (.iconst 0, 1) := by decide +kernel
theorem dX9_isChoiceNumber_2 : decode cX9_isChoiceNumber 2 = .ok (.aload_n 0, 1) := by decide +kernel
theorem dX9_isChoiceNumber_3 : decode cX9_isChoiceNumber 3 = .ok (.getfield 101, 3) := by decide +kernel
theorem dX9_isChoiceNumber_6 : decode cX9_isChoiceNumber 6 = .ok (.iconst 1, 1) := by decide +kernel
theorem dX9_isChoiceNumber_7 : decode cX9_isChoiceNumber 7 = .ok (.isub, 1) := by decide +kernel
theorem dX9_isChoiceNumber_8 : decode cX9_isChoiceNumber 8 = .ok (.invokestatic 70, 3) := by decide +kernel
theorem dX9_isChoiceNumber_11 : decode cX9_isChoiceNumber 11 = .ok (.ireturn, 1) := by decide +kernel
theorem dX9_choice_0 : decode cX9_choice 0 = .ok (.aload_n 0, 1) := by decide +kernel
theorem dX9_choice_1 : decode cX9_choice 1 = .ok (.iload_n 1, 1) := by decide +kernel
theorem dX9_choice_2 : decode cX9_choice 2 = .ok (.invokevirtual 121, 3) := by decide +kernel
theorem dX9_choice_5 : decode cX9_choice 5 = .ok (.ifCond .eq 12, 3) := by decide +kernel
theorem dX9_choice_8 : decode cX9_choice 8 = .ok (.aload_n 0, 1) := by decide +kernel
theorem dX9_choice_9 : decode cX9_choice 9 = .ok (.getfield 36, 3) := by decide +kernel
theorem dX9_choice_12 : decode cX9_choice 12 = .ok (.iload_n 1, 1) := by decide +kernel
theorem dX9_choice_13 : decode cX9_choice 13 = .ok (.iaload, 1) := by decide +kernel
theorem dX9_choice_14 : decode cX9_choice 14 = .ok (.goto 4, 3) := by decide +kernel
theorem dX9_choice_17 : decode cX9_choice 17 = .ok (.iconst (-1), 1) := by decide +kernel
theorem dX9_choice_18 : decode cX9_choice 18 = .ok (.ireturn, 1) := by decide +kernel
theorem dX9_find_0 : decode cX9_find 0 = .ok (.iconst 0, 1) := by decide +kernel
theorem dX9_find_1 : decode cX9_find 1 = .ok (.istore_n 2, 1) := by decide +kernel
theorem dX9_find_2 : decode cX9_find 2 = .ok (.iload_n 2, 1) := by decide +kernel
theorem dX9_find_3 : decode cX9_find 3 = .ok (.aload_n 0, 1) := by decide +kernel
theorem dX9_find_4 : decode cX9_find 4 = .ok (.getfield 101, 3) := by decide +kernel
theorem dX9_find_7 : decode cX9_find 7 = .ok (.if_icmp .ge 21, 3) := by decide +kernel
theorem dX9_find_10 : decode cX9_find 10 = .ok (.aload_n 0, 1) := by decide +kernel
theorem dX9_find_11 : decode cX9_find 11 = .ok (.getfield 36, 3) := by decide +kernel
theorem dX9_find_14 : decode cX9_find 14 = .ok (.iload_n 2, 1) := by decide +kernel
theorem dX9_find_15 : decode cX9_find 15 = .ok (.iaload, 1) := by decide +kernel
theorem dX9_find_16 : decode cX9_find 16 = .ok (.iload_n 1, 1) := by decide +kernel
theorem dX9_find_17 : decode cX9_find 17 = .ok (.if_icmp .ne 5, 3) := by decide +kernel
theorem dX9_find_20 : decode cX9_find 20 = .ok (.iload_n 2, 1) := by decide +kernel
theorem dX9_find_21 : decode cX9_find 21 = .ok (.ireturn, 1) := by decide +kernel
theorem dX9_find_22 : decode cX9_find 22 = .ok (.iinc 2 1, 3) := by decide +kernel
theorem dX9_find_25 : decode cX9_find 25 = .ok (.goto (-23), 3) := by decide +kernel
theorem dX9_find_28 : decode cX9_find 28 = .ok (.iconst (-1), 1) := by decide +kernel
theorem dX9_find_29 : decode cX9_find 29 = .ok (.ireturn, 1) := by decide +kernel
theorem dX9_of_0 : decode cX9_of 0 = .ok (.aload_n 0, 1) := by decide +kernel
theorem dX9_of_1 : decode cX9_of 1 = .ok (.iload_n 1, 1) := by decide +kernel
theorem dX9_of_2 : decode cX9_of 2 = .ok (.invokevirtual 110, 3) := by decide +kernel
theorem dX9_of_5 : decode cX9_of 5 = .ok (.ifCond .ne 5, 3) := by decide +kernel
theorem dX9_of_8 : decode cX9_of 8 = .ok (.iconst (-1), 1) := by decide +kernel
theorem dX9_of_9 : decode cX9_of 9 = .ok (.ireturn, 1) := by decide +kernel
theorem dX9_of_10 : decode cX9_of 10 = .ok (.iload_n 2, 1) := by decide +kernel
theorem dX9_of_11 : decode cX9_of 11 = .ok (.tableswitch 68 0 4 #[33, 40, 47, 54, 61], 33) := by decide +kernel
theorem dX9_of_44 : decode cX9_of 44 = .ok (.aload_n 0, 1) := by decide +kernel
theorem dX9_of_45 : decode cX9_of 45 = .ok (.getfield 13, 3) := by decide +kernel
theorem dX9_of_48 : decode cX9_of 48 = .ok (.iload_n 1, 1) := by decide +kernel
theorem dX9_of_49 : decode cX9_of 49 = .ok (.iaload, 1) := by decide +kernel
theorem dX9_of_50 : decode cX9_of 50 = .ok (.ireturn, 1) := by decide +kernel
theorem dX9_of_51 : decode cX9_of 51 = .ok (.aload_n 0, 1) := by decide +kernel
theorem dX9_of_52 : decode cX9_of 52 = .ok (.getfield 17, 3) := by decide +kernel
theorem dX9_of_55 : decode cX9_of 55 = .ok (.iload_n 1, 1) := by decide +kernel
theorem dX9_of_56 : decode cX9_of 56 = .ok (.iaload, 1) := by decide +kernel
theorem dX9_of_57 : decode cX9_of 57 = .ok (.ireturn, 1) := by decide +kernel
theorem dX9_of_58 : decode cX9_of 58 = .ok (.aload_n 0, 1) := by decide +kernel
theorem dX9_of_59 : decode cX9_of 59 = .ok (.getfield 20, 3) := by decide +kernel
theorem dX9_of_62 : decode cX9_of 62 = .ok (.iload_n 1, 1) := by decide +kernel
theorem dX9_of_63 : decode cX9_of 63 = .ok (.iaload, 1) := by decide +kernel
theorem dX9_of_64 : decode cX9_of 64 = .ok (.ireturn, 1) := by decide +kernel
theorem dX9_of_65 : decode cX9_of 65 = .ok (.aload_n 0, 1) := by decide +kernel
theorem dX9_of_66 : decode cX9_of 66 = .ok (.getfield 23, 3) := by decide +kernel
theorem dX9_of_69 : decode cX9_of 69 = .ok (.iload_n 1, 1) := by decide +kernel
theorem dX9_of_70 : decode cX9_of 70 = .ok (.iaload, 1) := by decide +kernel
theorem dX9_of_71 : decode cX9_of 71 = .ok (.ireturn, 1) := by decide +kernel
theorem dX9_of_72 : decode cX9_of 72 = .ok (.aload_n 0, 1) := by decide +kernel
theorem dX9_of_73 : decode cX9_of 73 = .ok (.getfield 26, 3) := by decide +kernel
theorem dX9_of_76 : decode cX9_of 76 = .ok (.iload_n 1, 1) := by decide +kernel
theorem dX9_of_77 : decode cX9_of 77 = .ok (.iaload, 1) := by decide +kernel
theorem dX9_of_78 : decode cX9_of 78 = .ok (.ireturn, 1) := by decide +kernel
theorem dX9_of_79 : decode cX9_of 79 = .ok (.iload_n 2, 1) := by decide +kernel
theorem dX9_of_80 : decode cX9_of 80 = .ok (.bipush 10, 2) := by decide +kernel
theorem dX9_of_82 : decode cX9_of 82 = .ok (.bipush 17, 2) := by decide +kernel
theorem dX9_of_84 : decode cX9_of 84 = .ok (.invokestatic 70, 3) := by decide +kernel
theorem dX9_of_87 : decode cX9_of 87 = .ok (.ifCond .eq 32, 3) := by decide +kernel
theorem dX9_of_90 : decode cX9_of 90 = .ok (.aload_n 0, 1) := by decide +kernel
theorem dX9_of_91 : decode cX9_of 91 = .ok (.getfield 29, 3) := by decide +kernel
theorem dX9_of_94 : decode cX9_of 94 = .ok (.iload_n 2, 1) := by decide +kernel
theorem dX9_of_95 : decode cX9_of 95 = .ok (.bipush 10, 2) := by decide +kernel
theorem dX9_of_97 : decode cX9_of 97 = .ok (.isub, 1) := by decide +kernel
theorem dX9_of_98 : decode cX9_of 98 = .ok (.baload, 1) := by decide +kernel
theorem dX9_of_99 : decode cX9_of 99 = .ok (.ifCond .eq 20, 3) := by decide +kernel
theorem dX9_of_102 : decode cX9_of 102 = .ok (.aload_n 0, 1) := by decide +kernel
theorem dX9_of_103 : decode cX9_of 103 = .ok (.getfield 33, 3) := by decide +kernel
theorem dX9_of_106 : decode cX9_of 106 = .ok (.bipush 12, 2) := by decide +kernel
theorem dX9_of_108 : decode cX9_of 108 = .ok (.iload_n 2, 1) := by decide +kernel
theorem dX9_of_109 : decode cX9_of 109 = .ok (.bipush 10, 2) := by decide +kernel
theorem dX9_of_111 : decode cX9_of 111 = .ok (.isub, 1) := by decide +kernel
theorem dX9_of_112 : decode cX9_of 112 = .ok (.imul, 1) := by decide +kernel
theorem dX9_of_113 : decode cX9_of 113 = .ok (.iload_n 1, 1) := by decide +kernel
theorem dX9_of_114 : decode cX9_of 114 = .ok (.iadd, 1) := by decide +kernel
theorem dX9_of_115 : decode cX9_of 115 = .ok (.iaload, 1) := by decide +kernel
theorem dX9_of_116 : decode cX9_of 116 = .ok (.goto 4, 3) := by decide +kernel
theorem dX9_of_119 : decode cX9_of 119 = .ok (.iconst (-1), 1) := by decide +kernel
theorem dX9_of_120 : decode cX9_of 120 = .ok (.ireturn, 1) := by decide +kernel
theorem dX9_isSet_0 : decode cX9_isSet 0 = .ok (.iload_n 1, 1) := by decide +kernel
theorem dX9_isSet_1 : decode cX9_isSet 1 = .ok (.ifCond .lt 17, 3) := by decide +kernel
theorem dX9_isSet_4 : decode cX9_isSet 4 = .ok (.iload_n 1, 1) := by decide +kernel
theorem dX9_isSet_5 : decode cX9_isSet 5 = .ok (.iconst 1, 1) := by decide +kernel
theorem dX9_isSet_6 : decode cX9_isSet 6 = .ok (.aload_n 0, 1) := by decide +kernel
theorem dX9_isSet_7 : decode cX9_isSet 7 = .ok (.getfield 67, 3) := by decide +kernel
theorem dX9_isSet_10 : decode cX9_isSet 10 = .ok (.ishl, 1) := by decide +kernel
theorem dX9_isSet_11 : decode cX9_isSet 11 = .ok (.if_icmp .ge 7, 3) := by decide +kernel
theorem dX9_isSet_14 : decode cX9_isSet 14 = .ok (.iconst 1, 1) := by decide +kernel
theorem dX9_isSet_15 : decode cX9_isSet 15 = .ok (.goto 4, 3) := by decide +kernel
theorem dX9_isSet_18 : decode cX9_isSet 18 = .ok (.iconst 0, 1) := by decide +kernel
theorem dX9_isSet_19 : decode cX9_isSet 19 = .ok (.ireturn, 1) := by decide +kernel
theorem dX9_sum_0 : decode cX9_sum 0 = .ok (.iconst 0, 1) := by decide +kernel
theorem dX9_sum_1 : decode cX9_sum 1 = .ok (.istore_n 3, 1) := by decide +kernel
theorem dX9_sum_2 : decode cX9_sum 2 = .ok (.iconst 0, 1) := by decide +kernel
theorem dX9_sum_3 : decode cX9_sum 3 = .ok (.istore 4, 2) := by decide +kernel
theorem dX9_sum_5 : decode cX9_sum 5 = .ok (.iload 4, 2) := by decide +kernel
theorem dX9_sum_7 : decode cX9_sum 7 = .ok (.aload_n 0, 1) := by decide +kernel
theorem dX9_sum_8 : decode cX9_sum 8 = .ok (.getfield 67, 3) := by decide +kernel
theorem dX9_sum_11 : decode cX9_sum 11 = .ok (.if_icmp .ge 47, 3) := by decide +kernel
theorem dX9_sum_14 : decode cX9_sum 14 = .ok (.iload_n 1, 1) := by decide +kernel
theorem dX9_sum_15 : decode cX9_sum 15 = .ok (.iload 4, 2) := by decide +kernel
theorem dX9_sum_17 : decode cX9_sum 17 = .ok (.invokestatic 74, 3) := by decide +kernel
theorem dX9_sum_20 : decode cX9_sum 20 = .ok (.ifCond .eq 32, 3) := by decide +kernel
theorem dX9_sum_23 : decode cX9_sum 23 = .ok (.iload_n 3, 1) := by decide +kernel
theorem dX9_sum_24 : decode cX9_sum 24 = .ok (.iload_n 2, 1) := by decide +kernel
theorem dX9_sum_25 : decode cX9_sum 25 = .ok (.iload 4, 2) := by decide +kernel
theorem dX9_sum_27 : decode cX9_sum 27 = .ok (.invokestatic 74, 3) := by decide +kernel
theorem dX9_sum_30 : decode cX9_sum 30 = .ok (.ifCond .eq 13, 3) := by decide +kernel
theorem dX9_sum_33 : decode cX9_sum 33 = .ok (.aload_n 0, 1) := by decide +kernel
theorem dX9_sum_34 : decode cX9_sum 34 = .ok (.getfield 17, 3) := by decide +kernel
theorem dX9_sum_37 : decode cX9_sum 37 = .ok (.iload 4, 2) := by decide +kernel
theorem dX9_sum_39 : decode cX9_sum 39 = .ok (.iaload, 1) := by decide +kernel
theorem dX9_sum_40 : decode cX9_sum 40 = .ok (.goto 10, 3) := by decide +kernel
theorem dX9_sum_43 : decode cX9_sum 43 = .ok (.aload_n 0, 1) := by decide +kernel
theorem dX9_sum_44 : decode cX9_sum 44 = .ok (.getfield 13, 3) := by decide +kernel
theorem dX9_sum_47 : decode cX9_sum 47 = .ok (.iload 4, 2) := by decide +kernel
theorem dX9_sum_49 : decode cX9_sum 49 = .ok (.iaload, 1) := by decide +kernel
theorem dX9_sum_50 : decode cX9_sum 50 = .ok (.iadd, 1) := by decide +kernel
theorem dX9_sum_51 : decode cX9_sum 51 = .ok (.istore_n 3, 1) := by decide +kernel
theorem dX9_sum_52 : decode cX9_sum 52 = .ok (.iinc 4 1, 3) := by decide +kernel
theorem dX9_sum_55 : decode cX9_sum 55 = .ok (.goto (-50), 3) := by decide +kernel
theorem dX9_sum_58 : decode cX9_sum 58 = .ok (.iload_n 3, 1) := by decide +kernel
theorem dX9_sum_59 : decode cX9_sum 59 = .ok (.ireturn, 1) := by decide +kernel
theorem dX9_cost_0 : decode cX9_cost 0 = .ok (.aload_n 0, 1) := by decide +kernel
theorem dX9_cost_1 : decode cX9_cost 1 = .ok (.iload_n 1, 1) := by decide +kernel
theorem dX9_cost_2 : decode cX9_cost 2 = .ok (.invokevirtual 121, 3) := by decide +kernel
theorem dX9_cost_5 : decode cX9_cost 5 = .ok (.ifCond .eq 25, 3) := by decide +kernel
theorem dX9_cost_8 : decode cX9_cost 8 = .ok (.aload_n 0, 1) := by decide +kernel
theorem dX9_cost_9 : decode cX9_cost 9 = .ok (.iload_n 2, 1) := by decide +kernel
theorem dX9_cost_10 : decode cX9_cost 10 = .ok (.invokevirtual 124, 3) := by decide +kernel
theorem dX9_cost_13 : decode cX9_cost 13 = .ok (.ifCond .eq 17, 3) := by decide +kernel
theorem dX9_cost_16 : decode cX9_cost 16 = .ok (.aload_n 0, 1) := by decide +kernel
theorem dX9_cost_17 : decode cX9_cost 17 = .ok (.aload_n 0, 1) := by decide +kernel
theorem dX9_cost_18 : decode cX9_cost 18 = .ok (.getfield 36, 3) := by decide +kernel
theorem dX9_cost_21 : decode cX9_cost 21 = .ok (.iload_n 1, 1) := by decide +kernel
theorem dX9_cost_22 : decode cX9_cost 22 = .ok (.iaload, 1) := by decide +kernel
theorem dX9_cost_23 : decode cX9_cost 23 = .ok (.iload_n 2, 1) := by decide +kernel
theorem dX9_cost_24 : decode cX9_cost 24 = .ok (.invokevirtual 127, 3) := by decide +kernel
theorem dX9_cost_27 : decode cX9_cost 27 = .ok (.goto 4, 3) := by decide +kernel
theorem dX9_cost_30 : decode cX9_cost 30 = .ok (.iconst (-1), 1) := by decide +kernel
theorem dX9_cost_31 : decode cX9_cost 31 = .ok (.ireturn, 1) := by decide +kernel
theorem dX9_firstCheapest_0 : decode cX9_firstCheapest 0 = .ok (.iconst (-1), 1) := by decide +kernel
theorem dX9_firstCheapest_1 : decode cX9_firstCheapest 1 = .ok (.istore_n 2, 1) := by decide +kernel
theorem dX9_firstCheapest_2 : decode cX9_firstCheapest 2 = .ok (.iconst 0, 1) := by decide +kernel
theorem dX9_firstCheapest_3 : decode cX9_firstCheapest 3 = .ok (.istore_n 3, 1) := by decide +kernel
theorem dX9_firstCheapest_4 : decode cX9_firstCheapest 4 = .ok (.iload_n 3, 1) := by decide +kernel
theorem dX9_firstCheapest_5 : decode cX9_firstCheapest 5 = .ok (.aload_n 0, 1) := by decide +kernel
theorem dX9_firstCheapest_6 : decode cX9_firstCheapest 6 = .ok (.getfield 101, 3) := by decide +kernel
theorem dX9_firstCheapest_9 : decode cX9_firstCheapest 9 = .ok (.if_icmp .ge 41, 3) := by decide +kernel
theorem dX9_firstCheapest_12 : decode cX9_firstCheapest 12 = .ok (.iload_n 2, 1) := by decide +kernel
theorem dX9_firstCheapest_13 : decode cX9_firstCheapest 13 = .ok (.iconst (-1), 1) := by decide +kernel
theorem dX9_firstCheapest_14 : decode cX9_firstCheapest 14 = .ok (.if_icmp .eq 28, 3) := by decide +kernel
theorem dX9_firstCheapest_17 : decode cX9_firstCheapest 17 = .ok (.aload_n 0, 1) := by decide +kernel
theorem dX9_firstCheapest_18 : decode cX9_firstCheapest 18 = .ok (.aload_n 0, 1) := by decide +kernel
theorem dX9_firstCheapest_19 : decode cX9_firstCheapest 19 = .ok (.getfield 36, 3) := by decide +kernel
theorem dX9_firstCheapest_22 : decode cX9_firstCheapest 22 = .ok (.iload_n 3, 1) := by decide +kernel
theorem dX9_firstCheapest_23 : decode cX9_firstCheapest 23 = .ok (.iaload, 1) := by decide +kernel
theorem dX9_firstCheapest_24 : decode cX9_firstCheapest 24 = .ok (.iload_n 1, 1) := by decide +kernel
theorem dX9_firstCheapest_25 : decode cX9_firstCheapest 25 = .ok (.invokevirtual 127, 3) := by decide +kernel
theorem dX9_firstCheapest_28 : decode cX9_firstCheapest 28 = .ok (.aload_n 0, 1) := by decide +kernel
theorem dX9_firstCheapest_29 : decode cX9_firstCheapest 29 = .ok (.aload_n 0, 1) := by decide +kernel
theorem dX9_firstCheapest_30 : decode cX9_firstCheapest 30 = .ok (.getfield 36, 3) := by decide +kernel
theorem dX9_firstCheapest_33 : decode cX9_firstCheapest 33 = .ok (.iload_n 2, 1) := by decide +kernel
theorem dX9_firstCheapest_34 : decode cX9_firstCheapest 34 = .ok (.iaload, 1) := by decide +kernel
theorem dX9_firstCheapest_35 : decode cX9_firstCheapest 35 = .ok (.iload_n 1, 1) := by decide +kernel
theorem dX9_firstCheapest_36 : decode cX9_firstCheapest 36 = .ok (.invokevirtual 127, 3) := by decide +kernel
theorem dX9_firstCheapest_39 : decode cX9_firstCheapest 39 = .ok (.if_icmp .ge 5, 3) := by decide +kernel
theorem dX9_firstCheapest_42 : decode cX9_firstCheapest 42 = .ok (.iload_n 3, 1) := by decide +kernel
theorem dX9_firstCheapest_43 : decode cX9_firstCheapest 43 = .ok (.istore_n 2, 1) := by decide +kernel
theorem dX9_firstCheapest_44 : decode cX9_firstCheapest 44 = .ok (.iinc 3 1, 3) := by decide +kernel
theorem dX9_firstCheapest_47 : decode cX9_firstCheapest 47 = .ok (.goto (-43), 3) := by decide +kernel
theorem dX9_firstCheapest_50 : decode cX9_firstCheapest 50 = .ok (.iload_n 2, 1) := by decide +kernel
theorem dX9_firstCheapest_51 : decode cX9_firstCheapest 51 = .ok (.ireturn, 1) := by decide +kernel
theorem dX9_cheapest_0 : decode cX9_cheapest 0 = .ok (.aload_n 0, 1) := by decide +kernel
theorem dX9_cheapest_1 : decode cX9_cheapest 1 = .ok (.iload_n 1, 1) := by decide +kernel
theorem dX9_cheapest_2 : decode cX9_cheapest 2 = .ok (.invokevirtual 124, 3) := by decide +kernel
theorem dX9_cheapest_5 : decode cX9_cheapest 5 = .ok (.ifCond .ne 7, 3) := by decide +kernel
theorem dX9_cheapest_8 : decode cX9_cheapest 8 = .ok (.iconst (-1), 1) := by decide +kernel
theorem dX9_cheapest_9 : decode cX9_cheapest 9 = .ok (.goto 20, 3) := by decide +kernel
theorem dX9_cheapest_12 : decode cX9_cheapest 12 = .ok (.aload_n 0, 1) := by decide +kernel
theorem dX9_cheapest_13 : decode cX9_cheapest 13 = .ok (.getfield 101, 3) := by decide +kernel
theorem dX9_cheapest_16 : decode cX9_cheapest 16 = .ok (.ifCond .ne 8, 3) := by decide +kernel
theorem dX9_cheapest_19 : decode cX9_cheapest 19 = .ok (.bipush (-6), 2) := by decide +kernel
theorem dX9_cheapest_21 : decode cX9_cheapest 21 = .ok (.goto 8, 3) := by decide +kernel
theorem dX9_cheapest_24 : decode cX9_cheapest 24 = .ok (.aload_n 0, 1) := by decide +kernel
theorem dX9_cheapest_25 : decode cX9_cheapest 25 = .ok (.iload_n 1, 1) := by decide +kernel
theorem dX9_cheapest_26 : decode cX9_cheapest 26 = .ok (.invokevirtual 131, 3) := by decide +kernel
theorem dX9_cheapest_29 : decode cX9_cheapest 29 = .ok (.ireturn, 1) := by decide +kernel
theorem dX9_rueAt_0 : decode cX9_rueAt 0 = .ok (.aload_n 0, 1) := by decide +kernel
theorem dX9_rueAt_1 : decode cX9_rueAt 1 = .ok (.aload_n 0, 1) := by decide +kernel
theorem dX9_rueAt_2 : decode cX9_rueAt 2 = .ok (.getfield 36, 3) := by decide +kernel
theorem dX9_rueAt_5 : decode cX9_rueAt 5 = .ok (.iload_n 1, 1) := by decide +kernel
theorem dX9_rueAt_6 : decode cX9_rueAt 6 = .ok (.iaload, 1) := by decide +kernel
theorem dX9_rueAt_7 : decode cX9_rueAt 7 = .ok (.aload_n 0, 1) := by decide +kernel
theorem dX9_rueAt_8 : decode cX9_rueAt 8 = .ok (.getfield 36, 3) := by decide +kernel
theorem dX9_rueAt_11 : decode cX9_rueAt 11 = .ok (.iload_n 1, 1) := by decide +kernel
theorem dX9_rueAt_12 : decode cX9_rueAt 12 = .ok (.iaload, 1) := by decide +kernel
theorem dX9_rueAt_13 : decode cX9_rueAt 13 = .ok (.invokevirtual 127, 3) := by decide +kernel
theorem dX9_rueAt_16 : decode cX9_rueAt 16 = .ok (.aload_n 0, 1) := by decide +kernel
theorem dX9_rueAt_17 : decode cX9_rueAt 17 = .ok (.aload_n 0, 1) := by decide +kernel
theorem dX9_rueAt_18 : decode cX9_rueAt 18 = .ok (.getfield 36, 3) := by decide +kernel
theorem dX9_rueAt_21 : decode cX9_rueAt 21 = .ok (.aload_n 0, 1) := by decide +kernel
theorem dX9_rueAt_22 : decode cX9_rueAt 22 = .ok (.aload_n 0, 1) := by decide +kernel
theorem dX9_rueAt_23 : decode cX9_rueAt 23 = .ok (.getfield 36, 3) := by decide +kernel
theorem dX9_rueAt_26 : decode cX9_rueAt 26 = .ok (.iload_n 1, 1) := by decide +kernel
theorem dX9_rueAt_27 : decode cX9_rueAt 27 = .ok (.iaload, 1) := by decide +kernel
theorem dX9_rueAt_28 : decode cX9_rueAt 28 = .ok (.invokevirtual 131, 3) := by decide +kernel
theorem dX9_rueAt_31 : decode cX9_rueAt 31 = .ok (.iaload, 1) := by decide +kernel
theorem dX9_rueAt_32 : decode cX9_rueAt 32 = .ok (.aload_n 0, 1) := by decide +kernel
theorem dX9_rueAt_33 : decode cX9_rueAt 33 = .ok (.getfield 36, 3) := by decide +kernel
theorem dX9_rueAt_36 : decode cX9_rueAt 36 = .ok (.iload_n 1, 1) := by decide +kernel
theorem dX9_rueAt_37 : decode cX9_rueAt 37 = .ok (.iaload, 1) := by decide +kernel
theorem dX9_rueAt_38 : decode cX9_rueAt 38 = .ok (.invokevirtual 127, 3) := by decide +kernel
theorem dX9_rueAt_41 : decode cX9_rueAt 41 = .ok (.isub, 1) := by decide +kernel
theorem dX9_rueAt_42 : decode cX9_rueAt 42 = .ok (.ireturn, 1) := by decide +kernel
theorem dX9_rue_0 : decode cX9_rue 0 = .ok (.aload_n 0, 1) := by decide +kernel
theorem dX9_rue_1 : decode cX9_rue 1 = .ok (.iload_n 1, 1) := by decide +kernel
theorem dX9_rue_2 : decode cX9_rue 2 = .ok (.invokevirtual 121, 3) := by decide +kernel
theorem dX9_rue_5 : decode cX9_rue 5 = .ok (.ifCond .eq 11, 3) := by decide +kernel
theorem dX9_rue_8 : decode cX9_rue 8 = .ok (.aload_n 0, 1) := by decide +kernel
theorem dX9_rue_9 : decode cX9_rue 9 = .ok (.iload_n 1, 1) := by decide +kernel
theorem dX9_rue_10 : decode cX9_rue 10 = .ok (.invokevirtual 134, 3) := by decide +kernel
theorem dX9_rue_13 : decode cX9_rue 13 = .ok (.goto 4, 3) := by decide +kernel
theorem dX9_rue_16 : decode cX9_rue 16 = .ok (.iconst (-1), 1) := by decide +kernel
theorem dX9_rue_17 : decode cX9_rue 17 = .ok (.ireturn, 1) := by decide +kernel
theorem dX9_rival_0 : decode cX9_rival 0 = .ok (.aload_n 0, 1) := by decide +kernel
theorem dX9_rival_1 : decode cX9_rival 1 = .ok (.iload_n 1, 1) := by decide +kernel
theorem dX9_rival_2 : decode cX9_rival 2 = .ok (.invokevirtual 121, 3) := by decide +kernel
theorem dX9_rival_5 : decode cX9_rival 5 = .ok (.ifCond .eq 16, 3) := by decide +kernel
theorem dX9_rival_8 : decode cX9_rival 8 = .ok (.aload_n 0, 1) := by decide +kernel
theorem dX9_rival_9 : decode cX9_rival 9 = .ok (.aload_n 0, 1) := by decide +kernel
theorem dX9_rival_10 : decode cX9_rival 10 = .ok (.getfield 36, 3) := by decide +kernel
theorem dX9_rival_13 : decode cX9_rival 13 = .ok (.iload_n 1, 1) := by decide +kernel
theorem dX9_rival_14 : decode cX9_rival 14 = .ok (.iaload, 1) := by decide +kernel
theorem dX9_rival_15 : decode cX9_rival 15 = .ok (.invokevirtual 131, 3) := by decide +kernel
theorem dX9_rival_18 : decode cX9_rival 18 = .ok (.goto 4, 3) := by decide +kernel
theorem dX9_rival_21 : decode cX9_rival 21 = .ok (.iconst (-1), 1) := by decide +kernel
theorem dX9_rival_22 : decode cX9_rival 22 = .ok (.ireturn, 1) := by decide +kernel
theorem dX9_best_0 : decode cX9_best 0 = .ok (.aload_n 0, 1) := by decide +kernel
theorem dX9_best_1 : decode cX9_best 1 = .ok (.getfield 101, 3) := by decide +kernel
theorem dX9_best_4 : decode cX9_best 4 = .ok (.ifCond .ne 6, 3) := by decide +kernel
theorem dX9_best_7 : decode cX9_best 7 = .ok (.bipush (-6), 2) := by decide +kernel
theorem dX9_best_9 : decode cX9_best 9 = .ok (.ireturn, 1) := by decide +kernel
theorem dX9_best_10 : decode cX9_best 10 = .ok (.iconst 0, 1) := by decide +kernel
theorem dX9_best_11 : decode cX9_best 11 = .ok (.istore_n 1, 1) := by decide +kernel
theorem dX9_best_12 : decode cX9_best 12 = .ok (.aload_n 0, 1) := by decide +kernel
theorem dX9_best_13 : decode cX9_best 13 = .ok (.iconst 0, 1) := by decide +kernel
theorem dX9_best_14 : decode cX9_best 14 = .ok (.invokevirtual 134, 3) := by decide +kernel
theorem dX9_best_17 : decode cX9_best 17 = .ok (.istore_n 2, 1) := by decide +kernel
theorem dX9_best_18 : decode cX9_best 18 = .ok (.iconst 1, 1) := by decide +kernel
theorem dX9_best_19 : decode cX9_best 19 = .ok (.istore_n 3, 1) := by decide +kernel
theorem dX9_best_20 : decode cX9_best 20 = .ok (.iload_n 3, 1) := by decide +kernel
theorem dX9_best_21 : decode cX9_best 21 = .ok (.aload_n 0, 1) := by decide +kernel
theorem dX9_best_22 : decode cX9_best 22 = .ok (.getfield 101, 3) := by decide +kernel
theorem dX9_best_25 : decode cX9_best 25 = .ok (.if_icmp .ge 30, 3) := by decide +kernel
theorem dX9_best_28 : decode cX9_best 28 = .ok (.aload_n 0, 1) := by decide +kernel
theorem dX9_best_29 : decode cX9_best 29 = .ok (.iload_n 3, 1) := by decide +kernel
theorem dX9_best_30 : decode cX9_best 30 = .ok (.invokevirtual 134, 3) := by decide +kernel
theorem dX9_best_33 : decode cX9_best 33 = .ok (.istore 4, 2) := by decide +kernel
theorem dX9_best_35 : decode cX9_best 35 = .ok (.iload 4, 2) := by decide +kernel
theorem dX9_best_37 : decode cX9_best 37 = .ok (.iload_n 2, 1) := by decide +kernel
theorem dX9_best_38 : decode cX9_best 38 = .ok (.if_icmp .lt 6, 3) := by decide +kernel
theorem dX9_best_41 : decode cX9_best 41 = .ok (.goto 8, 3) := by decide +kernel
theorem dX9_best_44 : decode cX9_best 44 = .ok (.iload 4, 2) := by decide +kernel
theorem dX9_best_46 : decode cX9_best 46 = .ok (.istore_n 2, 1) := by decide +kernel
theorem dX9_best_47 : decode cX9_best 47 = .ok (.iload_n 3, 1) := by decide +kernel
theorem dX9_best_48 : decode cX9_best 48 = .ok (.istore_n 1, 1) := by decide +kernel
theorem dX9_best_49 : decode cX9_best 49 = .ok (.iinc 3 1, 3) := by decide +kernel
theorem dX9_best_52 : decode cX9_best 52 = .ok (.goto (-32), 3) := by decide +kernel
theorem dX9_best_55 : decode cX9_best 55 = .ok (.iload_n 1, 1) := by decide +kernel
theorem dX9_best_56 : decode cX9_best 56 = .ok (.ireturn, 1) := by decide +kernel
theorem dX9_many_0 : decode cX9_many 0 = .ok (.aload_n 0, 1) := by decide +kernel
theorem dX9_many_1 : decode cX9_many 1 = .ok (.getfield 101, 3) := by decide +kernel
theorem dX9_many_4 : decode cX9_many 4 = .ok (.ifCond .ne 5, 3) := by decide +kernel
theorem dX9_many_7 : decode cX9_many 7 = .ok (.iconst 0, 1) := by decide +kernel
theorem dX9_many_8 : decode cX9_many 8 = .ok (.ireturn, 1) := by decide +kernel
theorem dX9_many_9 : decode cX9_many 9 = .ok (.aload_n 0, 1) := by decide +kernel
theorem dX9_many_10 : decode cX9_many 10 = .ok (.aload_n 0, 1) := by decide +kernel
theorem dX9_many_11 : decode cX9_many 11 = .ok (.invokevirtual 137, 3) := by decide +kernel
theorem dX9_many_14 : decode cX9_many 14 = .ok (.invokevirtual 134, 3) := by decide +kernel
theorem dX9_many_17 : decode cX9_many 17 = .ok (.istore_n 1, 1) := by decide +kernel
theorem dX9_many_18 : decode cX9_many 18 = .ok (.iconst 0, 1) := by decide +kernel
theorem dX9_many_19 : decode cX9_many 19 = .ok (.istore_n 2, 1) := by decide +kernel
theorem dX9_many_20 : decode cX9_many 20 = .ok (.iconst 0, 1) := by decide +kernel
theorem dX9_many_21 : decode cX9_many 21 = .ok (.istore_n 3, 1) := by decide +kernel
theorem dX9_many_22 : decode cX9_many 22 = .ok (.iload_n 3, 1) := by decide +kernel
theorem dX9_many_23 : decode cX9_many 23 = .ok (.aload_n 0, 1) := by decide +kernel
theorem dX9_many_24 : decode cX9_many 24 = .ok (.getfield 101, 3) := by decide +kernel
theorem dX9_many_27 : decode cX9_many 27 = .ok (.if_icmp .ge 26, 3) := by decide +kernel
theorem dX9_many_30 : decode cX9_many 30 = .ok (.iload_n 2, 1) := by decide +kernel
theorem dX9_many_31 : decode cX9_many 31 = .ok (.aload_n 0, 1) := by decide +kernel
theorem dX9_many_32 : decode cX9_many 32 = .ok (.iload_n 3, 1) := by decide +kernel
theorem dX9_many_33 : decode cX9_many 33 = .ok (.invokevirtual 134, 3) := by decide +kernel
theorem dX9_many_36 : decode cX9_many 36 = .ok (.iload_n 1, 1) := by decide +kernel
theorem dX9_many_37 : decode cX9_many 37 = .ok (.if_icmp .ne 7, 3) := by decide +kernel
theorem dX9_many_40 : decode cX9_many 40 = .ok (.iconst 1, 1) := by decide +kernel
theorem dX9_many_41 : decode cX9_many 41 = .ok (.goto 4, 3) := by decide +kernel
theorem dX9_many_44 : decode cX9_many 44 = .ok (.iconst 0, 1) := by decide +kernel
theorem dX9_many_45 : decode cX9_many 45 = .ok (.iadd, 1) := by decide +kernel
theorem dX9_many_46 : decode cX9_many 46 = .ok (.istore_n 2, 1) := by decide +kernel
theorem dX9_many_47 : decode cX9_many 47 = .ok (.iinc 3 1, 3) := by decide +kernel
theorem dX9_many_50 : decode cX9_many 50 = .ok (.goto (-28), 3) := by decide +kernel
theorem dX9_many_53 : decode cX9_many 53 = .ok (.iload_n 2, 1) := by decide +kernel
theorem dX9_many_54 : decode cX9_many 54 = .ok (.ireturn, 1) := by decide +kernel
theorem dX9_middle_0 : decode cX9_middle 0 = .ok (.aload_n 0, 1) := by decide +kernel
theorem dX9_middle_1 : decode cX9_middle 1 = .ok (.getfield 101, 3) := by decide +kernel
theorem dX9_middle_4 : decode cX9_middle 4 = .ok (.ifCond .ne 6, 3) := by decide +kernel
theorem dX9_middle_7 : decode cX9_middle 7 = .ok (.bipush (-6), 2) := by decide +kernel
theorem dX9_middle_9 : decode cX9_middle 9 = .ok (.ireturn, 1) := by decide +kernel
theorem dX9_middle_10 : decode cX9_middle 10 = .ok (.iconst 0, 1) := by decide +kernel
theorem dX9_middle_11 : decode cX9_middle 11 = .ok (.istore_n 1, 1) := by decide +kernel
theorem dX9_middle_12 : decode cX9_middle 12 = .ok (.iconst 1, 1) := by decide +kernel
theorem dX9_middle_13 : decode cX9_middle 13 = .ok (.istore_n 2, 1) := by decide +kernel
theorem dX9_middle_14 : decode cX9_middle 14 = .ok (.iload_n 2, 1) := by decide +kernel
theorem dX9_middle_15 : decode cX9_middle 15 = .ok (.aload_n 0, 1) := by decide +kernel
theorem dX9_middle_16 : decode cX9_middle 16 = .ok (.getfield 101, 3) := by decide +kernel
theorem dX9_middle_19 : decode cX9_middle 19 = .ok (.if_icmp .ge 24, 3) := by decide +kernel
theorem dX9_middle_22 : decode cX9_middle 22 = .ok (.aload_n 0, 1) := by decide +kernel
theorem dX9_middle_23 : decode cX9_middle 23 = .ok (.iload_n 2, 1) := by decide +kernel
theorem dX9_middle_24 : decode cX9_middle 24 = .ok (.invokevirtual 140, 3) := by decide +kernel
theorem dX9_middle_27 : decode cX9_middle 27 = .ok (.aload_n 0, 1) := by decide +kernel
theorem dX9_middle_28 : decode cX9_middle 28 = .ok (.iload_n 1, 1) := by decide +kernel
theorem dX9_middle_29 : decode cX9_middle 29 = .ok (.invokevirtual 140, 3) := by decide +kernel
theorem dX9_middle_32 : decode cX9_middle 32 = .ok (.if_icmp .ge 5, 3) := by decide +kernel
theorem dX9_middle_35 : decode cX9_middle 35 = .ok (.iload_n 2, 1) := by decide +kernel
theorem dX9_middle_36 : decode cX9_middle 36 = .ok (.istore_n 1, 1) := by decide +kernel
theorem dX9_middle_37 : decode cX9_middle 37 = .ok (.iinc 2 1, 3) := by decide +kernel
theorem dX9_middle_40 : decode cX9_middle 40 = .ok (.goto (-26), 3) := by decide +kernel
theorem dX9_middle_43 : decode cX9_middle 43 = .ok (.iload_n 1, 1) := by decide +kernel
theorem dX9_middle_44 : decode cX9_middle 44 = .ok (.ireturn, 1) := by decide +kernel
theorem dX9_doubled_0 : decode cX9_doubled 0 = .ok (.aload_n 0, 1) := by decide +kernel
theorem dX9_doubled_1 : decode cX9_doubled 1 = .ok (.aload_n 0, 1) := by decide +kernel
theorem dX9_doubled_2 : decode cX9_doubled 2 = .ok (.getfield 36, 3) := by decide +kernel
theorem dX9_doubled_5 : decode cX9_doubled 5 = .ok (.iload_n 1, 1) := by decide +kernel
theorem dX9_doubled_6 : decode cX9_doubled 6 = .ok (.iaload, 1) := by decide +kernel
theorem dX9_doubled_7 : decode cX9_doubled 7 = .ok (.iconst 0, 1) := by decide +kernel
theorem dX9_doubled_8 : decode cX9_doubled 8 = .ok (.invokevirtual 127, 3) := by decide +kernel
theorem dX9_doubled_11 : decode cX9_doubled 11 = .ok (.aload_n 0, 1) := by decide +kernel
theorem dX9_doubled_12 : decode cX9_doubled 12 = .ok (.aload_n 0, 1) := by decide +kernel
theorem dX9_doubled_13 : decode cX9_doubled 13 = .ok (.getfield 36, 3) := by decide +kernel
theorem dX9_doubled_16 : decode cX9_doubled 16 = .ok (.iload_n 1, 1) := by decide +kernel
theorem dX9_doubled_17 : decode cX9_doubled 17 = .ok (.iaload, 1) := by decide +kernel
theorem dX9_doubled_18 : decode cX9_doubled 18 = .ok (.iconst 1, 1) := by decide +kernel
theorem dX9_doubled_19 : decode cX9_doubled 19 = .ok (.aload_n 0, 1) := by decide +kernel
theorem dX9_doubled_20 : decode cX9_doubled 20 = .ok (.getfield 67, 3) := by decide +kernel
theorem dX9_doubled_23 : decode cX9_doubled 23 = .ok (.ishl, 1) := by decide +kernel
theorem dX9_doubled_24 : decode cX9_doubled 24 = .ok (.iconst 1, 1) := by decide +kernel
theorem dX9_doubled_25 : decode cX9_doubled 25 = .ok (.isub, 1) := by decide +kernel
theorem dX9_doubled_26 : decode cX9_doubled 26 = .ok (.invokevirtual 127, 3) := by decide +kernel
theorem dX9_doubled_29 : decode cX9_doubled 29 = .ok (.iadd, 1) := by decide +kernel
theorem dX9_doubled_30 : decode cX9_doubled 30 = .ok (.ireturn, 1) := by decide +kernel
theorem dX9_least_0 : decode cX9_least 0 = .ok (.ldc 143, 2) := by decide +kernel
theorem dX9_least_2 : decode cX9_least 2 = .ok (.istore 4, 2) := by decide +kernel
theorem dX9_least_4 : decode cX9_least 4 = .ok (.iconst 0, 1) := by decide +kernel
theorem dX9_least_5 : decode cX9_least 5 = .ok (.istore 5, 2) := by decide +kernel
theorem dX9_least_7 : decode cX9_least 7 = .ok (.iload 5, 2) := by decide +kernel
theorem dX9_least_9 : decode cX9_least 9 = .ok (.aload_n 0, 1) := by decide +kernel
theorem dX9_least_10 : decode cX9_least 10 = .ok (.getfield 101, 3) := by decide +kernel
theorem dX9_least_13 : decode cX9_least 13 = .ok (.if_icmp .ge 55, 3) := by decide +kernel
theorem dX9_least_16 : decode cX9_least 16 = .ok (.aload_n 0, 1) := by decide +kernel
theorem dX9_least_17 : decode cX9_least 17 = .ok (.getfield 36, 3) := by decide +kernel
theorem dX9_least_20 : decode cX9_least 20 = .ok (.iload 5, 2) := by decide +kernel
theorem dX9_least_22 : decode cX9_least 22 = .ok (.iaload, 1) := by decide +kernel
theorem dX9_least_23 : decode cX9_least 23 = .ok (.iload_n 1, 1) := by decide +kernel
theorem dX9_least_24 : decode cX9_least 24 = .ok (.invokestatic 74, 3) := by decide +kernel
theorem dX9_least_27 : decode cX9_least 27 = .ok (.iload_n 2, 1) := by decide +kernel
theorem dX9_least_28 : decode cX9_least 28 = .ok (.if_icmp .ne 34, 3) := by decide +kernel
theorem dX9_least_31 : decode cX9_least 31 = .ok (.aload_n 0, 1) := by decide +kernel
theorem dX9_least_32 : decode cX9_least 32 = .ok (.aload_n 0, 1) := by decide +kernel
theorem dX9_least_33 : decode cX9_least 33 = .ok (.getfield 36, 3) := by decide +kernel
theorem dX9_least_36 : decode cX9_least 36 = .ok (.iload 5, 2) := by decide +kernel
theorem dX9_least_38 : decode cX9_least 38 = .ok (.iaload, 1) := by decide +kernel
theorem dX9_least_39 : decode cX9_least 39 = .ok (.iload_n 3, 1) := by decide +kernel
theorem dX9_least_40 : decode cX9_least 40 = .ok (.invokevirtual 127, 3) := by decide +kernel
theorem dX9_least_43 : decode cX9_least 43 = .ok (.iload 4, 2) := by decide +kernel
theorem dX9_least_45 : decode cX9_least 45 = .ok (.if_icmp .ge 17, 3) := by decide +kernel
theorem dX9_least_48 : decode cX9_least 48 = .ok (.aload_n 0, 1) := by decide +kernel
theorem dX9_least_49 : decode cX9_least 49 = .ok (.aload_n 0, 1) := by decide +kernel
theorem dX9_least_50 : decode cX9_least 50 = .ok (.getfield 36, 3) := by decide +kernel
theorem dX9_least_53 : decode cX9_least 53 = .ok (.iload 5, 2) := by decide +kernel
theorem dX9_least_55 : decode cX9_least 55 = .ok (.iaload, 1) := by decide +kernel
theorem dX9_least_56 : decode cX9_least 56 = .ok (.iload_n 3, 1) := by decide +kernel
theorem dX9_least_57 : decode cX9_least 57 = .ok (.invokevirtual 127, 3) := by decide +kernel
theorem dX9_least_60 : decode cX9_least 60 = .ok (.istore 4, 2) := by decide +kernel
theorem dX9_least_62 : decode cX9_least 62 = .ok (.iinc 5 1, 3) := by decide +kernel
theorem dX9_least_65 : decode cX9_least 65 = .ok (.goto (-58), 3) := by decide +kernel
theorem dX9_least_68 : decode cX9_least 68 = .ok (.iload 4, 2) := by decide +kernel
theorem dX9_least_70 : decode cX9_least 70 = .ok (.ireturn, 1) := by decide +kernel
theorem dX9_hold_0 : decode cX9_hold 0 = .ok (.aload_n 0, 1) := by decide +kernel
theorem dX9_hold_1 : decode cX9_hold 1 = .ok (.iload_n 1, 1) := by decide +kernel
theorem dX9_hold_2 : decode cX9_hold 2 = .ok (.invokevirtual 110, 3) := by decide +kernel
theorem dX9_hold_5 : decode cX9_hold 5 = .ok (.ifCond .ne 5, 3) := by decide +kernel
theorem dX9_hold_8 : decode cX9_hold 8 = .ok (.iconst (-1), 1) := by decide +kernel
theorem dX9_hold_9 : decode cX9_hold 9 = .ok (.ireturn, 1) := by decide +kernel
theorem dX9_hold_10 : decode cX9_hold 10 = .ok (.iconst 1, 1) := by decide +kernel
theorem dX9_hold_11 : decode cX9_hold 11 = .ok (.aload_n 0, 1) := by decide +kernel
theorem dX9_hold_12 : decode cX9_hold 12 = .ok (.getfield 67, 3) := by decide +kernel
theorem dX9_hold_15 : decode cX9_hold 15 = .ok (.ishl, 1) := by decide +kernel
theorem dX9_hold_16 : decode cX9_hold 16 = .ok (.iconst 1, 1) := by decide +kernel
theorem dX9_hold_17 : decode cX9_hold 17 = .ok (.isub, 1) := by decide +kernel
theorem dX9_hold_18 : decode cX9_hold 18 = .ok (.istore_n 2, 1) := by decide +kernel
theorem dX9_hold_19 : decode cX9_hold 19 = .ok (.aload_n 0, 1) := by decide +kernel
theorem dX9_hold_20 : decode cX9_hold 20 = .ok (.getfield 101, 3) := by decide +kernel
theorem dX9_hold_23 : decode cX9_hold 23 = .ok (.ifCond .le 7, 3) := by decide +kernel
theorem dX9_hold_26 : decode cX9_hold 26 = .ok (.iconst 1, 1) := by decide +kernel
theorem dX9_hold_27 : decode cX9_hold 27 = .ok (.goto 4, 3) := by decide +kernel
theorem dX9_hold_30 : decode cX9_hold 30 = .ok (.iconst 0, 1) := by decide +kernel
theorem dX9_hold_31 : decode cX9_hold 31 = .ok (.istore_n 3, 1) := by decide +kernel
theorem dX9_hold_32 : decode cX9_hold 32 = .ok (.aload_n 0, 1) := by decide +kernel
theorem dX9_hold_33 : decode cX9_hold 33 = .ok (.getfield 101, 3) := by decide +kernel
theorem dX9_hold_36 : decode cX9_hold 36 = .ok (.ifCond .le 7, 3) := by decide +kernel
theorem dX9_hold_39 : decode cX9_hold 39 = .ok (.iconst 1, 1) := by decide +kernel
theorem dX9_hold_40 : decode cX9_hold 40 = .ok (.goto 4, 3) := by decide +kernel
theorem dX9_hold_43 : decode cX9_hold 43 = .ok (.iconst 0, 1) := by decide +kernel
theorem dX9_hold_44 : decode cX9_hold 44 = .ok (.istore 4, 2) := by decide +kernel
theorem dX9_hold_46 : decode cX9_hold 46 = .ok (.iconst 0, 1) := by decide +kernel
theorem dX9_hold_47 : decode cX9_hold 47 = .ok (.istore 5, 2) := by decide +kernel
theorem dX9_hold_49 : decode cX9_hold 49 = .ok (.iconst 0, 1) := by decide +kernel
theorem dX9_hold_50 : decode cX9_hold 50 = .ok (.istore 6, 2) := by decide +kernel
theorem dX9_hold_52 : decode cX9_hold 52 = .ok (.iload 6, 2) := by decide +kernel
theorem dX9_hold_54 : decode cX9_hold 54 = .ok (.aload_n 0, 1) := by decide +kernel
theorem dX9_hold_55 : decode cX9_hold 55 = .ok (.getfield 101, 3) := by decide +kernel
theorem dX9_hold_58 : decode cX9_hold 58 = .ok (.if_icmp .ge 143, 3) := by decide +kernel
theorem dX9_hold_61 : decode cX9_hold 61 = .ok (.iload_n 2, 1) := by decide +kernel
theorem dX9_hold_62 : decode cX9_hold 62 = .ok (.aload_n 0, 1) := by decide +kernel
theorem dX9_hold_63 : decode cX9_hold 63 = .ok (.getfield 36, 3) := by decide +kernel
theorem dX9_hold_66 : decode cX9_hold 66 = .ok (.iload 6, 2) := by decide +kernel
theorem dX9_hold_68 : decode cX9_hold 68 = .ok (.iaload, 1) := by decide +kernel
theorem dX9_hold_69 : decode cX9_hold 69 = .ok (.iconst (-1), 1) := by decide +kernel
theorem dX9_hold_70 : decode cX9_hold 70 = .ok (.ixor, 1) := by decide +kernel
theorem dX9_hold_71 : decode cX9_hold 71 = .ok (.iand, 1) := by decide +kernel
theorem dX9_hold_72 : decode cX9_hold 72 = .ok (.istore 7, 2) := by decide +kernel
theorem dX9_hold_74 : decode cX9_hold 74 = .ok (.aload_n 0, 1) := by decide +kernel
theorem dX9_hold_75 : decode cX9_hold 75 = .ok (.aload_n 0, 1) := by decide +kernel
theorem dX9_hold_76 : decode cX9_hold 76 = .ok (.getfield 36, 3) := by decide +kernel
theorem dX9_hold_79 : decode cX9_hold 79 = .ok (.iload 6, 2) := by decide +kernel
theorem dX9_hold_81 : decode cX9_hold 81 = .ok (.iaload, 1) := by decide +kernel
theorem dX9_hold_82 : decode cX9_hold 82 = .ok (.iload 7, 2) := by decide +kernel
theorem dX9_hold_84 : decode cX9_hold 84 = .ok (.invokevirtual 127, 3) := by decide +kernel
theorem dX9_hold_87 : decode cX9_hold 87 = .ok (.istore 8, 2) := by decide +kernel
theorem dX9_hold_89 : decode cX9_hold 89 = .ok (.aload_n 0, 1) := by decide +kernel
theorem dX9_hold_90 : decode cX9_hold 90 = .ok (.iload_n 1, 1) := by decide +kernel
theorem dX9_hold_91 : decode cX9_hold 91 = .ok (.iconst 1, 1) := by decide +kernel
theorem dX9_hold_92 : decode cX9_hold 92 = .ok (.iload 7, 2) := by decide +kernel
theorem dX9_hold_94 : decode cX9_hold 94 = .ok (.invokevirtual 144, 3) := by decide +kernel
theorem dX9_hold_97 : decode cX9_hold 97 = .ok (.istore 9, 2) := by decide +kernel
theorem dX9_hold_99 : decode cX9_hold 99 = .ok (.aload_n 0, 1) := by decide +kernel
theorem dX9_hold_100 : decode cX9_hold 100 = .ok (.iload_n 1, 1) := by decide +kernel
theorem dX9_hold_101 : decode cX9_hold 101 = .ok (.iconst 0, 1) := by decide +kernel
theorem dX9_hold_102 : decode cX9_hold 102 = .ok (.iload 7, 2) := by decide +kernel
theorem dX9_hold_104 : decode cX9_hold 104 = .ok (.invokevirtual 144, 3) := by decide +kernel
theorem dX9_hold_107 : decode cX9_hold 107 = .ok (.istore 10, 2) := by decide +kernel
theorem dX9_hold_109 : decode cX9_hold 109 = .ok (.aload_n 0, 1) := by decide +kernel
theorem dX9_hold_110 : decode cX9_hold 110 = .ok (.getfield 36, 3) := by decide +kernel
theorem dX9_hold_113 : decode cX9_hold 113 = .ok (.iload 6, 2) := by decide +kernel
theorem dX9_hold_115 : decode cX9_hold 115 = .ok (.iaload, 1) := by decide +kernel
theorem dX9_hold_116 : decode cX9_hold 116 = .ok (.iload_n 1, 1) := by decide +kernel
theorem dX9_hold_117 : decode cX9_hold 117 = .ok (.invokestatic 74, 3) := by decide +kernel
theorem dX9_hold_120 : decode cX9_hold 120 = .ok (.ifCond .eq 32, 3) := by decide +kernel
theorem dX9_hold_123 : decode cX9_hold 123 = .ok (.iload 5, 2) := by decide +kernel
theorem dX9_hold_125 : decode cX9_hold 125 = .ok (.ifCond .ne 17, 3) := by decide +kernel
theorem dX9_hold_128 : decode cX9_hold 128 = .ok (.iload 8, 2) := by decide +kernel
theorem dX9_hold_130 : decode cX9_hold 130 = .ok (.iload 10, 2) := by decide +kernel
theorem dX9_hold_132 : decode cX9_hold 132 = .ok (.if_icmp .gt 14, 3) := by decide +kernel
theorem dX9_hold_135 : decode cX9_hold 135 = .ok (.iload 8, 2) := by decide +kernel
theorem dX9_hold_137 : decode cX9_hold 137 = .ok (.iload 9, 2) := by decide +kernel
theorem dX9_hold_139 : decode cX9_hold 139 = .ok (.if_icmp .gt 7, 3) := by decide +kernel
theorem dX9_hold_142 : decode cX9_hold 142 = .ok (.iconst 1, 1) := by decide +kernel
theorem dX9_hold_143 : decode cX9_hold 143 = .ok (.goto 4, 3) := by decide +kernel
theorem dX9_hold_146 : decode cX9_hold 146 = .ok (.iconst 0, 1) := by decide +kernel
theorem dX9_hold_147 : decode cX9_hold 147 = .ok (.istore 5, 2) := by decide +kernel
theorem dX9_hold_149 : decode cX9_hold 149 = .ok (.goto 46, 3) := by decide +kernel
theorem dX9_hold_152 : decode cX9_hold 152 = .ok (.iload 4, 2) := by decide +kernel
theorem dX9_hold_154 : decode cX9_hold 154 = .ok (.ifCond .eq 14, 3) := by decide +kernel
theorem dX9_hold_157 : decode cX9_hold 157 = .ok (.iload 9, 2) := by decide +kernel
theorem dX9_hold_159 : decode cX9_hold 159 = .ok (.iload 8, 2) := by decide +kernel
theorem dX9_hold_161 : decode cX9_hold 161 = .ok (.if_icmp .gt 7, 3) := by decide +kernel
theorem dX9_hold_164 : decode cX9_hold 164 = .ok (.iconst 1, 1) := by decide +kernel
theorem dX9_hold_165 : decode cX9_hold 165 = .ok (.goto 4, 3) := by decide +kernel
theorem dX9_hold_168 : decode cX9_hold 168 = .ok (.iconst 0, 1) := by decide +kernel
theorem dX9_hold_169 : decode cX9_hold 169 = .ok (.istore 4, 2) := by decide +kernel
theorem dX9_hold_171 : decode cX9_hold 171 = .ok (.iload_n 3, 1) := by decide +kernel
theorem dX9_hold_172 : decode cX9_hold 172 = .ok (.ifCond .eq 21, 3) := by decide +kernel
theorem dX9_hold_175 : decode cX9_hold 175 = .ok (.iload 9, 2) := by decide +kernel
theorem dX9_hold_177 : decode cX9_hold 177 = .ok (.iload 8, 2) := by decide +kernel
theorem dX9_hold_179 : decode cX9_hold 179 = .ok (.if_icmp .lt 10, 3) := by decide +kernel
theorem dX9_hold_182 : decode cX9_hold 182 = .ok (.iload 10, 2) := by decide +kernel
theorem dX9_hold_184 : decode cX9_hold 184 = .ok (.iload 8, 2) := by decide +kernel
theorem dX9_hold_186 : decode cX9_hold 186 = .ok (.if_icmp .ge 7, 3) := by decide +kernel
theorem dX9_hold_189 : decode cX9_hold 189 = .ok (.iconst 1, 1) := by decide +kernel
theorem dX9_hold_190 : decode cX9_hold 190 = .ok (.goto 4, 3) := by decide +kernel
theorem dX9_hold_193 : decode cX9_hold 193 = .ok (.iconst 0, 1) := by decide +kernel
theorem dX9_hold_194 : decode cX9_hold 194 = .ok (.istore_n 3, 1) := by decide +kernel
theorem dX9_hold_195 : decode cX9_hold 195 = .ok (.iinc 6 1, 3) := by decide +kernel
theorem dX9_hold_198 : decode cX9_hold 198 = .ok (.goto (-146), 3) := by decide +kernel
theorem dX9_hold_201 : decode cX9_hold 201 = .ok (.iload_n 3, 1) := by decide +kernel
theorem dX9_hold_202 : decode cX9_hold 202 = .ok (.ifCond .eq 7, 3) := by decide +kernel
theorem dX9_hold_205 : decode cX9_hold 205 = .ok (.iconst 3, 1) := by decide +kernel
theorem dX9_hold_206 : decode cX9_hold 206 = .ok (.goto 22, 3) := by decide +kernel
theorem dX9_hold_209 : decode cX9_hold 209 = .ok (.iload 4, 2) := by decide +kernel
theorem dX9_hold_211 : decode cX9_hold 211 = .ok (.ifCond .eq 7, 3) := by decide +kernel
theorem dX9_hold_214 : decode cX9_hold 214 = .ok (.iconst 2, 1) := by decide +kernel
theorem dX9_hold_215 : decode cX9_hold 215 = .ok (.goto 13, 3) := by decide +kernel
theorem dX9_hold_218 : decode cX9_hold 218 = .ok (.iload 5, 2) := by decide +kernel
theorem dX9_hold_220 : decode cX9_hold 220 = .ok (.ifCond .eq 7, 3) := by decide +kernel
theorem dX9_hold_223 : decode cX9_hold 223 = .ok (.iconst 1, 1) := by decide +kernel
theorem dX9_hold_224 : decode cX9_hold 224 = .ok (.goto 4, 3) := by decide +kernel
theorem dX9_hold_227 : decode cX9_hold 227 = .ok (.iconst 0, 1) := by decide +kernel
theorem dX9_hold_228 : decode cX9_hold 228 = .ok (.ireturn, 1) := by decide +kernel
theorem dX9_dearestAt_0 : decode cX9_dearestAt 0 = .ok (.iconst 0, 1) := by decide +kernel
theorem dX9_dearestAt_1 : decode cX9_dearestAt 1 = .ok (.istore_n 3, 1) := by decide +kernel
theorem dX9_dearestAt_2 : decode cX9_dearestAt 2 = .ok (.iconst 0, 1) := by decide +kernel
theorem dX9_dearestAt_3 : decode cX9_dearestAt 3 = .ok (.istore 4, 2) := by decide +kernel
theorem dX9_dearestAt_5 : decode cX9_dearestAt 5 = .ok (.iload 4, 2) := by decide +kernel
theorem dX9_dearestAt_7 : decode cX9_dearestAt 7 = .ok (.iload_n 2, 1) := by decide +kernel
theorem dX9_dearestAt_8 : decode cX9_dearestAt 8 = .ok (.if_icmp .ge 112, 3) := by decide +kernel
theorem dX9_dearestAt_11 : decode cX9_dearestAt 11 = .ok (.iconst (-1), 1) := by decide +kernel
theorem dX9_dearestAt_12 : decode cX9_dearestAt 12 = .ok (.istore 5, 2) := by decide +kernel
theorem dX9_dearestAt_14 : decode cX9_dearestAt 14 = .ok (.iconst 0, 1) := by decide +kernel
theorem dX9_dearestAt_15 : decode cX9_dearestAt 15 = .ok (.istore 6, 2) := by decide +kernel
theorem dX9_dearestAt_17 : decode cX9_dearestAt 17 = .ok (.iload 6, 2) := by decide +kernel
theorem dX9_dearestAt_19 : decode cX9_dearestAt 19 = .ok (.aload_n 0, 1) := by decide +kernel
theorem dX9_dearestAt_20 : decode cX9_dearestAt 20 = .ok (.getfield 67, 3) := by decide +kernel
theorem dX9_dearestAt_23 : decode cX9_dearestAt 23 = .ok (.if_icmp .ge 78, 3) := by decide +kernel
theorem dX9_dearestAt_26 : decode cX9_dearestAt 26 = .ok (.aload_n 0, 1) := by decide +kernel
theorem dX9_dearestAt_27 : decode cX9_dearestAt 27 = .ok (.getfield 36, 3) := by decide +kernel
theorem dX9_dearestAt_30 : decode cX9_dearestAt 30 = .ok (.iload_n 1, 1) := by decide +kernel
theorem dX9_dearestAt_31 : decode cX9_dearestAt 31 = .ok (.iaload, 1) := by decide +kernel
theorem dX9_dearestAt_32 : decode cX9_dearestAt 32 = .ok (.iload 6, 2) := by decide +kernel
theorem dX9_dearestAt_34 : decode cX9_dearestAt 34 = .ok (.invokestatic 74, 3) := by decide +kernel
theorem dX9_dearestAt_37 : decode cX9_dearestAt 37 = .ok (.ifCond .eq 58, 3) := by decide +kernel
theorem dX9_dearestAt_40 : decode cX9_dearestAt 40 = .ok (.iload_n 3, 1) := by decide +kernel
theorem dX9_dearestAt_41 : decode cX9_dearestAt 41 = .ok (.iload 6, 2) := by decide +kernel
theorem dX9_dearestAt_43 : decode cX9_dearestAt 43 = .ok (.invokestatic 74, 3) := by decide +kernel
theorem dX9_dearestAt_46 : decode cX9_dearestAt 46 = .ok (.ifCond .eq 6, 3) := by decide +kernel
theorem dX9_dearestAt_49 : decode cX9_dearestAt 49 = .ok (.goto 46, 3) := by decide +kernel
theorem dX9_dearestAt_52 : decode cX9_dearestAt 52 = .ok (.iload 5, 2) := by decide +kernel
theorem dX9_dearestAt_54 : decode cX9_dearestAt 54 = .ok (.iconst (-1), 1) := by decide +kernel
theorem dX9_dearestAt_55 : decode cX9_dearestAt 55 = .ok (.if_icmp .eq 36, 3) := by decide +kernel
theorem dX9_dearestAt_58 : decode cX9_dearestAt 58 = .ok (.aload_n 0, 1) := by decide +kernel
theorem dX9_dearestAt_59 : decode cX9_dearestAt 59 = .ok (.getfield 17, 3) := by decide +kernel
theorem dX9_dearestAt_62 : decode cX9_dearestAt 62 = .ok (.iload 6, 2) := by decide +kernel
theorem dX9_dearestAt_64 : decode cX9_dearestAt 64 = .ok (.iaload, 1) := by decide +kernel
theorem dX9_dearestAt_65 : decode cX9_dearestAt 65 = .ok (.aload_n 0, 1) := by decide +kernel
theorem dX9_dearestAt_66 : decode cX9_dearestAt 66 = .ok (.getfield 13, 3) := by decide +kernel
theorem dX9_dearestAt_69 : decode cX9_dearestAt 69 = .ok (.iload 6, 2) := by decide +kernel
theorem dX9_dearestAt_71 : decode cX9_dearestAt 71 = .ok (.iaload, 1) := by decide +kernel
theorem dX9_dearestAt_72 : decode cX9_dearestAt 72 = .ok (.isub, 1) := by decide +kernel
theorem dX9_dearestAt_73 : decode cX9_dearestAt 73 = .ok (.aload_n 0, 1) := by decide +kernel
theorem dX9_dearestAt_74 : decode cX9_dearestAt 74 = .ok (.getfield 17, 3) := by decide +kernel
theorem dX9_dearestAt_77 : decode cX9_dearestAt 77 = .ok (.iload 5, 2) := by decide +kernel
theorem dX9_dearestAt_79 : decode cX9_dearestAt 79 = .ok (.iaload, 1) := by decide +kernel
theorem dX9_dearestAt_80 : decode cX9_dearestAt 80 = .ok (.aload_n 0, 1) := by decide +kernel
theorem dX9_dearestAt_81 : decode cX9_dearestAt 81 = .ok (.getfield 13, 3) := by decide +kernel
theorem dX9_dearestAt_84 : decode cX9_dearestAt 84 = .ok (.iload 5, 2) := by decide +kernel
theorem dX9_dearestAt_86 : decode cX9_dearestAt 86 = .ok (.iaload, 1) := by decide +kernel
theorem dX9_dearestAt_87 : decode cX9_dearestAt 87 = .ok (.isub, 1) := by decide +kernel
theorem dX9_dearestAt_88 : decode cX9_dearestAt 88 = .ok (.if_icmp .le 7, 3) := by decide +kernel
theorem dX9_dearestAt_91 : decode cX9_dearestAt 91 = .ok (.iload 6, 2) := by decide +kernel
theorem dX9_dearestAt_93 : decode cX9_dearestAt 93 = .ok (.istore 5, 2) := by decide +kernel
theorem dX9_dearestAt_95 : decode cX9_dearestAt 95 = .ok (.iinc 6 1, 3) := by decide +kernel
theorem dX9_dearestAt_98 : decode cX9_dearestAt 98 = .ok (.goto (-81), 3) := by decide +kernel
theorem dX9_dearestAt_101 : decode cX9_dearestAt 101 = .ok (.iload 5, 2) := by decide +kernel
theorem dX9_dearestAt_103 : decode cX9_dearestAt 103 = .ok (.iconst (-1), 1) := by decide +kernel
theorem dX9_dearestAt_104 : decode cX9_dearestAt 104 = .ok (.if_icmp .eq 10, 3) := by decide +kernel
theorem dX9_dearestAt_107 : decode cX9_dearestAt 107 = .ok (.iload_n 3, 1) := by decide +kernel
theorem dX9_dearestAt_108 : decode cX9_dearestAt 108 = .ok (.iconst 1, 1) := by decide +kernel
theorem dX9_dearestAt_109 : decode cX9_dearestAt 109 = .ok (.iload 5, 2) := by decide +kernel
theorem dX9_dearestAt_111 : decode cX9_dearestAt 111 = .ok (.ishl, 1) := by decide +kernel
theorem dX9_dearestAt_112 : decode cX9_dearestAt 112 = .ok (.ior, 1) := by decide +kernel
theorem dX9_dearestAt_113 : decode cX9_dearestAt 113 = .ok (.istore_n 3, 1) := by decide +kernel
theorem dX9_dearestAt_114 : decode cX9_dearestAt 114 = .ok (.iinc 4 1, 3) := by decide +kernel
theorem dX9_dearestAt_117 : decode cX9_dearestAt 117 = .ok (.goto (-112), 3) := by decide +kernel
theorem dX9_dearestAt_120 : decode cX9_dearestAt 120 = .ok (.aload_n 0, 1) := by decide +kernel
theorem dX9_dearestAt_121 : decode cX9_dearestAt 121 = .ok (.aload_n 0, 1) := by decide +kernel
theorem dX9_dearestAt_122 : decode cX9_dearestAt 122 = .ok (.getfield 36, 3) := by decide +kernel
theorem dX9_dearestAt_125 : decode cX9_dearestAt 125 = .ok (.iload_n 1, 1) := by decide +kernel
theorem dX9_dearestAt_126 : decode cX9_dearestAt 126 = .ok (.iaload, 1) := by decide +kernel
theorem dX9_dearestAt_127 : decode cX9_dearestAt 127 = .ok (.iload_n 3, 1) := by decide +kernel
theorem dX9_dearestAt_128 : decode cX9_dearestAt 128 = .ok (.invokevirtual 127, 3) := by decide +kernel
theorem dX9_dearestAt_131 : decode cX9_dearestAt 131 = .ok (.ireturn, 1) := by decide +kernel
theorem dX9_dearest_0 : decode cX9_dearest 0 = .ok (.aload_n 0, 1) := by decide +kernel
theorem dX9_dearest_1 : decode cX9_dearest 1 = .ok (.iload_n 1, 1) := by decide +kernel
theorem dX9_dearest_2 : decode cX9_dearest 2 = .ok (.invokevirtual 121, 3) := by decide +kernel
theorem dX9_dearest_5 : decode cX9_dearest 5 = .ok (.ifCond .eq 22, 3) := by decide +kernel
theorem dX9_dearest_8 : decode cX9_dearest 8 = .ok (.iload_n 2, 1) := by decide +kernel
theorem dX9_dearest_9 : decode cX9_dearest 9 = .ok (.iconst 0, 1) := by decide +kernel
theorem dX9_dearest_10 : decode cX9_dearest 10 = .ok (.bipush 12, 2) := by decide +kernel
theorem dX9_dearest_12 : decode cX9_dearest 12 = .ok (.invokestatic 70, 3) := by decide +kernel
theorem dX9_dearest_15 : decode cX9_dearest 15 = .ok (.ifCond .eq 12, 3) := by decide +kernel
theorem dX9_dearest_18 : decode cX9_dearest 18 = .ok (.aload_n 0, 1) := by decide +kernel
theorem dX9_dearest_19 : decode cX9_dearest 19 = .ok (.iload_n 1, 1) := by decide +kernel
theorem dX9_dearest_20 : decode cX9_dearest 20 = .ok (.iload_n 2, 1) := by decide +kernel
theorem dX9_dearest_21 : decode cX9_dearest 21 = .ok (.invokevirtual 148, 3) := by decide +kernel
theorem dX9_dearest_24 : decode cX9_dearest 24 = .ok (.goto 4, 3) := by decide +kernel
theorem dX9_dearest_27 : decode cX9_dearest 27 = .ok (.iconst (-1), 1) := by decide +kernel
theorem dX9_dearest_28 : decode cX9_dearest 28 = .ok (.ireturn, 1) := by decide +kernel
theorem dX9_few_0 : decode cX9_few 0 = .ok (.iload_n 1, 1) := by decide +kernel
theorem dX9_few_1 : decode cX9_few 1 = .ok (.iconst 0, 1) := by decide +kernel
theorem dX9_few_2 : decode cX9_few 2 = .ok (.bipush 12, 2) := by decide +kernel
theorem dX9_few_4 : decode cX9_few 4 = .ok (.invokestatic 70, 3) := by decide +kernel
theorem dX9_few_7 : decode cX9_few 7 = .ok (.ifCond .ne 5, 3) := by decide +kernel
theorem dX9_few_10 : decode cX9_few 10 = .ok (.iconst (-1), 1) := by decide +kernel
theorem dX9_few_11 : decode cX9_few 11 = .ok (.ireturn, 1) := by decide +kernel
theorem dX9_few_12 : decode cX9_few 12 = .ok (.aload_n 0, 1) := by decide +kernel
theorem dX9_few_13 : decode cX9_few 13 = .ok (.getfield 101, 3) := by decide +kernel
theorem dX9_few_16 : decode cX9_few 16 = .ok (.ifCond .ne 6, 3) := by decide +kernel
theorem dX9_few_19 : decode cX9_few 19 = .ok (.bipush (-6), 2) := by decide +kernel
theorem dX9_few_21 : decode cX9_few 21 = .ok (.ireturn, 1) := by decide +kernel
theorem dX9_few_22 : decode cX9_few 22 = .ok (.iconst 0, 1) := by decide +kernel
theorem dX9_few_23 : decode cX9_few 23 = .ok (.istore_n 2, 1) := by decide +kernel
theorem dX9_few_24 : decode cX9_few 24 = .ok (.iconst 1, 1) := by decide +kernel
theorem dX9_few_25 : decode cX9_few 25 = .ok (.istore_n 3, 1) := by decide +kernel
theorem dX9_few_26 : decode cX9_few 26 = .ok (.iload_n 3, 1) := by decide +kernel
theorem dX9_few_27 : decode cX9_few 27 = .ok (.aload_n 0, 1) := by decide +kernel
theorem dX9_few_28 : decode cX9_few 28 = .ok (.getfield 101, 3) := by decide +kernel
theorem dX9_few_31 : decode cX9_few 31 = .ok (.if_icmp .ge 26, 3) := by decide +kernel
theorem dX9_few_34 : decode cX9_few 34 = .ok (.aload_n 0, 1) := by decide +kernel
theorem dX9_few_35 : decode cX9_few 35 = .ok (.iload_n 3, 1) := by decide +kernel
theorem dX9_few_36 : decode cX9_few 36 = .ok (.iload_n 1, 1) := by decide +kernel
theorem dX9_few_37 : decode cX9_few 37 = .ok (.invokevirtual 148, 3) := by decide +kernel
theorem dX9_few_40 : decode cX9_few 40 = .ok (.aload_n 0, 1) := by decide +kernel
theorem dX9_few_41 : decode cX9_few 41 = .ok (.iload_n 2, 1) := by decide +kernel
theorem dX9_few_42 : decode cX9_few 42 = .ok (.iload_n 1, 1) := by decide +kernel
theorem dX9_few_43 : decode cX9_few 43 = .ok (.invokevirtual 148, 3) := by decide +kernel
theorem dX9_few_46 : decode cX9_few 46 = .ok (.if_icmp .ge 5, 3) := by decide +kernel
theorem dX9_few_49 : decode cX9_few 49 = .ok (.iload_n 3, 1) := by decide +kernel
theorem dX9_few_50 : decode cX9_few 50 = .ok (.istore_n 2, 1) := by decide +kernel
theorem dX9_few_51 : decode cX9_few 51 = .ok (.iinc 3 1, 3) := by decide +kernel
theorem dX9_few_54 : decode cX9_few 54 = .ok (.goto (-28), 3) := by decide +kernel
theorem dX9_few_57 : decode cX9_few 57 = .ok (.iload_n 2, 1) := by decide +kernel
theorem dX9_few_58 : decode cX9_few 58 = .ok (.ireturn, 1) := by decide +kernel
theorem dX9_sumIn_0 : decode cX9_sumIn 0 = .ok (.iconst 0, 1) := by decide +kernel
theorem dX9_sumIn_1 : decode cX9_sumIn 1 = .ok (.istore_n 3, 1) := by decide +kernel
theorem dX9_sumIn_2 : decode cX9_sumIn 2 = .ok (.iconst 0, 1) := by decide +kernel
theorem dX9_sumIn_3 : decode cX9_sumIn 3 = .ok (.istore 4, 2) := by decide +kernel
theorem dX9_sumIn_5 : decode cX9_sumIn 5 = .ok (.iload 4, 2) := by decide +kernel
theorem dX9_sumIn_7 : decode cX9_sumIn 7 = .ok (.aload_n 0, 1) := by decide +kernel
theorem dX9_sumIn_8 : decode cX9_sumIn 8 = .ok (.getfield 67, 3) := by decide +kernel
theorem dX9_sumIn_11 : decode cX9_sumIn 11 = .ok (.if_icmp .ge 37, 3) := by decide +kernel
theorem dX9_sumIn_14 : decode cX9_sumIn 14 = .ok (.iload_n 3, 1) := by decide +kernel
theorem dX9_sumIn_15 : decode cX9_sumIn 15 = .ok (.iload_n 2, 1) := by decide +kernel
theorem dX9_sumIn_16 : decode cX9_sumIn 16 = .ok (.iload 4, 2) := by decide +kernel
theorem dX9_sumIn_18 : decode cX9_sumIn 18 = .ok (.invokestatic 74, 3) := by decide +kernel
theorem dX9_sumIn_21 : decode cX9_sumIn 21 = .ok (.ifCond .eq 18, 3) := by decide +kernel
theorem dX9_sumIn_24 : decode cX9_sumIn 24 = .ok (.aload_n 0, 1) := by decide +kernel
theorem dX9_sumIn_25 : decode cX9_sumIn 25 = .ok (.getfield 33, 3) := by decide +kernel
theorem dX9_sumIn_28 : decode cX9_sumIn 28 = .ok (.bipush 12, 2) := by decide +kernel
theorem dX9_sumIn_30 : decode cX9_sumIn 30 = .ok (.iload_n 1, 1) := by decide +kernel
theorem dX9_sumIn_31 : decode cX9_sumIn 31 = .ok (.imul, 1) := by decide +kernel
theorem dX9_sumIn_32 : decode cX9_sumIn 32 = .ok (.iload 4, 2) := by decide +kernel
theorem dX9_sumIn_34 : decode cX9_sumIn 34 = .ok (.iadd, 1) := by decide +kernel
theorem dX9_sumIn_35 : decode cX9_sumIn 35 = .ok (.iaload, 1) := by decide +kernel
theorem dX9_sumIn_36 : decode cX9_sumIn 36 = .ok (.goto 4, 3) := by decide +kernel
theorem dX9_sumIn_39 : decode cX9_sumIn 39 = .ok (.iconst 0, 1) := by decide +kernel
theorem dX9_sumIn_40 : decode cX9_sumIn 40 = .ok (.iadd, 1) := by decide +kernel
theorem dX9_sumIn_41 : decode cX9_sumIn 41 = .ok (.istore_n 3, 1) := by decide +kernel
theorem dX9_sumIn_42 : decode cX9_sumIn 42 = .ok (.iinc 4 1, 3) := by decide +kernel
theorem dX9_sumIn_45 : decode cX9_sumIn 45 = .ok (.goto (-40), 3) := by decide +kernel
theorem dX9_sumIn_48 : decode cX9_sumIn 48 = .ok (.iload_n 3, 1) := by decide +kernel
theorem dX9_sumIn_49 : decode cX9_sumIn 49 = .ok (.ireturn, 1) := by decide +kernel
theorem dX9_isThere_0 : decode cX9_isThere 0 = .ok (.iload_n 1, 1) := by decide +kernel
theorem dX9_isThere_1 : decode cX9_isThere 1 = .ok (.iconst 0, 1) := by decide +kernel
theorem dX9_isThere_2 : decode cX9_isThere 2 = .ok (.bipush 7, 2) := by decide +kernel
theorem dX9_isThere_4 : decode cX9_isThere 4 = .ok (.invokestatic 70, 3) := by decide +kernel
theorem dX9_isThere_7 : decode cX9_isThere 7 = .ok (.ifCond .eq 16, 3) := by decide +kernel
theorem dX9_isThere_10 : decode cX9_isThere 10 = .ok (.aload_n 0, 1) := by decide +kernel
theorem dX9_isThere_11 : decode cX9_isThere 11 = .ok (.getfield 29, 3) := by decide +kernel
theorem dX9_isThere_14 : decode cX9_isThere 14 = .ok (.iload_n 1, 1) := by decide +kernel
theorem dX9_isThere_15 : decode cX9_isThere 15 = .ok (.baload, 1) := by decide +kernel
theorem dX9_isThere_16 : decode cX9_isThere 16 = .ok (.ifCond .eq 7, 3) := by decide +kernel
theorem dX9_isThere_19 : decode cX9_isThere 19 = .ok (.iconst 1, 1) := by decide +kernel
theorem dX9_isThere_20 : decode cX9_isThere 20 = .ok (.goto 4, 3) := by decide +kernel
theorem dX9_isThere_23 : decode cX9_isThere 23 = .ok (.iconst 0, 1) := by decide +kernel
theorem dX9_isThere_24 : decode cX9_isThere 24 = .ok (.ireturn, 1) := by decide +kernel
theorem dX9_costIn_0 : decode cX9_costIn 0 = .ok (.aload_n 0, 1) := by decide +kernel
theorem dX9_costIn_1 : decode cX9_costIn 1 = .ok (.iload_n 1, 1) := by decide +kernel
theorem dX9_costIn_2 : decode cX9_costIn 2 = .ok (.invokevirtual 151, 3) := by decide +kernel
theorem dX9_costIn_5 : decode cX9_costIn 5 = .ok (.ifCond .eq 25, 3) := by decide +kernel
theorem dX9_costIn_8 : decode cX9_costIn 8 = .ok (.aload_n 0, 1) := by decide +kernel
theorem dX9_costIn_9 : decode cX9_costIn 9 = .ok (.iload_n 2, 1) := by decide +kernel
theorem dX9_costIn_10 : decode cX9_costIn 10 = .ok (.invokevirtual 121, 3) := by decide +kernel
theorem dX9_costIn_13 : decode cX9_costIn 13 = .ok (.ifCond .eq 17, 3) := by decide +kernel
theorem dX9_costIn_16 : decode cX9_costIn 16 = .ok (.aload_n 0, 1) := by decide +kernel
theorem dX9_costIn_17 : decode cX9_costIn 17 = .ok (.iload_n 1, 1) := by decide +kernel
theorem dX9_costIn_18 : decode cX9_costIn 18 = .ok (.aload_n 0, 1) := by decide +kernel
theorem dX9_costIn_19 : decode cX9_costIn 19 = .ok (.getfield 36, 3) := by decide +kernel
theorem dX9_costIn_22 : decode cX9_costIn 22 = .ok (.iload_n 2, 1) := by decide +kernel
theorem dX9_costIn_23 : decode cX9_costIn 23 = .ok (.iaload, 1) := by decide +kernel
theorem dX9_costIn_24 : decode cX9_costIn 24 = .ok (.invokevirtual 154, 3) := by decide +kernel
theorem dX9_costIn_27 : decode cX9_costIn 27 = .ok (.goto 4, 3) := by decide +kernel
theorem dX9_costIn_30 : decode cX9_costIn 30 = .ok (.iconst (-1), 1) := by decide +kernel
theorem dX9_costIn_31 : decode cX9_costIn 31 = .ok (.ireturn, 1) := by decide +kernel
theorem dX9_firstIn_0 : decode cX9_firstIn 0 = .ok (.iconst 0, 1) := by decide +kernel
theorem dX9_firstIn_1 : decode cX9_firstIn 1 = .ok (.istore_n 2, 1) := by decide +kernel
theorem dX9_firstIn_2 : decode cX9_firstIn 2 = .ok (.iconst 1, 1) := by decide +kernel
theorem dX9_firstIn_3 : decode cX9_firstIn 3 = .ok (.istore_n 3, 1) := by decide +kernel
theorem dX9_firstIn_4 : decode cX9_firstIn 4 = .ok (.iload_n 3, 1) := by decide +kernel
theorem dX9_firstIn_5 : decode cX9_firstIn 5 = .ok (.aload_n 0, 1) := by decide +kernel
theorem dX9_firstIn_6 : decode cX9_firstIn 6 = .ok (.getfield 101, 3) := by decide +kernel
theorem dX9_firstIn_9 : decode cX9_firstIn 9 = .ok (.if_icmp .ge 36, 3) := by decide +kernel
theorem dX9_firstIn_12 : decode cX9_firstIn 12 = .ok (.aload_n 0, 1) := by decide +kernel
theorem dX9_firstIn_13 : decode cX9_firstIn 13 = .ok (.iload_n 1, 1) := by decide +kernel
theorem dX9_firstIn_14 : decode cX9_firstIn 14 = .ok (.aload_n 0, 1) := by decide +kernel
theorem dX9_firstIn_15 : decode cX9_firstIn 15 = .ok (.getfield 36, 3) := by decide +kernel
theorem dX9_firstIn_18 : decode cX9_firstIn 18 = .ok (.iload_n 3, 1) := by decide +kernel
theorem dX9_firstIn_19 : decode cX9_firstIn 19 = .ok (.iaload, 1) := by decide +kernel
theorem dX9_firstIn_20 : decode cX9_firstIn 20 = .ok (.invokevirtual 154, 3) := by decide +kernel
theorem dX9_firstIn_23 : decode cX9_firstIn 23 = .ok (.aload_n 0, 1) := by decide +kernel
theorem dX9_firstIn_24 : decode cX9_firstIn 24 = .ok (.iload_n 1, 1) := by decide +kernel
theorem dX9_firstIn_25 : decode cX9_firstIn 25 = .ok (.aload_n 0, 1) := by decide +kernel
theorem dX9_firstIn_26 : decode cX9_firstIn 26 = .ok (.getfield 36, 3) := by decide +kernel
theorem dX9_firstIn_29 : decode cX9_firstIn 29 = .ok (.iload_n 2, 1) := by decide +kernel
theorem dX9_firstIn_30 : decode cX9_firstIn 30 = .ok (.iaload, 1) := by decide +kernel
theorem dX9_firstIn_31 : decode cX9_firstIn 31 = .ok (.invokevirtual 154, 3) := by decide +kernel
theorem dX9_firstIn_34 : decode cX9_firstIn 34 = .ok (.if_icmp .ge 5, 3) := by decide +kernel
theorem dX9_firstIn_37 : decode cX9_firstIn 37 = .ok (.iload_n 3, 1) := by decide +kernel
theorem dX9_firstIn_38 : decode cX9_firstIn 38 = .ok (.istore_n 2, 1) := by decide +kernel
theorem dX9_firstIn_39 : decode cX9_firstIn 39 = .ok (.iinc 3 1, 3) := by decide +kernel
theorem dX9_firstIn_42 : decode cX9_firstIn 42 = .ok (.goto (-38), 3) := by decide +kernel
theorem dX9_firstIn_45 : decode cX9_firstIn 45 = .ok (.iload_n 2, 1) := by decide +kernel
theorem dX9_firstIn_46 : decode cX9_firstIn 46 = .ok (.ireturn, 1) := by decide +kernel
theorem dX9_cheapestIn_0 : decode cX9_cheapestIn 0 = .ok (.iload_n 1, 1) := by decide +kernel
theorem dX9_cheapestIn_1 : decode cX9_cheapestIn 1 = .ok (.iconst 0, 1) := by decide +kernel
theorem dX9_cheapestIn_2 : decode cX9_cheapestIn 2 = .ok (.bipush 7, 2) := by decide +kernel
theorem dX9_cheapestIn_4 : decode cX9_cheapestIn 4 = .ok (.invokestatic 70, 3) := by decide +kernel
theorem dX9_cheapestIn_7 : decode cX9_cheapestIn 7 = .ok (.ifCond .ne 7, 3) := by decide +kernel
theorem dX9_cheapestIn_10 : decode cX9_cheapestIn 10 = .ok (.iconst (-1), 1) := by decide +kernel
theorem dX9_cheapestIn_11 : decode cX9_cheapestIn 11 = .ok (.goto 34, 3) := by decide +kernel
theorem dX9_cheapestIn_14 : decode cX9_cheapestIn 14 = .ok (.aload_n 0, 1) := by decide +kernel
theorem dX9_cheapestIn_15 : decode cX9_cheapestIn 15 = .ok (.getfield 29, 3) := by decide +kernel
theorem dX9_cheapestIn_18 : decode cX9_cheapestIn 18 = .ok (.iload_n 1, 1) := by decide +kernel
theorem dX9_cheapestIn_19 : decode cX9_cheapestIn 19 = .ok (.baload, 1) := by decide +kernel
theorem dX9_cheapestIn_20 : decode cX9_cheapestIn 20 = .ok (.ifCond .ne 8, 3) := by decide +kernel
theorem dX9_cheapestIn_23 : decode cX9_cheapestIn 23 = .ok (.bipush (-2), 2) := by decide +kernel
theorem dX9_cheapestIn_25 : decode cX9_cheapestIn 25 = .ok (.goto 20, 3) := by decide +kernel
theorem dX9_cheapestIn_28 : decode cX9_cheapestIn 28 = .ok (.aload_n 0, 1) := by decide +kernel
theorem dX9_cheapestIn_29 : decode cX9_cheapestIn 29 = .ok (.getfield 101, 3) := by decide +kernel
theorem dX9_cheapestIn_32 : decode cX9_cheapestIn 32 = .ok (.ifCond .ne 8, 3) := by decide +kernel
theorem dX9_cheapestIn_35 : decode cX9_cheapestIn 35 = .ok (.bipush (-6), 2) := by decide +kernel
theorem dX9_cheapestIn_37 : decode cX9_cheapestIn 37 = .ok (.goto 8, 3) := by decide +kernel
theorem dX9_cheapestIn_40 : decode cX9_cheapestIn 40 = .ok (.aload_n 0, 1) := by decide +kernel
theorem dX9_cheapestIn_41 : decode cX9_cheapestIn 41 = .ok (.iload_n 1, 1) := by decide +kernel
theorem dX9_cheapestIn_42 : decode cX9_cheapestIn 42 = .ok (.invokevirtual 157, 3) := by decide +kernel
theorem dX9_cheapestIn_45 : decode cX9_cheapestIn 45 = .ok (.ireturn, 1) := by decide +kernel
theorem dX9_rueIn_0 : decode cX9_rueIn 0 = .ok (.aload_n 0, 1) := by decide +kernel
theorem dX9_rueIn_1 : decode cX9_rueIn 1 = .ok (.iload_n 1, 1) := by decide +kernel
theorem dX9_rueIn_2 : decode cX9_rueIn 2 = .ok (.aload_n 0, 1) := by decide +kernel
theorem dX9_rueIn_3 : decode cX9_rueIn 3 = .ok (.getfield 36, 3) := by decide +kernel
theorem dX9_rueIn_6 : decode cX9_rueIn 6 = .ok (.iload_n 2, 1) := by decide +kernel
theorem dX9_rueIn_7 : decode cX9_rueIn 7 = .ok (.iaload, 1) := by decide +kernel
theorem dX9_rueIn_8 : decode cX9_rueIn 8 = .ok (.invokevirtual 154, 3) := by decide +kernel
theorem dX9_rueIn_11 : decode cX9_rueIn 11 = .ok (.aload_n 0, 1) := by decide +kernel
theorem dX9_rueIn_12 : decode cX9_rueIn 12 = .ok (.iload_n 1, 1) := by decide +kernel
theorem dX9_rueIn_13 : decode cX9_rueIn 13 = .ok (.aload_n 0, 1) := by decide +kernel
theorem dX9_rueIn_14 : decode cX9_rueIn 14 = .ok (.getfield 36, 3) := by decide +kernel
theorem dX9_rueIn_17 : decode cX9_rueIn 17 = .ok (.aload_n 0, 1) := by decide +kernel
theorem dX9_rueIn_18 : decode cX9_rueIn 18 = .ok (.iload_n 1, 1) := by decide +kernel
theorem dX9_rueIn_19 : decode cX9_rueIn 19 = .ok (.invokevirtual 157, 3) := by decide +kernel
theorem dX9_rueIn_22 : decode cX9_rueIn 22 = .ok (.iaload, 1) := by decide +kernel
theorem dX9_rueIn_23 : decode cX9_rueIn 23 = .ok (.invokevirtual 154, 3) := by decide +kernel
theorem dX9_rueIn_26 : decode cX9_rueIn 26 = .ok (.isub, 1) := by decide +kernel
theorem dX9_rueIn_27 : decode cX9_rueIn 27 = .ok (.ireturn, 1) := by decide +kernel
theorem dX9_rueOf_0 : decode cX9_rueOf 0 = .ok (.aload_n 0, 1) := by decide +kernel
theorem dX9_rueOf_1 : decode cX9_rueOf 1 = .ok (.iload_n 1, 1) := by decide +kernel
theorem dX9_rueOf_2 : decode cX9_rueOf 2 = .ok (.invokevirtual 121, 3) := by decide +kernel
theorem dX9_rueOf_5 : decode cX9_rueOf 5 = .ok (.ifCond .eq 10, 3) := by decide +kernel
theorem dX9_rueOf_8 : decode cX9_rueOf 8 = .ok (.aload_n 0, 1) := by decide +kernel
theorem dX9_rueOf_9 : decode cX9_rueOf 9 = .ok (.invokevirtual 117, 3) := by decide +kernel
theorem dX9_rueOf_12 : decode cX9_rueOf 12 = .ok (.ifCond .ne 5, 3) := by decide +kernel
theorem dX9_rueOf_15 : decode cX9_rueOf 15 = .ok (.iconst (-1), 1) := by decide +kernel
theorem dX9_rueOf_16 : decode cX9_rueOf 16 = .ok (.ireturn, 1) := by decide +kernel
theorem dX9_rueOf_17 : decode cX9_rueOf 17 = .ok (.iconst 0, 1) := by decide +kernel
theorem dX9_rueOf_18 : decode cX9_rueOf 18 = .ok (.istore_n 2, 1) := by decide +kernel
theorem dX9_rueOf_19 : decode cX9_rueOf 19 = .ok (.iconst 0, 1) := by decide +kernel
theorem dX9_rueOf_20 : decode cX9_rueOf 20 = .ok (.istore_n 3, 1) := by decide +kernel
theorem dX9_rueOf_21 : decode cX9_rueOf 21 = .ok (.iload_n 3, 1) := by decide +kernel
theorem dX9_rueOf_22 : decode cX9_rueOf 22 = .ok (.bipush 8, 2) := by decide +kernel
theorem dX9_rueOf_24 : decode cX9_rueOf 24 = .ok (.if_icmp .ge 35, 3) := by decide +kernel
theorem dX9_rueOf_27 : decode cX9_rueOf 27 = .ok (.aload_n 0, 1) := by decide +kernel
theorem dX9_rueOf_28 : decode cX9_rueOf 28 = .ok (.getfield 29, 3) := by decide +kernel
theorem dX9_rueOf_31 : decode cX9_rueOf 31 = .ok (.iload_n 3, 1) := by decide +kernel
theorem dX9_rueOf_32 : decode cX9_rueOf 32 = .ok (.baload, 1) := by decide +kernel
theorem dX9_rueOf_33 : decode cX9_rueOf 33 = .ok (.ifCond .eq 20, 3) := by decide +kernel
theorem dX9_rueOf_36 : decode cX9_rueOf 36 = .ok (.aload_n 0, 1) := by decide +kernel
theorem dX9_rueOf_37 : decode cX9_rueOf 37 = .ok (.iload_n 3, 1) := by decide +kernel
theorem dX9_rueOf_38 : decode cX9_rueOf 38 = .ok (.iload_n 1, 1) := by decide +kernel
theorem dX9_rueOf_39 : decode cX9_rueOf 39 = .ok (.invokevirtual 160, 3) := by decide +kernel
theorem dX9_rueOf_42 : decode cX9_rueOf 42 = .ok (.iload_n 2, 1) := by decide +kernel
theorem dX9_rueOf_43 : decode cX9_rueOf 43 = .ok (.if_icmp .le 10, 3) := by decide +kernel
theorem dX9_rueOf_46 : decode cX9_rueOf 46 = .ok (.aload_n 0, 1) := by decide +kernel
theorem dX9_rueOf_47 : decode cX9_rueOf 47 = .ok (.iload_n 3, 1) := by decide +kernel
theorem dX9_rueOf_48 : decode cX9_rueOf 48 = .ok (.iload_n 1, 1) := by decide +kernel
theorem dX9_rueOf_49 : decode cX9_rueOf 49 = .ok (.invokevirtual 160, 3) := by decide +kernel
theorem dX9_rueOf_52 : decode cX9_rueOf 52 = .ok (.istore_n 2, 1) := by decide +kernel
theorem dX9_rueOf_53 : decode cX9_rueOf 53 = .ok (.iinc 3 1, 3) := by decide +kernel
theorem dX9_rueOf_56 : decode cX9_rueOf 56 = .ok (.goto (-35), 3) := by decide +kernel
theorem dX9_rueOf_59 : decode cX9_rueOf 59 = .ok (.iload_n 2, 1) := by decide +kernel
theorem dX9_rueOf_60 : decode cX9_rueOf 60 = .ok (.ireturn, 1) := by decide +kernel
theorem dX9_bestOf_0 : decode cX9_bestOf 0 = .ok (.aload_n 0, 1) := by decide +kernel
theorem dX9_bestOf_1 : decode cX9_bestOf 1 = .ok (.invokevirtual 117, 3) := by decide +kernel
theorem dX9_bestOf_4 : decode cX9_bestOf 4 = .ok (.ifCond .ne 6, 3) := by decide +kernel
theorem dX9_bestOf_7 : decode cX9_bestOf 7 = .ok (.bipush (-2), 2) := by decide +kernel
theorem dX9_bestOf_9 : decode cX9_bestOf 9 = .ok (.ireturn, 1) := by decide +kernel
theorem dX9_bestOf_10 : decode cX9_bestOf 10 = .ok (.aload_n 0, 1) := by decide +kernel
theorem dX9_bestOf_11 : decode cX9_bestOf 11 = .ok (.getfield 101, 3) := by decide +kernel
theorem dX9_bestOf_14 : decode cX9_bestOf 14 = .ok (.ifCond .ne 6, 3) := by decide +kernel
theorem dX9_bestOf_17 : decode cX9_bestOf 17 = .ok (.bipush (-6), 2) := by decide +kernel
theorem dX9_bestOf_19 : decode cX9_bestOf 19 = .ok (.ireturn, 1) := by decide +kernel
theorem dX9_bestOf_20 : decode cX9_bestOf 20 = .ok (.iconst 0, 1) := by decide +kernel
theorem dX9_bestOf_21 : decode cX9_bestOf 21 = .ok (.istore_n 1, 1) := by decide +kernel
theorem dX9_bestOf_22 : decode cX9_bestOf 22 = .ok (.aload_n 0, 1) := by decide +kernel
theorem dX9_bestOf_23 : decode cX9_bestOf 23 = .ok (.iconst 0, 1) := by decide +kernel
theorem dX9_bestOf_24 : decode cX9_bestOf 24 = .ok (.invokevirtual 163, 3) := by decide +kernel
theorem dX9_bestOf_27 : decode cX9_bestOf 27 = .ok (.istore_n 2, 1) := by decide +kernel
theorem dX9_bestOf_28 : decode cX9_bestOf 28 = .ok (.iconst 1, 1) := by decide +kernel
theorem dX9_bestOf_29 : decode cX9_bestOf 29 = .ok (.istore_n 3, 1) := by decide +kernel
theorem dX9_bestOf_30 : decode cX9_bestOf 30 = .ok (.iload_n 3, 1) := by decide +kernel
theorem dX9_bestOf_31 : decode cX9_bestOf 31 = .ok (.aload_n 0, 1) := by decide +kernel
theorem dX9_bestOf_32 : decode cX9_bestOf 32 = .ok (.getfield 101, 3) := by decide +kernel
theorem dX9_bestOf_35 : decode cX9_bestOf 35 = .ok (.if_icmp .ge 30, 3) := by decide +kernel
theorem dX9_bestOf_38 : decode cX9_bestOf 38 = .ok (.aload_n 0, 1) := by decide +kernel
theorem dX9_bestOf_39 : decode cX9_bestOf 39 = .ok (.iload_n 3, 1) := by decide +kernel
theorem dX9_bestOf_40 : decode cX9_bestOf 40 = .ok (.invokevirtual 163, 3) := by decide +kernel
theorem dX9_bestOf_43 : decode cX9_bestOf 43 = .ok (.istore 4, 2) := by decide +kernel
theorem dX9_bestOf_45 : decode cX9_bestOf 45 = .ok (.iload 4, 2) := by decide +kernel
theorem dX9_bestOf_47 : decode cX9_bestOf 47 = .ok (.iload_n 2, 1) := by decide +kernel
theorem dX9_bestOf_48 : decode cX9_bestOf 48 = .ok (.if_icmp .lt 6, 3) := by decide +kernel
theorem dX9_bestOf_51 : decode cX9_bestOf 51 = .ok (.goto 8, 3) := by decide +kernel
theorem dX9_bestOf_54 : decode cX9_bestOf 54 = .ok (.iload 4, 2) := by decide +kernel
theorem dX9_bestOf_56 : decode cX9_bestOf 56 = .ok (.istore_n 2, 1) := by decide +kernel
theorem dX9_bestOf_57 : decode cX9_bestOf 57 = .ok (.iload_n 3, 1) := by decide +kernel
theorem dX9_bestOf_58 : decode cX9_bestOf 58 = .ok (.istore_n 1, 1) := by decide +kernel
theorem dX9_bestOf_59 : decode cX9_bestOf 59 = .ok (.iinc 3 1, 3) := by decide +kernel
theorem dX9_bestOf_62 : decode cX9_bestOf 62 = .ok (.goto (-32), 3) := by decide +kernel
theorem dX9_bestOf_65 : decode cX9_bestOf 65 = .ok (.iload_n 1, 1) := by decide +kernel
theorem dX9_bestOf_66 : decode cX9_bestOf 66 = .ok (.ireturn, 1) := by decide +kernel
theorem dX9_isFront_0 : decode cX9_isFront 0 = .ok (.aload_n 0, 1) := by decide +kernel
theorem dX9_isFront_1 : decode cX9_isFront 1 = .ok (.iload_n 1, 1) := by decide +kernel
theorem dX9_isFront_2 : decode cX9_isFront 2 = .ok (.aload_n 0, 1) := by decide +kernel
theorem dX9_isFront_3 : decode cX9_isFront 3 = .ok (.getfield 36, 3) := by decide +kernel
theorem dX9_isFront_6 : decode cX9_isFront 6 = .ok (.iload_n 3, 1) := by decide +kernel
theorem dX9_isFront_7 : decode cX9_isFront 7 = .ok (.iaload, 1) := by decide +kernel
theorem dX9_isFront_8 : decode cX9_isFront 8 = .ok (.invokevirtual 154, 3) := by decide +kernel
theorem dX9_isFront_11 : decode cX9_isFront 11 = .ok (.istore 4, 2) := by decide +kernel
theorem dX9_isFront_13 : decode cX9_isFront 13 = .ok (.aload_n 0, 1) := by decide +kernel
theorem dX9_isFront_14 : decode cX9_isFront 14 = .ok (.iload_n 2, 1) := by decide +kernel
theorem dX9_isFront_15 : decode cX9_isFront 15 = .ok (.aload_n 0, 1) := by decide +kernel
theorem dX9_isFront_16 : decode cX9_isFront 16 = .ok (.getfield 36, 3) := by decide +kernel
theorem dX9_isFront_19 : decode cX9_isFront 19 = .ok (.iload_n 3, 1) := by decide +kernel
theorem dX9_isFront_20 : decode cX9_isFront 20 = .ok (.iaload, 1) := by decide +kernel
theorem dX9_isFront_21 : decode cX9_isFront 21 = .ok (.invokevirtual 154, 3) := by decide +kernel
theorem dX9_isFront_24 : decode cX9_isFront 24 = .ok (.istore 5, 2) := by decide +kernel
theorem dX9_isFront_26 : decode cX9_isFront 26 = .ok (.iconst 0, 1) := by decide +kernel
theorem dX9_isFront_27 : decode cX9_isFront 27 = .ok (.istore 6, 2) := by decide +kernel
theorem dX9_isFront_29 : decode cX9_isFront 29 = .ok (.iload 6, 2) := by decide +kernel
theorem dX9_isFront_31 : decode cX9_isFront 31 = .ok (.aload_n 0, 1) := by decide +kernel
theorem dX9_isFront_32 : decode cX9_isFront 32 = .ok (.getfield 101, 3) := by decide +kernel
theorem dX9_isFront_35 : decode cX9_isFront 35 = .ok (.if_icmp .ge 89, 3) := by decide +kernel
theorem dX9_isFront_38 : decode cX9_isFront 38 = .ok (.aload_n 0, 1) := by decide +kernel
theorem dX9_isFront_39 : decode cX9_isFront 39 = .ok (.iload_n 1, 1) := by decide +kernel
theorem dX9_isFront_40 : decode cX9_isFront 40 = .ok (.aload_n 0, 1) := by decide +kernel
theorem dX9_isFront_41 : decode cX9_isFront 41 = .ok (.getfield 36, 3) := by decide +kernel
theorem dX9_isFront_44 : decode cX9_isFront 44 = .ok (.iload 6, 2) := by decide +kernel
theorem dX9_isFront_46 : decode cX9_isFront 46 = .ok (.iaload, 1) := by decide +kernel
theorem dX9_isFront_47 : decode cX9_isFront 47 = .ok (.invokevirtual 154, 3) := by decide +kernel
theorem dX9_isFront_50 : decode cX9_isFront 50 = .ok (.istore 7, 2) := by decide +kernel
theorem dX9_isFront_52 : decode cX9_isFront 52 = .ok (.aload_n 0, 1) := by decide +kernel
theorem dX9_isFront_53 : decode cX9_isFront 53 = .ok (.iload_n 2, 1) := by decide +kernel
theorem dX9_isFront_54 : decode cX9_isFront 54 = .ok (.aload_n 0, 1) := by decide +kernel
theorem dX9_isFront_55 : decode cX9_isFront 55 = .ok (.getfield 36, 3) := by decide +kernel
theorem dX9_isFront_58 : decode cX9_isFront 58 = .ok (.iload 6, 2) := by decide +kernel
theorem dX9_isFront_60 : decode cX9_isFront 60 = .ok (.iaload, 1) := by decide +kernel
theorem dX9_isFront_61 : decode cX9_isFront 61 = .ok (.invokevirtual 154, 3) := by decide +kernel
theorem dX9_isFront_64 : decode cX9_isFront 64 = .ok (.istore 8, 2) := by decide +kernel
theorem dX9_isFront_66 : decode cX9_isFront 66 = .ok (.iload 7, 2) := by decide +kernel
theorem dX9_isFront_68 : decode cX9_isFront 68 = .ok (.iload 4, 2) := by decide +kernel
theorem dX9_isFront_70 : decode cX9_isFront 70 = .ok (.if_icmp .gt 26, 3) := by decide +kernel
theorem dX9_isFront_73 : decode cX9_isFront 73 = .ok (.iload 8, 2) := by decide +kernel
theorem dX9_isFront_75 : decode cX9_isFront 75 = .ok (.iload 5, 2) := by decide +kernel
theorem dX9_isFront_77 : decode cX9_isFront 77 = .ok (.if_icmp .gt 19, 3) := by decide +kernel
theorem dX9_isFront_80 : decode cX9_isFront 80 = .ok (.iload 7, 2) := by decide +kernel
theorem dX9_isFront_82 : decode cX9_isFront 82 = .ok (.iload 4, 2) := by decide +kernel
theorem dX9_isFront_84 : decode cX9_isFront 84 = .ok (.if_icmp .lt 10, 3) := by decide +kernel
theorem dX9_isFront_87 : decode cX9_isFront 87 = .ok (.iload 8, 2) := by decide +kernel
theorem dX9_isFront_89 : decode cX9_isFront 89 = .ok (.iload 5, 2) := by decide +kernel
theorem dX9_isFront_91 : decode cX9_isFront 91 = .ok (.if_icmp .ge 5, 3) := by decide +kernel
theorem dX9_isFront_94 : decode cX9_isFront 94 = .ok (.iconst 0, 1) := by decide +kernel
theorem dX9_isFront_95 : decode cX9_isFront 95 = .ok (.ireturn, 1) := by decide +kernel
theorem dX9_isFront_96 : decode cX9_isFront 96 = .ok (.iload 6, 2) := by decide +kernel
theorem dX9_isFront_98 : decode cX9_isFront 98 = .ok (.iload_n 3, 1) := by decide +kernel
theorem dX9_isFront_99 : decode cX9_isFront 99 = .ok (.if_icmp .ge 19, 3) := by decide +kernel
theorem dX9_isFront_102 : decode cX9_isFront 102 = .ok (.iload 7, 2) := by decide +kernel
theorem dX9_isFront_104 : decode cX9_isFront 104 = .ok (.iload 4, 2) := by decide +kernel
theorem dX9_isFront_106 : decode cX9_isFront 106 = .ok (.if_icmp .ne 12, 3) := by decide +kernel
theorem dX9_isFront_109 : decode cX9_isFront 109 = .ok (.iload 8, 2) := by decide +kernel
theorem dX9_isFront_111 : decode cX9_isFront 111 = .ok (.iload 5, 2) := by decide +kernel
theorem dX9_isFront_113 : decode cX9_isFront 113 = .ok (.if_icmp .ne 5, 3) := by decide +kernel
theorem dX9_isFront_116 : decode cX9_isFront 116 = .ok (.iconst 0, 1) := by decide +kernel
theorem dX9_isFront_117 : decode cX9_isFront 117 = .ok (.ireturn, 1) := by decide +kernel
theorem dX9_isFront_118 : decode cX9_isFront 118 = .ok (.iinc 6 1, 3) := by decide +kernel
theorem dX9_isFront_121 : decode cX9_isFront 121 = .ok (.goto (-92), 3) := by decide +kernel
theorem dX9_isFront_124 : decode cX9_isFront 124 = .ok (.iconst 1, 1) := by decide +kernel
theorem dX9_isFront_125 : decode cX9_isFront 125 = .ok (.ireturn, 1) := by decide +kernel
theorem dX9_front_0 : decode cX9_front 0 = .ok (.aload_n 0, 1) := by decide +kernel
theorem dX9_front_1 : decode cX9_front 1 = .ok (.iload_n 1, 1) := by decide +kernel
theorem dX9_front_2 : decode cX9_front 2 = .ok (.invokevirtual 151, 3) := by decide +kernel
theorem dX9_front_5 : decode cX9_front 5 = .ok (.ifCond .eq 11, 3) := by decide +kernel
theorem dX9_front_8 : decode cX9_front 8 = .ok (.aload_n 0, 1) := by decide +kernel
theorem dX9_front_9 : decode cX9_front 9 = .ok (.iload_n 2, 1) := by decide +kernel
theorem dX9_front_10 : decode cX9_front 10 = .ok (.invokevirtual 151, 3) := by decide +kernel
theorem dX9_front_13 : decode cX9_front 13 = .ok (.ifCond .ne 5, 3) := by decide +kernel
theorem dX9_front_16 : decode cX9_front 16 = .ok (.iconst (-1), 1) := by decide +kernel
theorem dX9_front_17 : decode cX9_front 17 = .ok (.ireturn, 1) := by decide +kernel
theorem dX9_front_18 : decode cX9_front 18 = .ok (.iconst 0, 1) := by decide +kernel
theorem dX9_front_19 : decode cX9_front 19 = .ok (.istore 4, 2) := by decide +kernel
theorem dX9_front_21 : decode cX9_front 21 = .ok (.iconst 0, 1) := by decide +kernel
theorem dX9_front_22 : decode cX9_front 22 = .ok (.istore 5, 2) := by decide +kernel
theorem dX9_front_24 : decode cX9_front 24 = .ok (.iload 5, 2) := by decide +kernel
theorem dX9_front_26 : decode cX9_front 26 = .ok (.aload_n 0, 1) := by decide +kernel
theorem dX9_front_27 : decode cX9_front 27 = .ok (.getfield 101, 3) := by decide +kernel
theorem dX9_front_30 : decode cX9_front 30 = .ok (.if_icmp .ge 100, 3) := by decide +kernel
theorem dX9_front_33 : decode cX9_front 33 = .ok (.aload_n 0, 1) := by decide +kernel
theorem dX9_front_34 : decode cX9_front 34 = .ok (.iload_n 1, 1) := by decide +kernel
theorem dX9_front_35 : decode cX9_front 35 = .ok (.iload_n 2, 1) := by decide +kernel
theorem dX9_front_36 : decode cX9_front 36 = .ok (.iload 5, 2) := by decide +kernel
theorem dX9_front_38 : decode cX9_front 38 = .ok (.invokevirtual 166, 3) := by decide +kernel
theorem dX9_front_41 : decode cX9_front 41 = .ok (.ifCond .ne 6, 3) := by decide +kernel
theorem dX9_front_44 : decode cX9_front 44 = .ok (.goto 80, 3) := by decide +kernel
theorem dX9_front_47 : decode cX9_front 47 = .ok (.iload 4, 2) := by decide +kernel
theorem dX9_front_49 : decode cX9_front 49 = .ok (.istore 6, 2) := by decide +kernel
theorem dX9_front_51 : decode cX9_front 51 = .ok (.iload 6, 2) := by decide +kernel
theorem dX9_front_53 : decode cX9_front 53 = .ok (.ifCond .le 59, 3) := by decide +kernel
theorem dX9_front_56 : decode cX9_front 56 = .ok (.aload_n 0, 1) := by decide +kernel
theorem dX9_front_57 : decode cX9_front 57 = .ok (.iload_n 1, 1) := by decide +kernel
theorem dX9_front_58 : decode cX9_front 58 = .ok (.aload_n 0, 1) := by decide +kernel
theorem dX9_front_59 : decode cX9_front 59 = .ok (.getfield 36, 3) := by decide +kernel
theorem dX9_front_62 : decode cX9_front 62 = .ok (.aload_n 0, 1) := by decide +kernel
theorem dX9_front_63 : decode cX9_front 63 = .ok (.getfield 48, 3) := by decide +kernel
theorem dX9_front_66 : decode cX9_front 66 = .ok (.iload 6, 2) := by decide +kernel
theorem dX9_front_68 : decode cX9_front 68 = .ok (.iconst 1, 1) := by decide +kernel
theorem dX9_front_69 : decode cX9_front 69 = .ok (.isub, 1) := by decide +kernel
theorem dX9_front_70 : decode cX9_front 70 = .ok (.iaload, 1) := by decide +kernel
theorem dX9_front_71 : decode cX9_front 71 = .ok (.iaload, 1) := by decide +kernel
theorem dX9_front_72 : decode cX9_front 72 = .ok (.invokevirtual 154, 3) := by decide +kernel
theorem dX9_front_75 : decode cX9_front 75 = .ok (.aload_n 0, 1) := by decide +kernel
theorem dX9_front_76 : decode cX9_front 76 = .ok (.iload_n 1, 1) := by decide +kernel
theorem dX9_front_77 : decode cX9_front 77 = .ok (.aload_n 0, 1) := by decide +kernel
theorem dX9_front_78 : decode cX9_front 78 = .ok (.getfield 36, 3) := by decide +kernel
theorem dX9_front_81 : decode cX9_front 81 = .ok (.iload 5, 2) := by decide +kernel
theorem dX9_front_83 : decode cX9_front 83 = .ok (.iaload, 1) := by decide +kernel
theorem dX9_front_84 : decode cX9_front 84 = .ok (.invokevirtual 154, 3) := by decide +kernel
theorem dX9_front_87 : decode cX9_front 87 = .ok (.if_icmp .le 25, 3) := by decide +kernel
theorem dX9_front_90 : decode cX9_front 90 = .ok (.aload_n 0, 1) := by decide +kernel
theorem dX9_front_91 : decode cX9_front 91 = .ok (.getfield 48, 3) := by decide +kernel
theorem dX9_front_94 : decode cX9_front 94 = .ok (.iload 6, 2) := by decide +kernel
theorem dX9_front_96 : decode cX9_front 96 = .ok (.aload_n 0, 1) := by decide +kernel
theorem dX9_front_97 : decode cX9_front 97 = .ok (.getfield 48, 3) := by decide +kernel
theorem dX9_front_100 : decode cX9_front 100 = .ok (.iload 6, 2) := by decide +kernel
theorem dX9_front_102 : decode cX9_front 102 = .ok (.iconst 1, 1) := by decide +kernel
theorem dX9_front_103 : decode cX9_front 103 = .ok (.isub, 1) := by decide +kernel
theorem dX9_front_104 : decode cX9_front 104 = .ok (.iaload, 1) := by decide +kernel
theorem dX9_front_105 : decode cX9_front 105 = .ok (.iastore, 1) := by decide +kernel
theorem dX9_front_106 : decode cX9_front 106 = .ok (.iinc 6 (-1), 3) := by decide +kernel
theorem dX9_front_109 : decode cX9_front 109 = .ok (.goto (-58), 3) := by decide +kernel
theorem dX9_front_112 : decode cX9_front 112 = .ok (.aload_n 0, 1) := by decide +kernel
theorem dX9_front_113 : decode cX9_front 113 = .ok (.getfield 48, 3) := by decide +kernel
theorem dX9_front_116 : decode cX9_front 116 = .ok (.iload 6, 2) := by decide +kernel
theorem dX9_front_118 : decode cX9_front 118 = .ok (.iload 5, 2) := by decide +kernel
theorem dX9_front_120 : decode cX9_front 120 = .ok (.iastore, 1) := by decide +kernel
theorem dX9_front_121 : decode cX9_front 121 = .ok (.iinc 4 1, 3) := by decide +kernel
theorem dX9_front_124 : decode cX9_front 124 = .ok (.iinc 5 1, 3) := by decide +kernel
theorem dX9_front_127 : decode cX9_front 127 = .ok (.goto (-103), 3) := by decide +kernel
theorem dX9_front_130 : decode cX9_front 130 = .ok (.iload_n 3, 1) := by decide +kernel
theorem dX9_front_131 : decode cX9_front 131 = .ok (.iconst (-1), 1) := by decide +kernel
theorem dX9_front_132 : decode cX9_front 132 = .ok (.if_icmp .ne 8, 3) := by decide +kernel
theorem dX9_front_135 : decode cX9_front 135 = .ok (.iload 4, 2) := by decide +kernel
theorem dX9_front_137 : decode cX9_front 137 = .ok (.goto 25, 3) := by decide +kernel
theorem dX9_front_140 : decode cX9_front 140 = .ok (.iload_n 3, 1) := by decide +kernel
theorem dX9_front_141 : decode cX9_front 141 = .ok (.iconst 0, 1) := by decide +kernel
theorem dX9_front_142 : decode cX9_front 142 = .ok (.iload 4, 2) := by decide +kernel
theorem dX9_front_144 : decode cX9_front 144 = .ok (.iconst 1, 1) := by decide +kernel
theorem dX9_front_145 : decode cX9_front 145 = .ok (.isub, 1) := by decide +kernel
theorem dX9_front_146 : decode cX9_front 146 = .ok (.invokestatic 70, 3) := by decide +kernel
theorem dX9_front_149 : decode cX9_front 149 = .ok (.ifCond .eq 12, 3) := by decide +kernel
theorem dX9_front_152 : decode cX9_front 152 = .ok (.aload_n 0, 1) := by decide +kernel
theorem dX9_front_153 : decode cX9_front 153 = .ok (.getfield 48, 3) := by decide +kernel
theorem dX9_front_156 : decode cX9_front 156 = .ok (.iload_n 3, 1) := by decide +kernel
theorem dX9_front_157 : decode cX9_front 157 = .ok (.iaload, 1) := by decide +kernel
theorem dX9_front_158 : decode cX9_front 158 = .ok (.goto 4, 3) := by decide +kernel
theorem dX9_front_161 : decode cX9_front 161 = .ok (.iconst (-1), 1) := by decide +kernel
theorem dX9_front_162 : decode cX9_front 162 = .ok (.ireturn, 1) := by decide +kernel
theorem dX9_gcd_0 : decode cX9_gcd 0 = .ok (.lload_n 0, 1) := by decide +kernel
theorem dX9_gcd_1 : decode cX9_gcd 1 = .ok (.lstore 4, 2) := by decide +kernel
theorem dX9_gcd_3 : decode cX9_gcd 3 = .ok (.lload_n 2, 1) := by decide +kernel
theorem dX9_gcd_4 : decode cX9_gcd 4 = .ok (.lstore 6, 2) := by decide +kernel
theorem dX9_gcd_6 : decode cX9_gcd 6 = .ok (.lload 6, 2) := by decide +kernel
theorem dX9_gcd_8 : decode cX9_gcd 8 = .ok (.lconst 0, 1) := by decide +kernel
theorem dX9_gcd_9 : decode cX9_gcd 9 = .ok (.lcmp, 1) := by decide +kernel
theorem dX9_gcd_10 : decode cX9_gcd 10 = .ok (.ifCond .le 21, 3) := by decide +kernel
theorem dX9_gcd_13 : decode cX9_gcd 13 = .ok (.lload 4, 2) := by decide +kernel
theorem dX9_gcd_15 : decode cX9_gcd 15 = .ok (.lload 6, 2) := by decide +kernel
theorem dX9_gcd_17 : decode cX9_gcd 17 = .ok (.lrem, 1) := by decide +kernel
theorem dX9_gcd_18 : decode cX9_gcd 18 = .ok (.lstore 8, 2) := by decide +kernel
theorem dX9_gcd_20 : decode cX9_gcd 20 = .ok (.lload 6, 2) := by decide +kernel
theorem dX9_gcd_22 : decode cX9_gcd 22 = .ok (.lstore 4, 2) := by decide +kernel
theorem dX9_gcd_24 : decode cX9_gcd 24 = .ok (.lload 8, 2) := by decide +kernel
theorem dX9_gcd_26 : decode cX9_gcd 26 = .ok (.lstore 6, 2) := by decide +kernel
theorem dX9_gcd_28 : decode cX9_gcd 28 = .ok (.goto (-22), 3) := by decide +kernel
theorem dX9_gcd_31 : decode cX9_gcd 31 = .ok (.lload 4, 2) := by decide +kernel
theorem dX9_gcd_33 : decode cX9_gcd 33 = .ok (.lreturn, 1) := by decide +kernel
theorem dX9_takesLess_0 : decode cX9_takesLess 0 = .ok (.aload_n 0, 1) := by decide +kernel
theorem dX9_takesLess_1 : decode cX9_takesLess 1 = .ok (.getfield 169, 3) := by decide +kernel
theorem dX9_takesLess_4 : decode cX9_takesLess 4 = .ok (.lconst 0, 1) := by decide +kernel
theorem dX9_takesLess_5 : decode cX9_takesLess 5 = .ok (.lcmp, 1) := by decide +kernel
theorem dX9_takesLess_6 : decode cX9_takesLess 6 = .ok (.ifCond .le 20, 3) := by decide +kernel
theorem dX9_takesLess_9 : decode cX9_takesLess 9 = .ok (.lload_n 1, 1) := by decide +kernel
theorem dX9_takesLess_10 : decode cX9_takesLess 10 = .ok (.aload_n 0, 1) := by decide +kernel
theorem dX9_takesLess_11 : decode cX9_takesLess 11 = .ok (.getfield 169, 3) := by decide +kernel
theorem dX9_takesLess_14 : decode cX9_takesLess 14 = .ok (.lmul, 1) := by decide +kernel
theorem dX9_takesLess_15 : decode cX9_takesLess 15 = .ok (.aload_n 0, 1) := by decide +kernel
theorem dX9_takesLess_16 : decode cX9_takesLess 16 = .ok (.getfield 173, 3) := by decide +kernel
theorem dX9_takesLess_19 : decode cX9_takesLess 19 = .ok (.lload_n 3, 1) := by decide +kernel
theorem dX9_takesLess_20 : decode cX9_takesLess 20 = .ok (.lmul, 1) := by decide +kernel
theorem dX9_takesLess_21 : decode cX9_takesLess 21 = .ok (.lcmp, 1) := by decide +kernel
theorem dX9_takesLess_22 : decode cX9_takesLess 22 = .ok (.ifCond .lt 4, 3) := by decide +kernel
theorem dX9_takesLess_25 : decode cX9_takesLess 25 = .ok (.return_, 1) := by decide +kernel
theorem dX9_takesLess_26 : decode cX9_takesLess 26 = .ok (.aload_n 0, 1) := by decide +kernel
theorem dX9_takesLess_27 : decode cX9_takesLess 27 = .ok (.lload_n 1, 1) := by decide +kernel
theorem dX9_takesLess_28 : decode cX9_takesLess 28 = .ok (.putfield 173, 3) := by decide +kernel
theorem dX9_takesLess_31 : decode cX9_takesLess 31 = .ok (.aload_n 0, 1) := by decide +kernel
theorem dX9_takesLess_32 : decode cX9_takesLess 32 = .ok (.lload_n 3, 1) := by decide +kernel
theorem dX9_takesLess_33 : decode cX9_takesLess 33 = .ok (.putfield 169, 3) := by decide +kernel
theorem dX9_takesLess_36 : decode cX9_takesLess 36 = .ok (.return_, 1) := by decide +kernel
theorem dX9_lots_0 : decode cX9_lots 0 = .ok (.iload_n 1, 1) := by decide +kernel
theorem dX9_lots_1 : decode cX9_lots 1 = .ok (.iconst 0, 1) := by decide +kernel
theorem dX9_lots_2 : decode cX9_lots 2 = .ok (.bipush 7, 2) := by decide +kernel
theorem dX9_lots_4 : decode cX9_lots 4 = .ok (.invokestatic 70, 3) := by decide +kernel
theorem dX9_lots_7 : decode cX9_lots 7 = .ok (.ifCond .eq 22, 3) := by decide +kernel
theorem dX9_lots_10 : decode cX9_lots 10 = .ok (.iload_n 2, 1) := by decide +kernel
theorem dX9_lots_11 : decode cX9_lots 11 = .ok (.iconst 0, 1) := by decide +kernel
theorem dX9_lots_12 : decode cX9_lots 12 = .ok (.bipush 7, 2) := by decide +kernel
theorem dX9_lots_14 : decode cX9_lots 14 = .ok (.invokestatic 70, 3) := by decide +kernel
theorem dX9_lots_17 : decode cX9_lots 17 = .ok (.ifCond .eq 12, 3) := by decide +kernel
theorem dX9_lots_20 : decode cX9_lots 20 = .ok (.iload_n 3, 1) := by decide +kernel
theorem dX9_lots_21 : decode cX9_lots 21 = .ok (.iconst 0, 1) := by decide +kernel
theorem dX9_lots_22 : decode cX9_lots 22 = .ok (.iconst 1, 1) := by decide +kernel
theorem dX9_lots_23 : decode cX9_lots 23 = .ok (.invokestatic 70, 3) := by decide +kernel
theorem dX9_lots_26 : decode cX9_lots 26 = .ok (.ifCond .ne 7, 3) := by decide +kernel
theorem dX9_lots_29 : decode cX9_lots 29 = .ok (.ldc2_w 176, 3) := by decide +kernel
theorem dX9_lots_32 : decode cX9_lots 32 = .ok (.lreturn, 1) := by decide +kernel
theorem dX9_lots_33 : decode cX9_lots 33 = .ok (.aload_n 0, 1) := by decide +kernel
theorem dX9_lots_34 : decode cX9_lots 34 = .ok (.getfield 29, 3) := by decide +kernel
theorem dX9_lots_37 : decode cX9_lots 37 = .ok (.iload_n 1, 1) := by decide +kernel
theorem dX9_lots_38 : decode cX9_lots 38 = .ok (.baload, 1) := by decide +kernel
theorem dX9_lots_39 : decode cX9_lots 39 = .ok (.ifCond .eq 12, 3) := by decide +kernel
theorem dX9_lots_42 : decode cX9_lots 42 = .ok (.aload_n 0, 1) := by decide +kernel
theorem dX9_lots_43 : decode cX9_lots 43 = .ok (.getfield 29, 3) := by decide +kernel
theorem dX9_lots_46 : decode cX9_lots 46 = .ok (.iload_n 2, 1) := by decide +kernel
theorem dX9_lots_47 : decode cX9_lots 47 = .ok (.baload, 1) := by decide +kernel
theorem dX9_lots_48 : decode cX9_lots 48 = .ok (.ifCond .ne 7, 3) := by decide +kernel
theorem dX9_lots_51 : decode cX9_lots 51 = .ok (.ldc2_w 178, 3) := by decide +kernel
theorem dX9_lots_54 : decode cX9_lots 54 = .ok (.lreturn, 1) := by decide +kernel
theorem dX9_lots_55 : decode cX9_lots 55 = .ok (.aload_n 0, 1) := by decide +kernel
theorem dX9_lots_56 : decode cX9_lots 56 = .ok (.getfield 101, 3) := by decide +kernel
theorem dX9_lots_59 : decode cX9_lots 59 = .ok (.ifCond .ne 7, 3) := by decide +kernel
theorem dX9_lots_62 : decode cX9_lots 62 = .ok (.ldc2_w 180, 3) := by decide +kernel
theorem dX9_lots_65 : decode cX9_lots 65 = .ok (.lreturn, 1) := by decide +kernel
theorem dX9_lots_66 : decode cX9_lots 66 = .ok (.aload_n 0, 1) := by decide +kernel
theorem dX9_lots_67 : decode cX9_lots 67 = .ok (.iload_n 1, 1) := by decide +kernel
theorem dX9_lots_68 : decode cX9_lots 68 = .ok (.aload_n 0, 1) := by decide +kernel
theorem dX9_lots_69 : decode cX9_lots 69 = .ok (.getfield 36, 3) := by decide +kernel
theorem dX9_lots_72 : decode cX9_lots 72 = .ok (.aload_n 0, 1) := by decide +kernel
theorem dX9_lots_73 : decode cX9_lots 73 = .ok (.iload_n 1, 1) := by decide +kernel
theorem dX9_lots_74 : decode cX9_lots 74 = .ok (.invokevirtual 157, 3) := by decide +kernel
theorem dX9_lots_77 : decode cX9_lots 77 = .ok (.iaload, 1) := by decide +kernel
theorem dX9_lots_78 : decode cX9_lots 78 = .ok (.invokevirtual 154, 3) := by decide +kernel
theorem dX9_lots_81 : decode cX9_lots 81 = .ok (.istore 4, 2) := by decide +kernel
theorem dX9_lots_83 : decode cX9_lots 83 = .ok (.aload_n 0, 1) := by decide +kernel
theorem dX9_lots_84 : decode cX9_lots 84 = .ok (.iload_n 2, 1) := by decide +kernel
theorem dX9_lots_85 : decode cX9_lots 85 = .ok (.aload_n 0, 1) := by decide +kernel
theorem dX9_lots_86 : decode cX9_lots 86 = .ok (.getfield 36, 3) := by decide +kernel
theorem dX9_lots_89 : decode cX9_lots 89 = .ok (.aload_n 0, 1) := by decide +kernel
theorem dX9_lots_90 : decode cX9_lots 90 = .ok (.iload_n 2, 1) := by decide +kernel
theorem dX9_lots_91 : decode cX9_lots 91 = .ok (.invokevirtual 157, 3) := by decide +kernel
theorem dX9_lots_94 : decode cX9_lots 94 = .ok (.iaload, 1) := by decide +kernel
theorem dX9_lots_95 : decode cX9_lots 95 = .ok (.invokevirtual 154, 3) := by decide +kernel
theorem dX9_lots_98 : decode cX9_lots 98 = .ok (.istore 5, 2) := by decide +kernel
theorem dX9_lots_100 : decode cX9_lots 100 = .ok (.aload_n 0, 1) := by decide +kernel
theorem dX9_lots_101 : decode cX9_lots 101 = .ok (.lconst 0, 1) := by decide +kernel
theorem dX9_lots_102 : decode cX9_lots 102 = .ok (.putfield 169, 3) := by decide +kernel
theorem dX9_lots_105 : decode cX9_lots 105 = .ok (.iconst 0, 1) := by decide +kernel
theorem dX9_lots_106 : decode cX9_lots 106 = .ok (.istore 6, 2) := by decide +kernel
theorem dX9_lots_108 : decode cX9_lots 108 = .ok (.iload 6, 2) := by decide +kernel
theorem dX9_lots_110 : decode cX9_lots 110 = .ok (.aload_n 0, 1) := by decide +kernel
theorem dX9_lots_111 : decode cX9_lots 111 = .ok (.getfield 101, 3) := by decide +kernel
theorem dX9_lots_114 : decode cX9_lots 114 = .ok (.if_icmp .ge 94, 3) := by decide +kernel
theorem dX9_lots_117 : decode cX9_lots 117 = .ok (.aload_n 0, 1) := by decide +kernel
theorem dX9_lots_118 : decode cX9_lots 118 = .ok (.getfield 51, 3) := by decide +kernel
theorem dX9_lots_121 : decode cX9_lots 121 = .ok (.iload 6, 2) := by decide +kernel
theorem dX9_lots_123 : decode cX9_lots 123 = .ok (.aload_n 0, 1) := by decide +kernel
theorem dX9_lots_124 : decode cX9_lots 124 = .ok (.iload_n 1, 1) := by decide +kernel
theorem dX9_lots_125 : decode cX9_lots 125 = .ok (.aload_n 0, 1) := by decide +kernel
theorem dX9_lots_126 : decode cX9_lots 126 = .ok (.getfield 36, 3) := by decide +kernel
theorem dX9_lots_129 : decode cX9_lots 129 = .ok (.iload 6, 2) := by decide +kernel
theorem dX9_lots_131 : decode cX9_lots 131 = .ok (.iaload, 1) := by decide +kernel
theorem dX9_lots_132 : decode cX9_lots 132 = .ok (.invokevirtual 154, 3) := by decide +kernel
theorem dX9_lots_135 : decode cX9_lots 135 = .ok (.iload 4, 2) := by decide +kernel
theorem dX9_lots_137 : decode cX9_lots 137 = .ok (.isub, 1) := by decide +kernel
theorem dX9_lots_138 : decode cX9_lots 138 = .ok (.iastore, 1) := by decide +kernel
theorem dX9_lots_139 : decode cX9_lots 139 = .ok (.aload_n 0, 1) := by decide +kernel
theorem dX9_lots_140 : decode cX9_lots 140 = .ok (.getfield 54, 3) := by decide +kernel
theorem dX9_lots_143 : decode cX9_lots 143 = .ok (.iload 6, 2) := by decide +kernel
theorem dX9_lots_145 : decode cX9_lots 145 = .ok (.aload_n 0, 1) := by decide +kernel
theorem dX9_lots_146 : decode cX9_lots 146 = .ok (.iload_n 2, 1) := by decide +kernel
theorem dX9_lots_147 : decode cX9_lots 147 = .ok (.aload_n 0, 1) := by decide +kernel
theorem dX9_lots_148 : decode cX9_lots 148 = .ok (.getfield 36, 3) := by decide +kernel
theorem dX9_lots_151 : decode cX9_lots 151 = .ok (.iload 6, 2) := by decide +kernel
theorem dX9_lots_153 : decode cX9_lots 153 = .ok (.iaload, 1) := by decide +kernel
theorem dX9_lots_154 : decode cX9_lots 154 = .ok (.invokevirtual 154, 3) := by decide +kernel
theorem dX9_lots_157 : decode cX9_lots 157 = .ok (.iload 5, 2) := by decide +kernel
theorem dX9_lots_159 : decode cX9_lots 159 = .ok (.isub, 1) := by decide +kernel
theorem dX9_lots_160 : decode cX9_lots 160 = .ok (.iastore, 1) := by decide +kernel
theorem dX9_lots_161 : decode cX9_lots 161 = .ok (.aload_n 0, 1) := by decide +kernel
theorem dX9_lots_162 : decode cX9_lots 162 = .ok (.aload_n 0, 1) := by decide +kernel
theorem dX9_lots_163 : decode cX9_lots 163 = .ok (.getfield 51, 3) := by decide +kernel
theorem dX9_lots_166 : decode cX9_lots 166 = .ok (.iload 6, 2) := by decide +kernel
theorem dX9_lots_168 : decode cX9_lots 168 = .ok (.iaload, 1) := by decide +kernel
theorem dX9_lots_169 : decode cX9_lots 169 = .ok (.aload_n 0, 1) := by decide +kernel
theorem dX9_lots_170 : decode cX9_lots 170 = .ok (.getfield 54, 3) := by decide +kernel
theorem dX9_lots_173 : decode cX9_lots 173 = .ok (.iload 6, 2) := by decide +kernel
theorem dX9_lots_175 : decode cX9_lots 175 = .ok (.iaload, 1) := by decide +kernel
theorem dX9_lots_176 : decode cX9_lots 176 = .ok (.if_icmp .le 14, 3) := by decide +kernel
theorem dX9_lots_179 : decode cX9_lots 179 = .ok (.aload_n 0, 1) := by decide +kernel
theorem dX9_lots_180 : decode cX9_lots 180 = .ok (.getfield 51, 3) := by decide +kernel
theorem dX9_lots_183 : decode cX9_lots 183 = .ok (.iload 6, 2) := by decide +kernel
theorem dX9_lots_185 : decode cX9_lots 185 = .ok (.iaload, 1) := by decide +kernel
theorem dX9_lots_186 : decode cX9_lots 186 = .ok (.i2l, 1) := by decide +kernel
theorem dX9_lots_187 : decode cX9_lots 187 = .ok (.goto 11, 3) := by decide +kernel
theorem dX9_lots_190 : decode cX9_lots 190 = .ok (.aload_n 0, 1) := by decide +kernel
theorem dX9_lots_191 : decode cX9_lots 191 = .ok (.getfield 54, 3) := by decide +kernel
theorem dX9_lots_194 : decode cX9_lots 194 = .ok (.iload 6, 2) := by decide +kernel
theorem dX9_lots_196 : decode cX9_lots 196 = .ok (.iaload, 1) := by decide +kernel
theorem dX9_lots_197 : decode cX9_lots 197 = .ok (.i2l, 1) := by decide +kernel
theorem dX9_lots_198 : decode cX9_lots 198 = .ok (.lconst 1, 1) := by decide +kernel
theorem dX9_lots_199 : decode cX9_lots 199 = .ok (.invokevirtual 182, 3) := by decide +kernel
theorem dX9_lots_202 : decode cX9_lots 202 = .ok (.iinc 6 1, 3) := by decide +kernel
theorem dX9_lots_205 : decode cX9_lots 205 = .ok (.goto (-97), 3) := by decide +kernel
theorem dX9_lots_208 : decode cX9_lots 208 = .ok (.iconst 0, 1) := by decide +kernel
theorem dX9_lots_209 : decode cX9_lots 209 = .ok (.istore 6, 2) := by decide +kernel
theorem dX9_lots_211 : decode cX9_lots 211 = .ok (.iload 6, 2) := by decide +kernel
theorem dX9_lots_213 : decode cX9_lots 213 = .ok (.aload_n 0, 1) := by decide +kernel
theorem dX9_lots_214 : decode cX9_lots 214 = .ok (.getfield 101, 3) := by decide +kernel
theorem dX9_lots_217 : decode cX9_lots 217 = .ok (.if_icmp .ge 112, 3) := by decide +kernel
theorem dX9_lots_220 : decode cX9_lots 220 = .ok (.iconst 0, 1) := by decide +kernel
theorem dX9_lots_221 : decode cX9_lots 221 = .ok (.istore 7, 2) := by decide +kernel
theorem dX9_lots_223 : decode cX9_lots 223 = .ok (.iload 7, 2) := by decide +kernel
theorem dX9_lots_225 : decode cX9_lots 225 = .ok (.aload_n 0, 1) := by decide +kernel
theorem dX9_lots_226 : decode cX9_lots 226 = .ok (.getfield 101, 3) := by decide +kernel
theorem dX9_lots_229 : decode cX9_lots 229 = .ok (.if_icmp .ge 94, 3) := by decide +kernel
theorem dX9_lots_232 : decode cX9_lots 232 = .ok (.aload_n 0, 1) := by decide +kernel
theorem dX9_lots_233 : decode cX9_lots 233 = .ok (.getfield 54, 3) := by decide +kernel
theorem dX9_lots_236 : decode cX9_lots 236 = .ok (.iload 6, 2) := by decide +kernel
theorem dX9_lots_238 : decode cX9_lots 238 = .ok (.iaload, 1) := by decide +kernel
theorem dX9_lots_239 : decode cX9_lots 239 = .ok (.aload_n 0, 1) := by decide +kernel
theorem dX9_lots_240 : decode cX9_lots 240 = .ok (.getfield 51, 3) := by decide +kernel
theorem dX9_lots_243 : decode cX9_lots 243 = .ok (.iload 6, 2) := by decide +kernel
theorem dX9_lots_245 : decode cX9_lots 245 = .ok (.iaload, 1) := by decide +kernel
theorem dX9_lots_246 : decode cX9_lots 246 = .ok (.isub, 1) := by decide +kernel
theorem dX9_lots_247 : decode cX9_lots 247 = .ok (.i2l, 1) := by decide +kernel
theorem dX9_lots_248 : decode cX9_lots 248 = .ok (.lstore 8, 2) := by decide +kernel
theorem dX9_lots_250 : decode cX9_lots 250 = .ok (.aload_n 0, 1) := by decide +kernel
theorem dX9_lots_251 : decode cX9_lots 251 = .ok (.getfield 51, 3) := by decide +kernel
theorem dX9_lots_254 : decode cX9_lots 254 = .ok (.iload 7, 2) := by decide +kernel
theorem dX9_lots_256 : decode cX9_lots 256 = .ok (.iaload, 1) := by decide +kernel
theorem dX9_lots_257 : decode cX9_lots 257 = .ok (.aload_n 0, 1) := by decide +kernel
theorem dX9_lots_258 : decode cX9_lots 258 = .ok (.getfield 54, 3) := by decide +kernel
theorem dX9_lots_261 : decode cX9_lots 261 = .ok (.iload 7, 2) := by decide +kernel
theorem dX9_lots_263 : decode cX9_lots 263 = .ok (.iaload, 1) := by decide +kernel
theorem dX9_lots_264 : decode cX9_lots 264 = .ok (.isub, 1) := by decide +kernel
theorem dX9_lots_265 : decode cX9_lots 265 = .ok (.i2l, 1) := by decide +kernel
theorem dX9_lots_266 : decode cX9_lots 266 = .ok (.lstore 10, 2) := by decide +kernel
theorem dX9_lots_268 : decode cX9_lots 268 = .ok (.lload 8, 2) := by decide +kernel
theorem dX9_lots_270 : decode cX9_lots 270 = .ok (.lconst 0, 1) := by decide +kernel
theorem dX9_lots_271 : decode cX9_lots 271 = .ok (.lcmp, 1) := by decide +kernel
theorem dX9_lots_272 : decode cX9_lots 272 = .ok (.ifCond .le 45, 3) := by decide +kernel
theorem dX9_lots_275 : decode cX9_lots 275 = .ok (.lload 10, 2) := by decide +kernel
theorem dX9_lots_277 : decode cX9_lots 277 = .ok (.lconst 0, 1) := by decide +kernel
theorem dX9_lots_278 : decode cX9_lots 278 = .ok (.lcmp, 1) := by decide +kernel
theorem dX9_lots_279 : decode cX9_lots 279 = .ok (.ifCond .gt 6, 3) := by decide +kernel
theorem dX9_lots_282 : decode cX9_lots 282 = .ok (.goto 35, 3) := by decide +kernel
theorem dX9_lots_285 : decode cX9_lots 285 = .ok (.aload_n 0, 1) := by decide +kernel
theorem dX9_lots_286 : decode cX9_lots 286 = .ok (.aload_n 0, 1) := by decide +kernel
theorem dX9_lots_287 : decode cX9_lots 287 = .ok (.getfield 51, 3) := by decide +kernel
theorem dX9_lots_290 : decode cX9_lots 290 = .ok (.iload 6, 2) := by decide +kernel
theorem dX9_lots_292 : decode cX9_lots 292 = .ok (.iaload, 1) := by decide +kernel
theorem dX9_lots_293 : decode cX9_lots 293 = .ok (.i2l, 1) := by decide +kernel
theorem dX9_lots_294 : decode cX9_lots 294 = .ok (.lload 10, 2) := by decide +kernel
theorem dX9_lots_296 : decode cX9_lots 296 = .ok (.lmul, 1) := by decide +kernel
theorem dX9_lots_297 : decode cX9_lots 297 = .ok (.aload_n 0, 1) := by decide +kernel
theorem dX9_lots_298 : decode cX9_lots 298 = .ok (.getfield 51, 3) := by decide +kernel
theorem dX9_lots_301 : decode cX9_lots 301 = .ok (.iload 7, 2) := by decide +kernel
theorem dX9_lots_303 : decode cX9_lots 303 = .ok (.iaload, 1) := by decide +kernel
theorem dX9_lots_304 : decode cX9_lots 304 = .ok (.i2l, 1) := by decide +kernel
theorem dX9_lots_305 : decode cX9_lots 305 = .ok (.lload 8, 2) := by decide +kernel
theorem dX9_lots_307 : decode cX9_lots 307 = .ok (.lmul, 1) := by decide +kernel
theorem dX9_lots_308 : decode cX9_lots 308 = .ok (.ladd, 1) := by decide +kernel
theorem dX9_lots_309 : decode cX9_lots 309 = .ok (.lload 8, 2) := by decide +kernel
theorem dX9_lots_311 : decode cX9_lots 311 = .ok (.lload 10, 2) := by decide +kernel
theorem dX9_lots_313 : decode cX9_lots 313 = .ok (.ladd, 1) := by decide +kernel
theorem dX9_lots_314 : decode cX9_lots 314 = .ok (.invokevirtual 182, 3) := by decide +kernel
theorem dX9_lots_317 : decode cX9_lots 317 = .ok (.iinc 7 1, 3) := by decide +kernel
theorem dX9_lots_320 : decode cX9_lots 320 = .ok (.goto (-97), 3) := by decide +kernel
theorem dX9_lots_323 : decode cX9_lots 323 = .ok (.iinc 6 1, 3) := by decide +kernel
theorem dX9_lots_326 : decode cX9_lots 326 = .ok (.goto (-115), 3) := by decide +kernel
theorem dX9_lots_329 : decode cX9_lots 329 = .ok (.aload_n 0, 1) := by decide +kernel
theorem dX9_lots_330 : decode cX9_lots 330 = .ok (.getfield 169, 3) := by decide +kernel
theorem dX9_lots_333 : decode cX9_lots 333 = .ok (.aload_n 0, 1) := by decide +kernel
theorem dX9_lots_334 : decode cX9_lots 334 = .ok (.getfield 173, 3) := by decide +kernel
theorem dX9_lots_337 : decode cX9_lots 337 = .ok (.invokestatic 186, 3) := by decide +kernel
theorem dX9_lots_340 : decode cX9_lots 340 = .ok (.lstore 6, 2) := by decide +kernel
theorem dX9_lots_342 : decode cX9_lots 342 = .ok (.iload_n 3, 1) := by decide +kernel
theorem dX9_lots_343 : decode cX9_lots 343 = .ok (.ifCond .ne 13, 3) := by decide +kernel
theorem dX9_lots_346 : decode cX9_lots 346 = .ok (.aload_n 0, 1) := by decide +kernel
theorem dX9_lots_347 : decode cX9_lots 347 = .ok (.getfield 173, 3) := by decide +kernel
theorem dX9_lots_350 : decode cX9_lots 350 = .ok (.lload 6, 2) := by decide +kernel
theorem dX9_lots_352 : decode cX9_lots 352 = .ok (.ldiv, 1) := by decide +kernel
theorem dX9_lots_353 : decode cX9_lots 353 = .ok (.goto 10, 3) := by decide +kernel
theorem dX9_lots_356 : decode cX9_lots 356 = .ok (.aload_n 0, 1) := by decide +kernel
theorem dX9_lots_357 : decode cX9_lots 357 = .ok (.getfield 169, 3) := by decide +kernel
theorem dX9_lots_360 : decode cX9_lots 360 = .ok (.lload 6, 2) := by decide +kernel
theorem dX9_lots_362 : decode cX9_lots 362 = .ok (.ldiv, 1) := by decide +kernel
theorem dX9_lots_363 : decode cX9_lots 363 = .ok (.lreturn, 1) := by decide +kernel
theorem dX9_twoOf_0 : decode cX9_twoOf 0 = .ok (.iconst 0, 1) := by decide +kernel
theorem dX9_twoOf_1 : decode cX9_twoOf 1 = .ok (.istore_n 2, 1) := by decide +kernel
theorem dX9_twoOf_2 : decode cX9_twoOf 2 = .ok (.iconst 0, 1) := by decide +kernel
theorem dX9_twoOf_3 : decode cX9_twoOf 3 = .ok (.istore_n 3, 1) := by decide +kernel
theorem dX9_twoOf_4 : decode cX9_twoOf 4 = .ok (.iload_n 3, 1) := by decide +kernel
theorem dX9_twoOf_5 : decode cX9_twoOf 5 = .ok (.aload_n 0, 1) := by decide +kernel
theorem dX9_twoOf_6 : decode cX9_twoOf 6 = .ok (.getfield 67, 3) := by decide +kernel
theorem dX9_twoOf_9 : decode cX9_twoOf 9 = .ok (.if_icmp .ge 30, 3) := by decide +kernel
