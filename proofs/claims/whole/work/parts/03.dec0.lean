theorem dX0_init_0 : decode cX0_init 0 = .ok (.aload_n 0, 1) := by decide +kernel
theorem dX0_init_1 : decode cX0_init 1 = .ok (.invokespecial 3, 3) := by decide +kernel
theorem dX0_init_4 : decode cX0_init 4 = .ok (.aload_n 0, 1) := by decide +kernel
theorem dX0_init_5 : decode cX0_init 5 = .ok (.bipush 12, 2) := by decide +kernel
theorem dX0_init_7 : decode cX0_init 7 = .ok (.newarray .int, 2) := by decide +kernel
theorem dX0_init_9 : decode cX0_init 9 = .ok (.putfield 9, 3) := by decide +kernel
theorem dX0_init_12 : decode cX0_init 12 = .ok (.aload_n 0, 1) := by decide +kernel
theorem dX0_init_13 : decode cX0_init 13 = .ok (.bipush 12, 2) := by decide +kernel
theorem dX0_init_15 : decode cX0_init 15 = .ok (.newarray .int, 2) := by decide +kernel
theorem dX0_init_17 : decode cX0_init 17 = .ok (.putfield 15, 3) := by decide +kernel
theorem dX0_init_20 : decode cX0_init 20 = .ok (.aload_n 0, 1) := by decide +kernel
theorem dX0_init_21 : decode cX0_init 21 = .ok (.bipush 12, 2) := by decide +kernel
theorem dX0_init_23 : decode cX0_init 23 = .ok (.newarray .int, 2) := by decide +kernel
theorem dX0_init_25 : decode cX0_init 25 = .ok (.putfield 18, 3) := by decide +kernel
theorem dX0_init_28 : decode cX0_init 28 = .ok (.aload_n 0, 1) := by decide +kernel
theorem dX0_init_29 : decode cX0_init 29 = .ok (.bipush 12, 2) := by decide +kernel
theorem dX0_init_31 : decode cX0_init 31 = .ok (.newarray .int, 2) := by decide +kernel
theorem dX0_init_33 : decode cX0_init 33 = .ok (.putfield 21, 3) := by decide +kernel
theorem dX0_init_36 : decode cX0_init 36 = .ok (.aload_n 0, 1) := by decide +kernel
theorem dX0_init_37 : decode cX0_init 37 = .ok (.bipush 12, 2) := by decide +kernel
theorem dX0_init_39 : decode cX0_init 39 = .ok (.newarray .int, 2) := by decide +kernel
theorem dX0_init_41 : decode cX0_init 41 = .ok (.putfield 24, 3) := by decide +kernel
theorem dX0_init_44 : decode cX0_init 44 = .ok (.aload_n 0, 1) := by decide +kernel
theorem dX0_init_45 : decode cX0_init 45 = .ok (.bipush 8, 2) := by decide +kernel
theorem dX0_init_47 : decode cX0_init 47 = .ok (.bipush 12, 2) := by decide +kernel
theorem dX0_init_49 : decode cX0_init 49 = .ok (.multianewarray 27 2, 4) := by decide +kernel
theorem dX0_init_53 : decode cX0_init 53 = .ok (.putfield 29, 3) := by decide +kernel
theorem dX0_init_56 : decode cX0_init 56 = .ok (.return_, 1) := by decide +kernel
theorem dX0_addThing_0 : decode cX0_addThing 0 = .ok (.aload_n 0, 1) := by decide +kernel
theorem dX0_addThing_1 : decode cX0_addThing 1 = .ok (.getfield 32, 3) := by decide +kernel
theorem dX0_addThing_4 : decode cX0_addThing 4 = .ok (.bipush 12, 2) := by decide +kernel
theorem dX0_addThing_6 : decode cX0_addThing 6 = .ok (.if_icmp .ge 33, 3) := by decide +kernel
theorem dX0_addThing_9 : decode cX0_addThing 9 = .ok (.aload_n 0, 1) := by decide +kernel
theorem dX0_addThing_10 : decode cX0_addThing 10 = .ok (.getfield 9, 3) := by decide +kernel
theorem dX0_addThing_13 : decode cX0_addThing 13 = .ok (.aload_n 0, 1) := by decide +kernel
theorem dX0_addThing_14 : decode cX0_addThing 14 = .ok (.getfield 32, 3) := by decide +kernel
theorem dX0_addThing_17 : decode cX0_addThing 17 = .ok (.iload_n 1, 1) := by decide +kernel
theorem dX0_addThing_18 : decode cX0_addThing 18 = .ok (.iastore, 1) := by decide +kernel
theorem dX0_addThing_19 : decode cX0_addThing 19 = .ok (.aload_n 0, 1) := by decide +kernel
theorem dX0_addThing_20 : decode cX0_addThing 20 = .ok (.getfield 15, 3) := by decide +kernel
theorem dX0_addThing_23 : decode cX0_addThing 23 = .ok (.aload_n 0, 1) := by decide +kernel
theorem dX0_addThing_24 : decode cX0_addThing 24 = .ok (.getfield 32, 3) := by decide +kernel
theorem dX0_addThing_27 : decode cX0_addThing 27 = .ok (.iload_n 2, 1) := by decide +kernel
theorem dX0_addThing_28 : decode cX0_addThing 28 = .ok (.iastore, 1) := by decide +kernel
theorem dX0_addThing_29 : decode cX0_addThing 29 = .ok (.aload_n 0, 1) := by decide +kernel
theorem dX0_addThing_30 : decode cX0_addThing 30 = .ok (.dup, 1) := by decide +kernel
theorem dX0_addThing_31 : decode cX0_addThing 31 = .ok (.getfield 32, 3) := by decide +kernel
theorem dX0_addThing_34 : decode cX0_addThing 34 = .ok (.iconst 1, 1) := by decide +kernel
theorem dX0_addThing_35 : decode cX0_addThing 35 = .ok (.iadd, 1) := by decide +kernel
theorem dX0_addThing_36 : decode cX0_addThing 36 = .ok (.putfield 32, 3) := by decide +kernel
theorem dX0_addThing_39 : decode cX0_addThing 39 = .ok (.return_, 1) := by decide +kernel
theorem dX0_copyFrom_0 : decode cX0_copyFrom 0 = .ok (.aload_n 0, 1) := by decide +kernel
theorem dX0_copyFrom_1 : decode cX0_copyFrom 1 = .ok (.aload_n 1, 1) := by decide +kernel
theorem dX0_copyFrom_2 : decode cX0_copyFrom 2 = .ok (.getfield 32, 3) := by decide +kernel
theorem dX0_copyFrom_5 : decode cX0_copyFrom 5 = .ok (.putfield 32, 3) := by decide +kernel
theorem dX0_copyFrom_8 : decode cX0_copyFrom 8 = .ok (.aload_n 0, 1) := by decide +kernel
theorem dX0_copyFrom_9 : decode cX0_copyFrom 9 = .ok (.aload_n 1, 1) := by decide +kernel
theorem dX0_copyFrom_10 : decode cX0_copyFrom 10 = .ok (.getfield 36, 3) := by decide +kernel
theorem dX0_copyFrom_13 : decode cX0_copyFrom 13 = .ok (.putfield 36, 3) := by decide +kernel
theorem dX0_copyFrom_16 : decode cX0_copyFrom 16 = .ok (.aload_n 0, 1) := by decide +kernel
theorem dX0_copyFrom_17 : decode cX0_copyFrom 17 = .ok (.aload_n 1, 1) := by decide +kernel
theorem dX0_copyFrom_18 : decode cX0_copyFrom 18 = .ok (.getfield 39, 3) := by decide +kernel
theorem dX0_copyFrom_21 : decode cX0_copyFrom 21 = .ok (.putfield 39, 3) := by decide +kernel
theorem dX0_copyFrom_24 : decode cX0_copyFrom 24 = .ok (.aload_n 0, 1) := by decide +kernel
theorem dX0_copyFrom_25 : decode cX0_copyFrom 25 = .ok (.aload_n 1, 1) := by decide +kernel
theorem dX0_copyFrom_26 : decode cX0_copyFrom 26 = .ok (.getfield 42, 3) := by decide +kernel
theorem dX0_copyFrom_29 : decode cX0_copyFrom 29 = .ok (.putfield 42, 3) := by decide +kernel
theorem dX0_copyFrom_32 : decode cX0_copyFrom 32 = .ok (.aload_n 1, 1) := by decide +kernel
theorem dX0_copyFrom_33 : decode cX0_copyFrom 33 = .ok (.getfield 9, 3) := by decide +kernel
theorem dX0_copyFrom_36 : decode cX0_copyFrom 36 = .ok (.iconst 0, 1) := by decide +kernel
theorem dX0_copyFrom_37 : decode cX0_copyFrom 37 = .ok (.aload_n 0, 1) := by decide +kernel
theorem dX0_copyFrom_38 : decode cX0_copyFrom 38 = .ok (.getfield 9, 3) := by decide +kernel
theorem dX0_copyFrom_41 : decode cX0_copyFrom 41 = .ok (.iconst 0, 1) := by decide +kernel
theorem dX0_copyFrom_42 : decode cX0_copyFrom 42 = .ok (.bipush 12, 2) := by decide +kernel
theorem dX0_copyFrom_44 : decode cX0_copyFrom 44 = .ok (.invokestatic 45, 3) := by decide +kernel
theorem dX0_copyFrom_47 : decode cX0_copyFrom 47 = .ok (.aload_n 1, 1) := by decide +kernel
theorem dX0_copyFrom_48 : decode cX0_copyFrom 48 = .ok (.getfield 15, 3) := by decide +kernel
theorem dX0_copyFrom_51 : decode cX0_copyFrom 51 = .ok (.iconst 0, 1) := by decide +kernel
theorem dX0_copyFrom_52 : decode cX0_copyFrom 52 = .ok (.aload_n 0, 1) := by decide +kernel
theorem dX0_copyFrom_53 : decode cX0_copyFrom 53 = .ok (.getfield 15, 3) := by decide +kernel
theorem dX0_copyFrom_56 : decode cX0_copyFrom 56 = .ok (.iconst 0, 1) := by decide +kernel
theorem dX0_copyFrom_57 : decode cX0_copyFrom 57 = .ok (.bipush 12, 2) := by decide +kernel
theorem dX0_copyFrom_59 : decode cX0_copyFrom 59 = .ok (.invokestatic 45, 3) := by decide +kernel
theorem dX0_copyFrom_62 : decode cX0_copyFrom 62 = .ok (.aload_n 1, 1) := by decide +kernel
theorem dX0_copyFrom_63 : decode cX0_copyFrom 63 = .ok (.getfield 18, 3) := by decide +kernel
theorem dX0_copyFrom_66 : decode cX0_copyFrom 66 = .ok (.iconst 0, 1) := by decide +kernel
theorem dX0_copyFrom_67 : decode cX0_copyFrom 67 = .ok (.aload_n 0, 1) := by decide +kernel
theorem dX0_copyFrom_68 : decode cX0_copyFrom 68 = .ok (.getfield 18, 3) := by decide +kernel
theorem dX0_copyFrom_71 : decode cX0_copyFrom 71 = .ok (.iconst 0, 1) := by decide +kernel
theorem dX0_copyFrom_72 : decode cX0_copyFrom 72 = .ok (.bipush 12, 2) := by decide +kernel
theorem dX0_copyFrom_74 : decode cX0_copyFrom 74 = .ok (.invokestatic 45, 3) := by decide +kernel
theorem dX0_copyFrom_77 : decode cX0_copyFrom 77 = .ok (.aload_n 1, 1) := by decide +kernel
theorem dX0_copyFrom_78 : decode cX0_copyFrom 78 = .ok (.getfield 21, 3) := by decide +kernel
theorem dX0_copyFrom_81 : decode cX0_copyFrom 81 = .ok (.iconst 0, 1) := by decide +kernel
theorem dX0_copyFrom_82 : decode cX0_copyFrom 82 = .ok (.aload_n 0, 1) := by decide +kernel
theorem dX0_copyFrom_83 : decode cX0_copyFrom 83 = .ok (.getfield 21, 3) := by decide +kernel
theorem dX0_copyFrom_86 : decode cX0_copyFrom 86 = .ok (.iconst 0, 1) := by decide +kernel
theorem dX0_copyFrom_87 : decode cX0_copyFrom 87 = .ok (.bipush 12, 2) := by decide +kernel
theorem dX0_copyFrom_89 : decode cX0_copyFrom 89 = .ok (.invokestatic 45, 3) := by decide +kernel
theorem dX0_copyFrom_92 : decode cX0_copyFrom 92 = .ok (.aload_n 1, 1) := by decide +kernel
theorem dX0_copyFrom_93 : decode cX0_copyFrom 93 = .ok (.getfield 24, 3) := by decide +kernel
theorem dX0_copyFrom_96 : decode cX0_copyFrom 96 = .ok (.iconst 0, 1) := by decide +kernel
theorem dX0_copyFrom_97 : decode cX0_copyFrom 97 = .ok (.aload_n 0, 1) := by decide +kernel
theorem dX0_copyFrom_98 : decode cX0_copyFrom 98 = .ok (.getfield 24, 3) := by decide +kernel
theorem dX0_copyFrom_101 : decode cX0_copyFrom 101 = .ok (.iconst 0, 1) := by decide +kernel
theorem dX0_copyFrom_102 : decode cX0_copyFrom 102 = .ok (.bipush 12, 2) := by decide +kernel
theorem dX0_copyFrom_104 : decode cX0_copyFrom 104 = .ok (.invokestatic 45, 3) := by decide +kernel
theorem dX0_copyFrom_107 : decode cX0_copyFrom 107 = .ok (.iconst 0, 1) := by decide +kernel
theorem dX0_copyFrom_108 : decode cX0_copyFrom 108 = .ok (.istore_n 2, 1) := by decide +kernel
theorem dX0_copyFrom_109 : decode cX0_copyFrom 109 = .ok (.iload_n 2, 1) := by decide +kernel
theorem dX0_copyFrom_110 : decode cX0_copyFrom 110 = .ok (.bipush 8, 2) := by decide +kernel
theorem dX0_copyFrom_112 : decode cX0_copyFrom 112 = .ok (.if_icmp .ge 28, 3) := by decide +kernel
theorem dX0_copyFrom_115 : decode cX0_copyFrom 115 = .ok (.aload_n 1, 1) := by decide +kernel
theorem dX0_copyFrom_116 : decode cX0_copyFrom 116 = .ok (.getfield 29, 3) := by decide +kernel
theorem dX0_copyFrom_119 : decode cX0_copyFrom 119 = .ok (.iload_n 2, 1) := by decide +kernel
theorem dX0_copyFrom_120 : decode cX0_copyFrom 120 = .ok (.aaload, 1) := by decide +kernel
theorem dX0_copyFrom_121 : decode cX0_copyFrom 121 = .ok (.iconst 0, 1) := by decide +kernel
theorem dX0_copyFrom_122 : decode cX0_copyFrom 122 = .ok (.aload_n 0, 1) := by decide +kernel
theorem dX0_copyFrom_123 : decode cX0_copyFrom 123 = .ok (.getfield 29, 3) := by decide +kernel
theorem dX0_copyFrom_126 : decode cX0_copyFrom 126 = .ok (.iload_n 2, 1) := by decide +kernel
theorem dX0_copyFrom_127 : decode cX0_copyFrom 127 = .ok (.aaload, 1) := by decide +kernel
theorem dX0_copyFrom_128 : decode cX0_copyFrom 128 = .ok (.iconst 0, 1) := by decide +kernel
theorem dX0_copyFrom_129 : decode cX0_copyFrom 129 = .ok (.bipush 12, 2) := by decide +kernel
theorem dX0_copyFrom_131 : decode cX0_copyFrom 131 = .ok (.invokestatic 45, 3) := by decide +kernel
theorem dX0_copyFrom_134 : decode cX0_copyFrom 134 = .ok (.iinc 2 1, 3) := by decide +kernel
theorem dX0_copyFrom_137 : decode cX0_copyFrom 137 = .ok (.goto (-28), 3) := by decide +kernel
theorem dX0_copyFrom_140 : decode cX0_copyFrom 140 = .ok (.return_, 1) := by decide +kernel
theorem dX0_hasWorld_0 : decode cX0_hasWorld 0 = .ok (.iload_n 1, 1) := by decide +kernel
theorem dX0_hasWorld_1 : decode cX0_hasWorld 1 = .ok (.bipush 8, 2) := by decide +kernel
theorem dX0_hasWorld_3 : decode cX0_hasWorld 3 = .ok (.invokestatic 51, 3) := by decide +kernel
theorem dX0_hasWorld_6 : decode cX0_hasWorld 6 = .ok (.ifCond .eq 18, 3) := by decide +kernel
theorem dX0_hasWorld_9 : decode cX0_hasWorld 9 = .ok (.aload_n 0, 1) := by decide +kernel
theorem dX0_hasWorld_10 : decode cX0_hasWorld 10 = .ok (.getfield 42, 3) := by decide +kernel
theorem dX0_hasWorld_13 : decode cX0_hasWorld 13 = .ok (.iload_n 1, 1) := by decide +kernel
theorem dX0_hasWorld_14 : decode cX0_hasWorld 14 = .ok (.ishr, 1) := by decide +kernel
theorem dX0_hasWorld_15 : decode cX0_hasWorld 15 = .ok (.iconst 1, 1) := by decide +kernel
theorem dX0_hasWorld_16 : decode cX0_hasWorld 16 = .ok (.iand, 1) := by decide +kernel
theorem dX0_hasWorld_17 : decode cX0_hasWorld 17 = .ok (.ifCond .eq 7, 3) := by decide +kernel
theorem dX0_hasWorld_20 : decode cX0_hasWorld 20 = .ok (.iconst 1, 1) := by decide +kernel
theorem dX0_hasWorld_21 : decode cX0_hasWorld 21 = .ok (.goto 4, 3) := by decide +kernel
theorem dX0_hasWorld_24 : decode cX0_hasWorld 24 = .ok (.iconst 0, 1) := by decide +kernel
theorem dX0_hasWorld_25 : decode cX0_hasWorld 25 = .ok (.ireturn, 1) := by decide +kernel
theorem dX0_costInWorld_0 : decode cX0_costInWorld 0 = .ok (.iconst 0, 1) := by decide +kernel
theorem dX0_costInWorld_1 : decode cX0_costInWorld 1 = .ok (.istore_n 3, 1) := by decide +kernel
theorem dX0_costInWorld_2 : decode cX0_costInWorld 2 = .ok (.iconst 0, 1) := by decide +kernel
theorem dX0_costInWorld_3 : decode cX0_costInWorld 3 = .ok (.istore 4, 2) := by decide +kernel
theorem dX0_costInWorld_5 : decode cX0_costInWorld 5 = .ok (.iload 4, 2) := by decide +kernel
theorem dX0_costInWorld_7 : decode cX0_costInWorld 7 = .ok (.aload_n 0, 1) := by decide +kernel
theorem dX0_costInWorld_8 : decode cX0_costInWorld 8 = .ok (.getfield 32, 3) := by decide +kernel
theorem dX0_costInWorld_11 : decode cX0_costInWorld 11 = .ok (.if_icmp .ge 30, 3) := by decide +kernel
theorem dX0_costInWorld_14 : decode cX0_costInWorld 14 = .ok (.iload_n 2, 1) := by decide +kernel
theorem dX0_costInWorld_15 : decode cX0_costInWorld 15 = .ok (.iload 4, 2) := by decide +kernel
theorem dX0_costInWorld_17 : decode cX0_costInWorld 17 = .ok (.ishr, 1) := by decide +kernel
theorem dX0_costInWorld_18 : decode cX0_costInWorld 18 = .ok (.iconst 1, 1) := by decide +kernel
theorem dX0_costInWorld_19 : decode cX0_costInWorld 19 = .ok (.iand, 1) := by decide +kernel
theorem dX0_costInWorld_20 : decode cX0_costInWorld 20 = .ok (.ifCond .eq 15, 3) := by decide +kernel
theorem dX0_costInWorld_23 : decode cX0_costInWorld 23 = .ok (.iload_n 3, 1) := by decide +kernel
theorem dX0_costInWorld_24 : decode cX0_costInWorld 24 = .ok (.aload_n 0, 1) := by decide +kernel
theorem dX0_costInWorld_25 : decode cX0_costInWorld 25 = .ok (.getfield 29, 3) := by decide +kernel
theorem dX0_costInWorld_28 : decode cX0_costInWorld 28 = .ok (.iload_n 1, 1) := by decide +kernel
theorem dX0_costInWorld_29 : decode cX0_costInWorld 29 = .ok (.aaload, 1) := by decide +kernel
theorem dX0_costInWorld_30 : decode cX0_costInWorld 30 = .ok (.iload 4, 2) := by decide +kernel
theorem dX0_costInWorld_32 : decode cX0_costInWorld 32 = .ok (.iaload, 1) := by decide +kernel
theorem dX0_costInWorld_33 : decode cX0_costInWorld 33 = .ok (.iadd, 1) := by decide +kernel
theorem dX0_costInWorld_34 : decode cX0_costInWorld 34 = .ok (.istore_n 3, 1) := by decide +kernel
theorem dX0_costInWorld_35 : decode cX0_costInWorld 35 = .ok (.iinc 4 1, 3) := by decide +kernel
theorem dX0_costInWorld_38 : decode cX0_costInWorld 38 = .ok (.goto (-33), 3) := by decide +kernel
theorem dX0_costInWorld_41 : decode cX0_costInWorld 41 = .ok (.iload_n 3, 1) := by decide +kernel
theorem dX0_costInWorld_42 : decode cX0_costInWorld 42 = .ok (.ireturn, 1) := by decide +kernel
theorem dX0_allows_0 : decode cX0_allows 0 = .ok (.aload_n 0, 1) := by decide +kernel
theorem dX0_allows_1 : decode cX0_allows 1 = .ok (.getfield 36, 3) := by decide +kernel
theorem dX0_allows_4 : decode cX0_allows 4 = .ok (.tableswitch 103 1 3 #[28, 51, 78], 28) := by decide +kernel
theorem dX0_allows_32 : decode cX0_allows 32 = .ok (.iload_n 1, 1) := by decide +kernel
theorem dX0_allows_33 : decode cX0_allows 33 = .ok (.invokestatic 55, 3) := by decide +kernel
theorem dX0_allows_36 : decode cX0_allows 36 = .ok (.bipush 6, 2) := by decide +kernel
theorem dX0_allows_38 : decode cX0_allows 38 = .ok (.if_icmp .ge 15, 3) := by decide +kernel
theorem dX0_allows_41 : decode cX0_allows 41 = .ok (.aload_n 0, 1) := by decide +kernel
theorem dX0_allows_42 : decode cX0_allows 42 = .ok (.iload_n 1, 1) := by decide +kernel
theorem dX0_allows_43 : decode cX0_allows 43 = .ok (.invokevirtual 61, 3) := by decide +kernel
theorem dX0_allows_46 : decode cX0_allows 46 = .ok (.ifCond .eq 7, 3) := by decide +kernel
theorem dX0_allows_49 : decode cX0_allows 49 = .ok (.iconst 1, 1) := by decide +kernel
theorem dX0_allows_50 : decode cX0_allows 50 = .ok (.goto 4, 3) := by decide +kernel
theorem dX0_allows_53 : decode cX0_allows 53 = .ok (.iconst 0, 1) := by decide +kernel
theorem dX0_allows_54 : decode cX0_allows 54 = .ok (.ireturn, 1) := by decide +kernel
theorem dX0_allows_55 : decode cX0_allows 55 = .ok (.iload_n 1, 1) := by decide +kernel
theorem dX0_allows_56 : decode cX0_allows 56 = .ok (.invokestatic 55, 3) := by decide +kernel
theorem dX0_allows_59 : decode cX0_allows 59 = .ok (.aload_n 0, 1) := by decide +kernel
theorem dX0_allows_60 : decode cX0_allows 60 = .ok (.getfield 39, 3) := by decide +kernel
theorem dX0_allows_63 : decode cX0_allows 63 = .ok (.iconst 1, 1) := by decide +kernel
theorem dX0_allows_64 : decode cX0_allows 64 = .ok (.isub, 1) := by decide +kernel
theorem dX0_allows_65 : decode cX0_allows 65 = .ok (.if_icmp .ne 15, 3) := by decide +kernel
theorem dX0_allows_68 : decode cX0_allows 68 = .ok (.aload_n 0, 1) := by decide +kernel
theorem dX0_allows_69 : decode cX0_allows 69 = .ok (.iload_n 1, 1) := by decide +kernel
theorem dX0_allows_70 : decode cX0_allows 70 = .ok (.invokevirtual 65, 3) := by decide +kernel
theorem dX0_allows_73 : decode cX0_allows 73 = .ok (.ifCond .eq 7, 3) := by decide +kernel
theorem dX0_allows_76 : decode cX0_allows 76 = .ok (.iconst 1, 1) := by decide +kernel
theorem dX0_allows_77 : decode cX0_allows 77 = .ok (.goto 4, 3) := by decide +kernel
theorem dX0_allows_80 : decode cX0_allows 80 = .ok (.iconst 0, 1) := by decide +kernel
theorem dX0_allows_81 : decode cX0_allows 81 = .ok (.ireturn, 1) := by decide +kernel
theorem dX0_allows_82 : decode cX0_allows 82 = .ok (.iload_n 1, 1) := by decide +kernel
theorem dX0_allows_83 : decode cX0_allows 83 = .ok (.invokestatic 55, 3) := by decide +kernel
theorem dX0_allows_86 : decode cX0_allows 86 = .ok (.aload_n 0, 1) := by decide +kernel
theorem dX0_allows_87 : decode cX0_allows 87 = .ok (.getfield 39, 3) := by decide +kernel
theorem dX0_allows_90 : decode cX0_allows 90 = .ok (.if_icmp .ne 15, 3) := by decide +kernel
theorem dX0_allows_93 : decode cX0_allows 93 = .ok (.aload_n 0, 1) := by decide +kernel
theorem dX0_allows_94 : decode cX0_allows 94 = .ok (.iload_n 1, 1) := by decide +kernel
theorem dX0_allows_95 : decode cX0_allows 95 = .ok (.invokevirtual 68, 3) := by decide +kernel
theorem dX0_allows_98 : decode cX0_allows 98 = .ok (.ifCond .eq 7, 3) := by decide +kernel
theorem dX0_allows_101 : decode cX0_allows 101 = .ok (.iconst 1, 1) := by decide +kernel
theorem dX0_allows_102 : decode cX0_allows 102 = .ok (.goto 4, 3) := by decide +kernel
theorem dX0_allows_105 : decode cX0_allows 105 = .ok (.iconst 0, 1) := by decide +kernel
theorem dX0_allows_106 : decode cX0_allows 106 = .ok (.ireturn, 1) := by decide +kernel
theorem dX0_allows_107 : decode cX0_allows 107 = .ok (.iload_n 1, 1) := by decide +kernel
theorem dX0_allows_108 : decode cX0_allows 108 = .ok (.invokestatic 55, 3) := by decide +kernel
theorem dX0_allows_111 : decode cX0_allows 111 = .ok (.aload_n 0, 1) := by decide +kernel
theorem dX0_allows_112 : decode cX0_allows 112 = .ok (.getfield 39, 3) := by decide +kernel
theorem dX0_allows_115 : decode cX0_allows 115 = .ok (.if_icmp .ne 7, 3) := by decide +kernel
theorem dX0_allows_118 : decode cX0_allows 118 = .ok (.iconst 1, 1) := by decide +kernel
theorem dX0_allows_119 : decode cX0_allows 119 = .ok (.goto 4, 3) := by decide +kernel
theorem dX0_allows_122 : decode cX0_allows 122 = .ok (.iconst 0, 1) := by decide +kernel
theorem dX0_allows_123 : decode cX0_allows 123 = .ok (.ireturn, 1) := by decide +kernel
theorem dX0_isWay_0 : decode cX0_isWay 0 = .ok (.iconst 0, 1) := by decide +kernel
theorem dX0_isWay_1 : decode cX0_isWay 1 = .ok (.istore_n 2, 1) := by decide +kernel
theorem dX0_isWay_2 : decode cX0_isWay 2 = .ok (.iconst 1, 1) := by decide +kernel
theorem dX0_isWay_3 : decode cX0_isWay 3 = .ok (.istore_n 3, 1) := by decide +kernel
theorem dX0_isWay_4 : decode cX0_isWay 4 = .ok (.iload_n 1, 1) := by decide +kernel
theorem dX0_isWay_5 : decode cX0_isWay 5 = .ok (.istore 4, 2) := by decide +kernel
theorem dX0_isWay_7 : decode cX0_isWay 7 = .ok (.iconst 1, 1) := by decide +kernel
theorem dX0_isWay_8 : decode cX0_isWay 8 = .ok (.istore 5, 2) := by decide +kernel
theorem dX0_isWay_10 : decode cX0_isWay 10 = .ok (.iload 5, 2) := by decide +kernel
theorem dX0_isWay_12 : decode cX0_isWay 12 = .ok (.bipush 6, 2) := by decide +kernel
theorem dX0_isWay_14 : decode cX0_isWay 14 = .ok (.if_icmp .ge 87, 3) := by decide +kernel
theorem dX0_isWay_17 : decode cX0_isWay 17 = .ok (.iload 4, 2) := by decide +kernel
theorem dX0_isWay_19 : decode cX0_isWay 19 = .ok (.ifCond .eq 82, 3) := by decide +kernel
theorem dX0_isWay_22 : decode cX0_isWay 22 = .ok (.aload_n 0, 1) := by decide +kernel
theorem dX0_isWay_23 : decode cX0_isWay 23 = .ok (.iload_n 2, 1) := by decide +kernel
theorem dX0_isWay_24 : decode cX0_isWay 24 = .ok (.iload 4, 2) := by decide +kernel
theorem dX0_isWay_26 : decode cX0_isWay 26 = .ok (.invokevirtual 71, 3) := by decide +kernel
theorem dX0_isWay_29 : decode cX0_isWay 29 = .ok (.istore 6, 2) := by decide +kernel
theorem dX0_isWay_31 : decode cX0_isWay 31 = .ok (.iload 6, 2) := by decide +kernel
theorem dX0_isWay_33 : decode cX0_isWay 33 = .ok (.iconst (-1), 1) := by decide +kernel
theorem dX0_isWay_34 : decode cX0_isWay 34 = .ok (.if_icmp .ne 5, 3) := by decide +kernel
theorem dX0_isWay_37 : decode cX0_isWay 37 = .ok (.iconst 0, 1) := by decide +kernel
theorem dX0_isWay_38 : decode cX0_isWay 38 = .ok (.ireturn, 1) := by decide +kernel
theorem dX0_isWay_39 : decode cX0_isWay 39 = .ok (.aload_n 0, 1) := by decide +kernel
theorem dX0_isWay_40 : decode cX0_isWay 40 = .ok (.getfield 18, 3) := by decide +kernel
theorem dX0_isWay_43 : decode cX0_isWay 43 = .ok (.iload 6, 2) := by decide +kernel
theorem dX0_isWay_45 : decode cX0_isWay 45 = .ok (.iaload, 1) := by decide +kernel
theorem dX0_isWay_46 : decode cX0_isWay 46 = .ok (.iload_n 2, 1) := by decide +kernel
theorem dX0_isWay_47 : decode cX0_isWay 47 = .ok (.if_icmp .ne 13, 3) := by decide +kernel
theorem dX0_isWay_50 : decode cX0_isWay 50 = .ok (.aload_n 0, 1) := by decide +kernel
theorem dX0_isWay_51 : decode cX0_isWay 51 = .ok (.getfield 21, 3) := by decide +kernel
theorem dX0_isWay_54 : decode cX0_isWay 54 = .ok (.iload 6, 2) := by decide +kernel
theorem dX0_isWay_56 : decode cX0_isWay 56 = .ok (.iaload, 1) := by decide +kernel
theorem dX0_isWay_57 : decode cX0_isWay 57 = .ok (.goto 10, 3) := by decide +kernel
theorem dX0_isWay_60 : decode cX0_isWay 60 = .ok (.aload_n 0, 1) := by decide +kernel
theorem dX0_isWay_61 : decode cX0_isWay 61 = .ok (.getfield 18, 3) := by decide +kernel
theorem dX0_isWay_64 : decode cX0_isWay 64 = .ok (.iload 6, 2) := by decide +kernel
theorem dX0_isWay_66 : decode cX0_isWay 66 = .ok (.iaload, 1) := by decide +kernel
theorem dX0_isWay_67 : decode cX0_isWay 67 = .ok (.istore_n 2, 1) := by decide +kernel
theorem dX0_isWay_68 : decode cX0_isWay 68 = .ok (.iload_n 3, 1) := by decide +kernel
theorem dX0_isWay_69 : decode cX0_isWay 69 = .ok (.iload_n 2, 1) := by decide +kernel
theorem dX0_isWay_70 : decode cX0_isWay 70 = .ok (.ishr, 1) := by decide +kernel
theorem dX0_isWay_71 : decode cX0_isWay 71 = .ok (.iconst 1, 1) := by decide +kernel
theorem dX0_isWay_72 : decode cX0_isWay 72 = .ok (.iand, 1) := by decide +kernel
theorem dX0_isWay_73 : decode cX0_isWay 73 = .ok (.ifCond .eq 5, 3) := by decide +kernel
theorem dX0_isWay_76 : decode cX0_isWay 76 = .ok (.iconst 0, 1) := by decide +kernel
theorem dX0_isWay_77 : decode cX0_isWay 77 = .ok (.ireturn, 1) := by decide +kernel
theorem dX0_isWay_78 : decode cX0_isWay 78 = .ok (.iload_n 3, 1) := by decide +kernel
theorem dX0_isWay_79 : decode cX0_isWay 79 = .ok (.iconst 1, 1) := by decide +kernel
theorem dX0_isWay_80 : decode cX0_isWay 80 = .ok (.iload_n 2, 1) := by decide +kernel
theorem dX0_isWay_81 : decode cX0_isWay 81 = .ok (.ishl, 1) := by decide +kernel
theorem dX0_isWay_82 : decode cX0_isWay 82 = .ok (.ior, 1) := by decide +kernel
theorem dX0_isWay_83 : decode cX0_isWay 83 = .ok (.istore_n 3, 1) := by decide +kernel
theorem dX0_isWay_84 : decode cX0_isWay 84 = .ok (.iload 4, 2) := by decide +kernel
theorem dX0_isWay_86 : decode cX0_isWay 86 = .ok (.iconst 1, 1) := by decide +kernel
theorem dX0_isWay_87 : decode cX0_isWay 87 = .ok (.iload 6, 2) := by decide +kernel
theorem dX0_isWay_89 : decode cX0_isWay 89 = .ok (.ishl, 1) := by decide +kernel
theorem dX0_isWay_90 : decode cX0_isWay 90 = .ok (.iconst (-1), 1) := by decide +kernel
theorem dX0_isWay_91 : decode cX0_isWay 91 = .ok (.ixor, 1) := by decide +kernel
theorem dX0_isWay_92 : decode cX0_isWay 92 = .ok (.iand, 1) := by decide +kernel
theorem dX0_isWay_93 : decode cX0_isWay 93 = .ok (.istore 4, 2) := by decide +kernel
theorem dX0_isWay_95 : decode cX0_isWay 95 = .ok (.iinc 5 1, 3) := by decide +kernel
theorem dX0_isWay_98 : decode cX0_isWay 98 = .ok (.goto (-88), 3) := by decide +kernel
theorem dX0_isWay_101 : decode cX0_isWay 101 = .ok (.iload 4, 2) := by decide +kernel
theorem dX0_isWay_103 : decode cX0_isWay 103 = .ok (.ifCond .ne 15, 3) := by decide +kernel
theorem dX0_isWay_106 : decode cX0_isWay 106 = .ok (.iload_n 2, 1) := by decide +kernel
theorem dX0_isWay_107 : decode cX0_isWay 107 = .ok (.aload_n 0, 1) := by decide +kernel
theorem dX0_isWay_108 : decode cX0_isWay 108 = .ok (.getfield 39, 3) := by decide +kernel
theorem dX0_isWay_111 : decode cX0_isWay 111 = .ok (.if_icmp .ne 7, 3) := by decide +kernel
theorem dX0_isWay_114 : decode cX0_isWay 114 = .ok (.iconst 1, 1) := by decide +kernel
theorem dX0_isWay_115 : decode cX0_isWay 115 = .ok (.goto 4, 3) := by decide +kernel
theorem dX0_isWay_118 : decode cX0_isWay 118 = .ok (.iconst 0, 1) := by decide +kernel
theorem dX0_isWay_119 : decode cX0_isWay 119 = .ok (.ireturn, 1) := by decide +kernel
theorem dX0_roadFrom_0 : decode cX0_roadFrom 0 = .ok (.iconst 0, 1) := by decide +kernel
theorem dX0_roadFrom_1 : decode cX0_roadFrom 1 = .ok (.istore_n 3, 1) := by decide +kernel
theorem dX0_roadFrom_2 : decode cX0_roadFrom 2 = .ok (.iload_n 3, 1) := by decide +kernel
theorem dX0_roadFrom_3 : decode cX0_roadFrom 3 = .ok (.aload_n 0, 1) := by decide +kernel
theorem dX0_roadFrom_4 : decode cX0_roadFrom 4 = .ok (.getfield 32, 3) := by decide +kernel
theorem dX0_roadFrom_7 : decode cX0_roadFrom 7 = .ok (.if_icmp .ge 39, 3) := by decide +kernel
theorem dX0_roadFrom_10 : decode cX0_roadFrom 10 = .ok (.iload_n 2, 1) := by decide +kernel
theorem dX0_roadFrom_11 : decode cX0_roadFrom 11 = .ok (.iload_n 3, 1) := by decide +kernel
theorem dX0_roadFrom_12 : decode cX0_roadFrom 12 = .ok (.ishr, 1) := by decide +kernel
theorem dX0_roadFrom_13 : decode cX0_roadFrom 13 = .ok (.iconst 1, 1) := by decide +kernel
theorem dX0_roadFrom_14 : decode cX0_roadFrom 14 = .ok (.iand, 1) := by decide +kernel
theorem dX0_roadFrom_15 : decode cX0_roadFrom 15 = .ok (.ifCond .eq 25, 3) := by decide +kernel
theorem dX0_roadFrom_18 : decode cX0_roadFrom 18 = .ok (.aload_n 0, 1) := by decide +kernel
theorem dX0_roadFrom_19 : decode cX0_roadFrom 19 = .ok (.getfield 18, 3) := by decide +kernel
theorem dX0_roadFrom_22 : decode cX0_roadFrom 22 = .ok (.iload_n 3, 1) := by decide +kernel
theorem dX0_roadFrom_23 : decode cX0_roadFrom 23 = .ok (.iaload, 1) := by decide +kernel
theorem dX0_roadFrom_24 : decode cX0_roadFrom 24 = .ok (.iload_n 1, 1) := by decide +kernel
theorem dX0_roadFrom_25 : decode cX0_roadFrom 25 = .ok (.if_icmp .eq 13, 3) := by decide +kernel
theorem dX0_roadFrom_28 : decode cX0_roadFrom 28 = .ok (.aload_n 0, 1) := by decide +kernel
theorem dX0_roadFrom_29 : decode cX0_roadFrom 29 = .ok (.getfield 21, 3) := by decide +kernel
theorem dX0_roadFrom_32 : decode cX0_roadFrom 32 = .ok (.iload_n 3, 1) := by decide +kernel
theorem dX0_roadFrom_33 : decode cX0_roadFrom 33 = .ok (.iaload, 1) := by decide +kernel
theorem dX0_roadFrom_34 : decode cX0_roadFrom 34 = .ok (.iload_n 1, 1) := by decide +kernel
theorem dX0_roadFrom_35 : decode cX0_roadFrom 35 = .ok (.if_icmp .ne 5, 3) := by decide +kernel
theorem dX0_roadFrom_38 : decode cX0_roadFrom 38 = .ok (.iload_n 3, 1) := by decide +kernel
theorem dX0_roadFrom_39 : decode cX0_roadFrom 39 = .ok (.ireturn, 1) := by decide +kernel
theorem dX0_roadFrom_40 : decode cX0_roadFrom 40 = .ok (.iinc 3 1, 3) := by decide +kernel
theorem dX0_roadFrom_43 : decode cX0_roadFrom 43 = .ok (.goto (-41), 3) := by decide +kernel
theorem dX0_roadFrom_46 : decode cX0_roadFrom 46 = .ok (.iconst (-1), 1) := by decide +kernel
theorem dX0_roadFrom_47 : decode cX0_roadFrom 47 = .ok (.ireturn, 1) := by decide +kernel
theorem dX0_holdsTogether_0 : decode cX0_holdsTogether 0 = .ok (.iconst 1, 1) := by decide +kernel
theorem dX0_holdsTogether_1 : decode cX0_holdsTogether 1 = .ok (.istore_n 2, 1) := by decide +kernel
theorem dX0_holdsTogether_2 : decode cX0_holdsTogether 2 = .ok (.iconst 1, 1) := by decide +kernel
theorem dX0_holdsTogether_3 : decode cX0_holdsTogether 3 = .ok (.istore_n 3, 1) := by decide +kernel
theorem dX0_holdsTogether_4 : decode cX0_holdsTogether 4 = .ok (.iload_n 3, 1) := by decide +kernel
theorem dX0_holdsTogether_5 : decode cX0_holdsTogether 5 = .ok (.aload_n 0, 1) := by decide +kernel
theorem dX0_holdsTogether_6 : decode cX0_holdsTogether 6 = .ok (.getfield 39, 3) := by decide +kernel
theorem dX0_holdsTogether_9 : decode cX0_holdsTogether 9 = .ok (.if_icmp .ge 69, 3) := by decide +kernel
theorem dX0_holdsTogether_12 : decode cX0_holdsTogether 12 = .ok (.iconst 0, 1) := by decide +kernel
theorem dX0_holdsTogether_13 : decode cX0_holdsTogether 13 = .ok (.istore 4, 2) := by decide +kernel
theorem dX0_holdsTogether_15 : decode cX0_holdsTogether 15 = .ok (.iload 4, 2) := by decide +kernel
theorem dX0_holdsTogether_17 : decode cX0_holdsTogether 17 = .ok (.aload_n 0, 1) := by decide +kernel
theorem dX0_holdsTogether_18 : decode cX0_holdsTogether 18 = .ok (.getfield 32, 3) := by decide +kernel
theorem dX0_holdsTogether_21 : decode cX0_holdsTogether 21 = .ok (.if_icmp .ge 51, 3) := by decide +kernel
theorem dX0_holdsTogether_24 : decode cX0_holdsTogether 24 = .ok (.iconst 1, 1) := by decide +kernel
theorem dX0_holdsTogether_25 : decode cX0_holdsTogether 25 = .ok (.aload_n 0, 1) := by decide +kernel
theorem dX0_holdsTogether_26 : decode cX0_holdsTogether 26 = .ok (.getfield 18, 3) := by decide +kernel
theorem dX0_holdsTogether_29 : decode cX0_holdsTogether 29 = .ok (.iload 4, 2) := by decide +kernel
theorem dX0_holdsTogether_31 : decode cX0_holdsTogether 31 = .ok (.iaload, 1) := by decide +kernel
theorem dX0_holdsTogether_32 : decode cX0_holdsTogether 32 = .ok (.ishl, 1) := by decide +kernel
theorem dX0_holdsTogether_33 : decode cX0_holdsTogether 33 = .ok (.iconst 1, 1) := by decide +kernel
theorem dX0_holdsTogether_34 : decode cX0_holdsTogether 34 = .ok (.aload_n 0, 1) := by decide +kernel
theorem dX0_holdsTogether_35 : decode cX0_holdsTogether 35 = .ok (.getfield 21, 3) := by decide +kernel
theorem dX0_holdsTogether_38 : decode cX0_holdsTogether 38 = .ok (.iload 4, 2) := by decide +kernel
theorem dX0_holdsTogether_40 : decode cX0_holdsTogether 40 = .ok (.iaload, 1) := by decide +kernel
theorem dX0_holdsTogether_41 : decode cX0_holdsTogether 41 = .ok (.ishl, 1) := by decide +kernel
theorem dX0_holdsTogether_42 : decode cX0_holdsTogether 42 = .ok (.ior, 1) := by decide +kernel
theorem dX0_holdsTogether_43 : decode cX0_holdsTogether 43 = .ok (.istore 5, 2) := by decide +kernel
theorem dX0_holdsTogether_45 : decode cX0_holdsTogether 45 = .ok (.iload_n 1, 1) := by decide +kernel
theorem dX0_holdsTogether_46 : decode cX0_holdsTogether 46 = .ok (.iload 4, 2) := by decide +kernel
theorem dX0_holdsTogether_48 : decode cX0_holdsTogether 48 = .ok (.ishr, 1) := by decide +kernel
theorem dX0_holdsTogether_49 : decode cX0_holdsTogether 49 = .ok (.iconst 1, 1) := by decide +kernel
theorem dX0_holdsTogether_50 : decode cX0_holdsTogether 50 = .ok (.iand, 1) := by decide +kernel
theorem dX0_holdsTogether_51 : decode cX0_holdsTogether 51 = .ok (.ifCond .eq 15, 3) := by decide +kernel
theorem dX0_holdsTogether_54 : decode cX0_holdsTogether 54 = .ok (.iload_n 2, 1) := by decide +kernel
theorem dX0_holdsTogether_55 : decode cX0_holdsTogether 55 = .ok (.iload 5, 2) := by decide +kernel
theorem dX0_holdsTogether_57 : decode cX0_holdsTogether 57 = .ok (.iand, 1) := by decide +kernel
theorem dX0_holdsTogether_58 : decode cX0_holdsTogether 58 = .ok (.ifCond .eq 8, 3) := by decide +kernel
theorem dX0_holdsTogether_61 : decode cX0_holdsTogether 61 = .ok (.iload_n 2, 1) := by decide +kernel
theorem dX0_holdsTogether_62 : decode cX0_holdsTogether 62 = .ok (.iload 5, 2) := by decide +kernel
theorem dX0_holdsTogether_64 : decode cX0_holdsTogether 64 = .ok (.ior, 1) := by decide +kernel
theorem dX0_holdsTogether_65 : decode cX0_holdsTogether 65 = .ok (.istore_n 2, 1) := by decide +kernel
theorem dX0_holdsTogether_66 : decode cX0_holdsTogether 66 = .ok (.iinc 4 1, 3) := by decide +kernel
theorem dX0_holdsTogether_69 : decode cX0_holdsTogether 69 = .ok (.goto (-54), 3) := by decide +kernel
theorem dX0_holdsTogether_72 : decode cX0_holdsTogether 72 = .ok (.iinc 3 1, 3) := by decide +kernel
theorem dX0_holdsTogether_75 : decode cX0_holdsTogether 75 = .ok (.goto (-71), 3) := by decide +kernel
theorem dX0_holdsTogether_78 : decode cX0_holdsTogether 78 = .ok (.iload_n 2, 1) := by decide +kernel
theorem dX0_holdsTogether_79 : decode cX0_holdsTogether 79 = .ok (.iconst 1, 1) := by decide +kernel
theorem dX0_holdsTogether_80 : decode cX0_holdsTogether 80 = .ok (.aload_n 0, 1) := by decide +kernel
theorem dX0_holdsTogether_81 : decode cX0_holdsTogether 81 = .ok (.getfield 39, 3) := by decide +kernel
theorem dX0_holdsTogether_84 : decode cX0_holdsTogether 84 = .ok (.ishl, 1) := by decide +kernel
theorem dX0_holdsTogether_85 : decode cX0_holdsTogether 85 = .ok (.iconst 1, 1) := by decide +kernel
theorem dX0_holdsTogether_86 : decode cX0_holdsTogether 86 = .ok (.isub, 1) := by decide +kernel
theorem dX0_holdsTogether_87 : decode cX0_holdsTogether 87 = .ok (.if_icmp .ne 7, 3) := by decide +kernel
theorem dX0_holdsTogether_90 : decode cX0_holdsTogether 90 = .ok (.iconst 1, 1) := by decide +kernel
theorem dX0_holdsTogether_91 : decode cX0_holdsTogether 91 = .ok (.goto 4, 3) := by decide +kernel
theorem dX0_holdsTogether_94 : decode cX0_holdsTogether 94 = .ok (.iconst 0, 1) := by decide +kernel
theorem dX0_holdsTogether_95 : decode cX0_holdsTogether 95 = .ok (.ireturn, 1) := by decide +kernel
theorem dX0_meetsAllPosts_0 : decode cX0_meetsAllPosts 0 = .ok (.iconst 0, 1) := by decide +kernel
theorem dX0_meetsAllPosts_1 : decode cX0_meetsAllPosts 1 = .ok (.istore_n 2, 1) := by decide +kernel
theorem dX0_meetsAllPosts_2 : decode cX0_meetsAllPosts 2 = .ok (.iconst 0, 1) := by decide +kernel
theorem dX0_meetsAllPosts_3 : decode cX0_meetsAllPosts 3 = .ok (.istore_n 3, 1) := by decide +kernel
theorem dX0_meetsAllPosts_4 : decode cX0_meetsAllPosts 4 = .ok (.iconst 0, 1) := by decide +kernel
theorem dX0_meetsAllPosts_5 : decode cX0_meetsAllPosts 5 = .ok (.istore 4, 2) := by decide +kernel
theorem dX0_meetsAllPosts_7 : decode cX0_meetsAllPosts 7 = .ok (.iload 4, 2) := by decide +kernel
theorem dX0_meetsAllPosts_9 : decode cX0_meetsAllPosts 9 = .ok (.aload_n 0, 1) := by decide +kernel
theorem dX0_meetsAllPosts_10 : decode cX0_meetsAllPosts 10 = .ok (.getfield 32, 3) := by decide +kernel
theorem dX0_meetsAllPosts_13 : decode cX0_meetsAllPosts 13 = .ok (.if_icmp .ge 42, 3) := by decide +kernel
theorem dX0_meetsAllPosts_16 : decode cX0_meetsAllPosts 16 = .ok (.iload_n 1, 1) := by decide +kernel
theorem dX0_meetsAllPosts_17 : decode cX0_meetsAllPosts 17 = .ok (.iload 4, 2) := by decide +kernel
theorem dX0_meetsAllPosts_19 : decode cX0_meetsAllPosts 19 = .ok (.ishr, 1) := by decide +kernel
theorem dX0_meetsAllPosts_20 : decode cX0_meetsAllPosts 20 = .ok (.iconst 1, 1) := by decide +kernel
theorem dX0_meetsAllPosts_21 : decode cX0_meetsAllPosts 21 = .ok (.iand, 1) := by decide +kernel
theorem dX0_meetsAllPosts_22 : decode cX0_meetsAllPosts 22 = .ok (.ifCond .eq 27, 3) := by decide +kernel
theorem dX0_meetsAllPosts_25 : decode cX0_meetsAllPosts 25 = .ok (.iload_n 2, 1) := by decide +kernel
theorem dX0_meetsAllPosts_26 : decode cX0_meetsAllPosts 26 = .ok (.iconst 1, 1) := by decide +kernel
theorem dX0_meetsAllPosts_27 : decode cX0_meetsAllPosts 27 = .ok (.aload_n 0, 1) := by decide +kernel
theorem dX0_meetsAllPosts_28 : decode cX0_meetsAllPosts 28 = .ok (.getfield 18, 3) := by decide +kernel
theorem dX0_meetsAllPosts_31 : decode cX0_meetsAllPosts 31 = .ok (.iload 4, 2) := by decide +kernel
theorem dX0_meetsAllPosts_33 : decode cX0_meetsAllPosts 33 = .ok (.iaload, 1) := by decide +kernel
theorem dX0_meetsAllPosts_34 : decode cX0_meetsAllPosts 34 = .ok (.ishl, 1) := by decide +kernel
theorem dX0_meetsAllPosts_35 : decode cX0_meetsAllPosts 35 = .ok (.ior, 1) := by decide +kernel
theorem dX0_meetsAllPosts_36 : decode cX0_meetsAllPosts 36 = .ok (.istore_n 2, 1) := by decide +kernel
theorem dX0_meetsAllPosts_37 : decode cX0_meetsAllPosts 37 = .ok (.iload_n 3, 1) := by decide +kernel
theorem dX0_meetsAllPosts_38 : decode cX0_meetsAllPosts 38 = .ok (.iconst 1, 1) := by decide +kernel
theorem dX0_meetsAllPosts_39 : decode cX0_meetsAllPosts 39 = .ok (.aload_n 0, 1) := by decide +kernel
theorem dX0_meetsAllPosts_40 : decode cX0_meetsAllPosts 40 = .ok (.getfield 21, 3) := by decide +kernel
theorem dX0_meetsAllPosts_43 : decode cX0_meetsAllPosts 43 = .ok (.iload 4, 2) := by decide +kernel
theorem dX0_meetsAllPosts_45 : decode cX0_meetsAllPosts 45 = .ok (.iaload, 1) := by decide +kernel
theorem dX0_meetsAllPosts_46 : decode cX0_meetsAllPosts 46 = .ok (.ishl, 1) := by decide +kernel
theorem dX0_meetsAllPosts_47 : decode cX0_meetsAllPosts 47 = .ok (.ior, 1) := by decide +kernel
theorem dX0_meetsAllPosts_48 : decode cX0_meetsAllPosts 48 = .ok (.istore_n 3, 1) := by decide +kernel
theorem dX0_meetsAllPosts_49 : decode cX0_meetsAllPosts 49 = .ok (.iinc 4 1, 3) := by decide +kernel
theorem dX0_meetsAllPosts_52 : decode cX0_meetsAllPosts 52 = .ok (.goto (-45), 3) := by decide +kernel
theorem dX0_meetsAllPosts_55 : decode cX0_meetsAllPosts 55 = .ok (.iconst 1, 1) := by decide +kernel
theorem dX0_meetsAllPosts_56 : decode cX0_meetsAllPosts 56 = .ok (.aload_n 0, 1) := by decide +kernel
theorem dX0_meetsAllPosts_57 : decode cX0_meetsAllPosts 57 = .ok (.getfield 39, 3) := by decide +kernel
theorem dX0_meetsAllPosts_60 : decode cX0_meetsAllPosts 60 = .ok (.ishl, 1) := by decide +kernel
theorem dX0_meetsAllPosts_61 : decode cX0_meetsAllPosts 61 = .ok (.iconst 1, 1) := by decide +kernel
theorem dX0_meetsAllPosts_62 : decode cX0_meetsAllPosts 62 = .ok (.isub, 1) := by decide +kernel
theorem dX0_meetsAllPosts_63 : decode cX0_meetsAllPosts 63 = .ok (.istore 4, 2) := by decide +kernel
theorem dX0_meetsAllPosts_65 : decode cX0_meetsAllPosts 65 = .ok (.iload_n 2, 1) := by decide +kernel
theorem dX0_meetsAllPosts_66 : decode cX0_meetsAllPosts 66 = .ok (.iload 4, 2) := by decide +kernel
theorem dX0_meetsAllPosts_68 : decode cX0_meetsAllPosts 68 = .ok (.if_icmp .ne 13, 3) := by decide +kernel
theorem dX0_meetsAllPosts_71 : decode cX0_meetsAllPosts 71 = .ok (.iload_n 3, 1) := by decide +kernel
theorem dX0_meetsAllPosts_72 : decode cX0_meetsAllPosts 72 = .ok (.iload 4, 2) := by decide +kernel
theorem dX0_meetsAllPosts_74 : decode cX0_meetsAllPosts 74 = .ok (.if_icmp .ne 7, 3) := by decide +kernel
theorem dX0_meetsAllPosts_77 : decode cX0_meetsAllPosts 77 = .ok (.iconst 1, 1) := by decide +kernel
theorem dX0_meetsAllPosts_78 : decode cX0_meetsAllPosts 78 = .ok (.goto 4, 3) := by decide +kernel
theorem dX0_meetsAllPosts_81 : decode cX0_meetsAllPosts 81 = .ok (.iconst 0, 1) := by decide +kernel
theorem dX0_meetsAllPosts_82 : decode cX0_meetsAllPosts 82 = .ok (.ireturn, 1) := by decide +kernel
theorem dX1_init_0 : decode cX1_init 0 = .ok (.aload_n 0, 1) := by decide +kernel
theorem dX1_init_1 : decode cX1_init 1 = .ok (.invokespecial 3, 3) := by decide +kernel
theorem dX1_init_4 : decode cX1_init 4 = .ok (.aload_n 0, 1) := by decide +kernel
theorem dX1_init_5 : decode cX1_init 5 = .ok (.bipush 12, 2) := by decide +kernel
theorem dX1_init_7 : decode cX1_init 7 = .ok (.newarray .int, 2) := by decide +kernel
theorem dX1_init_9 : decode cX1_init 9 = .ok (.putfield 9, 3) := by decide +kernel
theorem dX1_init_12 : decode cX1_init 12 = .ok (.aload_n 0, 1) := by decide +kernel
theorem dX1_init_13 : decode cX1_init 13 = .ok (.new 15, 3) := by decide +kernel
theorem dX1_init_16 : decode cX1_init 16 = .ok (.dup, 1) := by decide +kernel
theorem dX1_init_17 : decode cX1_init 17 = .ok (.invokespecial 17, 3) := by decide +kernel
theorem dX1_init_20 : decode cX1_init 20 = .ok (.putfield 18, 3) := by decide +kernel
theorem dX1_init_23 : decode cX1_init 23 = .ok (.aload_n 0, 1) := by decide +kernel
theorem dX1_init_24 : decode cX1_init 24 = .ok (.new 15, 3) := by decide +kernel
theorem dX1_init_27 : decode cX1_init 27 = .ok (.dup, 1) := by decide +kernel
theorem dX1_init_28 : decode cX1_init 28 = .ok (.invokespecial 17, 3) := by decide +kernel
theorem dX1_init_31 : decode cX1_init 31 = .ok (.putfield 22, 3) := by decide +kernel
theorem dX1_init_34 : decode cX1_init 34 = .ok (.aload_n 0, 1) := by decide +kernel
theorem dX1_init_35 : decode cX1_init 35 = .ok (.sipush 500, 3) := by decide +kernel
theorem dX1_init_38 : decode cX1_init 38 = .ok (.newarray .int, 2) := by decide +kernel
theorem dX1_init_40 : decode cX1_init 40 = .ok (.putfield 25, 3) := by decide +kernel
theorem dX1_init_43 : decode cX1_init 43 = .ok (.aload_n 0, 1) := by decide +kernel
theorem dX1_init_44 : decode cX1_init 44 = .ok (.sipush 500, 3) := by decide +kernel
theorem dX1_init_47 : decode cX1_init 47 = .ok (.newarray .int, 2) := by decide +kernel
theorem dX1_init_49 : decode cX1_init 49 = .ok (.putfield 28, 3) := by decide +kernel
theorem dX1_init_52 : decode cX1_init 52 = .ok (.aload_n 0, 1) := by decide +kernel
theorem dX1_init_53 : decode cX1_init 53 = .ok (.sipush 500, 3) := by decide +kernel
theorem dX1_init_56 : decode cX1_init 56 = .ok (.newarray .int, 2) := by decide +kernel
theorem dX1_init_58 : decode cX1_init 58 = .ok (.putfield 31, 3) := by decide +kernel
theorem dX1_init_61 : decode cX1_init 61 = .ok (.aload_n 0, 1) := by decide +kernel
theorem dX1_init_62 : decode cX1_init 62 = .ok (.aload_n 1, 1) := by decide +kernel
theorem dX1_init_63 : decode cX1_init 63 = .ok (.putfield 34, 3) := by decide +kernel
theorem dX1_init_66 : decode cX1_init 66 = .ok (.aload_n 0, 1) := by decide +kernel
theorem dX1_init_67 : decode cX1_init 67 = .ok (.aload_n 2, 1) := by decide +kernel
theorem dX1_init_68 : decode cX1_init 68 = .ok (.putfield 38, 3) := by decide +kernel
theorem dX1_init_71 : decode cX1_init 71 = .ok (.return_, 1) := by decide +kernel
theorem dX1_workOutAnew_0 : decode cX1_workOutAnew 0 = .ok (.aload_n 0, 1) := by decide +kernel
theorem dX1_workOutAnew_1 : decode cX1_workOutAnew 1 = .ok (.iconst 0, 1) := by decide +kernel
theorem dX1_workOutAnew_2 : decode cX1_workOutAnew 2 = .ok (.putfield 42, 3) := by decide +kernel
theorem dX1_workOutAnew_5 : decode cX1_workOutAnew 5 = .ok (.aload_n 0, 1) := by decide +kernel
theorem dX1_workOutAnew_6 : decode cX1_workOutAnew 6 = .ok (.iconst 0, 1) := by decide +kernel
theorem dX1_workOutAnew_7 : decode cX1_workOutAnew 7 = .ok (.putfield 46, 3) := by decide +kernel
theorem dX1_workOutAnew_10 : decode cX1_workOutAnew 10 = .ok (.aload_n 0, 1) := by decide +kernel
theorem dX1_workOutAnew_11 : decode cX1_workOutAnew 11 = .ok (.iconst 0, 1) := by decide +kernel
theorem dX1_workOutAnew_12 : decode cX1_workOutAnew 12 = .ok (.putfield 49, 3) := by decide +kernel
theorem dX1_workOutAnew_15 : decode cX1_workOutAnew 15 = .ok (.return_, 1) := by decide +kernel
theorem dX1_costAt_0 : decode cX1_costAt 0 = .ok (.aload_n 0, 1) := by decide +kernel
theorem dX1_costAt_1 : decode cX1_costAt 1 = .ok (.invokevirtual 52, 3) := by decide +kernel
theorem dX1_costAt_4 : decode cX1_costAt 4 = .ok (.aload_n 0, 1) := by decide +kernel
theorem dX1_costAt_5 : decode cX1_costAt 5 = .ok (.getfield 25, 3) := by decide +kernel
theorem dX1_costAt_8 : decode cX1_costAt 8 = .ok (.iload_n 1, 1) := by decide +kernel
theorem dX1_costAt_9 : decode cX1_costAt 9 = .ok (.iaload, 1) := by decide +kernel
theorem dX1_costAt_10 : decode cX1_costAt 10 = .ok (.aload_n 0, 1) := by decide +kernel
theorem dX1_costAt_11 : decode cX1_costAt 11 = .ok (.getfield 22, 3) := by decide +kernel
theorem dX1_costAt_14 : decode cX1_costAt 14 = .ok (.aload_n 0, 1) := by decide +kernel
theorem dX1_costAt_15 : decode cX1_costAt 15 = .ok (.getfield 38, 3) := by decide +kernel
theorem dX1_costAt_18 : decode cX1_costAt 18 = .ok (.getfield 55, 3) := by decide +kernel
theorem dX1_costAt_21 : decode cX1_costAt 21 = .ok (.iload_n 1, 1) := by decide +kernel
theorem dX1_costAt_22 : decode cX1_costAt 22 = .ok (.iaload, 1) := by decide +kernel
theorem dX1_costAt_23 : decode cX1_costAt 23 = .ok (.iload_n 2, 1) := by decide +kernel
theorem dX1_costAt_24 : decode cX1_costAt 24 = .ok (.iand, 1) := by decide +kernel
theorem dX1_costAt_25 : decode cX1_costAt 25 = .ok (.invokevirtual 60, 3) := by decide +kernel
theorem dX1_costAt_28 : decode cX1_costAt 28 = .ok (.iadd, 1) := by decide +kernel
theorem dX1_costAt_29 : decode cX1_costAt 29 = .ok (.ireturn, 1) := by decide +kernel
theorem dX1_cheapestAt_0 : decode cX1_cheapestAt 0 = .ok (.aload_n 0, 1) := by decide +kernel
theorem dX1_cheapestAt_1 : decode cX1_cheapestAt 1 = .ok (.invokevirtual 52, 3) := by decide +kernel
theorem dX1_cheapestAt_4 : decode cX1_cheapestAt 4 = .ok (.iconst 0, 1) := by decide +kernel
theorem dX1_cheapestAt_5 : decode cX1_cheapestAt 5 = .ok (.istore_n 2, 1) := by decide +kernel
theorem dX1_cheapestAt_6 : decode cX1_cheapestAt 6 = .ok (.iload_n 2, 1) := by decide +kernel
theorem dX1_cheapestAt_7 : decode cX1_cheapestAt 7 = .ok (.aload_n 0, 1) := by decide +kernel
theorem dX1_cheapestAt_8 : decode cX1_cheapestAt 8 = .ok (.getfield 38, 3) := by decide +kernel
theorem dX1_cheapestAt_11 : decode cX1_cheapestAt 11 = .ok (.getfield 64, 3) := by decide +kernel
theorem dX1_cheapestAt_14 : decode cX1_cheapestAt 14 = .ok (.if_icmp .ge 40, 3) := by decide +kernel
theorem dX1_cheapestAt_17 : decode cX1_cheapestAt 17 = .ok (.aload_n 0, 1) := by decide +kernel
theorem dX1_cheapestAt_18 : decode cX1_cheapestAt 18 = .ok (.getfield 31, 3) := by decide +kernel
theorem dX1_cheapestAt_21 : decode cX1_cheapestAt 21 = .ok (.iload_n 2, 1) := by decide +kernel
theorem dX1_cheapestAt_22 : decode cX1_cheapestAt 22 = .ok (.aload_n 0, 1) := by decide +kernel
theorem dX1_cheapestAt_23 : decode cX1_cheapestAt 23 = .ok (.getfield 25, 3) := by decide +kernel
theorem dX1_cheapestAt_26 : decode cX1_cheapestAt 26 = .ok (.iload_n 2, 1) := by decide +kernel
theorem dX1_cheapestAt_27 : decode cX1_cheapestAt 27 = .ok (.iaload, 1) := by decide +kernel
theorem dX1_cheapestAt_28 : decode cX1_cheapestAt 28 = .ok (.aload_n 0, 1) := by decide +kernel
theorem dX1_cheapestAt_29 : decode cX1_cheapestAt 29 = .ok (.getfield 22, 3) := by decide +kernel
theorem dX1_cheapestAt_32 : decode cX1_cheapestAt 32 = .ok (.aload_n 0, 1) := by decide +kernel
theorem dX1_cheapestAt_33 : decode cX1_cheapestAt 33 = .ok (.getfield 38, 3) := by decide +kernel
theorem dX1_cheapestAt_36 : decode cX1_cheapestAt 36 = .ok (.getfield 55, 3) := by decide +kernel
theorem dX1_cheapestAt_39 : decode cX1_cheapestAt 39 = .ok (.iload_n 2, 1) := by decide +kernel
theorem dX1_cheapestAt_40 : decode cX1_cheapestAt 40 = .ok (.iaload, 1) := by decide +kernel
theorem dX1_cheapestAt_41 : decode cX1_cheapestAt 41 = .ok (.iload_n 1, 1) := by decide +kernel
theorem dX1_cheapestAt_42 : decode cX1_cheapestAt 42 = .ok (.iand, 1) := by decide +kernel
theorem dX1_cheapestAt_43 : decode cX1_cheapestAt 43 = .ok (.invokevirtual 60, 3) := by decide +kernel
theorem dX1_cheapestAt_46 : decode cX1_cheapestAt 46 = .ok (.iadd, 1) := by decide +kernel
theorem dX1_cheapestAt_47 : decode cX1_cheapestAt 47 = .ok (.iastore, 1) := by decide +kernel
theorem dX1_cheapestAt_48 : decode cX1_cheapestAt 48 = .ok (.iinc 2 1, 3) := by decide +kernel
theorem dX1_cheapestAt_51 : decode cX1_cheapestAt 51 = .ok (.goto (-45), 3) := by decide +kernel
theorem dX1_cheapestAt_54 : decode cX1_cheapestAt 54 = .ok (.aload_n 0, 1) := by decide +kernel
theorem dX1_cheapestAt_55 : decode cX1_cheapestAt 55 = .ok (.getfield 31, 3) := by decide +kernel
theorem dX1_cheapestAt_58 : decode cX1_cheapestAt 58 = .ok (.aload_n 0, 1) := by decide +kernel
theorem dX1_cheapestAt_59 : decode cX1_cheapestAt 59 = .ok (.getfield 38, 3) := by decide +kernel
theorem dX1_cheapestAt_62 : decode cX1_cheapestAt 62 = .ok (.getfield 64, 3) := by decide +kernel
theorem dX1_cheapestAt_65 : decode cX1_cheapestAt 65 = .ok (.invokestatic 68, 3) := by decide +kernel
theorem dX1_cheapestAt_68 : decode cX1_cheapestAt 68 = .ok (.ireturn, 1) := by decide +kernel
theorem dX1_greatestRue_0 : decode cX1_greatestRue 0 = .ok (.aload_n 0, 1) := by decide +kernel
theorem dX1_greatestRue_1 : decode cX1_greatestRue 1 = .ok (.invokevirtual 52, 3) := by decide +kernel
theorem dX1_greatestRue_4 : decode cX1_greatestRue 4 = .ok (.aload_n 0, 1) := by decide +kernel
theorem dX1_greatestRue_5 : decode cX1_greatestRue 5 = .ok (.iload_n 1, 1) := by decide +kernel
theorem dX1_greatestRue_6 : decode cX1_greatestRue 6 = .ok (.invokevirtual 72, 3) := by decide +kernel
theorem dX1_greatestRue_9 : decode cX1_greatestRue 9 = .ok (.ireturn, 1) := by decide +kernel
theorem dX1_leastRued_0 : decode cX1_leastRued 0 = .ok (.aload_n 0, 1) := by decide +kernel
theorem dX1_leastRued_1 : decode cX1_leastRued 1 = .ok (.invokevirtual 75, 3) := by decide +kernel
theorem dX1_leastRued_4 : decode cX1_leastRued 4 = .ok (.aload_n 0, 1) := by decide +kernel
theorem dX1_leastRued_5 : decode cX1_leastRued 5 = .ok (.getfield 28, 3) := by decide +kernel
theorem dX1_leastRued_8 : decode cX1_leastRued 8 = .ok (.aload_n 0, 1) := by decide +kernel
theorem dX1_leastRued_9 : decode cX1_leastRued 9 = .ok (.getfield 38, 3) := by decide +kernel
theorem dX1_leastRued_12 : decode cX1_leastRued 12 = .ok (.getfield 64, 3) := by decide +kernel
theorem dX1_leastRued_15 : decode cX1_leastRued 15 = .ok (.invokestatic 68, 3) := by decide +kernel
theorem dX1_leastRued_18 : decode cX1_leastRued 18 = .ok (.ireturn, 1) := by decide +kernel
theorem dX1_howManyLeastRued_0 : decode cX1_howManyLeastRued 0 = .ok (.aload_n 0, 1) := by decide +kernel
theorem dX1_howManyLeastRued_1 : decode cX1_howManyLeastRued 1 = .ok (.invokevirtual 78, 3) := by decide +kernel
theorem dX1_howManyLeastRued_4 : decode cX1_howManyLeastRued 4 = .ok (.istore_n 1, 1) := by decide +kernel
theorem dX1_howManyLeastRued_5 : decode cX1_howManyLeastRued 5 = .ok (.iconst 0, 1) := by decide +kernel
theorem dX1_howManyLeastRued_6 : decode cX1_howManyLeastRued 6 = .ok (.istore_n 2, 1) := by decide +kernel
theorem dX1_howManyLeastRued_7 : decode cX1_howManyLeastRued 7 = .ok (.iconst 0, 1) := by decide +kernel
theorem dX1_howManyLeastRued_8 : decode cX1_howManyLeastRued 8 = .ok (.istore_n 3, 1) := by decide +kernel
theorem dX1_howManyLeastRued_9 : decode cX1_howManyLeastRued 9 = .ok (.iload_n 1, 1) := by decide +kernel
theorem dX1_howManyLeastRued_10 : decode cX1_howManyLeastRued 10 = .ok (.iconst (-1), 1) := by decide +kernel
theorem dX1_howManyLeastRued_11 : decode cX1_howManyLeastRued 11 = .ok (.if_icmp .eq 38, 3) := by decide +kernel
theorem dX1_howManyLeastRued_14 : decode cX1_howManyLeastRued 14 = .ok (.iload_n 3, 1) := by decide +kernel
theorem dX1_howManyLeastRued_15 : decode cX1_howManyLeastRued 15 = .ok (.aload_n 0, 1) := by decide +kernel
theorem dX1_howManyLeastRued_16 : decode cX1_howManyLeastRued 16 = .ok (.getfield 38, 3) := by decide +kernel
theorem dX1_howManyLeastRued_19 : decode cX1_howManyLeastRued 19 = .ok (.getfield 64, 3) := by decide +kernel
theorem dX1_howManyLeastRued_22 : decode cX1_howManyLeastRued 22 = .ok (.if_icmp .ge 27, 3) := by decide +kernel
theorem dX1_howManyLeastRued_25 : decode cX1_howManyLeastRued 25 = .ok (.aload_n 0, 1) := by decide +kernel
theorem dX1_howManyLeastRued_26 : decode cX1_howManyLeastRued 26 = .ok (.getfield 28, 3) := by decide +kernel
theorem dX1_howManyLeastRued_29 : decode cX1_howManyLeastRued 29 = .ok (.iload_n 3, 1) := by decide +kernel
theorem dX1_howManyLeastRued_30 : decode cX1_howManyLeastRued 30 = .ok (.iaload, 1) := by decide +kernel
theorem dX1_howManyLeastRued_31 : decode cX1_howManyLeastRued 31 = .ok (.aload_n 0, 1) := by decide +kernel
theorem dX1_howManyLeastRued_32 : decode cX1_howManyLeastRued 32 = .ok (.getfield 28, 3) := by decide +kernel
theorem dX1_howManyLeastRued_35 : decode cX1_howManyLeastRued 35 = .ok (.iload_n 1, 1) := by decide +kernel
theorem dX1_howManyLeastRued_36 : decode cX1_howManyLeastRued 36 = .ok (.iaload, 1) := by decide +kernel
theorem dX1_howManyLeastRued_37 : decode cX1_howManyLeastRued 37 = .ok (.if_icmp .ne 6, 3) := by decide +kernel
theorem dX1_howManyLeastRued_40 : decode cX1_howManyLeastRued 40 = .ok (.iinc 2 1, 3) := by decide +kernel
theorem dX1_howManyLeastRued_43 : decode cX1_howManyLeastRued 43 = .ok (.iinc 3 1, 3) := by decide +kernel
theorem dX1_howManyLeastRued_46 : decode cX1_howManyLeastRued 46 = .ok (.goto (-37), 3) := by decide +kernel
theorem dX1_howManyLeastRued_49 : decode cX1_howManyLeastRued 49 = .ok (.iload_n 2, 1) := by decide +kernel
theorem dX1_howManyLeastRued_50 : decode cX1_howManyLeastRued 50 = .ok (.ireturn, 1) := by decide +kernel
theorem dX1_cheapestAtMiddles_0 : decode cX1_cheapestAtMiddles 0 = .ok (.aload_n 0, 1) := by decide +kernel
theorem dX1_cheapestAtMiddles_1 : decode cX1_cheapestAtMiddles 1 = .ok (.invokevirtual 52, 3) := by decide +kernel
theorem dX1_cheapestAtMiddles_4 : decode cX1_cheapestAtMiddles 4 = .ok (.iconst 0, 1) := by decide +kernel
theorem dX1_cheapestAtMiddles_5 : decode cX1_cheapestAtMiddles 5 = .ok (.istore_n 1, 1) := by decide +kernel
theorem dX1_cheapestAtMiddles_6 : decode cX1_cheapestAtMiddles 6 = .ok (.iload_n 1, 1) := by decide +kernel
theorem dX1_cheapestAtMiddles_7 : decode cX1_cheapestAtMiddles 7 = .ok (.aload_n 0, 1) := by decide +kernel
theorem dX1_cheapestAtMiddles_8 : decode cX1_cheapestAtMiddles 8 = .ok (.getfield 38, 3) := by decide +kernel
theorem dX1_cheapestAtMiddles_11 : decode cX1_cheapestAtMiddles 11 = .ok (.getfield 64, 3) := by decide +kernel
theorem dX1_cheapestAtMiddles_14 : decode cX1_cheapestAtMiddles 14 = .ok (.if_icmp .ge 40, 3) := by decide +kernel
theorem dX1_cheapestAtMiddles_17 : decode cX1_cheapestAtMiddles 17 = .ok (.aload_n 0, 1) := by decide +kernel
theorem dX1_cheapestAtMiddles_18 : decode cX1_cheapestAtMiddles 18 = .ok (.getfield 31, 3) := by decide +kernel
theorem dX1_cheapestAtMiddles_21 : decode cX1_cheapestAtMiddles 21 = .ok (.iload_n 1, 1) := by decide +kernel
theorem dX1_cheapestAtMiddles_22 : decode cX1_cheapestAtMiddles 22 = .ok (.iconst 2, 1) := by decide +kernel
theorem dX1_cheapestAtMiddles_23 : decode cX1_cheapestAtMiddles 23 = .ok (.aload_n 0, 1) := by decide +kernel
theorem dX1_cheapestAtMiddles_24 : decode cX1_cheapestAtMiddles 24 = .ok (.getfield 25, 3) := by decide +kernel
theorem dX1_cheapestAtMiddles_27 : decode cX1_cheapestAtMiddles 27 = .ok (.iload_n 1, 1) := by decide +kernel
theorem dX1_cheapestAtMiddles_28 : decode cX1_cheapestAtMiddles 28 = .ok (.iaload, 1) := by decide +kernel
theorem dX1_cheapestAtMiddles_29 : decode cX1_cheapestAtMiddles 29 = .ok (.imul, 1) := by decide +kernel
theorem dX1_cheapestAtMiddles_30 : decode cX1_cheapestAtMiddles 30 = .ok (.aload_n 0, 1) := by decide +kernel
theorem dX1_cheapestAtMiddles_31 : decode cX1_cheapestAtMiddles 31 = .ok (.getfield 22, 3) := by decide +kernel
theorem dX1_cheapestAtMiddles_34 : decode cX1_cheapestAtMiddles 34 = .ok (.aload_n 0, 1) := by decide +kernel
theorem dX1_cheapestAtMiddles_35 : decode cX1_cheapestAtMiddles 35 = .ok (.getfield 38, 3) := by decide +kernel
theorem dX1_cheapestAtMiddles_38 : decode cX1_cheapestAtMiddles 38 = .ok (.getfield 55, 3) := by decide +kernel
theorem dX1_cheapestAtMiddles_41 : decode cX1_cheapestAtMiddles 41 = .ok (.iload_n 1, 1) := by decide +kernel
theorem dX1_cheapestAtMiddles_42 : decode cX1_cheapestAtMiddles 42 = .ok (.iaload, 1) := by decide +kernel
theorem dX1_cheapestAtMiddles_43 : decode cX1_cheapestAtMiddles 43 = .ok (.invokevirtual 60, 3) := by decide +kernel
theorem dX1_cheapestAtMiddles_46 : decode cX1_cheapestAtMiddles 46 = .ok (.iadd, 1) := by decide +kernel
theorem dX1_cheapestAtMiddles_47 : decode cX1_cheapestAtMiddles 47 = .ok (.iastore, 1) := by decide +kernel
theorem dX1_cheapestAtMiddles_48 : decode cX1_cheapestAtMiddles 48 = .ok (.iinc 1 1, 3) := by decide +kernel
theorem dX1_cheapestAtMiddles_51 : decode cX1_cheapestAtMiddles 51 = .ok (.goto (-45), 3) := by decide +kernel
theorem dX1_cheapestAtMiddles_54 : decode cX1_cheapestAtMiddles 54 = .ok (.aload_n 0, 1) := by decide +kernel
theorem dX1_cheapestAtMiddles_55 : decode cX1_cheapestAtMiddles 55 = .ok (.getfield 31, 3) := by decide +kernel
theorem dX1_cheapestAtMiddles_58 : decode cX1_cheapestAtMiddles 58 = .ok (.aload_n 0, 1) := by decide +kernel
theorem dX1_cheapestAtMiddles_59 : decode cX1_cheapestAtMiddles 59 = .ok (.getfield 38, 3) := by decide +kernel
theorem dX1_cheapestAtMiddles_62 : decode cX1_cheapestAtMiddles 62 = .ok (.getfield 64, 3) := by decide +kernel
theorem dX1_cheapestAtMiddles_65 : decode cX1_cheapestAtMiddles 65 = .ok (.invokestatic 68, 3) := by decide +kernel
theorem dX1_cheapestAtMiddles_68 : decode cX1_cheapestAtMiddles 68 = .ok (.ireturn, 1) := by decide +kernel
theorem dX1_howSure_0 : decode cX1_howSure 0 = .ok (.aload_n 0, 1) := by decide +kernel
theorem dX1_howSure_1 : decode cX1_howSure 1 = .ok (.getfield 38, 3) := by decide +kernel
theorem dX1_howSure_4 : decode cX1_howSure 4 = .ok (.getfield 64, 3) := by decide +kernel
theorem dX1_howSure_7 : decode cX1_howSure 7 = .ok (.ifCond .ne 5, 3) := by decide +kernel
theorem dX1_howSure_10 : decode cX1_howSure 10 = .ok (.iconst 0, 1) := by decide +kernel
theorem dX1_howSure_11 : decode cX1_howSure 11 = .ok (.ireturn, 1) := by decide +kernel
theorem dX1_howSure_12 : decode cX1_howSure 12 = .ok (.aload_n 0, 1) := by decide +kernel
theorem dX1_howSure_13 : decode cX1_howSure 13 = .ok (.invokevirtual 82, 3) := by decide +kernel
theorem dX1_howSure_16 : decode cX1_howSure 16 = .ok (.iconst 1, 1) := by decide +kernel
theorem dX1_howSure_17 : decode cX1_howSure 17 = .ok (.iload_n 1, 1) := by decide +kernel
theorem dX1_howSure_18 : decode cX1_howSure 18 = .ok (.ishl, 1) := by decide +kernel
theorem dX1_howSure_19 : decode cX1_howSure 19 = .ok (.istore_n 2, 1) := by decide +kernel
theorem dX1_howSure_20 : decode cX1_howSure 20 = .ok (.aload_n 0, 1) := by decide +kernel
theorem dX1_howSure_21 : decode cX1_howSure 21 = .ok (.getfield 85, 3) := by decide +kernel
theorem dX1_howSure_24 : decode cX1_howSure 24 = .ok (.iload_n 2, 1) := by decide +kernel
theorem dX1_howSure_25 : decode cX1_howSure 25 = .ok (.iand, 1) := by decide +kernel
theorem dX1_howSure_26 : decode cX1_howSure 26 = .ok (.ifCond .eq 5, 3) := by decide +kernel
theorem dX1_howSure_29 : decode cX1_howSure 29 = .ok (.iconst 3, 1) := by decide +kernel
theorem dX1_howSure_30 : decode cX1_howSure 30 = .ok (.ireturn, 1) := by decide +kernel
theorem dX1_howSure_31 : decode cX1_howSure 31 = .ok (.aload_n 0, 1) := by decide +kernel
theorem dX1_howSure_32 : decode cX1_howSure 32 = .ok (.getfield 88, 3) := by decide +kernel
theorem dX1_howSure_35 : decode cX1_howSure 35 = .ok (.iload_n 2, 1) := by decide +kernel
theorem dX1_howSure_36 : decode cX1_howSure 36 = .ok (.iand, 1) := by decide +kernel
theorem dX1_howSure_37 : decode cX1_howSure 37 = .ok (.ifCond .eq 5, 3) := by decide +kernel
theorem dX1_howSure_40 : decode cX1_howSure 40 = .ok (.iconst 2, 1) := by decide +kernel
theorem dX1_howSure_41 : decode cX1_howSure 41 = .ok (.ireturn, 1) := by decide +kernel
theorem dX1_howSure_42 : decode cX1_howSure 42 = .ok (.aload_n 0, 1) := by decide +kernel
theorem dX1_howSure_43 : decode cX1_howSure 43 = .ok (.getfield 91, 3) := by decide +kernel
theorem dX1_howSure_46 : decode cX1_howSure 46 = .ok (.iload_n 2, 1) := by decide +kernel
theorem dX1_howSure_47 : decode cX1_howSure 47 = .ok (.iand, 1) := by decide +kernel
theorem dX1_howSure_48 : decode cX1_howSure 48 = .ok (.ifCond .eq 7, 3) := by decide +kernel
theorem dX1_howSure_51 : decode cX1_howSure 51 = .ok (.iconst 1, 1) := by decide +kernel
theorem dX1_howSure_52 : decode cX1_howSure 52 = .ok (.goto 4, 3) := by decide +kernel
theorem dX1_howSure_55 : decode cX1_howSure 55 = .ok (.iconst 0, 1) := by decide +kernel
theorem dX1_howSure_56 : decode cX1_howSure 56 = .ok (.ireturn, 1) := by decide +kernel
theorem dX1_dearestCost_0 : decode cX1_dearestCost 0 = .ok (.aload_n 0, 1) := by decide +kernel
theorem dX1_dearestCost_1 : decode cX1_dearestCost 1 = .ok (.invokevirtual 52, 3) := by decide +kernel
theorem dX1_dearestCost_4 : decode cX1_dearestCost 4 = .ok (.aload_n 0, 1) := by decide +kernel
theorem dX1_dearestCost_5 : decode cX1_dearestCost 5 = .ok (.getfield 25, 3) := by decide +kernel
theorem dX1_dearestCost_8 : decode cX1_dearestCost 8 = .ok (.iload_n 1, 1) := by decide +kernel
theorem dX1_dearestCost_9 : decode cX1_dearestCost 9 = .ok (.iaload, 1) := by decide +kernel
theorem dX1_dearestCost_10 : decode cX1_dearestCost 10 = .ok (.aload_n 0, 1) := by decide +kernel
theorem dX1_dearestCost_11 : decode cX1_dearestCost 11 = .ok (.aload_n 0, 1) := by decide +kernel
theorem dX1_dearestCost_12 : decode cX1_dearestCost 12 = .ok (.getfield 38, 3) := by decide +kernel
theorem dX1_dearestCost_15 : decode cX1_dearestCost 15 = .ok (.getfield 55, 3) := by decide +kernel
theorem dX1_dearestCost_18 : decode cX1_dearestCost 18 = .ok (.iload_n 1, 1) := by decide +kernel
theorem dX1_dearestCost_19 : decode cX1_dearestCost 19 = .ok (.iaload, 1) := by decide +kernel
theorem dX1_dearestCost_20 : decode cX1_dearestCost 20 = .ok (.iload_n 2, 1) := by decide +kernel
theorem dX1_dearestCost_21 : decode cX1_dearestCost 21 = .ok (.invokevirtual 94, 3) := by decide +kernel
theorem dX1_dearestCost_24 : decode cX1_dearestCost 24 = .ok (.iadd, 1) := by decide +kernel
theorem dX1_dearestCost_25 : decode cX1_dearestCost 25 = .ok (.ireturn, 1) := by decide +kernel
theorem dX1_leastDear_0 : decode cX1_leastDear 0 = .ok (.aload_n 0, 1) := by decide +kernel
theorem dX1_leastDear_1 : decode cX1_leastDear 1 = .ok (.invokevirtual 52, 3) := by decide +kernel
theorem dX1_leastDear_4 : decode cX1_leastDear 4 = .ok (.iconst 0, 1) := by decide +kernel
theorem dX1_leastDear_5 : decode cX1_leastDear 5 = .ok (.istore_n 2, 1) := by decide +kernel
theorem dX1_leastDear_6 : decode cX1_leastDear 6 = .ok (.iload_n 2, 1) := by decide +kernel
theorem dX1_leastDear_7 : decode cX1_leastDear 7 = .ok (.aload_n 0, 1) := by decide +kernel
theorem dX1_leastDear_8 : decode cX1_leastDear 8 = .ok (.getfield 38, 3) := by decide +kernel
theorem dX1_leastDear_11 : decode cX1_leastDear 11 = .ok (.getfield 64, 3) := by decide +kernel
theorem dX1_leastDear_14 : decode cX1_leastDear 14 = .ok (.if_icmp .ge 36, 3) := by decide +kernel
theorem dX1_leastDear_17 : decode cX1_leastDear 17 = .ok (.aload_n 0, 1) := by decide +kernel
theorem dX1_leastDear_18 : decode cX1_leastDear 18 = .ok (.getfield 31, 3) := by decide +kernel
theorem dX1_leastDear_21 : decode cX1_leastDear 21 = .ok (.iload_n 2, 1) := by decide +kernel
theorem dX1_leastDear_22 : decode cX1_leastDear 22 = .ok (.aload_n 0, 1) := by decide +kernel
theorem dX1_leastDear_23 : decode cX1_leastDear 23 = .ok (.getfield 25, 3) := by decide +kernel
theorem dX1_leastDear_26 : decode cX1_leastDear 26 = .ok (.iload_n 2, 1) := by decide +kernel
theorem dX1_leastDear_27 : decode cX1_leastDear 27 = .ok (.iaload, 1) := by decide +kernel
theorem dX1_leastDear_28 : decode cX1_leastDear 28 = .ok (.aload_n 0, 1) := by decide +kernel
theorem dX1_leastDear_29 : decode cX1_leastDear 29 = .ok (.aload_n 0, 1) := by decide +kernel
theorem dX1_leastDear_30 : decode cX1_leastDear 30 = .ok (.getfield 38, 3) := by decide +kernel
theorem dX1_leastDear_33 : decode cX1_leastDear 33 = .ok (.getfield 55, 3) := by decide +kernel
theorem dX1_leastDear_36 : decode cX1_leastDear 36 = .ok (.iload_n 2, 1) := by decide +kernel
theorem dX1_leastDear_37 : decode cX1_leastDear 37 = .ok (.iaload, 1) := by decide +kernel
theorem dX1_leastDear_38 : decode cX1_leastDear 38 = .ok (.iload_n 1, 1) := by decide +kernel
theorem dX1_leastDear_39 : decode cX1_leastDear 39 = .ok (.invokevirtual 94, 3) := by decide +kernel
theorem dX1_leastDear_42 : decode cX1_leastDear 42 = .ok (.iadd, 1) := by decide +kernel
theorem dX1_leastDear_43 : decode cX1_leastDear 43 = .ok (.iastore, 1) := by decide +kernel
theorem dX1_leastDear_44 : decode cX1_leastDear 44 = .ok (.iinc 2 1, 3) := by decide +kernel
theorem dX1_leastDear_47 : decode cX1_leastDear 47 = .ok (.goto (-41), 3) := by decide +kernel
theorem dX1_leastDear_50 : decode cX1_leastDear 50 = .ok (.aload_n 0, 1) := by decide +kernel
theorem dX1_leastDear_51 : decode cX1_leastDear 51 = .ok (.getfield 31, 3) := by decide +kernel
theorem dX1_leastDear_54 : decode cX1_leastDear 54 = .ok (.aload_n 0, 1) := by decide +kernel
theorem dX1_leastDear_55 : decode cX1_leastDear 55 = .ok (.getfield 38, 3) := by decide +kernel
theorem dX1_leastDear_58 : decode cX1_leastDear 58 = .ok (.getfield 64, 3) := by decide +kernel
theorem dX1_leastDear_61 : decode cX1_leastDear 61 = .ok (.invokestatic 68, 3) := by decide +kernel
theorem dX1_leastDear_64 : decode cX1_leastDear 64 = .ok (.ireturn, 1) := by decide +kernel
theorem dX1_sumUp_0 : decode cX1_sumUp 0 = .ok (.aload_n 0, 1) := by decide +kernel
theorem dX1_sumUp_1 : decode cX1_sumUp 1 = .ok (.getfield 42, 3) := by decide +kernel
theorem dX1_sumUp_4 : decode cX1_sumUp 4 = .ok (.ifCond .eq 4, 3) := by decide +kernel
theorem dX1_sumUp_7 : decode cX1_sumUp 7 = .ok (.return_, 1) := by decide +kernel
theorem dX1_sumUp_8 : decode cX1_sumUp 8 = .ok (.iconst 0, 1) := by decide +kernel
theorem dX1_sumUp_9 : decode cX1_sumUp 9 = .ok (.istore_n 1, 1) := by decide +kernel
theorem dX1_sumUp_10 : decode cX1_sumUp 10 = .ok (.iload_n 1, 1) := by decide +kernel
theorem dX1_sumUp_11 : decode cX1_sumUp 11 = .ok (.bipush 12, 2) := by decide +kernel
theorem dX1_sumUp_13 : decode cX1_sumUp 13 = .ok (.if_icmp .ge 34, 3) := by decide +kernel
theorem dX1_sumUp_16 : decode cX1_sumUp 16 = .ok (.aload_n 0, 1) := by decide +kernel
theorem dX1_sumUp_17 : decode cX1_sumUp 17 = .ok (.getfield 9, 3) := by decide +kernel
theorem dX1_sumUp_20 : decode cX1_sumUp 20 = .ok (.iload_n 1, 1) := by decide +kernel
theorem dX1_sumUp_21 : decode cX1_sumUp 21 = .ok (.aload_n 0, 1) := by decide +kernel
theorem dX1_sumUp_22 : decode cX1_sumUp 22 = .ok (.getfield 34, 3) := by decide +kernel
theorem dX1_sumUp_25 : decode cX1_sumUp 25 = .ok (.getfield 98, 3) := by decide +kernel
theorem dX1_sumUp_28 : decode cX1_sumUp 28 = .ok (.iload_n 1, 1) := by decide +kernel
theorem dX1_sumUp_29 : decode cX1_sumUp 29 = .ok (.iaload, 1) := by decide +kernel
theorem dX1_sumUp_30 : decode cX1_sumUp 30 = .ok (.aload_n 0, 1) := by decide +kernel
theorem dX1_sumUp_31 : decode cX1_sumUp 31 = .ok (.getfield 34, 3) := by decide +kernel
theorem dX1_sumUp_34 : decode cX1_sumUp 34 = .ok (.getfield 103, 3) := by decide +kernel
theorem dX1_sumUp_37 : decode cX1_sumUp 37 = .ok (.iload_n 1, 1) := by decide +kernel
theorem dX1_sumUp_38 : decode cX1_sumUp 38 = .ok (.iaload, 1) := by decide +kernel
theorem dX1_sumUp_39 : decode cX1_sumUp 39 = .ok (.isub, 1) := by decide +kernel
theorem dX1_sumUp_40 : decode cX1_sumUp 40 = .ok (.iastore, 1) := by decide +kernel
theorem dX1_sumUp_41 : decode cX1_sumUp 41 = .ok (.iinc 1 1, 3) := by decide +kernel
theorem dX1_sumUp_44 : decode cX1_sumUp 44 = .ok (.goto (-34), 3) := by decide +kernel
theorem dX1_sumUp_47 : decode cX1_sumUp 47 = .ok (.aload_n 0, 1) := by decide +kernel
theorem dX1_sumUp_48 : decode cX1_sumUp 48 = .ok (.getfield 18, 3) := by decide +kernel
theorem dX1_sumUp_51 : decode cX1_sumUp 51 = .ok (.aload_n 0, 1) := by decide +kernel
theorem dX1_sumUp_52 : decode cX1_sumUp 52 = .ok (.getfield 34, 3) := by decide +kernel
theorem dX1_sumUp_55 : decode cX1_sumUp 55 = .ok (.getfield 103, 3) := by decide +kernel
theorem dX1_sumUp_58 : decode cX1_sumUp 58 = .ok (.invokevirtual 106, 3) := by decide +kernel
theorem dX1_sumUp_61 : decode cX1_sumUp 61 = .ok (.aload_n 0, 1) := by decide +kernel
theorem dX1_sumUp_62 : decode cX1_sumUp 62 = .ok (.getfield 22, 3) := by decide +kernel
theorem dX1_sumUp_65 : decode cX1_sumUp 65 = .ok (.aload_n 0, 1) := by decide +kernel
theorem dX1_sumUp_66 : decode cX1_sumUp 66 = .ok (.getfield 9, 3) := by decide +kernel
theorem dX1_sumUp_69 : decode cX1_sumUp 69 = .ok (.invokevirtual 106, 3) := by decide +kernel
theorem dX1_sumUp_72 : decode cX1_sumUp 72 = .ok (.iconst 0, 1) := by decide +kernel
theorem dX1_sumUp_73 : decode cX1_sumUp 73 = .ok (.istore_n 1, 1) := by decide +kernel
theorem dX1_sumUp_74 : decode cX1_sumUp 74 = .ok (.iload_n 1, 1) := by decide +kernel
theorem dX1_sumUp_75 : decode cX1_sumUp 75 = .ok (.aload_n 0, 1) := by decide +kernel
theorem dX1_sumUp_76 : decode cX1_sumUp 76 = .ok (.getfield 38, 3) := by decide +kernel
theorem dX1_sumUp_79 : decode cX1_sumUp 79 = .ok (.getfield 64, 3) := by decide +kernel
theorem dX1_sumUp_82 : decode cX1_sumUp 82 = .ok (.if_icmp .ge 31, 3) := by decide +kernel
theorem dX1_sumUp_85 : decode cX1_sumUp 85 = .ok (.aload_n 0, 1) := by decide +kernel
theorem dX1_sumUp_86 : decode cX1_sumUp 86 = .ok (.getfield 25, 3) := by decide +kernel
theorem dX1_sumUp_89 : decode cX1_sumUp 89 = .ok (.iload_n 1, 1) := by decide +kernel
theorem dX1_sumUp_90 : decode cX1_sumUp 90 = .ok (.aload_n 0, 1) := by decide +kernel
theorem dX1_sumUp_91 : decode cX1_sumUp 91 = .ok (.getfield 18, 3) := by decide +kernel
theorem dX1_sumUp_94 : decode cX1_sumUp 94 = .ok (.aload_n 0, 1) := by decide +kernel
theorem dX1_sumUp_95 : decode cX1_sumUp 95 = .ok (.getfield 38, 3) := by decide +kernel
theorem dX1_sumUp_98 : decode cX1_sumUp 98 = .ok (.getfield 55, 3) := by decide +kernel
theorem dX1_sumUp_101 : decode cX1_sumUp 101 = .ok (.iload_n 1, 1) := by decide +kernel
theorem dX1_sumUp_102 : decode cX1_sumUp 102 = .ok (.iaload, 1) := by decide +kernel
theorem dX1_sumUp_103 : decode cX1_sumUp 103 = .ok (.invokevirtual 60, 3) := by decide +kernel
theorem dX1_sumUp_106 : decode cX1_sumUp 106 = .ok (.iastore, 1) := by decide +kernel
theorem dX1_sumUp_107 : decode cX1_sumUp 107 = .ok (.iinc 1 1, 3) := by decide +kernel
theorem dX1_sumUp_110 : decode cX1_sumUp 110 = .ok (.goto (-36), 3) := by decide +kernel
theorem dX1_sumUp_113 : decode cX1_sumUp 113 = .ok (.aload_n 0, 1) := by decide +kernel
theorem dX1_sumUp_114 : decode cX1_sumUp 114 = .ok (.iconst 1, 1) := by decide +kernel
theorem dX1_sumUp_115 : decode cX1_sumUp 115 = .ok (.putfield 42, 3) := by decide +kernel
theorem dX1_sumUp_118 : decode cX1_sumUp 118 = .ok (.return_, 1) := by decide +kernel
theorem dX1_rueAll_0 : decode cX1_rueAll 0 = .ok (.aload_n 0, 1) := by decide +kernel
theorem dX1_rueAll_1 : decode cX1_rueAll 1 = .ok (.getfield 46, 3) := by decide +kernel
theorem dX1_rueAll_4 : decode cX1_rueAll 4 = .ok (.ifCond .eq 4, 3) := by decide +kernel
theorem dX1_rueAll_7 : decode cX1_rueAll 7 = .ok (.return_, 1) := by decide +kernel
theorem dX1_rueAll_8 : decode cX1_rueAll 8 = .ok (.aload_n 0, 1) := by decide +kernel
theorem dX1_rueAll_9 : decode cX1_rueAll 9 = .ok (.invokevirtual 52, 3) := by decide +kernel
theorem dX1_rueAll_12 : decode cX1_rueAll 12 = .ok (.iconst 0, 1) := by decide +kernel
theorem dX1_rueAll_13 : decode cX1_rueAll 13 = .ok (.istore_n 1, 1) := by decide +kernel
theorem dX1_rueAll_14 : decode cX1_rueAll 14 = .ok (.iload_n 1, 1) := by decide +kernel
theorem dX1_rueAll_15 : decode cX1_rueAll 15 = .ok (.aload_n 0, 1) := by decide +kernel
theorem dX1_rueAll_16 : decode cX1_rueAll 16 = .ok (.getfield 38, 3) := by decide +kernel
theorem dX1_rueAll_19 : decode cX1_rueAll 19 = .ok (.getfield 64, 3) := by decide +kernel
theorem dX1_rueAll_22 : decode cX1_rueAll 22 = .ok (.if_icmp .ge 20, 3) := by decide +kernel
theorem dX1_rueAll_25 : decode cX1_rueAll 25 = .ok (.aload_n 0, 1) := by decide +kernel
theorem dX1_rueAll_26 : decode cX1_rueAll 26 = .ok (.getfield 28, 3) := by decide +kernel
theorem dX1_rueAll_29 : decode cX1_rueAll 29 = .ok (.iload_n 1, 1) := by decide +kernel
theorem dX1_rueAll_30 : decode cX1_rueAll 30 = .ok (.aload_n 0, 1) := by decide +kernel
theorem dX1_rueAll_31 : decode cX1_rueAll 31 = .ok (.iload_n 1, 1) := by decide +kernel
theorem dX1_rueAll_32 : decode cX1_rueAll 32 = .ok (.invokevirtual 72, 3) := by decide +kernel
theorem dX1_rueAll_35 : decode cX1_rueAll 35 = .ok (.iastore, 1) := by decide +kernel
theorem dX1_rueAll_36 : decode cX1_rueAll 36 = .ok (.iinc 1 1, 3) := by decide +kernel
theorem dX1_rueAll_39 : decode cX1_rueAll 39 = .ok (.goto (-25), 3) := by decide +kernel
theorem dX1_rueAll_42 : decode cX1_rueAll 42 = .ok (.aload_n 0, 1) := by decide +kernel
theorem dX1_rueAll_43 : decode cX1_rueAll 43 = .ok (.iconst 1, 1) := by decide +kernel
theorem dX1_rueAll_44 : decode cX1_rueAll 44 = .ok (.putfield 46, 3) := by decide +kernel
theorem dX1_rueAll_47 : decode cX1_rueAll 47 = .ok (.return_, 1) := by decide +kernel
theorem dX1_rueInWorst_0 : decode cX1_rueInWorst 0 = .ok (.aload_n 0, 1) := by decide +kernel
theorem dX1_rueInWorst_1 : decode cX1_rueInWorst 1 = .ok (.getfield 38, 3) := by decide +kernel
theorem dX1_rueInWorst_4 : decode cX1_rueInWorst 4 = .ok (.getfield 55, 3) := by decide +kernel
theorem dX1_rueInWorst_7 : decode cX1_rueInWorst 7 = .ok (.iload_n 1, 1) := by decide +kernel
theorem dX1_rueInWorst_8 : decode cX1_rueInWorst 8 = .ok (.iaload, 1) := by decide +kernel
theorem dX1_rueInWorst_9 : decode cX1_rueInWorst 9 = .ok (.istore_n 2, 1) := by decide +kernel
theorem dX1_rueInWorst_10 : decode cX1_rueInWorst 10 = .ok (.aload_n 0, 1) := by decide +kernel
theorem dX1_rueInWorst_11 : decode cX1_rueInWorst 11 = .ok (.getfield 25, 3) := by decide +kernel
theorem dX1_rueInWorst_14 : decode cX1_rueInWorst 14 = .ok (.iload_n 1, 1) := by decide +kernel
theorem dX1_rueInWorst_15 : decode cX1_rueInWorst 15 = .ok (.iaload, 1) := by decide +kernel
theorem dX1_rueInWorst_16 : decode cX1_rueInWorst 16 = .ok (.aload_n 0, 1) := by decide +kernel
theorem dX1_rueInWorst_17 : decode cX1_rueInWorst 17 = .ok (.getfield 22, 3) := by decide +kernel
theorem dX1_rueInWorst_20 : decode cX1_rueInWorst 20 = .ok (.iload_n 2, 1) := by decide +kernel
theorem dX1_rueInWorst_21 : decode cX1_rueInWorst 21 = .ok (.invokevirtual 60, 3) := by decide +kernel
theorem dX1_rueInWorst_24 : decode cX1_rueInWorst 24 = .ok (.iadd, 1) := by decide +kernel
theorem dX1_rueInWorst_25 : decode cX1_rueInWorst 25 = .ok (.istore_n 3, 1) := by decide +kernel
theorem dX1_rueInWorst_26 : decode cX1_rueInWorst 26 = .ok (.iload_n 3, 1) := by decide +kernel
theorem dX1_rueInWorst_27 : decode cX1_rueInWorst 27 = .ok (.istore 4, 2) := by decide +kernel
theorem dX1_rueInWorst_29 : decode cX1_rueInWorst 29 = .ok (.iconst 0, 1) := by decide +kernel
theorem dX1_rueInWorst_30 : decode cX1_rueInWorst 30 = .ok (.istore 5, 2) := by decide +kernel
theorem dX1_rueInWorst_32 : decode cX1_rueInWorst 32 = .ok (.iload 5, 2) := by decide +kernel
theorem dX1_rueInWorst_34 : decode cX1_rueInWorst 34 = .ok (.aload_n 0, 1) := by decide +kernel
theorem dX1_rueInWorst_35 : decode cX1_rueInWorst 35 = .ok (.getfield 38, 3) := by decide +kernel
theorem dX1_rueInWorst_38 : decode cX1_rueInWorst 38 = .ok (.getfield 64, 3) := by decide +kernel
theorem dX1_rueInWorst_41 : decode cX1_rueInWorst 41 = .ok (.if_icmp .ge 55, 3) := by decide +kernel
theorem dX1_rueInWorst_44 : decode cX1_rueInWorst 44 = .ok (.aload_n 0, 1) := by decide +kernel
theorem dX1_rueInWorst_45 : decode cX1_rueInWorst 45 = .ok (.getfield 25, 3) := by decide +kernel
theorem dX1_rueInWorst_48 : decode cX1_rueInWorst 48 = .ok (.iload 5, 2) := by decide +kernel
theorem dX1_rueInWorst_50 : decode cX1_rueInWorst 50 = .ok (.iaload, 1) := by decide +kernel
theorem dX1_rueInWorst_51 : decode cX1_rueInWorst 51 = .ok (.iload 4, 2) := by decide +kernel
theorem dX1_rueInWorst_53 : decode cX1_rueInWorst 53 = .ok (.if_icmp .ge 37, 3) := by decide +kernel
theorem dX1_rueInWorst_56 : decode cX1_rueInWorst 56 = .ok (.iload 4, 2) := by decide +kernel
theorem dX1_rueInWorst_58 : decode cX1_rueInWorst 58 = .ok (.aload_n 0, 1) := by decide +kernel
theorem dX1_rueInWorst_59 : decode cX1_rueInWorst 59 = .ok (.getfield 25, 3) := by decide +kernel
theorem dX1_rueInWorst_62 : decode cX1_rueInWorst 62 = .ok (.iload 5, 2) := by decide +kernel
theorem dX1_rueInWorst_64 : decode cX1_rueInWorst 64 = .ok (.iaload, 1) := by decide +kernel
theorem dX1_rueInWorst_65 : decode cX1_rueInWorst 65 = .ok (.aload_n 0, 1) := by decide +kernel
theorem dX1_rueInWorst_66 : decode cX1_rueInWorst 66 = .ok (.getfield 22, 3) := by decide +kernel
theorem dX1_rueInWorst_69 : decode cX1_rueInWorst 69 = .ok (.aload_n 0, 1) := by decide +kernel
theorem dX1_rueInWorst_70 : decode cX1_rueInWorst 70 = .ok (.getfield 38, 3) := by decide +kernel
theorem dX1_rueInWorst_73 : decode cX1_rueInWorst 73 = .ok (.getfield 55, 3) := by decide +kernel
theorem dX1_rueInWorst_76 : decode cX1_rueInWorst 76 = .ok (.iload 5, 2) := by decide +kernel
theorem dX1_rueInWorst_78 : decode cX1_rueInWorst 78 = .ok (.iaload, 1) := by decide +kernel
theorem dX1_rueInWorst_79 : decode cX1_rueInWorst 79 = .ok (.iload_n 2, 1) := by decide +kernel
theorem dX1_rueInWorst_80 : decode cX1_rueInWorst 80 = .ok (.iand, 1) := by decide +kernel
theorem dX1_rueInWorst_81 : decode cX1_rueInWorst 81 = .ok (.invokevirtual 60, 3) := by decide +kernel
theorem dX1_rueInWorst_84 : decode cX1_rueInWorst 84 = .ok (.iadd, 1) := by decide +kernel
theorem dX1_rueInWorst_85 : decode cX1_rueInWorst 85 = .ok (.invokestatic 110, 3) := by decide +kernel
theorem dX1_rueInWorst_88 : decode cX1_rueInWorst 88 = .ok (.istore 4, 2) := by decide +kernel
theorem dX1_rueInWorst_90 : decode cX1_rueInWorst 90 = .ok (.iinc 5 1, 3) := by decide +kernel
theorem dX1_rueInWorst_93 : decode cX1_rueInWorst 93 = .ok (.goto (-61), 3) := by decide +kernel
theorem dX1_rueInWorst_96 : decode cX1_rueInWorst 96 = .ok (.iload_n 3, 1) := by decide +kernel
theorem dX1_rueInWorst_97 : decode cX1_rueInWorst 97 = .ok (.iload 4, 2) := by decide +kernel
theorem dX1_rueInWorst_99 : decode cX1_rueInWorst 99 = .ok (.isub, 1) := by decide +kernel
theorem dX1_rueInWorst_100 : decode cX1_rueInWorst 100 = .ok (.ireturn, 1) := by decide +kernel
theorem dX1_widestGaps_0 : decode cX1_widestGaps 0 = .ok (.iconst 0, 1) := by decide +kernel
theorem dX1_widestGaps_1 : decode cX1_widestGaps 1 = .ok (.istore_n 3, 1) := by decide +kernel
theorem dX1_widestGaps_2 : decode cX1_widestGaps 2 = .ok (.iload_n 1, 1) := by decide +kernel
theorem dX1_widestGaps_3 : decode cX1_widestGaps 3 = .ok (.istore 4, 2) := by decide +kernel
theorem dX1_widestGaps_5 : decode cX1_widestGaps 5 = .ok (.iconst 0, 1) := by decide +kernel
theorem dX1_widestGaps_6 : decode cX1_widestGaps 6 = .ok (.istore 5, 2) := by decide +kernel
theorem dX1_widestGaps_8 : decode cX1_widestGaps 8 = .ok (.iload 5, 2) := by decide +kernel
theorem dX1_widestGaps_10 : decode cX1_widestGaps 10 = .ok (.iload_n 2, 1) := by decide +kernel
theorem dX1_widestGaps_11 : decode cX1_widestGaps 11 = .ok (.if_icmp .ge 51, 3) := by decide +kernel
theorem dX1_widestGaps_14 : decode cX1_widestGaps 14 = .ok (.iload 4, 2) := by decide +kernel
theorem dX1_widestGaps_16 : decode cX1_widestGaps 16 = .ok (.ifCond .eq 46, 3) := by decide +kernel
theorem dX1_widestGaps_19 : decode cX1_widestGaps 19 = .ok (.aload_n 0, 1) := by decide +kernel
theorem dX1_widestGaps_20 : decode cX1_widestGaps 20 = .ok (.iload 4, 2) := by decide +kernel
theorem dX1_widestGaps_22 : decode cX1_widestGaps 22 = .ok (.invokevirtual 115, 3) := by decide +kernel
theorem dX1_widestGaps_25 : decode cX1_widestGaps 25 = .ok (.istore 6, 2) := by decide +kernel
theorem dX1_widestGaps_27 : decode cX1_widestGaps 27 = .ok (.iload 6, 2) := by decide +kernel
theorem dX1_widestGaps_29 : decode cX1_widestGaps 29 = .ok (.iconst (-1), 1) := by decide +kernel
theorem dX1_widestGaps_30 : decode cX1_widestGaps 30 = .ok (.if_icmp .ne 5, 3) := by decide +kernel
theorem dX1_widestGaps_33 : decode cX1_widestGaps 33 = .ok (.iload_n 3, 1) := by decide +kernel
theorem dX1_widestGaps_34 : decode cX1_widestGaps 34 = .ok (.ireturn, 1) := by decide +kernel
theorem dX1_widestGaps_35 : decode cX1_widestGaps 35 = .ok (.iload_n 3, 1) := by decide +kernel
theorem dX1_widestGaps_36 : decode cX1_widestGaps 36 = .ok (.aload_n 0, 1) := by decide +kernel
theorem dX1_widestGaps_37 : decode cX1_widestGaps 37 = .ok (.getfield 9, 3) := by decide +kernel
theorem dX1_widestGaps_40 : decode cX1_widestGaps 40 = .ok (.iload 6, 2) := by decide +kernel
theorem dX1_widestGaps_42 : decode cX1_widestGaps 42 = .ok (.iaload, 1) := by decide +kernel
theorem dX1_widestGaps_43 : decode cX1_widestGaps 43 = .ok (.iadd, 1) := by decide +kernel
theorem dX1_widestGaps_44 : decode cX1_widestGaps 44 = .ok (.istore_n 3, 1) := by decide +kernel
theorem dX1_widestGaps_45 : decode cX1_widestGaps 45 = .ok (.iload 4, 2) := by decide +kernel
theorem dX1_widestGaps_47 : decode cX1_widestGaps 47 = .ok (.iconst 1, 1) := by decide +kernel
theorem dX1_widestGaps_48 : decode cX1_widestGaps 48 = .ok (.iload 6, 2) := by decide +kernel
theorem dX1_widestGaps_50 : decode cX1_widestGaps 50 = .ok (.ishl, 1) := by decide +kernel
theorem dX1_widestGaps_51 : decode cX1_widestGaps 51 = .ok (.iconst (-1), 1) := by decide +kernel
theorem dX1_widestGaps_52 : decode cX1_widestGaps 52 = .ok (.ixor, 1) := by decide +kernel
theorem dX1_widestGaps_53 : decode cX1_widestGaps 53 = .ok (.iand, 1) := by decide +kernel
theorem dX1_widestGaps_54 : decode cX1_widestGaps 54 = .ok (.istore 4, 2) := by decide +kernel
theorem dX1_widestGaps_56 : decode cX1_widestGaps 56 = .ok (.iinc 5 1, 3) := by decide +kernel
theorem dX1_widestGaps_59 : decode cX1_widestGaps 59 = .ok (.goto (-51), 3) := by decide +kernel
theorem dX1_widestGaps_62 : decode cX1_widestGaps 62 = .ok (.iload_n 3, 1) := by decide +kernel
theorem dX1_widestGaps_63 : decode cX1_widestGaps 63 = .ok (.ireturn, 1) := by decide +kernel
theorem dX1_widestOf_0 : decode cX1_widestOf 0 = .ok (.iconst (-1), 1) := by decide +kernel
theorem dX1_widestOf_1 : decode cX1_widestOf 1 = .ok (.istore_n 2, 1) := by decide +kernel
theorem dX1_widestOf_2 : decode cX1_widestOf 2 = .ok (.iconst 0, 1) := by decide +kernel
theorem dX1_widestOf_3 : decode cX1_widestOf 3 = .ok (.istore_n 3, 1) := by decide +kernel
theorem dX1_widestOf_4 : decode cX1_widestOf 4 = .ok (.iload_n 3, 1) := by decide +kernel
theorem dX1_widestOf_5 : decode cX1_widestOf 5 = .ok (.aload_n 0, 1) := by decide +kernel
theorem dX1_widestOf_6 : decode cX1_widestOf 6 = .ok (.getfield 34, 3) := by decide +kernel
theorem dX1_widestOf_9 : decode cX1_widestOf 9 = .ok (.getfield 118, 3) := by decide +kernel
theorem dX1_widestOf_12 : decode cX1_widestOf 12 = .ok (.if_icmp .ge 39, 3) := by decide +kernel
theorem dX1_widestOf_15 : decode cX1_widestOf 15 = .ok (.iload_n 1, 1) := by decide +kernel
theorem dX1_widestOf_16 : decode cX1_widestOf 16 = .ok (.iload_n 3, 1) := by decide +kernel
theorem dX1_widestOf_17 : decode cX1_widestOf 17 = .ok (.ishr, 1) := by decide +kernel
theorem dX1_widestOf_18 : decode cX1_widestOf 18 = .ok (.iconst 1, 1) := by decide +kernel
theorem dX1_widestOf_19 : decode cX1_widestOf 19 = .ok (.iand, 1) := by decide +kernel
theorem dX1_widestOf_20 : decode cX1_widestOf 20 = .ok (.ifCond .eq 25, 3) := by decide +kernel
theorem dX1_widestOf_23 : decode cX1_widestOf 23 = .ok (.iload_n 2, 1) := by decide +kernel
theorem dX1_widestOf_24 : decode cX1_widestOf 24 = .ok (.iconst (-1), 1) := by decide +kernel
theorem dX1_widestOf_25 : decode cX1_widestOf 25 = .ok (.if_icmp .eq 18, 3) := by decide +kernel
theorem dX1_widestOf_28 : decode cX1_widestOf 28 = .ok (.aload_n 0, 1) := by decide +kernel
theorem dX1_widestOf_29 : decode cX1_widestOf 29 = .ok (.getfield 9, 3) := by decide +kernel
theorem dX1_widestOf_32 : decode cX1_widestOf 32 = .ok (.iload_n 3, 1) := by decide +kernel
theorem dX1_widestOf_33 : decode cX1_widestOf 33 = .ok (.iaload, 1) := by decide +kernel
theorem dX1_widestOf_34 : decode cX1_widestOf 34 = .ok (.aload_n 0, 1) := by decide +kernel
theorem dX1_widestOf_35 : decode cX1_widestOf 35 = .ok (.getfield 9, 3) := by decide +kernel
theorem dX1_widestOf_38 : decode cX1_widestOf 38 = .ok (.iload_n 2, 1) := by decide +kernel
theorem dX1_widestOf_39 : decode cX1_widestOf 39 = .ok (.iaload, 1) := by decide +kernel
theorem dX1_widestOf_40 : decode cX1_widestOf 40 = .ok (.if_icmp .le 5, 3) := by decide +kernel
theorem dX1_widestOf_43 : decode cX1_widestOf 43 = .ok (.iload_n 3, 1) := by decide +kernel
theorem dX1_widestOf_44 : decode cX1_widestOf 44 = .ok (.istore_n 2, 1) := by decide +kernel
theorem dX1_widestOf_45 : decode cX1_widestOf 45 = .ok (.iinc 3 1, 3) := by decide +kernel
theorem dX1_widestOf_48 : decode cX1_widestOf 48 = .ok (.goto (-44), 3) := by decide +kernel
theorem dX1_widestOf_51 : decode cX1_widestOf 51 = .ok (.iload_n 2, 1) := by decide +kernel
theorem dX1_widestOf_52 : decode cX1_widestOf 52 = .ok (.ireturn, 1) := by decide +kernel
theorem dX1_sortThings_0 : decode cX1_sortThings 0 = .ok (.aload_n 0, 1) := by decide +kernel
theorem dX1_sortThings_1 : decode cX1_sortThings 1 = .ok (.getfield 49, 3) := by decide +kernel
theorem dX1_sortThings_4 : decode cX1_sortThings 4 = .ok (.ifCond .eq 4, 3) := by decide +kernel
theorem dX1_sortThings_7 : decode cX1_sortThings 7 = .ok (.return_, 1) := by decide +kernel
theorem dX1_sortThings_8 : decode cX1_sortThings 8 = .ok (.aload_n 0, 1) := by decide +kernel
theorem dX1_sortThings_9 : decode cX1_sortThings 9 = .ok (.invokevirtual 52, 3) := by decide +kernel
theorem dX1_sortThings_12 : decode cX1_sortThings 12 = .ok (.aload_n 0, 1) := by decide +kernel
theorem dX1_sortThings_13 : decode cX1_sortThings 13 = .ok (.iconst 1, 1) := by decide +kernel
theorem dX1_sortThings_14 : decode cX1_sortThings 14 = .ok (.aload_n 0, 1) := by decide +kernel
theorem dX1_sortThings_15 : decode cX1_sortThings 15 = .ok (.getfield 34, 3) := by decide +kernel
theorem dX1_sortThings_18 : decode cX1_sortThings 18 = .ok (.getfield 118, 3) := by decide +kernel
theorem dX1_sortThings_21 : decode cX1_sortThings 21 = .ok (.ishl, 1) := by decide +kernel
theorem dX1_sortThings_22 : decode cX1_sortThings 22 = .ok (.iconst 1, 1) := by decide +kernel
theorem dX1_sortThings_23 : decode cX1_sortThings 23 = .ok (.isub, 1) := by decide +kernel
theorem dX1_sortThings_24 : decode cX1_sortThings 24 = .ok (.putfield 85, 3) := by decide +kernel
theorem dX1_sortThings_27 : decode cX1_sortThings 27 = .ok (.aload_n 0, 1) := by decide +kernel
theorem dX1_sortThings_28 : decode cX1_sortThings 28 = .ok (.aload_n 0, 1) := by decide +kernel
theorem dX1_sortThings_29 : decode cX1_sortThings 29 = .ok (.getfield 85, 3) := by decide +kernel
theorem dX1_sortThings_32 : decode cX1_sortThings 32 = .ok (.putfield 88, 3) := by decide +kernel
theorem dX1_sortThings_35 : decode cX1_sortThings 35 = .ok (.aload_n 0, 1) := by decide +kernel
theorem dX1_sortThings_36 : decode cX1_sortThings 36 = .ok (.iconst 0, 1) := by decide +kernel
theorem dX1_sortThings_37 : decode cX1_sortThings 37 = .ok (.putfield 91, 3) := by decide +kernel
theorem dX1_sortThings_40 : decode cX1_sortThings 40 = .ok (.iconst 0, 1) := by decide +kernel
theorem dX1_sortThings_41 : decode cX1_sortThings 41 = .ok (.istore_n 1, 1) := by decide +kernel
theorem dX1_sortThings_42 : decode cX1_sortThings 42 = .ok (.iload_n 1, 1) := by decide +kernel
theorem dX1_sortThings_43 : decode cX1_sortThings 43 = .ok (.aload_n 0, 1) := by decide +kernel
theorem dX1_sortThings_44 : decode cX1_sortThings 44 = .ok (.getfield 38, 3) := by decide +kernel
theorem dX1_sortThings_47 : decode cX1_sortThings 47 = .ok (.getfield 64, 3) := by decide +kernel
theorem dX1_sortThings_50 : decode cX1_sortThings 50 = .ok (.if_icmp .ge 14, 3) := by decide +kernel
theorem dX1_sortThings_53 : decode cX1_sortThings 53 = .ok (.aload_n 0, 1) := by decide +kernel
theorem dX1_sortThings_54 : decode cX1_sortThings 54 = .ok (.iload_n 1, 1) := by decide +kernel
theorem dX1_sortThings_55 : decode cX1_sortThings 55 = .ok (.invokevirtual 121, 3) := by decide +kernel
theorem dX1_sortThings_58 : decode cX1_sortThings 58 = .ok (.iinc 1 1, 3) := by decide +kernel
theorem dX1_sortThings_61 : decode cX1_sortThings 61 = .ok (.goto (-19), 3) := by decide +kernel
theorem dX1_sortThings_64 : decode cX1_sortThings 64 = .ok (.aload_n 0, 1) := by decide +kernel
theorem dX1_sortThings_65 : decode cX1_sortThings 65 = .ok (.iconst 1, 1) := by decide +kernel
theorem dX1_sortThings_66 : decode cX1_sortThings 66 = .ok (.putfield 49, 3) := by decide +kernel
theorem dX1_sortThings_69 : decode cX1_sortThings 69 = .ok (.return_, 1) := by decide +kernel
theorem dX1_sortByFairestWorldOf_0 : decode cX1_sortByFairestWorldOf 0 = .ok (.aload_n 0, 1) := by decide +kernel
theorem dX1_sortByFairestWorldOf_1 : decode cX1_sortByFairestWorldOf 1 = .ok (.getfield 38, 3) := by decide +kernel
theorem dX1_sortByFairestWorldOf_4 : decode cX1_sortByFairestWorldOf 4 = .ok (.getfield 55, 3) := by decide +kernel
theorem dX1_sortByFairestWorldOf_7 : decode cX1_sortByFairestWorldOf 7 = .ok (.iload_n 1, 1) := by decide +kernel
theorem dX1_sortByFairestWorldOf_8 : decode cX1_sortByFairestWorldOf 8 = .ok (.iaload, 1) := by decide +kernel
theorem dX1_sortByFairestWorldOf_9 : decode cX1_sortByFairestWorldOf 9 = .ok (.istore_n 2, 1) := by decide +kernel
theorem dX1_sortByFairestWorldOf_10 : decode cX1_sortByFairestWorldOf 10 = .ok (.iload_n 2, 1) := by decide +kernel
theorem dX1_sortByFairestWorldOf_11 : decode cX1_sortByFairestWorldOf 11 = .ok (.istore_n 3, 1) := by decide +kernel
theorem dX1_sortByFairestWorldOf_12 : decode cX1_sortByFairestWorldOf 12 = .ok (.iconst 0, 1) := by decide +kernel
theorem dX1_sortByFairestWorldOf_13 : decode cX1_sortByFairestWorldOf 13 = .ok (.istore 4, 2) := by decide +kernel
theorem dX1_sortByFairestWorldOf_15 : decode cX1_sortByFairestWorldOf 15 = .ok (.iload 4, 2) := by decide +kernel
theorem dX1_sortByFairestWorldOf_17 : decode cX1_sortByFairestWorldOf 17 = .ok (.aload_n 0, 1) := by decide +kernel
theorem dX1_sortByFairestWorldOf_18 : decode cX1_sortByFairestWorldOf 18 = .ok (.getfield 38, 3) := by decide +kernel
theorem dX1_sortByFairestWorldOf_21 : decode cX1_sortByFairestWorldOf 21 = .ok (.getfield 64, 3) := by decide +kernel
theorem dX1_sortByFairestWorldOf_24 : decode cX1_sortByFairestWorldOf 24 = .ok (.if_icmp .ge 92, 3) := by decide +kernel
theorem dX1_sortByFairestWorldOf_27 : decode cX1_sortByFairestWorldOf 27 = .ok (.aload_n 0, 1) := by decide +kernel
theorem dX1_sortByFairestWorldOf_28 : decode cX1_sortByFairestWorldOf 28 = .ok (.getfield 38, 3) := by decide +kernel
theorem dX1_sortByFairestWorldOf_31 : decode cX1_sortByFairestWorldOf 31 = .ok (.getfield 55, 3) := by decide +kernel
theorem dX1_sortByFairestWorldOf_34 : decode cX1_sortByFairestWorldOf 34 = .ok (.iload 4, 2) := by decide +kernel
theorem dX1_sortByFairestWorldOf_36 : decode cX1_sortByFairestWorldOf 36 = .ok (.iaload, 1) := by decide +kernel
theorem dX1_sortByFairestWorldOf_37 : decode cX1_sortByFairestWorldOf 37 = .ok (.istore 5, 2) := by decide +kernel
theorem dX1_sortByFairestWorldOf_39 : decode cX1_sortByFairestWorldOf 39 = .ok (.aload_n 0, 1) := by decide +kernel
theorem dX1_sortByFairestWorldOf_40 : decode cX1_sortByFairestWorldOf 40 = .ok (.getfield 25, 3) := by decide +kernel
theorem dX1_sortByFairestWorldOf_43 : decode cX1_sortByFairestWorldOf 43 = .ok (.iload 4, 2) := by decide +kernel
theorem dX1_sortByFairestWorldOf_45 : decode cX1_sortByFairestWorldOf 45 = .ok (.iaload, 1) := by decide +kernel
theorem dX1_sortByFairestWorldOf_46 : decode cX1_sortByFairestWorldOf 46 = .ok (.aload_n 0, 1) := by decide +kernel
theorem dX1_sortByFairestWorldOf_47 : decode cX1_sortByFairestWorldOf 47 = .ok (.getfield 25, 3) := by decide +kernel
theorem dX1_sortByFairestWorldOf_50 : decode cX1_sortByFairestWorldOf 50 = .ok (.iload_n 1, 1) := by decide +kernel
theorem dX1_sortByFairestWorldOf_51 : decode cX1_sortByFairestWorldOf 51 = .ok (.iaload, 1) := by decide +kernel
theorem dX1_sortByFairestWorldOf_52 : decode cX1_sortByFairestWorldOf 52 = .ok (.if_icmp .gt 58, 3) := by decide +kernel
theorem dX1_sortByFairestWorldOf_55 : decode cX1_sortByFairestWorldOf 55 = .ok (.aload_n 0, 1) := by decide +kernel
theorem dX1_sortByFairestWorldOf_56 : decode cX1_sortByFairestWorldOf 56 = .ok (.getfield 25, 3) := by decide +kernel
theorem dX1_sortByFairestWorldOf_59 : decode cX1_sortByFairestWorldOf 59 = .ok (.iload 4, 2) := by decide +kernel
theorem dX1_sortByFairestWorldOf_61 : decode cX1_sortByFairestWorldOf 61 = .ok (.iaload, 1) := by decide +kernel
theorem dX1_sortByFairestWorldOf_62 : decode cX1_sortByFairestWorldOf 62 = .ok (.aload_n 0, 1) := by decide +kernel
theorem dX1_sortByFairestWorldOf_63 : decode cX1_sortByFairestWorldOf 63 = .ok (.getfield 22, 3) := by decide +kernel
theorem dX1_sortByFairestWorldOf_66 : decode cX1_sortByFairestWorldOf 66 = .ok (.iload 5, 2) := by decide +kernel
theorem dX1_sortByFairestWorldOf_68 : decode cX1_sortByFairestWorldOf 68 = .ok (.iload_n 2, 1) := by decide +kernel
theorem dX1_sortByFairestWorldOf_69 : decode cX1_sortByFairestWorldOf 69 = .ok (.iconst (-1), 1) := by decide +kernel
theorem dX1_sortByFairestWorldOf_70 : decode cX1_sortByFairestWorldOf 70 = .ok (.ixor, 1) := by decide +kernel
theorem dX1_sortByFairestWorldOf_71 : decode cX1_sortByFairestWorldOf 71 = .ok (.iand, 1) := by decide +kernel
theorem dX1_sortByFairestWorldOf_72 : decode cX1_sortByFairestWorldOf 72 = .ok (.invokevirtual 60, 3) := by decide +kernel
theorem dX1_sortByFairestWorldOf_75 : decode cX1_sortByFairestWorldOf 75 = .ok (.iadd, 1) := by decide +kernel
theorem dX1_sortByFairestWorldOf_76 : decode cX1_sortByFairestWorldOf 76 = .ok (.istore 6, 2) := by decide +kernel
theorem dX1_sortByFairestWorldOf_78 : decode cX1_sortByFairestWorldOf 78 = .ok (.iload 6, 2) := by decide +kernel
theorem dX1_sortByFairestWorldOf_80 : decode cX1_sortByFairestWorldOf 80 = .ok (.aload_n 0, 1) := by decide +kernel
theorem dX1_sortByFairestWorldOf_81 : decode cX1_sortByFairestWorldOf 81 = .ok (.getfield 25, 3) := by decide +kernel
theorem dX1_sortByFairestWorldOf_84 : decode cX1_sortByFairestWorldOf 84 = .ok (.iload_n 1, 1) := by decide +kernel
theorem dX1_sortByFairestWorldOf_85 : decode cX1_sortByFairestWorldOf 85 = .ok (.iaload, 1) := by decide +kernel
theorem dX1_sortByFairestWorldOf_86 : decode cX1_sortByFairestWorldOf 86 = .ok (.if_icmp .ge 4, 3) := by decide +kernel
theorem dX1_sortByFairestWorldOf_89 : decode cX1_sortByFairestWorldOf 89 = .ok (.return_, 1) := by decide +kernel
theorem dX1_sortByFairestWorldOf_90 : decode cX1_sortByFairestWorldOf 90 = .ok (.iload_n 3, 1) := by decide +kernel
theorem dX1_sortByFairestWorldOf_91 : decode cX1_sortByFairestWorldOf 91 = .ok (.iload 6, 2) := by decide +kernel
theorem dX1_sortByFairestWorldOf_93 : decode cX1_sortByFairestWorldOf 93 = .ok (.aload_n 0, 1) := by decide +kernel
theorem dX1_sortByFairestWorldOf_94 : decode cX1_sortByFairestWorldOf 94 = .ok (.getfield 25, 3) := by decide +kernel
theorem dX1_sortByFairestWorldOf_97 : decode cX1_sortByFairestWorldOf 97 = .ok (.iload_n 1, 1) := by decide +kernel
theorem dX1_sortByFairestWorldOf_98 : decode cX1_sortByFairestWorldOf 98 = .ok (.iaload, 1) := by decide +kernel
theorem dX1_sortByFairestWorldOf_99 : decode cX1_sortByFairestWorldOf 99 = .ok (.if_icmp .ne 8, 3) := by decide +kernel
theorem dX1_sortByFairestWorldOf_102 : decode cX1_sortByFairestWorldOf 102 = .ok (.iload 5, 2) := by decide +kernel
theorem dX1_sortByFairestWorldOf_104 : decode cX1_sortByFairestWorldOf 104 = .ok (.goto 4, 3) := by decide +kernel
theorem dX1_sortByFairestWorldOf_107 : decode cX1_sortByFairestWorldOf 107 = .ok (.iconst 0, 1) := by decide +kernel
theorem dX1_sortByFairestWorldOf_108 : decode cX1_sortByFairestWorldOf 108 = .ok (.ior, 1) := by decide +kernel
theorem dX1_sortByFairestWorldOf_109 : decode cX1_sortByFairestWorldOf 109 = .ok (.istore_n 3, 1) := by decide +kernel
theorem dX1_sortByFairestWorldOf_110 : decode cX1_sortByFairestWorldOf 110 = .ok (.iinc 4 1, 3) := by decide +kernel
theorem dX1_sortByFairestWorldOf_113 : decode cX1_sortByFairestWorldOf 113 = .ok (.goto (-98), 3) := by decide +kernel
theorem dX1_sortByFairestWorldOf_116 : decode cX1_sortByFairestWorldOf 116 = .ok (.aload_n 0, 1) := by decide +kernel
theorem dX1_sortByFairestWorldOf_117 : decode cX1_sortByFairestWorldOf 117 = .ok (.dup, 1) := by decide +kernel
theorem dX1_sortByFairestWorldOf_118 : decode cX1_sortByFairestWorldOf 118 = .ok (.getfield 85, 3) := by decide +kernel
theorem dX1_sortByFairestWorldOf_121 : decode cX1_sortByFairestWorldOf 121 = .ok (.iload_n 2, 1) := by decide +kernel
theorem dX1_sortByFairestWorldOf_122 : decode cX1_sortByFairestWorldOf 122 = .ok (.iand, 1) := by decide +kernel
theorem dX1_sortByFairestWorldOf_123 : decode cX1_sortByFairestWorldOf 123 = .ok (.putfield 85, 3) := by decide +kernel
theorem dX1_sortByFairestWorldOf_126 : decode cX1_sortByFairestWorldOf 126 = .ok (.aload_n 0, 1) := by decide +kernel
theorem dX1_sortByFairestWorldOf_127 : decode cX1_sortByFairestWorldOf 127 = .ok (.dup, 1) := by decide +kernel
theorem dX1_sortByFairestWorldOf_128 : decode cX1_sortByFairestWorldOf 128 = .ok (.getfield 88, 3) := by decide +kernel
theorem dX1_sortByFairestWorldOf_131 : decode cX1_sortByFairestWorldOf 131 = .ok (.iload_n 3, 1) := by decide +kernel
theorem dX1_sortByFairestWorldOf_132 : decode cX1_sortByFairestWorldOf 132 = .ok (.iand, 1) := by decide +kernel
theorem dX1_sortByFairestWorldOf_133 : decode cX1_sortByFairestWorldOf 133 = .ok (.putfield 88, 3) := by decide +kernel
theorem dX1_sortByFairestWorldOf_136 : decode cX1_sortByFairestWorldOf 136 = .ok (.aload_n 0, 1) := by decide +kernel
theorem dX1_sortByFairestWorldOf_137 : decode cX1_sortByFairestWorldOf 137 = .ok (.dup, 1) := by decide +kernel
theorem dX1_sortByFairestWorldOf_138 : decode cX1_sortByFairestWorldOf 138 = .ok (.getfield 91, 3) := by decide +kernel
theorem dX1_sortByFairestWorldOf_141 : decode cX1_sortByFairestWorldOf 141 = .ok (.iload_n 2, 1) := by decide +kernel
theorem dX1_sortByFairestWorldOf_142 : decode cX1_sortByFairestWorldOf 142 = .ok (.ior, 1) := by decide +kernel
theorem dX1_sortByFairestWorldOf_143 : decode cX1_sortByFairestWorldOf 143 = .ok (.putfield 91, 3) := by decide +kernel
theorem dX1_sortByFairestWorldOf_146 : decode cX1_sortByFairestWorldOf 146 = .ok (.return_, 1) := by decide +kernel
theorem dX2_init_0 : decode cX2_init 0 = .ok (.aload_n 0, 1) := by decide +kernel
theorem dX2_init_1 : decode cX2_init 1 = .ok (.invokespecial 3, 3) := by decide +kernel
theorem dX2_init_4 : decode cX2_init 4 = .ok (.aload_n 0, 1) := by decide +kernel
theorem dX2_init_5 : decode cX2_init 5 = .ok (.new 9, 3) := by decide +kernel
theorem dX2_init_8 : decode cX2_init 8 = .ok (.dup, 1) := by decide +kernel
theorem dX2_init_9 : decode cX2_init 9 = .ok (.invokespecial 11, 3) := by decide +kernel
theorem dX2_init_12 : decode cX2_init 12 = .ok (.putfield 12, 3) := by decide +kernel
theorem dX2_init_15 : decode cX2_init 15 = .ok (.aload_n 0, 1) := by decide +kernel
theorem dX2_init_16 : decode cX2_init 16 = .ok (.sipush 500, 3) := by decide +kernel
theorem dX2_init_19 : decode cX2_init 19 = .ok (.newarray .int, 2) := by decide +kernel
theorem dX2_init_21 : decode cX2_init 21 = .ok (.putfield 18, 3) := by decide +kernel
theorem dX2_init_24 : decode cX2_init 24 = .ok (.aload_n 0, 1) := by decide +kernel
theorem dX2_init_25 : decode cX2_init 25 = .ok (.sipush 500, 3) := by decide +kernel
theorem dX2_init_28 : decode cX2_init 28 = .ok (.newarray .int, 2) := by decide +kernel
theorem dX2_init_30 : decode cX2_init 30 = .ok (.putfield 22, 3) := by decide +kernel
theorem dX2_init_33 : decode cX2_init 33 = .ok (.aload_n 0, 1) := by decide +kernel
theorem dX2_init_34 : decode cX2_init 34 = .ok (.aload_n 1, 1) := by decide +kernel
theorem dX2_init_35 : decode cX2_init 35 = .ok (.putfield 25, 3) := by decide +kernel
theorem dX2_init_38 : decode cX2_init 38 = .ok (.aload_n 0, 1) := by decide +kernel
theorem dX2_init_39 : decode cX2_init 39 = .ok (.aload_n 2, 1) := by decide +kernel
theorem dX2_init_40 : decode cX2_init 40 = .ok (.putfield 29, 3) := by decide +kernel
theorem dX2_init_43 : decode cX2_init 43 = .ok (.return_, 1) := by decide +kernel
theorem dX2_cheapestThere_0 : decode cX2_cheapestThere 0 = .ok (.aload_n 0, 1) := by decide +kernel
theorem dX2_cheapestThere_1 : decode cX2_cheapestThere 1 = .ok (.getfield 12, 3) := by decide +kernel
theorem dX2_cheapestThere_4 : decode cX2_cheapestThere 4 = .ok (.aload_n 0, 1) := by decide +kernel
theorem dX2_cheapestThere_5 : decode cX2_cheapestThere 5 = .ok (.getfield 25, 3) := by decide +kernel
theorem dX2_cheapestThere_8 : decode cX2_cheapestThere 8 = .ok (.getfield 33, 3) := by decide +kernel
theorem dX2_cheapestThere_11 : decode cX2_cheapestThere 11 = .ok (.iload_n 1, 1) := by decide +kernel
theorem dX2_cheapestThere_12 : decode cX2_cheapestThere 12 = .ok (.aaload, 1) := by decide +kernel
theorem dX2_cheapestThere_13 : decode cX2_cheapestThere 13 = .ok (.invokevirtual 38, 3) := by decide +kernel
theorem dX2_cheapestThere_16 : decode cX2_cheapestThere 16 = .ok (.iconst 0, 1) := by decide +kernel
theorem dX2_cheapestThere_17 : decode cX2_cheapestThere 17 = .ok (.istore_n 2, 1) := by decide +kernel
theorem dX2_cheapestThere_18 : decode cX2_cheapestThere 18 = .ok (.iload_n 2, 1) := by decide +kernel
theorem dX2_cheapestThere_19 : decode cX2_cheapestThere 19 = .ok (.aload_n 0, 1) := by decide +kernel
theorem dX2_cheapestThere_20 : decode cX2_cheapestThere 20 = .ok (.getfield 29, 3) := by decide +kernel
theorem dX2_cheapestThere_23 : decode cX2_cheapestThere 23 = .ok (.getfield 42, 3) := by decide +kernel
theorem dX2_cheapestThere_26 : decode cX2_cheapestThere 26 = .ok (.if_icmp .ge 31, 3) := by decide +kernel
theorem dX2_cheapestThere_29 : decode cX2_cheapestThere 29 = .ok (.aload_n 0, 1) := by decide +kernel
theorem dX2_cheapestThere_30 : decode cX2_cheapestThere 30 = .ok (.getfield 18, 3) := by decide +kernel
theorem dX2_cheapestThere_33 : decode cX2_cheapestThere 33 = .ok (.iload_n 2, 1) := by decide +kernel
theorem dX2_cheapestThere_34 : decode cX2_cheapestThere 34 = .ok (.aload_n 0, 1) := by decide +kernel
theorem dX2_cheapestThere_35 : decode cX2_cheapestThere 35 = .ok (.getfield 12, 3) := by decide +kernel
theorem dX2_cheapestThere_38 : decode cX2_cheapestThere 38 = .ok (.aload_n 0, 1) := by decide +kernel
theorem dX2_cheapestThere_39 : decode cX2_cheapestThere 39 = .ok (.getfield 29, 3) := by decide +kernel
theorem dX2_cheapestThere_42 : decode cX2_cheapestThere 42 = .ok (.getfield 48, 3) := by decide +kernel
theorem dX2_cheapestThere_45 : decode cX2_cheapestThere 45 = .ok (.iload_n 2, 1) := by decide +kernel
theorem dX2_cheapestThere_46 : decode cX2_cheapestThere 46 = .ok (.iaload, 1) := by decide +kernel
theorem dX2_cheapestThere_47 : decode cX2_cheapestThere 47 = .ok (.invokevirtual 51, 3) := by decide +kernel
theorem dX2_cheapestThere_50 : decode cX2_cheapestThere 50 = .ok (.iastore, 1) := by decide +kernel
theorem dX2_cheapestThere_51 : decode cX2_cheapestThere 51 = .ok (.iinc 2 1, 3) := by decide +kernel
theorem dX2_cheapestThere_54 : decode cX2_cheapestThere 54 = .ok (.goto (-36), 3) := by decide +kernel
theorem dX2_cheapestThere_57 : decode cX2_cheapestThere 57 = .ok (.aload_n 0, 1) := by decide +kernel
theorem dX2_cheapestThere_58 : decode cX2_cheapestThere 58 = .ok (.getfield 18, 3) := by decide +kernel
theorem dX2_cheapestThere_61 : decode cX2_cheapestThere 61 = .ok (.aload_n 0, 1) := by decide +kernel
theorem dX2_cheapestThere_62 : decode cX2_cheapestThere 62 = .ok (.getfield 29, 3) := by decide +kernel
theorem dX2_cheapestThere_65 : decode cX2_cheapestThere 65 = .ok (.getfield 42, 3) := by decide +kernel
theorem dX2_cheapestThere_68 : decode cX2_cheapestThere 68 = .ok (.invokestatic 55, 3) := by decide +kernel
theorem dX2_cheapestThere_71 : decode cX2_cheapestThere 71 = .ok (.ireturn, 1) := by decide +kernel
theorem dX2_greatestRue_0 : decode cX2_greatestRue 0 = .ok (.aload_n 0, 1) := by decide +kernel
theorem dX2_greatestRue_1 : decode cX2_greatestRue 1 = .ok (.invokevirtual 59, 3) := by decide +kernel
theorem dX2_greatestRue_4 : decode cX2_greatestRue 4 = .ok (.aload_n 0, 1) := by decide +kernel
theorem dX2_greatestRue_5 : decode cX2_greatestRue 5 = .ok (.getfield 22, 3) := by decide +kernel
theorem dX2_greatestRue_8 : decode cX2_greatestRue 8 = .ok (.iload_n 1, 1) := by decide +kernel
theorem dX2_greatestRue_9 : decode cX2_greatestRue 9 = .ok (.iaload, 1) := by decide +kernel
theorem dX2_greatestRue_10 : decode cX2_greatestRue 10 = .ok (.ireturn, 1) := by decide +kernel
theorem dX2_leastRued_0 : decode cX2_leastRued 0 = .ok (.aload_n 0, 1) := by decide +kernel
theorem dX2_leastRued_1 : decode cX2_leastRued 1 = .ok (.invokevirtual 59, 3) := by decide +kernel
theorem dX2_leastRued_4 : decode cX2_leastRued 4 = .ok (.aload_n 0, 1) := by decide +kernel
theorem dX2_leastRued_5 : decode cX2_leastRued 5 = .ok (.getfield 22, 3) := by decide +kernel
theorem dX2_leastRued_8 : decode cX2_leastRued 8 = .ok (.aload_n 0, 1) := by decide +kernel
theorem dX2_leastRued_9 : decode cX2_leastRued 9 = .ok (.getfield 29, 3) := by decide +kernel
theorem dX2_leastRued_12 : decode cX2_leastRued 12 = .ok (.getfield 42, 3) := by decide +kernel
theorem dX2_leastRued_15 : decode cX2_leastRued 15 = .ok (.invokestatic 55, 3) := by decide +kernel
theorem dX2_leastRued_18 : decode cX2_leastRued 18 = .ok (.ireturn, 1) := by decide +kernel
theorem dX2_rueAll_0 : decode cX2_rueAll 0 = .ok (.aload_n 0, 1) := by decide +kernel
theorem dX2_rueAll_1 : decode cX2_rueAll 1 = .ok (.getfield 22, 3) := by decide +kernel
theorem dX2_rueAll_4 : decode cX2_rueAll 4 = .ok (.iconst 0, 1) := by decide +kernel
theorem dX2_rueAll_5 : decode cX2_rueAll 5 = .ok (.invokestatic 62, 3) := by decide +kernel
theorem dX2_rueAll_8 : decode cX2_rueAll 8 = .ok (.iconst 0, 1) := by decide +kernel
theorem dX2_rueAll_9 : decode cX2_rueAll 9 = .ok (.istore_n 1, 1) := by decide +kernel
theorem dX2_rueAll_10 : decode cX2_rueAll 10 = .ok (.iload_n 1, 1) := by decide +kernel
theorem dX2_rueAll_11 : decode cX2_rueAll 11 = .ok (.bipush 8, 2) := by decide +kernel
theorem dX2_rueAll_13 : decode cX2_rueAll 13 = .ok (.if_icmp .ge 25, 3) := by decide +kernel
theorem dX2_rueAll_16 : decode cX2_rueAll 16 = .ok (.aload_n 0, 1) := by decide +kernel
theorem dX2_rueAll_17 : decode cX2_rueAll 17 = .ok (.getfield 25, 3) := by decide +kernel
theorem dX2_rueAll_20 : decode cX2_rueAll 20 = .ok (.iload_n 1, 1) := by decide +kernel
theorem dX2_rueAll_21 : decode cX2_rueAll 21 = .ok (.invokevirtual 67, 3) := by decide +kernel
theorem dX2_rueAll_24 : decode cX2_rueAll 24 = .ok (.ifCond .eq 8, 3) := by decide +kernel
theorem dX2_rueAll_27 : decode cX2_rueAll 27 = .ok (.aload_n 0, 1) := by decide +kernel
theorem dX2_rueAll_28 : decode cX2_rueAll 28 = .ok (.iload_n 1, 1) := by decide +kernel
theorem dX2_rueAll_29 : decode cX2_rueAll 29 = .ok (.invokevirtual 71, 3) := by decide +kernel
theorem dX2_rueAll_32 : decode cX2_rueAll 32 = .ok (.iinc 1 1, 3) := by decide +kernel
theorem dX2_rueAll_35 : decode cX2_rueAll 35 = .ok (.goto (-25), 3) := by decide +kernel
theorem dX2_rueAll_38 : decode cX2_rueAll 38 = .ok (.return_, 1) := by decide +kernel
theorem dX2_rueThere_0 : decode cX2_rueThere 0 = .ok (.aload_n 0, 1) := by decide +kernel
theorem dX2_rueThere_1 : decode cX2_rueThere 1 = .ok (.iload_n 1, 1) := by decide +kernel
theorem dX2_rueThere_2 : decode cX2_rueThere 2 = .ok (.invokevirtual 75, 3) := by decide +kernel
theorem dX2_rueThere_5 : decode cX2_rueThere 5 = .ok (.istore_n 2, 1) := by decide +kernel
theorem dX2_rueThere_6 : decode cX2_rueThere 6 = .ok (.iconst 0, 1) := by decide +kernel
theorem dX2_rueThere_7 : decode cX2_rueThere 7 = .ok (.istore_n 3, 1) := by decide +kernel
theorem dX2_rueThere_8 : decode cX2_rueThere 8 = .ok (.iload_n 2, 1) := by decide +kernel
theorem dX2_rueThere_9 : decode cX2_rueThere 9 = .ok (.iconst (-1), 1) := by decide +kernel
theorem dX2_rueThere_10 : decode cX2_rueThere 10 = .ok (.if_icmp .eq 48, 3) := by decide +kernel
theorem dX2_rueThere_13 : decode cX2_rueThere 13 = .ok (.iload_n 3, 1) := by decide +kernel
theorem dX2_rueThere_14 : decode cX2_rueThere 14 = .ok (.aload_n 0, 1) := by decide +kernel
theorem dX2_rueThere_15 : decode cX2_rueThere 15 = .ok (.getfield 29, 3) := by decide +kernel
theorem dX2_rueThere_18 : decode cX2_rueThere 18 = .ok (.getfield 42, 3) := by decide +kernel
theorem dX2_rueThere_21 : decode cX2_rueThere 21 = .ok (.if_icmp .ge 37, 3) := by decide +kernel
theorem dX2_rueThere_24 : decode cX2_rueThere 24 = .ok (.aload_n 0, 1) := by decide +kernel
theorem dX2_rueThere_25 : decode cX2_rueThere 25 = .ok (.getfield 22, 3) := by decide +kernel
theorem dX2_rueThere_28 : decode cX2_rueThere 28 = .ok (.iload_n 3, 1) := by decide +kernel
theorem dX2_rueThere_29 : decode cX2_rueThere 29 = .ok (.aload_n 0, 1) := by decide +kernel
theorem dX2_rueThere_30 : decode cX2_rueThere 30 = .ok (.getfield 22, 3) := by decide +kernel
theorem dX2_rueThere_33 : decode cX2_rueThere 33 = .ok (.iload_n 3, 1) := by decide +kernel
theorem dX2_rueThere_34 : decode cX2_rueThere 34 = .ok (.iaload, 1) := by decide +kernel
theorem dX2_rueThere_35 : decode cX2_rueThere 35 = .ok (.aload_n 0, 1) := by decide +kernel
theorem dX2_rueThere_36 : decode cX2_rueThere 36 = .ok (.getfield 18, 3) := by decide +kernel
theorem dX2_rueThere_39 : decode cX2_rueThere 39 = .ok (.iload_n 3, 1) := by decide +kernel
theorem dX2_rueThere_40 : decode cX2_rueThere 40 = .ok (.iaload, 1) := by decide +kernel
theorem dX2_rueThere_41 : decode cX2_rueThere 41 = .ok (.aload_n 0, 1) := by decide +kernel
theorem dX2_rueThere_42 : decode cX2_rueThere 42 = .ok (.getfield 18, 3) := by decide +kernel
theorem dX2_rueThere_45 : decode cX2_rueThere 45 = .ok (.iload_n 2, 1) := by decide +kernel
theorem dX2_rueThere_46 : decode cX2_rueThere 46 = .ok (.iaload, 1) := by decide +kernel
theorem dX2_rueThere_47 : decode cX2_rueThere 47 = .ok (.isub, 1) := by decide +kernel
theorem dX2_rueThere_48 : decode cX2_rueThere 48 = .ok (.invokestatic 78, 3) := by decide +kernel
theorem dX2_rueThere_51 : decode cX2_rueThere 51 = .ok (.iastore, 1) := by decide +kernel
theorem dX2_rueThere_52 : decode cX2_rueThere 52 = .ok (.iinc 3 1, 3) := by decide +kernel
theorem dX2_rueThere_55 : decode cX2_rueThere 55 = .ok (.goto (-47), 3) := by decide +kernel
theorem dX2_rueThere_58 : decode cX2_rueThere 58 = .ok (.return_, 1) := by decide +kernel
theorem dX3_init_0 : decode cX3_init 0 = .ok (.aload_n 0, 1) := by decide +kernel
theorem dX3_init_1 : decode cX3_init 1 = .ok (.invokespecial 3, 3) := by decide +kernel
theorem dX3_init_4 : decode cX3_init 4 = .ok (.aload_n 0, 1) := by decide +kernel
theorem dX3_init_5 : decode cX3_init 5 = .ok (.sipush 500, 3) := by decide +kernel
theorem dX3_init_8 : decode cX3_init 8 = .ok (.newarray .int, 2) := by decide +kernel
theorem dX3_init_10 : decode cX3_init 10 = .ok (.putfield 9, 3) := by decide +kernel
theorem dX3_init_13 : decode cX3_init 13 = .ok (.aload_n 0, 1) := by decide +kernel
theorem dX3_init_14 : decode cX3_init 14 = .ok (.sipush 500, 3) := by decide +kernel
theorem dX3_init_17 : decode cX3_init 17 = .ok (.newarray .int, 2) := by decide +kernel
theorem dX3_init_19 : decode cX3_init 19 = .ok (.putfield 15, 3) := by decide +kernel
theorem dX3_init_22 : decode cX3_init 22 = .ok (.return_, 1) := by decide +kernel
theorem dX3_has_0 : decode cX3_has 0 = .ok (.iload_n 1, 1) := by decide +kernel
theorem dX3_has_1 : decode cX3_has 1 = .ok (.aload_n 0, 1) := by decide +kernel
theorem dX3_has_2 : decode cX3_has 2 = .ok (.getfield 18, 3) := by decide +kernel
theorem dX3_has_5 : decode cX3_has 5 = .ok (.invokestatic 22, 3) := by decide +kernel
theorem dX3_has_8 : decode cX3_has 8 = .ok (.ireturn, 1) := by decide +kernel
theorem dX3_relist_0 : decode cX3_relist 0 = .ok (.iconst 0, 1) := by decide +kernel
theorem dX3_relist_1 : decode cX3_relist 1 = .ok (.istore_n 2, 1) := by decide +kernel
theorem dX3_relist_2 : decode cX3_relist 2 = .ok (.iconst 1, 1) := by decide +kernel
theorem dX3_relist_3 : decode cX3_relist 3 = .ok (.aload_n 1, 1) := by decide +kernel
theorem dX3_relist_4 : decode cX3_relist 4 = .ok (.getfield 26, 3) := by decide +kernel
theorem dX3_relist_7 : decode cX3_relist 7 = .ok (.ishl, 1) := by decide +kernel
theorem dX3_relist_8 : decode cX3_relist 8 = .ok (.istore_n 3, 1) := by decide +kernel
theorem dX3_relist_9 : decode cX3_relist 9 = .ok (.iconst 0, 1) := by decide +kernel
theorem dX3_relist_10 : decode cX3_relist 10 = .ok (.istore 4, 2) := by decide +kernel
theorem dX3_relist_12 : decode cX3_relist 12 = .ok (.iload 4, 2) := by decide +kernel
theorem dX3_relist_14 : decode cX3_relist 14 = .ok (.iload_n 3, 1) := by decide +kernel
theorem dX3_relist_15 : decode cX3_relist 15 = .ok (.if_icmp .ge 38, 3) := by decide +kernel
theorem dX3_relist_18 : decode cX3_relist 18 = .ok (.aload_n 1, 1) := by decide +kernel
theorem dX3_relist_19 : decode cX3_relist 19 = .ok (.iload 4, 2) := by decide +kernel
theorem dX3_relist_21 : decode cX3_relist 21 = .ok (.invokevirtual 31, 3) := by decide +kernel
theorem dX3_relist_24 : decode cX3_relist 24 = .ok (.ifCond .eq 23, 3) := by decide +kernel
theorem dX3_relist_27 : decode cX3_relist 27 = .ok (.iload_n 2, 1) := by decide +kernel
theorem dX3_relist_28 : decode cX3_relist 28 = .ok (.sipush 500, 3) := by decide +kernel
theorem dX3_relist_31 : decode cX3_relist 31 = .ok (.if_icmp .ne 5, 3) := by decide +kernel
theorem dX3_relist_34 : decode cX3_relist 34 = .ok (.iconst 0, 1) := by decide +kernel
theorem dX3_relist_35 : decode cX3_relist 35 = .ok (.ireturn, 1) := by decide +kernel
theorem dX3_relist_36 : decode cX3_relist 36 = .ok (.aload_n 0, 1) := by decide +kernel
theorem dX3_relist_37 : decode cX3_relist 37 = .ok (.getfield 15, 3) := by decide +kernel
theorem dX3_relist_40 : decode cX3_relist 40 = .ok (.iload_n 2, 1) := by decide +kernel
theorem dX3_relist_41 : decode cX3_relist 41 = .ok (.iload 4, 2) := by decide +kernel
theorem dX3_relist_43 : decode cX3_relist 43 = .ok (.iastore, 1) := by decide +kernel
theorem dX3_relist_44 : decode cX3_relist 44 = .ok (.iinc 2 1, 3) := by decide +kernel
theorem dX3_relist_47 : decode cX3_relist 47 = .ok (.iinc 4 1, 3) := by decide +kernel
theorem dX3_relist_50 : decode cX3_relist 50 = .ok (.goto (-38), 3) := by decide +kernel
theorem dX3_relist_53 : decode cX3_relist 53 = .ok (.aload_n 0, 1) := by decide +kernel
theorem dX3_relist_54 : decode cX3_relist 54 = .ok (.getfield 9, 3) := by decide +kernel
theorem dX3_relist_57 : decode cX3_relist 57 = .ok (.astore 4, 2) := by decide +kernel
theorem dX3_relist_59 : decode cX3_relist 59 = .ok (.aload_n 0, 1) := by decide +kernel
theorem dX3_relist_60 : decode cX3_relist 60 = .ok (.aload_n 0, 1) := by decide +kernel
theorem dX3_relist_61 : decode cX3_relist 61 = .ok (.getfield 15, 3) := by decide +kernel
theorem dX3_relist_64 : decode cX3_relist 64 = .ok (.putfield 9, 3) := by decide +kernel
theorem dX3_relist_67 : decode cX3_relist 67 = .ok (.aload_n 0, 1) := by decide +kernel
theorem dX3_relist_68 : decode cX3_relist 68 = .ok (.aload 4, 2) := by decide +kernel
theorem dX3_relist_70 : decode cX3_relist 70 = .ok (.putfield 15, 3) := by decide +kernel
theorem dX3_relist_73 : decode cX3_relist 73 = .ok (.aload_n 0, 1) := by decide +kernel
theorem dX3_relist_74 : decode cX3_relist 74 = .ok (.iload_n 2, 1) := by decide +kernel
theorem dX3_relist_75 : decode cX3_relist 75 = .ok (.putfield 18, 3) := by decide +kernel
theorem dX3_relist_78 : decode cX3_relist 78 = .ok (.iconst 1, 1) := by decide +kernel
theorem dX3_relist_79 : decode cX3_relist 79 = .ok (.ireturn, 1) := by decide +kernel
theorem dX4_init_0 : decode cX4_init 0 = .ok (.aload_n 0, 1) := by decide +kernel
theorem dX4_init_1 : decode cX4_init 1 = .ok (.invokespecial 3, 3) := by decide +kernel
theorem dX4_init_4 : decode cX4_init 4 = .ok (.aload_n 0, 1) := by decide +kernel
theorem dX4_init_5 : decode cX4_init 5 = .ok (.bipush 100, 2) := by decide +kernel
theorem dX4_init_7 : decode cX4_init 7 = .ok (.newarray .int, 2) := by decide +kernel
theorem dX4_init_9 : decode cX4_init 9 = .ok (.putfield 9, 3) := by decide +kernel
theorem dX4_init_12 : decode cX4_init 12 = .ok (.aload_n 0, 1) := by decide +kernel
theorem dX4_init_13 : decode cX4_init 13 = .ok (.iconst (-1), 1) := by decide +kernel
theorem dX4_init_14 : decode cX4_init 14 = .ok (.putfield 15, 3) := by decide +kernel
theorem dX4_init_17 : decode cX4_init 17 = .ok (.return_, 1) := by decide +kernel
theorem dX4_open_0 : decode cX4_open 0 = .ok (.aload_n 0, 1) := by decide +kernel
theorem dX4_open_1 : decode cX4_open 1 = .ok (.iload_n 1, 1) := by decide +kernel
theorem dX4_open_2 : decode cX4_open 2 = .ok (.putfield 19, 3) := by decide +kernel
theorem dX4_open_5 : decode cX4_open 5 = .ok (.aload_n 0, 1) := by decide +kernel
theorem dX4_open_6 : decode cX4_open 6 = .ok (.iload_n 2, 1) := by decide +kernel
theorem dX4_open_7 : decode cX4_open 7 = .ok (.putfield 15, 3) := by decide +kernel
theorem dX4_open_10 : decode cX4_open 10 = .ok (.aload_n 0, 1) := by decide +kernel
theorem dX4_open_11 : decode cX4_open 11 = .ok (.getfield 9, 3) := by decide +kernel
theorem dX4_open_14 : decode cX4_open 14 = .ok (.iconst 0, 1) := by decide +kernel
theorem dX4_open_15 : decode cX4_open 15 = .ok (.invokestatic 22, 3) := by decide +kernel
theorem dX4_open_18 : decode cX4_open 18 = .ok (.return_, 1) := by decide +kernel
theorem dX4_drop_0 : decode cX4_drop 0 = .ok (.aload_n 0, 1) := by decide +kernel
theorem dX4_drop_1 : decode cX4_drop 1 = .ok (.iconst (-1), 1) := by decide +kernel
theorem dX4_drop_2 : decode cX4_drop 2 = .ok (.putfield 15, 3) := by decide +kernel
theorem dX4_drop_5 : decode cX4_drop 5 = .ok (.return_, 1) := by decide +kernel
theorem dX4_isMissing_0 : decode cX4_isMissing 0 = .ok (.aload_n 0, 1) := by decide +kernel
theorem dX4_isMissing_1 : decode cX4_isMissing 1 = .ok (.getfield 15, 3) := by decide +kernel
theorem dX4_isMissing_4 : decode cX4_isMissing 4 = .ok (.iconst (-1), 1) := by decide +kernel
theorem dX4_isMissing_5 : decode cX4_isMissing 5 = .ok (.if_icmp .ne 7, 3) := by decide +kernel
theorem dX4_isMissing_8 : decode cX4_isMissing 8 = .ok (.iconst 1, 1) := by decide +kernel
theorem dX4_isMissing_9 : decode cX4_isMissing 9 = .ok (.goto 4, 3) := by decide +kernel
theorem dX4_isMissing_12 : decode cX4_isMissing 12 = .ok (.iconst 0, 1) := by decide +kernel
theorem dX4_isMissing_13 : decode cX4_isMissing 13 = .ok (.ireturn, 1) := by decide +kernel
theorem dX4_hasPlace_0 : decode cX4_hasPlace 0 = .ok (.lload_n 1, 1) := by decide +kernel
theorem dX4_hasPlace_1 : decode cX4_hasPlace 1 = .ok (.lconst 0, 1) := by decide +kernel
theorem dX4_hasPlace_2 : decode cX4_hasPlace 2 = .ok (.lcmp, 1) := by decide +kernel
theorem dX4_hasPlace_3 : decode cX4_hasPlace 3 = .ok (.ifCond .lt 17, 3) := by decide +kernel
theorem dX4_hasPlace_6 : decode cX4_hasPlace 6 = .ok (.lload_n 1, 1) := by decide +kernel
theorem dX4_hasPlace_7 : decode cX4_hasPlace 7 = .ok (.aload_n 0, 1) := by decide +kernel
theorem dX4_hasPlace_8 : decode cX4_hasPlace 8 = .ok (.getfield 15, 3) := by decide +kernel
theorem dX4_hasPlace_11 : decode cX4_hasPlace 11 = .ok (.i2l, 1) := by decide +kernel
theorem dX4_hasPlace_12 : decode cX4_hasPlace 12 = .ok (.lcmp, 1) := by decide +kernel
theorem dX4_hasPlace_13 : decode cX4_hasPlace 13 = .ok (.ifCond .ge 7, 3) := by decide +kernel
theorem dX4_hasPlace_16 : decode cX4_hasPlace 16 = .ok (.iconst 1, 1) := by decide +kernel
theorem dX4_hasPlace_17 : decode cX4_hasPlace 17 = .ok (.goto 4, 3) := by decide +kernel
theorem dX4_hasPlace_20 : decode cX4_hasPlace 20 = .ok (.iconst 0, 1) := by decide +kernel
theorem dX4_hasPlace_21 : decode cX4_hasPlace 21 = .ok (.ireturn, 1) := by decide +kernel
theorem dX4_put_0 : decode cX4_put 0 = .ok (.aload_n 0, 1) := by decide +kernel
theorem dX4_put_1 : decode cX4_put 1 = .ok (.getfield 19, 3) := by decide +kernel
theorem dX4_put_4 : decode cX4_put 4 = .ok (.ifCond .ne 14, 3) := by decide +kernel
theorem dX4_put_7 : decode cX4_put 7 = .ok (.aload_n 0, 1) := by decide +kernel
theorem dX4_put_8 : decode cX4_put 8 = .ok (.getfield 9, 3) := by decide +kernel
theorem dX4_put_11 : decode cX4_put 11 = .ok (.iload_n 1, 1) := by decide +kernel
theorem dX4_put_12 : decode cX4_put 12 = .ok (.iload_n 2, 1) := by decide +kernel
theorem dX4_put_13 : decode cX4_put 13 = .ok (.i2b, 1) := by decide +kernel
theorem dX4_put_14 : decode cX4_put 14 = .ok (.iastore, 1) := by decide +kernel
theorem dX4_put_15 : decode cX4_put 15 = .ok (.goto 29, 3) := by decide +kernel
theorem dX4_put_18 : decode cX4_put 18 = .ok (.aload_n 0, 1) := by decide +kernel
theorem dX4_put_19 : decode cX4_put 19 = .ok (.getfield 19, 3) := by decide +kernel
theorem dX4_put_22 : decode cX4_put 22 = .ok (.iconst 1, 1) := by decide +kernel
theorem dX4_put_23 : decode cX4_put 23 = .ok (.if_icmp .ne 14, 3) := by decide +kernel
theorem dX4_put_26 : decode cX4_put 26 = .ok (.aload_n 0, 1) := by decide +kernel
theorem dX4_put_27 : decode cX4_put 27 = .ok (.getfield 9, 3) := by decide +kernel
theorem dX4_put_30 : decode cX4_put 30 = .ok (.iload_n 1, 1) := by decide +kernel
theorem dX4_put_31 : decode cX4_put 31 = .ok (.iload_n 2, 1) := by decide +kernel
theorem dX4_put_32 : decode cX4_put 32 = .ok (.i2s, 1) := by decide +kernel
theorem dX4_put_33 : decode cX4_put 33 = .ok (.iastore, 1) := by decide +kernel
theorem dX4_put_34 : decode cX4_put 34 = .ok (.goto 10, 3) := by decide +kernel
theorem dX4_put_37 : decode cX4_put 37 = .ok (.aload_n 0, 1) := by decide +kernel
theorem dX4_put_38 : decode cX4_put 38 = .ok (.getfield 9, 3) := by decide +kernel
theorem dX4_put_41 : decode cX4_put 41 = .ok (.iload_n 1, 1) := by decide +kernel
theorem dX4_put_42 : decode cX4_put 42 = .ok (.iload_n 2, 1) := by decide +kernel
theorem dX4_put_43 : decode cX4_put 43 = .ok (.iastore, 1) := by decide +kernel
theorem dX4_put_44 : decode cX4_put 44 = .ok (.return_, 1) := by decide +kernel
theorem dX4_numberAt_0 : decode cX4_numberAt 0 = .ok (.aload_n 0, 1) := by decide +kernel
theorem dX4_numberAt_1 : decode cX4_numberAt 1 = .ok (.lload_n 1, 1) := by decide +kernel
theorem dX4_numberAt_2 : decode cX4_numberAt 2 = .ok (.invokevirtual 28, 3) := by decide +kernel
theorem dX4_numberAt_5 : decode cX4_numberAt 5 = .ok (.ifCond .eq 13, 3) := by decide +kernel
theorem dX4_numberAt_8 : decode cX4_numberAt 8 = .ok (.aload_n 0, 1) := by decide +kernel
theorem dX4_numberAt_9 : decode cX4_numberAt 9 = .ok (.getfield 9, 3) := by decide +kernel
theorem dX4_numberAt_12 : decode cX4_numberAt 12 = .ok (.lload_n 1, 1) := by decide +kernel
theorem dX4_numberAt_13 : decode cX4_numberAt 13 = .ok (.l2i, 1) := by decide +kernel
theorem dX4_numberAt_14 : decode cX4_numberAt 14 = .ok (.iaload, 1) := by decide +kernel
theorem dX4_numberAt_15 : decode cX4_numberAt 15 = .ok (.goto 4, 3) := by decide +kernel
theorem dX4_numberAt_18 : decode cX4_numberAt 18 = .ok (.iconst 0, 1) := by decide +kernel
theorem dX4_numberAt_19 : decode cX4_numberAt 19 = .ok (.ireturn, 1) := by decide +kernel
theorem dX5_init_0 : decode cX5_init 0 = .ok (.aload_n 0, 1) := by decide +kernel
theorem dX5_init_1 : decode cX5_init 1 = .ok (.invokespecial 1, 3) := by decide +kernel
theorem dX5_init_4 : decode cX5_init 4 = .ok (.aload_n 0, 1) := by decide +kernel
theorem dX5_init_5 : decode cX5_init 5 = .ok (.bipush 64, 2) := by decide +kernel
theorem dX5_init_7 : decode cX5_init 7 = .ok (.newarray .int, 2) := by decide +kernel
theorem dX5_init_9 : decode cX5_init 9 = .ok (.putfield 9, 3) := by decide +kernel
theorem dX5_init_12 : decode cX5_init 12 = .ok (.aload_n 0, 1) := by decide +kernel
theorem dX5_init_13 : decode cX5_init 13 = .ok (.bipush 64, 2) := by decide +kernel
theorem dX5_init_15 : decode cX5_init 15 = .ok (.newarray .int, 2) := by decide +kernel
theorem dX5_init_17 : decode cX5_init 17 = .ok (.putfield 13, 3) := by decide +kernel
theorem dX5_init_20 : decode cX5_init 20 = .ok (.return_, 1) := by decide +kernel
theorem dX5_fill_0 : decode cX5_fill 0 = .ok (.iconst 0, 1) := by decide +kernel
theorem dX5_fill_1 : decode cX5_fill 1 = .ok (.istore_n 2, 1) := by decide +kernel
theorem dX5_fill_2 : decode cX5_fill 2 = .ok (.iload_n 2, 1) := by decide +kernel
theorem dX5_fill_3 : decode cX5_fill 3 = .ok (.bipush 6, 2) := by decide +kernel
theorem dX5_fill_5 : decode cX5_fill 5 = .ok (.if_icmp .ge 71, 3) := by decide +kernel
theorem dX5_fill_8 : decode cX5_fill 8 = .ok (.iconst 1, 1) := by decide +kernel
theorem dX5_fill_9 : decode cX5_fill 9 = .ok (.iload_n 2, 1) := by decide +kernel
theorem dX5_fill_10 : decode cX5_fill 10 = .ok (.ishl, 1) := by decide +kernel
theorem dX5_fill_11 : decode cX5_fill 11 = .ok (.istore_n 3, 1) := by decide +kernel
theorem dX5_fill_12 : decode cX5_fill 12 = .ok (.iconst 0, 1) := by decide +kernel
theorem dX5_fill_13 : decode cX5_fill 13 = .ok (.istore 4, 2) := by decide +kernel
theorem dX5_fill_15 : decode cX5_fill 15 = .ok (.iload 4, 2) := by decide +kernel
theorem dX5_fill_17 : decode cX5_fill 17 = .ok (.iload_n 3, 1) := by decide +kernel
theorem dX5_fill_18 : decode cX5_fill 18 = .ok (.if_icmp .ge 52, 3) := by decide +kernel
theorem dX5_fill_21 : decode cX5_fill 21 = .ok (.aload_n 0, 1) := by decide +kernel
theorem dX5_fill_22 : decode cX5_fill 22 = .ok (.getfield 9, 3) := by decide +kernel
theorem dX5_fill_25 : decode cX5_fill 25 = .ok (.iload 4, 2) := by decide +kernel
theorem dX5_fill_27 : decode cX5_fill 27 = .ok (.iload_n 3, 1) := by decide +kernel
theorem dX5_fill_28 : decode cX5_fill 28 = .ok (.ior, 1) := by decide +kernel
theorem dX5_fill_29 : decode cX5_fill 29 = .ok (.aload_n 0, 1) := by decide +kernel
theorem dX5_fill_30 : decode cX5_fill 30 = .ok (.getfield 9, 3) := by decide +kernel
theorem dX5_fill_33 : decode cX5_fill 33 = .ok (.iload 4, 2) := by decide +kernel
theorem dX5_fill_35 : decode cX5_fill 35 = .ok (.iaload, 1) := by decide +kernel
theorem dX5_fill_36 : decode cX5_fill 36 = .ok (.aload_n 1, 1) := by decide +kernel
theorem dX5_fill_37 : decode cX5_fill 37 = .ok (.iload_n 2, 1) := by decide +kernel
theorem dX5_fill_38 : decode cX5_fill 38 = .ok (.iaload, 1) := by decide +kernel
theorem dX5_fill_39 : decode cX5_fill 39 = .ok (.iadd, 1) := by decide +kernel
theorem dX5_fill_40 : decode cX5_fill 40 = .ok (.iastore, 1) := by decide +kernel
theorem dX5_fill_41 : decode cX5_fill 41 = .ok (.aload_n 0, 1) := by decide +kernel
theorem dX5_fill_42 : decode cX5_fill 42 = .ok (.getfield 13, 3) := by decide +kernel
theorem dX5_fill_45 : decode cX5_fill 45 = .ok (.iload 4, 2) := by decide +kernel
theorem dX5_fill_47 : decode cX5_fill 47 = .ok (.iload_n 3, 1) := by decide +kernel
theorem dX5_fill_48 : decode cX5_fill 48 = .ok (.ior, 1) := by decide +kernel
theorem dX5_fill_49 : decode cX5_fill 49 = .ok (.aload_n 0, 1) := by decide +kernel
theorem dX5_fill_50 : decode cX5_fill 50 = .ok (.getfield 13, 3) := by decide +kernel
theorem dX5_fill_53 : decode cX5_fill 53 = .ok (.iload 4, 2) := by decide +kernel
theorem dX5_fill_55 : decode cX5_fill 55 = .ok (.iaload, 1) := by decide +kernel
theorem dX5_fill_56 : decode cX5_fill 56 = .ok (.aload_n 1, 1) := by decide +kernel
theorem dX5_fill_57 : decode cX5_fill 57 = .ok (.iload_n 2, 1) := by decide +kernel
theorem dX5_fill_58 : decode cX5_fill 58 = .ok (.bipush 6, 2) := by decide +kernel
theorem dX5_fill_60 : decode cX5_fill 60 = .ok (.iadd, 1) := by decide +kernel
theorem dX5_fill_61 : decode cX5_fill 61 = .ok (.iaload, 1) := by decide +kernel
theorem dX5_fill_62 : decode cX5_fill 62 = .ok (.iadd, 1) := by decide +kernel
theorem dX5_fill_63 : decode cX5_fill 63 = .ok (.iastore, 1) := by decide +kernel
theorem dX5_fill_64 : decode cX5_fill 64 = .ok (.iinc 4 1, 3) := by decide +kernel
theorem dX5_fill_67 : decode cX5_fill 67 = .ok (.goto (-52), 3) := by decide +kernel
theorem dX5_fill_70 : decode cX5_fill 70 = .ok (.iinc 2 1, 3) := by decide +kernel
theorem dX5_fill_73 : decode cX5_fill 73 = .ok (.goto (-71), 3) := by decide +kernel
theorem dX5_fill_76 : decode cX5_fill 76 = .ok (.return_, 1) := by decide +kernel
theorem dX5_total_0 : decode cX5_total 0 = .ok (.aload_n 0, 1) := by decide +kernel
theorem dX5_total_1 : decode cX5_total 1 = .ok (.getfield 9, 3) := by decide +kernel
theorem dX5_total_4 : decode cX5_total 4 = .ok (.iload_n 1, 1) := by decide +kernel
theorem dX5_total_5 : decode cX5_total 5 = .ok (.bipush 63, 2) := by decide +kernel
theorem dX5_total_7 : decode cX5_total 7 = .ok (.iand, 1) := by decide +kernel
theorem dX5_total_8 : decode cX5_total 8 = .ok (.iaload, 1) := by decide +kernel
theorem dX5_total_9 : decode cX5_total 9 = .ok (.aload_n 0, 1) := by decide +kernel
theorem dX5_total_10 : decode cX5_total 10 = .ok (.getfield 13, 3) := by decide +kernel
theorem dX5_total_13 : decode cX5_total 13 = .ok (.iload_n 1, 1) := by decide +kernel
theorem dX5_total_14 : decode cX5_total 14 = .ok (.bipush 6, 2) := by decide +kernel
theorem dX5_total_16 : decode cX5_total 16 = .ok (.ishr, 1) := by decide +kernel
theorem dX5_total_17 : decode cX5_total 17 = .ok (.bipush 63, 2) := by decide +kernel
theorem dX5_total_19 : decode cX5_total 19 = .ok (.iand, 1) := by decide +kernel
theorem dX5_total_20 : decode cX5_total 20 = .ok (.iaload, 1) := by decide +kernel
theorem dX5_total_21 : decode cX5_total 21 = .ok (.iadd, 1) := by decide +kernel
theorem dX5_total_22 : decode cX5_total 22 = .ok (.ireturn, 1) := by decide +kernel
theorem dX6_init_0 : decode cX6_init 0 = .ok (.aload_n 0, 1) := by decide +kernel
theorem dX6_init_1 : decode cX6_init 1 = .ok (.invokespecial 3, 3) := by decide +kernel
theorem dX6_init_4 : decode cX6_init 4 = .ok (.aload_n 0, 1) := by decide +kernel
theorem dX6_init_5 : decode cX6_init 5 = .ok (.new 9, 3) := by decide +kernel
theorem dX6_init_8 : decode cX6_init 8 = .ok (.dup, 1) := by decide +kernel
theorem dX6_init_9 : decode cX6_init 9 = .ok (.invokespecial 11, 3) := by decide +kernel
theorem dX6_init_12 : decode cX6_init 12 = .ok (.putfield 12, 3) := by decide +kernel
theorem dX6_init_15 : decode cX6_init 15 = .ok (.aload_n 0, 1) := by decide +kernel
theorem dX6_init_16 : decode cX6_init 16 = .ok (.new 9, 3) := by decide +kernel
theorem dX6_init_19 : decode cX6_init 19 = .ok (.dup, 1) := by decide +kernel
