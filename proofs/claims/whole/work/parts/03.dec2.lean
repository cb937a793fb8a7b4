theorem dX8_rival_22 : decode cX8_rival 22 = .ok (.iload_n 1, 1) := by decide +kernel
theorem dX8_rival_23 : decode cX8_rival 23 = .ok (.iaload, 1) := by decide +kernel
theorem dX8_rival_24 : decode cX8_rival 24 = .ok (.invokevirtual 192, 3) := by decide +kernel
theorem dX8_rival_27 : decode cX8_rival 27 = .ok (.goto 4, 3) := by decide +kernel
theorem dX8_rival_30 : decode cX8_rival 30 = .ok (.iconst (-1), 1) := by decide +kernel
theorem dX8_rival_31 : decode cX8_rival 31 = .ok (.ireturn, 1) := by decide +kernel
theorem dX8_best_0 : decode cX8_best 0 = .ok (.aload_n 0, 1) := by decide +kernel
theorem dX8_best_1 : decode cX8_best 1 = .ok (.getfield 19, 3) := by decide +kernel
theorem dX8_best_4 : decode cX8_best 4 = .ok (.getfield 129, 3) := by decide +kernel
theorem dX8_best_7 : decode cX8_best 7 = .ok (.ifCond .ne 8, 3) := by decide +kernel
theorem dX8_best_10 : decode cX8_best 10 = .ok (.bipush (-6), 2) := by decide +kernel
theorem dX8_best_12 : decode cX8_best 12 = .ok (.goto 10, 3) := by decide +kernel
theorem dX8_best_15 : decode cX8_best 15 = .ok (.aload_n 0, 1) := by decide +kernel
theorem dX8_best_16 : decode cX8_best 16 = .ok (.getfield 47, 3) := by decide +kernel
theorem dX8_best_19 : decode cX8_best 19 = .ok (.invokevirtual 198, 3) := by decide +kernel
theorem dX8_best_22 : decode cX8_best 22 = .ok (.ireturn, 1) := by decide +kernel
theorem dX8_many_0 : decode cX8_many 0 = .ok (.aload_n 0, 1) := by decide +kernel
theorem dX8_many_1 : decode cX8_many 1 = .ok (.getfield 47, 3) := by decide +kernel
theorem dX8_many_4 : decode cX8_many 4 = .ok (.invokevirtual 201, 3) := by decide +kernel
theorem dX8_many_7 : decode cX8_many 7 = .ok (.ireturn, 1) := by decide +kernel
theorem dX8_middle_0 : decode cX8_middle 0 = .ok (.aload_n 0, 1) := by decide +kernel
theorem dX8_middle_1 : decode cX8_middle 1 = .ok (.getfield 19, 3) := by decide +kernel
theorem dX8_middle_4 : decode cX8_middle 4 = .ok (.getfield 129, 3) := by decide +kernel
theorem dX8_middle_7 : decode cX8_middle 7 = .ok (.ifCond .ne 8, 3) := by decide +kernel
theorem dX8_middle_10 : decode cX8_middle 10 = .ok (.bipush (-6), 2) := by decide +kernel
theorem dX8_middle_12 : decode cX8_middle 12 = .ok (.goto 10, 3) := by decide +kernel
theorem dX8_middle_15 : decode cX8_middle 15 = .ok (.aload_n 0, 1) := by decide +kernel
theorem dX8_middle_16 : decode cX8_middle 16 = .ok (.getfield 47, 3) := by decide +kernel
theorem dX8_middle_19 : decode cX8_middle 19 = .ok (.invokevirtual 204, 3) := by decide +kernel
theorem dX8_middle_22 : decode cX8_middle 22 = .ok (.ireturn, 1) := by decide +kernel
theorem dX8_hold_0 : decode cX8_hold 0 = .ok (.aload_n 0, 1) := by decide +kernel
theorem dX8_hold_1 : decode cX8_hold 1 = .ok (.iload_n 1, 1) := by decide +kernel
theorem dX8_hold_2 : decode cX8_hold 2 = .ok (.invokevirtual 91, 3) := by decide +kernel
theorem dX8_hold_5 : decode cX8_hold 5 = .ok (.ifCond .eq 14, 3) := by decide +kernel
theorem dX8_hold_8 : decode cX8_hold 8 = .ok (.aload_n 0, 1) := by decide +kernel
theorem dX8_hold_9 : decode cX8_hold 9 = .ok (.getfield 47, 3) := by decide +kernel
theorem dX8_hold_12 : decode cX8_hold 12 = .ok (.iload_n 1, 1) := by decide +kernel
theorem dX8_hold_13 : decode cX8_hold 13 = .ok (.invokevirtual 207, 3) := by decide +kernel
theorem dX8_hold_16 : decode cX8_hold 16 = .ok (.goto 4, 3) := by decide +kernel
theorem dX8_hold_19 : decode cX8_hold 19 = .ok (.iconst (-1), 1) := by decide +kernel
theorem dX8_hold_20 : decode cX8_hold 20 = .ok (.ireturn, 1) := by decide +kernel
theorem dX8_dearest_0 : decode cX8_dearest 0 = .ok (.aload_n 0, 1) := by decide +kernel
theorem dX8_dearest_1 : decode cX8_dearest 1 = .ok (.getfield 19, 3) := by decide +kernel
theorem dX8_dearest_4 : decode cX8_dearest 4 = .ok (.iload_n 1, 1) := by decide +kernel
theorem dX8_dearest_5 : decode cX8_dearest 5 = .ok (.invokevirtual 176, 3) := by decide +kernel
theorem dX8_dearest_8 : decode cX8_dearest 8 = .ok (.ifCond .eq 10, 3) := by decide +kernel
theorem dX8_dearest_11 : decode cX8_dearest 11 = .ok (.iload_n 2, 1) := by decide +kernel
theorem dX8_dearest_12 : decode cX8_dearest 12 = .ok (.invokestatic 210, 3) := by decide +kernel
theorem dX8_dearest_15 : decode cX8_dearest 15 = .ok (.ifCond .ne 5, 3) := by decide +kernel
theorem dX8_dearest_18 : decode cX8_dearest 18 = .ok (.iconst (-1), 1) := by decide +kernel
theorem dX8_dearest_19 : decode cX8_dearest 19 = .ok (.ireturn, 1) := by decide +kernel
theorem dX8_dearest_20 : decode cX8_dearest 20 = .ok (.aload_n 0, 1) := by decide +kernel
theorem dX8_dearest_21 : decode cX8_dearest 21 = .ok (.getfield 47, 3) := by decide +kernel
theorem dX8_dearest_24 : decode cX8_dearest 24 = .ok (.iload_n 1, 1) := by decide +kernel
theorem dX8_dearest_25 : decode cX8_dearest 25 = .ok (.iload_n 2, 1) := by decide +kernel
theorem dX8_dearest_26 : decode cX8_dearest 26 = .ok (.invokevirtual 213, 3) := by decide +kernel
theorem dX8_dearest_29 : decode cX8_dearest 29 = .ok (.ireturn, 1) := by decide +kernel
theorem dX8_few_0 : decode cX8_few 0 = .ok (.iload_n 1, 1) := by decide +kernel
theorem dX8_few_1 : decode cX8_few 1 = .ok (.invokestatic 210, 3) := by decide +kernel
theorem dX8_few_4 : decode cX8_few 4 = .ok (.ifCond .ne 5, 3) := by decide +kernel
theorem dX8_few_7 : decode cX8_few 7 = .ok (.iconst (-1), 1) := by decide +kernel
theorem dX8_few_8 : decode cX8_few 8 = .ok (.ireturn, 1) := by decide +kernel
theorem dX8_few_9 : decode cX8_few 9 = .ok (.aload_n 0, 1) := by decide +kernel
theorem dX8_few_10 : decode cX8_few 10 = .ok (.getfield 19, 3) := by decide +kernel
theorem dX8_few_13 : decode cX8_few 13 = .ok (.getfield 129, 3) := by decide +kernel
theorem dX8_few_16 : decode cX8_few 16 = .ok (.ifCond .ne 8, 3) := by decide +kernel
theorem dX8_few_19 : decode cX8_few 19 = .ok (.bipush (-6), 2) := by decide +kernel
theorem dX8_few_21 : decode cX8_few 21 = .ok (.goto 11, 3) := by decide +kernel
theorem dX8_few_24 : decode cX8_few 24 = .ok (.aload_n 0, 1) := by decide +kernel
theorem dX8_few_25 : decode cX8_few 25 = .ok (.getfield 47, 3) := by decide +kernel
theorem dX8_few_28 : decode cX8_few 28 = .ok (.iload_n 1, 1) := by decide +kernel
theorem dX8_few_29 : decode cX8_few 29 = .ok (.invokevirtual 216, 3) := by decide +kernel
theorem dX8_few_32 : decode cX8_few 32 = .ok (.ireturn, 1) := by decide +kernel
theorem dX8_costIn_0 : decode cX8_costIn 0 = .ok (.aload_n 0, 1) := by decide +kernel
theorem dX8_costIn_1 : decode cX8_costIn 1 = .ok (.getfield 10, 3) := by decide +kernel
theorem dX8_costIn_4 : decode cX8_costIn 4 = .ok (.iload_n 1, 1) := by decide +kernel
theorem dX8_costIn_5 : decode cX8_costIn 5 = .ok (.invokevirtual 169, 3) := by decide +kernel
theorem dX8_costIn_8 : decode cX8_costIn 8 = .ok (.ifCond .eq 14, 3) := by decide +kernel
theorem dX8_costIn_11 : decode cX8_costIn 11 = .ok (.aload_n 0, 1) := by decide +kernel
theorem dX8_costIn_12 : decode cX8_costIn 12 = .ok (.getfield 19, 3) := by decide +kernel
theorem dX8_costIn_15 : decode cX8_costIn 15 = .ok (.iload_n 2, 1) := by decide +kernel
theorem dX8_costIn_16 : decode cX8_costIn 16 = .ok (.invokevirtual 176, 3) := by decide +kernel
theorem dX8_costIn_19 : decode cX8_costIn 19 = .ok (.ifCond .ne 5, 3) := by decide +kernel
theorem dX8_costIn_22 : decode cX8_costIn 22 = .ok (.iconst (-1), 1) := by decide +kernel
theorem dX8_costIn_23 : decode cX8_costIn 23 = .ok (.ireturn, 1) := by decide +kernel
theorem dX8_costIn_24 : decode cX8_costIn 24 = .ok (.aload_n 0, 1) := by decide +kernel
theorem dX8_costIn_25 : decode cX8_costIn 25 = .ok (.getfield 10, 3) := by decide +kernel
theorem dX8_costIn_28 : decode cX8_costIn 28 = .ok (.iload_n 1, 1) := by decide +kernel
theorem dX8_costIn_29 : decode cX8_costIn 29 = .ok (.aload_n 0, 1) := by decide +kernel
theorem dX8_costIn_30 : decode cX8_costIn 30 = .ok (.getfield 19, 3) := by decide +kernel
theorem dX8_costIn_33 : decode cX8_costIn 33 = .ok (.getfield 179, 3) := by decide +kernel
theorem dX8_costIn_36 : decode cX8_costIn 36 = .ok (.iload_n 2, 1) := by decide +kernel
theorem dX8_costIn_37 : decode cX8_costIn 37 = .ok (.iaload, 1) := by decide +kernel
theorem dX8_costIn_38 : decode cX8_costIn 38 = .ok (.invokevirtual 219, 3) := by decide +kernel
theorem dX8_costIn_41 : decode cX8_costIn 41 = .ok (.ireturn, 1) := by decide +kernel
theorem dX8_cheapestIn_0 : decode cX8_cheapestIn 0 = .ok (.iload_n 1, 1) := by decide +kernel
theorem dX8_cheapestIn_1 : decode cX8_cheapestIn 1 = .ok (.bipush 8, 2) := by decide +kernel
theorem dX8_cheapestIn_3 : decode cX8_cheapestIn 3 = .ok (.invokestatic 102, 3) := by decide +kernel
theorem dX8_cheapestIn_6 : decode cX8_cheapestIn 6 = .ok (.ifCond .ne 5, 3) := by decide +kernel
theorem dX8_cheapestIn_9 : decode cX8_cheapestIn 9 = .ok (.iconst (-1), 1) := by decide +kernel
theorem dX8_cheapestIn_10 : decode cX8_cheapestIn 10 = .ok (.ireturn, 1) := by decide +kernel
theorem dX8_cheapestIn_11 : decode cX8_cheapestIn 11 = .ok (.aload_n 0, 1) := by decide +kernel
theorem dX8_cheapestIn_12 : decode cX8_cheapestIn 12 = .ok (.getfield 10, 3) := by decide +kernel
theorem dX8_cheapestIn_15 : decode cX8_cheapestIn 15 = .ok (.iload_n 1, 1) := by decide +kernel
theorem dX8_cheapestIn_16 : decode cX8_cheapestIn 16 = .ok (.invokevirtual 169, 3) := by decide +kernel
theorem dX8_cheapestIn_19 : decode cX8_cheapestIn 19 = .ok (.ifCond .ne 6, 3) := by decide +kernel
theorem dX8_cheapestIn_22 : decode cX8_cheapestIn 22 = .ok (.bipush (-2), 2) := by decide +kernel
theorem dX8_cheapestIn_24 : decode cX8_cheapestIn 24 = .ok (.ireturn, 1) := by decide +kernel
theorem dX8_cheapestIn_25 : decode cX8_cheapestIn 25 = .ok (.aload_n 0, 1) := by decide +kernel
theorem dX8_cheapestIn_26 : decode cX8_cheapestIn 26 = .ok (.getfield 19, 3) := by decide +kernel
theorem dX8_cheapestIn_29 : decode cX8_cheapestIn 29 = .ok (.getfield 129, 3) := by decide +kernel
theorem dX8_cheapestIn_32 : decode cX8_cheapestIn 32 = .ok (.ifCond .ne 8, 3) := by decide +kernel
theorem dX8_cheapestIn_35 : decode cX8_cheapestIn 35 = .ok (.bipush (-6), 2) := by decide +kernel
theorem dX8_cheapestIn_37 : decode cX8_cheapestIn 37 = .ok (.goto 11, 3) := by decide +kernel
theorem dX8_cheapestIn_40 : decode cX8_cheapestIn 40 = .ok (.aload_n 0, 1) := by decide +kernel
theorem dX8_cheapestIn_41 : decode cX8_cheapestIn 41 = .ok (.getfield 54, 3) := by decide +kernel
theorem dX8_cheapestIn_44 : decode cX8_cheapestIn 44 = .ok (.iload_n 1, 1) := by decide +kernel
theorem dX8_cheapestIn_45 : decode cX8_cheapestIn 45 = .ok (.invokevirtual 222, 3) := by decide +kernel
theorem dX8_cheapestIn_48 : decode cX8_cheapestIn 48 = .ok (.ireturn, 1) := by decide +kernel
theorem dX8_rueOf_0 : decode cX8_rueOf 0 = .ok (.aload_n 0, 1) := by decide +kernel
theorem dX8_rueOf_1 : decode cX8_rueOf 1 = .ok (.getfield 19, 3) := by decide +kernel
theorem dX8_rueOf_4 : decode cX8_rueOf 4 = .ok (.iload_n 1, 1) := by decide +kernel
theorem dX8_rueOf_5 : decode cX8_rueOf 5 = .ok (.invokevirtual 176, 3) := by decide +kernel
theorem dX8_rueOf_8 : decode cX8_rueOf 8 = .ok (.ifCond .eq 13, 3) := by decide +kernel
theorem dX8_rueOf_11 : decode cX8_rueOf 11 = .ok (.aload_n 0, 1) := by decide +kernel
theorem dX8_rueOf_12 : decode cX8_rueOf 12 = .ok (.getfield 10, 3) := by decide +kernel
theorem dX8_rueOf_15 : decode cX8_rueOf 15 = .ok (.getfield 161, 3) := by decide +kernel
theorem dX8_rueOf_18 : decode cX8_rueOf 18 = .ok (.ifCond .ne 5, 3) := by decide +kernel
theorem dX8_rueOf_21 : decode cX8_rueOf 21 = .ok (.iconst (-1), 1) := by decide +kernel
theorem dX8_rueOf_22 : decode cX8_rueOf 22 = .ok (.ireturn, 1) := by decide +kernel
theorem dX8_rueOf_23 : decode cX8_rueOf 23 = .ok (.aload_n 0, 1) := by decide +kernel
theorem dX8_rueOf_24 : decode cX8_rueOf 24 = .ok (.getfield 54, 3) := by decide +kernel
theorem dX8_rueOf_27 : decode cX8_rueOf 27 = .ok (.iload_n 1, 1) := by decide +kernel
theorem dX8_rueOf_28 : decode cX8_rueOf 28 = .ok (.invokevirtual 225, 3) := by decide +kernel
theorem dX8_rueOf_31 : decode cX8_rueOf 31 = .ok (.ireturn, 1) := by decide +kernel
theorem dX8_bestOf_0 : decode cX8_bestOf 0 = .ok (.aload_n 0, 1) := by decide +kernel
theorem dX8_bestOf_1 : decode cX8_bestOf 1 = .ok (.getfield 10, 3) := by decide +kernel
theorem dX8_bestOf_4 : decode cX8_bestOf 4 = .ok (.getfield 161, 3) := by decide +kernel
theorem dX8_bestOf_7 : decode cX8_bestOf 7 = .ok (.ifCond .ne 6, 3) := by decide +kernel
theorem dX8_bestOf_10 : decode cX8_bestOf 10 = .ok (.bipush (-2), 2) := by decide +kernel
theorem dX8_bestOf_12 : decode cX8_bestOf 12 = .ok (.ireturn, 1) := by decide +kernel
theorem dX8_bestOf_13 : decode cX8_bestOf 13 = .ok (.aload_n 0, 1) := by decide +kernel
theorem dX8_bestOf_14 : decode cX8_bestOf 14 = .ok (.getfield 19, 3) := by decide +kernel
theorem dX8_bestOf_17 : decode cX8_bestOf 17 = .ok (.getfield 129, 3) := by decide +kernel
theorem dX8_bestOf_20 : decode cX8_bestOf 20 = .ok (.ifCond .ne 8, 3) := by decide +kernel
theorem dX8_bestOf_23 : decode cX8_bestOf 23 = .ok (.bipush (-6), 2) := by decide +kernel
theorem dX8_bestOf_25 : decode cX8_bestOf 25 = .ok (.goto 10, 3) := by decide +kernel
theorem dX8_bestOf_28 : decode cX8_bestOf 28 = .ok (.aload_n 0, 1) := by decide +kernel
theorem dX8_bestOf_29 : decode cX8_bestOf 29 = .ok (.getfield 54, 3) := by decide +kernel
theorem dX8_bestOf_32 : decode cX8_bestOf 32 = .ok (.invokevirtual 226, 3) := by decide +kernel
theorem dX8_bestOf_35 : decode cX8_bestOf 35 = .ok (.ireturn, 1) := by decide +kernel
theorem dX8_front_0 : decode cX8_front 0 = .ok (.aload_n 0, 1) := by decide +kernel
theorem dX8_front_1 : decode cX8_front 1 = .ok (.getfield 10, 3) := by decide +kernel
theorem dX8_front_4 : decode cX8_front 4 = .ok (.iload_n 1, 1) := by decide +kernel
theorem dX8_front_5 : decode cX8_front 5 = .ok (.invokevirtual 169, 3) := by decide +kernel
theorem dX8_front_8 : decode cX8_front 8 = .ok (.ifCond .eq 19, 3) := by decide +kernel
theorem dX8_front_11 : decode cX8_front 11 = .ok (.aload_n 0, 1) := by decide +kernel
theorem dX8_front_12 : decode cX8_front 12 = .ok (.getfield 10, 3) := by decide +kernel
theorem dX8_front_15 : decode cX8_front 15 = .ok (.iload_n 2, 1) := by decide +kernel
theorem dX8_front_16 : decode cX8_front 16 = .ok (.invokevirtual 169, 3) := by decide +kernel
theorem dX8_front_19 : decode cX8_front 19 = .ok (.ifCond .eq 8, 3) := by decide +kernel
theorem dX8_front_22 : decode cX8_front 22 = .ok (.iload_n 3, 1) := by decide +kernel
theorem dX8_front_23 : decode cX8_front 23 = .ok (.iconst (-1), 1) := by decide +kernel
theorem dX8_front_24 : decode cX8_front 24 = .ok (.if_icmp .ge 5, 3) := by decide +kernel
theorem dX8_front_27 : decode cX8_front 27 = .ok (.iconst (-1), 1) := by decide +kernel
theorem dX8_front_28 : decode cX8_front 28 = .ok (.ireturn, 1) := by decide +kernel
theorem dX8_front_29 : decode cX8_front 29 = .ok (.aload_n 0, 1) := by decide +kernel
theorem dX8_front_30 : decode cX8_front 30 = .ok (.getfield 61, 3) := by decide +kernel
theorem dX8_front_33 : decode cX8_front 33 = .ok (.iload_n 1, 1) := by decide +kernel
theorem dX8_front_34 : decode cX8_front 34 = .ok (.iload_n 2, 1) := by decide +kernel
theorem dX8_front_35 : decode cX8_front 35 = .ok (.invokevirtual 227, 3) := by decide +kernel
theorem dX8_front_38 : decode cX8_front 38 = .ok (.iload_n 3, 1) := by decide +kernel
theorem dX8_front_39 : decode cX8_front 39 = .ok (.iconst (-1), 1) := by decide +kernel
theorem dX8_front_40 : decode cX8_front 40 = .ok (.if_icmp .ne 13, 3) := by decide +kernel
theorem dX8_front_43 : decode cX8_front 43 = .ok (.aload_n 0, 1) := by decide +kernel
theorem dX8_front_44 : decode cX8_front 44 = .ok (.getfield 61, 3) := by decide +kernel
theorem dX8_front_47 : decode cX8_front 47 = .ok (.invokevirtual 230, 3) := by decide +kernel
theorem dX8_front_50 : decode cX8_front 50 = .ok (.goto 11, 3) := by decide +kernel
theorem dX8_front_53 : decode cX8_front 53 = .ok (.aload_n 0, 1) := by decide +kernel
theorem dX8_front_54 : decode cX8_front 54 = .ok (.getfield 61, 3) := by decide +kernel
theorem dX8_front_57 : decode cX8_front 57 = .ok (.iload_n 3, 1) := by decide +kernel
theorem dX8_front_58 : decode cX8_front 58 = .ok (.invokevirtual 233, 3) := by decide +kernel
theorem dX8_front_61 : decode cX8_front 61 = .ok (.ireturn, 1) := by decide +kernel
theorem dX8_lots_0 : decode cX8_lots 0 = .ok (.iload_n 1, 1) := by decide +kernel
theorem dX8_lots_1 : decode cX8_lots 1 = .ok (.bipush 8, 2) := by decide +kernel
theorem dX8_lots_3 : decode cX8_lots 3 = .ok (.invokestatic 102, 3) := by decide +kernel
theorem dX8_lots_6 : decode cX8_lots 6 = .ok (.ifCond .eq 20, 3) := by decide +kernel
theorem dX8_lots_9 : decode cX8_lots 9 = .ok (.iload_n 2, 1) := by decide +kernel
theorem dX8_lots_10 : decode cX8_lots 10 = .ok (.bipush 8, 2) := by decide +kernel
theorem dX8_lots_12 : decode cX8_lots 12 = .ok (.invokestatic 102, 3) := by decide +kernel
theorem dX8_lots_15 : decode cX8_lots 15 = .ok (.ifCond .eq 11, 3) := by decide +kernel
theorem dX8_lots_18 : decode cX8_lots 18 = .ok (.iload_n 3, 1) := by decide +kernel
theorem dX8_lots_19 : decode cX8_lots 19 = .ok (.iconst 2, 1) := by decide +kernel
theorem dX8_lots_20 : decode cX8_lots 20 = .ok (.invokestatic 102, 3) := by decide +kernel
theorem dX8_lots_23 : decode cX8_lots 23 = .ok (.ifCond .ne 7, 3) := by decide +kernel
theorem dX8_lots_26 : decode cX8_lots 26 = .ok (.ldc2_w 236, 3) := by decide +kernel
theorem dX8_lots_29 : decode cX8_lots 29 = .ok (.lreturn, 1) := by decide +kernel
theorem dX8_lots_30 : decode cX8_lots 30 = .ok (.aload_n 0, 1) := by decide +kernel
theorem dX8_lots_31 : decode cX8_lots 31 = .ok (.getfield 10, 3) := by decide +kernel
theorem dX8_lots_34 : decode cX8_lots 34 = .ok (.iload_n 1, 1) := by decide +kernel
theorem dX8_lots_35 : decode cX8_lots 35 = .ok (.invokevirtual 169, 3) := by decide +kernel
theorem dX8_lots_38 : decode cX8_lots 38 = .ok (.ifCond .eq 14, 3) := by decide +kernel
theorem dX8_lots_41 : decode cX8_lots 41 = .ok (.aload_n 0, 1) := by decide +kernel
theorem dX8_lots_42 : decode cX8_lots 42 = .ok (.getfield 10, 3) := by decide +kernel
theorem dX8_lots_45 : decode cX8_lots 45 = .ok (.iload_n 2, 1) := by decide +kernel
theorem dX8_lots_46 : decode cX8_lots 46 = .ok (.invokevirtual 169, 3) := by decide +kernel
theorem dX8_lots_49 : decode cX8_lots 49 = .ok (.ifCond .ne 7, 3) := by decide +kernel
theorem dX8_lots_52 : decode cX8_lots 52 = .ok (.ldc2_w 238, 3) := by decide +kernel
theorem dX8_lots_55 : decode cX8_lots 55 = .ok (.lreturn, 1) := by decide +kernel
theorem dX8_lots_56 : decode cX8_lots 56 = .ok (.aload_n 0, 1) := by decide +kernel
theorem dX8_lots_57 : decode cX8_lots 57 = .ok (.getfield 19, 3) := by decide +kernel
theorem dX8_lots_60 : decode cX8_lots 60 = .ok (.getfield 129, 3) := by decide +kernel
theorem dX8_lots_63 : decode cX8_lots 63 = .ok (.ifCond .ne 7, 3) := by decide +kernel
theorem dX8_lots_66 : decode cX8_lots 66 = .ok (.ldc2_w 240, 3) := by decide +kernel
theorem dX8_lots_69 : decode cX8_lots 69 = .ok (.lreturn, 1) := by decide +kernel
theorem dX8_lots_70 : decode cX8_lots 70 = .ok (.aload_n 0, 1) := by decide +kernel
theorem dX8_lots_71 : decode cX8_lots 71 = .ok (.getfield 61, 3) := by decide +kernel
theorem dX8_lots_74 : decode cX8_lots 74 = .ok (.iload_n 1, 1) := by decide +kernel
theorem dX8_lots_75 : decode cX8_lots 75 = .ok (.iload_n 2, 1) := by decide +kernel
theorem dX8_lots_76 : decode cX8_lots 76 = .ok (.invokevirtual 227, 3) := by decide +kernel
theorem dX8_lots_79 : decode cX8_lots 79 = .ok (.aload_n 0, 1) := by decide +kernel
theorem dX8_lots_80 : decode cX8_lots 80 = .ok (.getfield 61, 3) := by decide +kernel
theorem dX8_lots_83 : decode cX8_lots 83 = .ok (.invokevirtual 242, 3) := by decide +kernel
theorem dX8_lots_86 : decode cX8_lots 86 = .ok (.iload_n 3, 1) := by decide +kernel
theorem dX8_lots_87 : decode cX8_lots 87 = .ok (.ifCond .ne 13, 3) := by decide +kernel
theorem dX8_lots_90 : decode cX8_lots 90 = .ok (.aload_n 0, 1) := by decide +kernel
theorem dX8_lots_91 : decode cX8_lots 91 = .ok (.getfield 61, 3) := by decide +kernel
theorem dX8_lots_94 : decode cX8_lots 94 = .ok (.getfield 245, 3) := by decide +kernel
theorem dX8_lots_97 : decode cX8_lots 97 = .ok (.goto 10, 3) := by decide +kernel
theorem dX8_lots_100 : decode cX8_lots 100 = .ok (.aload_n 0, 1) := by decide +kernel
theorem dX8_lots_101 : decode cX8_lots 101 = .ok (.getfield 61, 3) := by decide +kernel
theorem dX8_lots_104 : decode cX8_lots 104 = .ok (.getfield 249, 3) := by decide +kernel
theorem dX8_lots_107 : decode cX8_lots 107 = .ok (.lreturn, 1) := by decide +kernel
theorem dX8_two_0 : decode cX8_two 0 = .ok (.aload_n 0, 1) := by decide +kernel
theorem dX8_two_1 : decode cX8_two 1 = .ok (.iload_n 1, 1) := by decide +kernel
theorem dX8_two_2 : decode cX8_two 2 = .ok (.invokevirtual 186, 3) := by decide +kernel
theorem dX8_two_5 : decode cX8_two 5 = .ok (.ifCond .eq 5, 3) := by decide +kernel
theorem dX8_two_8 : decode cX8_two 8 = .ok (.iconst (-1), 1) := by decide +kernel
theorem dX8_two_9 : decode cX8_two 9 = .ok (.ireturn, 1) := by decide +kernel
theorem dX8_two_10 : decode cX8_two 10 = .ok (.aload_n 0, 1) := by decide +kernel
theorem dX8_two_11 : decode cX8_two 11 = .ok (.getfield 10, 3) := by decide +kernel
theorem dX8_two_14 : decode cX8_two 14 = .ok (.getfield 161, 3) := by decide +kernel
theorem dX8_two_17 : decode cX8_two 17 = .ok (.ifCond .ne 6, 3) := by decide +kernel
theorem dX8_two_20 : decode cX8_two 20 = .ok (.bipush (-2), 2) := by decide +kernel
theorem dX8_two_22 : decode cX8_two 22 = .ok (.ireturn, 1) := by decide +kernel
theorem dX8_two_23 : decode cX8_two 23 = .ok (.aload_n 0, 1) := by decide +kernel
theorem dX8_two_24 : decode cX8_two 24 = .ok (.getfield 19, 3) := by decide +kernel
theorem dX8_two_27 : decode cX8_two 27 = .ok (.getfield 129, 3) := by decide +kernel
theorem dX8_two_30 : decode cX8_two 30 = .ok (.ifCond .ne 8, 3) := by decide +kernel
theorem dX8_two_33 : decode cX8_two 33 = .ok (.bipush (-6), 2) := by decide +kernel
theorem dX8_two_35 : decode cX8_two 35 = .ok (.goto 11, 3) := by decide +kernel
theorem dX8_two_38 : decode cX8_two 38 = .ok (.aload_n 0, 1) := by decide +kernel
theorem dX8_two_39 : decode cX8_two 39 = .ok (.getfield 68, 3) := by decide +kernel
theorem dX8_two_42 : decode cX8_two 42 = .ok (.iload_n 1, 1) := by decide +kernel
theorem dX8_two_43 : decode cX8_two 43 = .ok (.invokevirtual 252, 3) := by decide +kernel
theorem dX8_two_46 : decode cX8_two 46 = .ok (.ireturn, 1) := by decide +kernel
theorem dX8_first_0 : decode cX8_first 0 = .ok (.aload_n 0, 1) := by decide +kernel
theorem dX8_first_1 : decode cX8_first 1 = .ok (.getfield 10, 3) := by decide +kernel
theorem dX8_first_4 : decode cX8_first 4 = .ok (.getfield 161, 3) := by decide +kernel
theorem dX8_first_7 : decode cX8_first 7 = .ok (.ifCond .ne 6, 3) := by decide +kernel
theorem dX8_first_10 : decode cX8_first 10 = .ok (.bipush (-2), 2) := by decide +kernel
theorem dX8_first_12 : decode cX8_first 12 = .ok (.ireturn, 1) := by decide +kernel
theorem dX8_first_13 : decode cX8_first 13 = .ok (.aload_n 0, 1) := by decide +kernel
theorem dX8_first_14 : decode cX8_first 14 = .ok (.getfield 19, 3) := by decide +kernel
theorem dX8_first_17 : decode cX8_first 17 = .ok (.getfield 129, 3) := by decide +kernel
theorem dX8_first_20 : decode cX8_first 20 = .ok (.ifCond .ne 8, 3) := by decide +kernel
theorem dX8_first_23 : decode cX8_first 23 = .ok (.bipush (-6), 2) := by decide +kernel
theorem dX8_first_25 : decode cX8_first 25 = .ok (.goto 10, 3) := by decide +kernel
theorem dX8_first_28 : decode cX8_first 28 = .ok (.aload_n 0, 1) := by decide +kernel
theorem dX8_first_29 : decode cX8_first 29 = .ok (.getfield 68, 3) := by decide +kernel
theorem dX8_first_32 : decode cX8_first 32 = .ok (.invokevirtual 255, 3) := by decide +kernel
theorem dX8_first_35 : decode cX8_first 35 = .ok (.ireturn, 1) := by decide +kernel
theorem dX8_image_0 : decode cX8_image 0 = .ok (.iload_n 1, 1) := by decide +kernel
theorem dX8_image_1 : decode cX8_image 1 = .ok (.iconst 3, 1) := by decide +kernel
theorem dX8_image_2 : decode cX8_image 2 = .ok (.invokestatic 102, 3) := by decide +kernel
theorem dX8_image_5 : decode cX8_image 5 = .ok (.ifCond .ne 9, 3) := by decide +kernel
theorem dX8_image_8 : decode cX8_image 8 = .ok (.aload_n 0, 1) := by decide +kernel
theorem dX8_image_9 : decode cX8_image 9 = .ok (.iconst (-1), 1) := by decide +kernel
theorem dX8_image_10 : decode cX8_image 10 = .ok (.invokevirtual 76, 3) := by decide +kernel
theorem dX8_image_13 : decode cX8_image 13 = .ok (.ireturn, 1) := by decide +kernel
theorem dX8_image_14 : decode cX8_image 14 = .ok (.aload_n 0, 1) := by decide +kernel
theorem dX8_image_15 : decode cX8_image 15 = .ok (.getfield 34, 3) := by decide +kernel
theorem dX8_image_18 : decode cX8_image 18 = .ok (.iload_n 1, 1) := by decide +kernel
theorem dX8_image_19 : decode cX8_image 19 = .ok (.aaload, 1) := by decide +kernel
theorem dX8_image_20 : decode cX8_image 20 = .ok (.aload_n 0, 1) := by decide +kernel
theorem dX8_image_21 : decode cX8_image 21 = .ok (.getfield 10, 3) := by decide +kernel
theorem dX8_image_24 : decode cX8_image 24 = .ok (.invokevirtual 258, 3) := by decide +kernel
theorem dX8_image_27 : decode cX8_image 27 = .ok (.aload_n 0, 1) := by decide +kernel
theorem dX8_image_28 : decode cX8_image 28 = .ok (.getfield 38, 3) := by decide +kernel
theorem dX8_image_31 : decode cX8_image 31 = .ok (.iload_n 1, 1) := by decide +kernel
theorem dX8_image_32 : decode cX8_image 32 = .ok (.iconst 1, 1) := by decide +kernel
theorem dX8_image_33 : decode cX8_image 33 = .ok (.bastore, 1) := by decide +kernel
theorem dX8_image_34 : decode cX8_image 34 = .ok (.aload_n 0, 1) := by decide +kernel
theorem dX8_image_35 : decode cX8_image 35 = .ok (.iconst 0, 1) := by decide +kernel
theorem dX8_image_36 : decode cX8_image 36 = .ok (.invokevirtual 88, 3) := by decide +kernel
theorem dX8_image_39 : decode cX8_image 39 = .ok (.ireturn, 1) := by decide +kernel
theorem dX8_back_0 : decode cX8_back 0 = .ok (.iload_n 1, 1) := by decide +kernel
theorem dX8_back_1 : decode cX8_back 1 = .ok (.iconst 3, 1) := by decide +kernel
theorem dX8_back_2 : decode cX8_back 2 = .ok (.invokestatic 102, 3) := by decide +kernel
theorem dX8_back_5 : decode cX8_back 5 = .ok (.ifCond .ne 9, 3) := by decide +kernel
theorem dX8_back_8 : decode cX8_back 8 = .ok (.aload_n 0, 1) := by decide +kernel
theorem dX8_back_9 : decode cX8_back 9 = .ok (.iconst (-1), 1) := by decide +kernel
theorem dX8_back_10 : decode cX8_back 10 = .ok (.invokevirtual 76, 3) := by decide +kernel
theorem dX8_back_13 : decode cX8_back 13 = .ok (.ireturn, 1) := by decide +kernel
theorem dX8_back_14 : decode cX8_back 14 = .ok (.aload_n 0, 1) := by decide +kernel
theorem dX8_back_15 : decode cX8_back 15 = .ok (.getfield 38, 3) := by decide +kernel
theorem dX8_back_18 : decode cX8_back 18 = .ok (.iload_n 1, 1) := by decide +kernel
theorem dX8_back_19 : decode cX8_back 19 = .ok (.baload, 1) := by decide +kernel
theorem dX8_back_20 : decode cX8_back 20 = .ok (.ifCond .ne 10, 3) := by decide +kernel
theorem dX8_back_23 : decode cX8_back 23 = .ok (.aload_n 0, 1) := by decide +kernel
theorem dX8_back_24 : decode cX8_back 24 = .ok (.bipush (-2), 2) := by decide +kernel
theorem dX8_back_26 : decode cX8_back 26 = .ok (.invokevirtual 76, 3) := by decide +kernel
theorem dX8_back_29 : decode cX8_back 29 = .ok (.ireturn, 1) := by decide +kernel
theorem dX8_back_30 : decode cX8_back 30 = .ok (.aload_n 0, 1) := by decide +kernel
theorem dX8_back_31 : decode cX8_back 31 = .ok (.getfield 10, 3) := by decide +kernel
theorem dX8_back_34 : decode cX8_back 34 = .ok (.aload_n 0, 1) := by decide +kernel
theorem dX8_back_35 : decode cX8_back 35 = .ok (.getfield 34, 3) := by decide +kernel
theorem dX8_back_38 : decode cX8_back 38 = .ok (.iload_n 1, 1) := by decide +kernel
theorem dX8_back_39 : decode cX8_back 39 = .ok (.aaload, 1) := by decide +kernel
theorem dX8_back_40 : decode cX8_back 40 = .ok (.invokevirtual 258, 3) := by decide +kernel
theorem dX8_back_43 : decode cX8_back 43 = .ok (.aload_n 0, 1) := by decide +kernel
theorem dX8_back_44 : decode cX8_back 44 = .ok (.getfield 19, 3) := by decide +kernel
theorem dX8_back_47 : decode cX8_back 47 = .ok (.aload_n 0, 1) := by decide +kernel
theorem dX8_back_48 : decode cX8_back 48 = .ok (.getfield 10, 3) := by decide +kernel
theorem dX8_back_51 : decode cX8_back 51 = .ok (.invokevirtual 23, 3) := by decide +kernel
theorem dX8_back_54 : decode cX8_back 54 = .ok (.pop, 1) := by decide +kernel
theorem dX8_back_55 : decode cX8_back 55 = .ok (.aload_n 0, 1) := by decide +kernel
theorem dX8_back_56 : decode cX8_back 56 = .ok (.iconst 0, 1) := by decide +kernel
theorem dX8_back_57 : decode cX8_back 57 = .ok (.invokevirtual 88, 3) := by decide +kernel
theorem dX8_back_60 : decode cX8_back 60 = .ok (.ireturn, 1) := by decide +kernel
theorem dX8_status_0 : decode cX8_status 0 = .ok (.aload_n 0, 1) := by decide +kernel
theorem dX8_status_1 : decode cX8_status 1 = .ok (.getfield 262, 3) := by decide +kernel
theorem dX8_status_4 : decode cX8_status 4 = .ok (.ireturn, 1) := by decide +kernel
theorem dX8_refused_0 : decode cX8_refused 0 = .ok (.aload_n 0, 1) := by decide +kernel
theorem dX8_refused_1 : decode cX8_refused 1 = .ok (.iload_n 1, 1) := by decide +kernel
theorem dX8_refused_2 : decode cX8_refused 2 = .ok (.putfield 262, 3) := by decide +kernel
theorem dX8_refused_5 : decode cX8_refused 5 = .ok (.iload_n 1, 1) := by decide +kernel
theorem dX8_refused_6 : decode cX8_refused 6 = .ok (.ireturn, 1) := by decide +kernel
theorem dX8_accepted_0 : decode cX8_accepted 0 = .ok (.aload_n 0, 1) := by decide +kernel
theorem dX8_accepted_1 : decode cX8_accepted 1 = .ok (.iconst 0, 1) := by decide +kernel
theorem dX8_accepted_2 : decode cX8_accepted 2 = .ok (.putfield 262, 3) := by decide +kernel
theorem dX8_accepted_5 : decode cX8_accepted 5 = .ok (.aload_n 0, 1) := by decide +kernel
theorem dX8_accepted_6 : decode cX8_accepted 6 = .ok (.getfield 47, 3) := by decide +kernel
theorem dX8_accepted_9 : decode cX8_accepted 9 = .ok (.invokevirtual 265, 3) := by decide +kernel
theorem dX8_accepted_12 : decode cX8_accepted 12 = .ok (.iload_n 1, 1) := by decide +kernel
theorem dX8_accepted_13 : decode cX8_accepted 13 = .ok (.ireturn, 1) := by decide +kernel
theorem dX8_isThing_0 : decode cX8_isThing 0 = .ok (.iload_n 1, 1) := by decide +kernel
theorem dX8_isThing_1 : decode cX8_isThing 1 = .ok (.aload_n 0, 1) := by decide +kernel
theorem dX8_isThing_2 : decode cX8_isThing 2 = .ok (.getfield 10, 3) := by decide +kernel
theorem dX8_isThing_5 : decode cX8_isThing 5 = .ok (.getfield 80, 3) := by decide +kernel
theorem dX8_isThing_8 : decode cX8_isThing 8 = .ok (.invokestatic 102, 3) := by decide +kernel
theorem dX8_isThing_11 : decode cX8_isThing 11 = .ok (.ireturn, 1) := by decide +kernel
theorem dX8_isBeyondThings_0 : decode cX8_isBeyondThings 0 = .ok (.iload_n 1, 1) := by decide +kernel
theorem dX8_isBeyondThings_1 : decode cX8_isBeyondThings 1 = .ok (.iconst 1, 1) := by decide +kernel
theorem dX8_isBeyondThings_2 : decode cX8_isBeyondThings 2 = .ok (.aload_n 0, 1) := by decide +kernel
theorem dX8_isBeyondThings_3 : decode cX8_isBeyondThings 3 = .ok (.getfield 10, 3) := by decide +kernel
theorem dX8_isBeyondThings_6 : decode cX8_isBeyondThings 6 = .ok (.getfield 80, 3) := by decide +kernel
theorem dX8_isBeyondThings_9 : decode cX8_isBeyondThings 9 = .ok (.ishl, 1) := by decide +kernel
theorem dX8_isBeyondThings_10 : decode cX8_isBeyondThings 10 = .ok (.invokestatic 102, 3) := by decide +kernel
theorem dX8_isBeyondThings_13 : decode cX8_isBeyondThings 13 = .ok (.ifCond .ne 7, 3) := by decide +kernel
theorem dX8_isBeyondThings_16 : decode cX8_isBeyondThings 16 = .ok (.iconst 1, 1) := by decide +kernel
theorem dX8_isBeyondThings_17 : decode cX8_isBeyondThings 17 = .ok (.goto 4, 3) := by decide +kernel
theorem dX8_isBeyondThings_20 : decode cX8_isBeyondThings 20 = .ok (.iconst 0, 1) := by decide +kernel
theorem dX8_isBeyondThings_21 : decode cX8_isBeyondThings 21 = .ok (.ireturn, 1) := by decide +kernel
theorem dX8_costOfThing_0 : decode cX8_costOfThing 0 = .ok (.iload_n 2, 1) := by decide +kernel
theorem dX8_costOfThing_1 : decode cX8_costOfThing 1 = .ok (.bipush 10, 2) := by decide +kernel
theorem dX8_costOfThing_3 : decode cX8_costOfThing 3 = .ok (.if_icmp .lt 17, 3) := by decide +kernel
theorem dX8_costOfThing_6 : decode cX8_costOfThing 6 = .ok (.aload_n 0, 1) := by decide +kernel
theorem dX8_costOfThing_7 : decode cX8_costOfThing 7 = .ok (.getfield 10, 3) := by decide +kernel
theorem dX8_costOfThing_10 : decode cX8_costOfThing 10 = .ok (.iload_n 2, 1) := by decide +kernel
theorem dX8_costOfThing_11 : decode cX8_costOfThing 11 = .ok (.bipush 10, 2) := by decide +kernel
theorem dX8_costOfThing_13 : decode cX8_costOfThing 13 = .ok (.isub, 1) := by decide +kernel
theorem dX8_costOfThing_14 : decode cX8_costOfThing 14 = .ok (.invokevirtual 169, 3) := by decide +kernel
theorem dX8_costOfThing_17 : decode cX8_costOfThing 17 = .ok (.ifCond .ne 5, 3) := by decide +kernel
theorem dX8_costOfThing_20 : decode cX8_costOfThing 20 = .ok (.iconst (-1), 1) := by decide +kernel
theorem dX8_costOfThing_21 : decode cX8_costOfThing 21 = .ok (.ireturn, 1) := by decide +kernel
theorem dX8_costOfThing_22 : decode cX8_costOfThing 22 = .ok (.aload_n 0, 1) := by decide +kernel
theorem dX8_costOfThing_23 : decode cX8_costOfThing 23 = .ok (.getfield 10, 3) := by decide +kernel
theorem dX8_costOfThing_26 : decode cX8_costOfThing 26 = .ok (.getfield 153, 3) := by decide +kernel
theorem dX8_costOfThing_29 : decode cX8_costOfThing 29 = .ok (.iload_n 2, 1) := by decide +kernel
theorem dX8_costOfThing_30 : decode cX8_costOfThing 30 = .ok (.bipush 10, 2) := by decide +kernel
theorem dX8_costOfThing_32 : decode cX8_costOfThing 32 = .ok (.isub, 1) := by decide +kernel
theorem dX8_costOfThing_33 : decode cX8_costOfThing 33 = .ok (.aaload, 1) := by decide +kernel
theorem dX8_costOfThing_34 : decode cX8_costOfThing 34 = .ok (.iload_n 1, 1) := by decide +kernel
theorem dX8_costOfThing_35 : decode cX8_costOfThing 35 = .ok (.iaload, 1) := by decide +kernel
theorem dX8_costOfThing_36 : decode cX8_costOfThing 36 = .ok (.ireturn, 1) := by decide +kernel
theorem dX8_holdsCosts_0 : decode cX8_holdsCosts 0 = .ok (.iconst 0, 1) := by decide +kernel
theorem dX8_holdsCosts_1 : decode cX8_holdsCosts 1 = .ok (.istore_n 3, 1) := by decide +kernel
theorem dX8_holdsCosts_2 : decode cX8_holdsCosts 2 = .ok (.iload_n 3, 1) := by decide +kernel
theorem dX8_holdsCosts_3 : decode cX8_holdsCosts 3 = .ok (.aload_n 0, 1) := by decide +kernel
theorem dX8_holdsCosts_4 : decode cX8_holdsCosts 4 = .ok (.getfield 10, 3) := by decide +kernel
theorem dX8_holdsCosts_7 : decode cX8_holdsCosts 7 = .ok (.getfield 80, 3) := by decide +kernel
theorem dX8_holdsCosts_10 : decode cX8_holdsCosts 10 = .ok (.if_icmp .ge 26, 3) := by decide +kernel
theorem dX8_holdsCosts_13 : decode cX8_holdsCosts 13 = .ok (.aload_n 1, 1) := by decide +kernel
theorem dX8_holdsCosts_14 : decode cX8_holdsCosts 14 = .ok (.iload_n 2, 1) := by decide +kernel
theorem dX8_holdsCosts_15 : decode cX8_holdsCosts 15 = .ok (.i2l, 1) := by decide +kernel
theorem dX8_holdsCosts_16 : decode cX8_holdsCosts 16 = .ok (.iload_n 3, 1) := by decide +kernel
theorem dX8_holdsCosts_17 : decode cX8_holdsCosts 17 = .ok (.i2l, 1) := by decide +kernel
theorem dX8_holdsCosts_18 : decode cX8_holdsCosts 18 = .ok (.ladd, 1) := by decide +kernel
theorem dX8_holdsCosts_19 : decode cX8_holdsCosts 19 = .ok (.invokevirtual 157, 3) := by decide +kernel
theorem dX8_holdsCosts_22 : decode cX8_holdsCosts 22 = .ok (.invokestatic 111, 3) := by decide +kernel
theorem dX8_holdsCosts_25 : decode cX8_holdsCosts 25 = .ok (.ifCond .ne 5, 3) := by decide +kernel
theorem dX8_holdsCosts_28 : decode cX8_holdsCosts 28 = .ok (.iconst 0, 1) := by decide +kernel
theorem dX8_holdsCosts_29 : decode cX8_holdsCosts 29 = .ok (.ireturn, 1) := by decide +kernel
theorem dX8_holdsCosts_30 : decode cX8_holdsCosts 30 = .ok (.iinc 3 1, 3) := by decide +kernel
theorem dX8_holdsCosts_33 : decode cX8_holdsCosts 33 = .ok (.goto (-31), 3) := by decide +kernel
theorem dX8_holdsCosts_36 : decode cX8_holdsCosts 36 = .ok (.iconst 1, 1) := by decide +kernel
theorem dX8_holdsCosts_37 : decode cX8_holdsCosts 37 = .ok (.ireturn, 1) := by decide +kernel
theorem dX8_sheetsThere_0 : decode cX8_sheetsThere 0 = .ok (.iconst 0, 1) := by decide +kernel
theorem dX8_sheetsThere_1 : decode cX8_sheetsThere 1 = .ok (.istore_n 1, 1) := by decide +kernel
theorem dX8_sheetsThere_2 : decode cX8_sheetsThere 2 = .ok (.iconst 0, 1) := by decide +kernel
theorem dX8_sheetsThere_3 : decode cX8_sheetsThere 3 = .ok (.istore_n 2, 1) := by decide +kernel
theorem dX8_sheetsThere_4 : decode cX8_sheetsThere 4 = .ok (.iload_n 2, 1) := by decide +kernel
theorem dX8_sheetsThere_5 : decode cX8_sheetsThere 5 = .ok (.iconst 4, 1) := by decide +kernel
theorem dX8_sheetsThere_6 : decode cX8_sheetsThere 6 = .ok (.if_icmp .ge 24, 3) := by decide +kernel
theorem dX8_sheetsThere_9 : decode cX8_sheetsThere 9 = .ok (.aload_n 0, 1) := by decide +kernel
theorem dX8_sheetsThere_10 : decode cX8_sheetsThere 10 = .ok (.getfield 29, 3) := by decide +kernel
theorem dX8_sheetsThere_13 : decode cX8_sheetsThere 13 = .ok (.iload_n 2, 1) := by decide +kernel
theorem dX8_sheetsThere_14 : decode cX8_sheetsThere 14 = .ok (.aaload, 1) := by decide +kernel
theorem dX8_sheetsThere_15 : decode cX8_sheetsThere 15 = .ok (.invokevirtual 138, 3) := by decide +kernel
theorem dX8_sheetsThere_18 : decode cX8_sheetsThere 18 = .ok (.ifCond .ne 6, 3) := by decide +kernel
theorem dX8_sheetsThere_21 : decode cX8_sheetsThere 21 = .ok (.iinc 1 1, 3) := by decide +kernel
theorem dX8_sheetsThere_24 : decode cX8_sheetsThere 24 = .ok (.iinc 2 1, 3) := by decide +kernel
theorem dX8_sheetsThere_27 : decode cX8_sheetsThere 27 = .ok (.goto (-23), 3) := by decide +kernel
theorem dX8_sheetsThere_30 : decode cX8_sheetsThere 30 = .ok (.iload_n 1, 1) := by decide +kernel
theorem dX8_sheetsThere_31 : decode cX8_sheetsThere 31 = .ok (.ireturn, 1) := by decide +kernel
theorem dX8_isWithin_0 : decode cX8_isWithin 0 = .ok (.iload_n 0, 1) := by decide +kernel
theorem dX8_isWithin_1 : decode cX8_isWithin 1 = .ok (.ifCond .lt 12, 3) := by decide +kernel
theorem dX8_isWithin_4 : decode cX8_isWithin 4 = .ok (.iload_n 0, 1) := by decide +kernel
theorem dX8_isWithin_5 : decode cX8_isWithin 5 = .ok (.iload_n 1, 1) := by decide +kernel
theorem dX8_isWithin_6 : decode cX8_isWithin 6 = .ok (.if_icmp .ge 7, 3) := by decide +kernel
theorem dX8_isWithin_9 : decode cX8_isWithin 9 = .ok (.iconst 1, 1) := by decide +kernel
theorem dX8_isWithin_10 : decode cX8_isWithin 10 = .ok (.goto 4, 3) := by decide +kernel
theorem dX8_isWithin_13 : decode cX8_isWithin 13 = .ok (.iconst 0, 1) := by decide +kernel
theorem dX8_isWithin_14 : decode cX8_isWithin 14 = .ok (.ireturn, 1) := by decide +kernel
theorem dX8_isCost_0 : decode cX8_isCost 0 = .ok (.iload_n 0, 1) := by decide +kernel
theorem dX8_isCost_1 : decode cX8_isCost 1 = .ok (.ifCond .lt 14, 3) := by decide +kernel
theorem dX8_isCost_4 : decode cX8_isCost 4 = .ok (.iload_n 0, 1) := by decide +kernel
theorem dX8_isCost_5 : decode cX8_isCost 5 = .ok (.sipush 1000, 3) := by decide +kernel
theorem dX8_isCost_8 : decode cX8_isCost 8 = .ok (.if_icmp .gt 7, 3) := by decide +kernel
theorem dX8_isCost_11 : decode cX8_isCost 11 = .ok (.iconst 1, 1) := by decide +kernel
theorem dX8_isCost_12 : decode cX8_isCost 12 = .ok (.goto 4, 3) := by decide +kernel
theorem dX8_isCost_15 : decode cX8_isCost 15 = .ok (.iconst 0, 1) := by decide +kernel
theorem dX8_isCost_16 : decode cX8_isCost 16 = .ok (.ireturn, 1) := by decide +kernel
theorem dX8_areEnds_0 : decode cX8_areEnds 0 = .ok (.iload_n 0, 1) := by decide +kernel
theorem dX8_areEnds_1 : decode cX8_areEnds 1 = .ok (.invokestatic 111, 3) := by decide +kernel
theorem dX8_areEnds_4 : decode cX8_areEnds 4 = .ok (.ifCond .eq 19, 3) := by decide +kernel
theorem dX8_areEnds_7 : decode cX8_areEnds 7 = .ok (.iload_n 1, 1) := by decide +kernel
theorem dX8_areEnds_8 : decode cX8_areEnds 8 = .ok (.invokestatic 111, 3) := by decide +kernel
theorem dX8_areEnds_11 : decode cX8_areEnds 11 = .ok (.ifCond .eq 12, 3) := by decide +kernel
theorem dX8_areEnds_14 : decode cX8_areEnds 14 = .ok (.iload_n 0, 1) := by decide +kernel
theorem dX8_areEnds_15 : decode cX8_areEnds 15 = .ok (.iload_n 1, 1) := by decide +kernel
theorem dX8_areEnds_16 : decode cX8_areEnds 16 = .ok (.if_icmp .gt 7, 3) := by decide +kernel
theorem dX8_areEnds_19 : decode cX8_areEnds 19 = .ok (.iconst 1, 1) := by decide +kernel
theorem dX8_areEnds_20 : decode cX8_areEnds 20 = .ok (.goto 4, 3) := by decide +kernel
theorem dX8_areEnds_23 : decode cX8_areEnds 23 = .ok (.iconst 0, 1) := by decide +kernel
theorem dX8_areEnds_24 : decode cX8_areEnds 24 = .ok (.ireturn, 1) := by decide +kernel
theorem dX8_isFew_0 : decode cX8_isFew 0 = .ok (.iload_n 0, 1) := by decide +kernel
theorem dX8_isFew_1 : decode cX8_isFew 1 = .ok (.ifCond .lt 13, 3) := by decide +kernel
theorem dX8_isFew_4 : decode cX8_isFew 4 = .ok (.iload_n 0, 1) := by decide +kernel
theorem dX8_isFew_5 : decode cX8_isFew 5 = .ok (.bipush 12, 2) := by decide +kernel
theorem dX8_isFew_7 : decode cX8_isFew 7 = .ok (.if_icmp .gt 7, 3) := by decide +kernel
theorem dX8_isFew_10 : decode cX8_isFew 10 = .ok (.iconst 1, 1) := by decide +kernel
theorem dX8_isFew_11 : decode cX8_isFew 11 = .ok (.goto 4, 3) := by decide +kernel
theorem dX8_isFew_14 : decode cX8_isFew 14 = .ok (.iconst 0, 1) := by decide +kernel
theorem dX8_isFew_15 : decode cX8_isFew 15 = .ok (.ireturn, 1) := by decide +kernel
theorem dX8_firstLeast_0 : decode cX8_firstLeast 0 = .ok (.iconst (-1), 1) := by decide +kernel
theorem dX8_firstLeast_1 : decode cX8_firstLeast 1 = .ok (.istore_n 2, 1) := by decide +kernel
theorem dX8_firstLeast_2 : decode cX8_firstLeast 2 = .ok (.iconst 0, 1) := by decide +kernel
theorem dX8_firstLeast_3 : decode cX8_firstLeast 3 = .ok (.istore_n 3, 1) := by decide +kernel
theorem dX8_firstLeast_4 : decode cX8_firstLeast 4 = .ok (.iload_n 3, 1) := by decide +kernel
theorem dX8_firstLeast_5 : decode cX8_firstLeast 5 = .ok (.iload_n 1, 1) := by decide +kernel
theorem dX8_firstLeast_6 : decode cX8_firstLeast 6 = .ok (.if_icmp .ge 25, 3) := by decide +kernel
theorem dX8_firstLeast_9 : decode cX8_firstLeast 9 = .ok (.iload_n 2, 1) := by decide +kernel
theorem dX8_firstLeast_10 : decode cX8_firstLeast 10 = .ok (.iconst (-1), 1) := by decide +kernel
theorem dX8_firstLeast_11 : decode cX8_firstLeast 11 = .ok (.if_icmp .eq 12, 3) := by decide +kernel
theorem dX8_firstLeast_14 : decode cX8_firstLeast 14 = .ok (.aload_n 0, 1) := by decide +kernel
theorem dX8_firstLeast_15 : decode cX8_firstLeast 15 = .ok (.iload_n 3, 1) := by decide +kernel
theorem dX8_firstLeast_16 : decode cX8_firstLeast 16 = .ok (.iaload, 1) := by decide +kernel
theorem dX8_firstLeast_17 : decode cX8_firstLeast 17 = .ok (.aload_n 0, 1) := by decide +kernel
theorem dX8_firstLeast_18 : decode cX8_firstLeast 18 = .ok (.iload_n 2, 1) := by decide +kernel
theorem dX8_firstLeast_19 : decode cX8_firstLeast 19 = .ok (.iaload, 1) := by decide +kernel
theorem dX8_firstLeast_20 : decode cX8_firstLeast 20 = .ok (.if_icmp .ge 5, 3) := by decide +kernel
theorem dX8_firstLeast_23 : decode cX8_firstLeast 23 = .ok (.iload_n 3, 1) := by decide +kernel
theorem dX8_firstLeast_24 : decode cX8_firstLeast 24 = .ok (.istore_n 2, 1) := by decide +kernel
theorem dX8_firstLeast_25 : decode cX8_firstLeast 25 = .ok (.iinc 3 1, 3) := by decide +kernel
theorem dX8_firstLeast_28 : decode cX8_firstLeast 28 = .ok (.goto (-24), 3) := by decide +kernel
theorem dX8_firstLeast_31 : decode cX8_firstLeast 31 = .ok (.iload_n 2, 1) := by decide +kernel
theorem dX8_firstLeast_32 : decode cX8_firstLeast 32 = .ok (.ireturn, 1) := by decide +kernel
theorem dX9_in_0 : decode cX9_in 0 = .ok (.iload_n 0, 1) := by decide +kernel
theorem dX9_in_1 : decode cX9_in 1 = .ok (.iload_n 1, 1) := by decide +kernel
theorem dX9_in_2 : decode cX9_in 2 = .ok (.if_icmp .lt 12, 3) := by decide +kernel
theorem dX9_in_5 : decode cX9_in 5 = .ok (.iload_n 0, 1) := by decide +kernel
theorem dX9_in_6 : decode cX9_in 6 = .ok (.iload_n 2, 1) := by decide +kernel
theorem dX9_in_7 : decode cX9_in 7 = .ok (.if_icmp .gt 7, 3) := by decide +kernel
theorem dX9_in_10 : decode cX9_in 10 = .ok (.iconst 1, 1) := by decide +kernel
theorem dX9_in_11 : decode cX9_in 11 = .ok (.goto 4, 3) := by decide +kernel
theorem dX9_in_14 : decode cX9_in 14 = .ok (.iconst 0, 1) := by decide +kernel
theorem dX9_in_15 : decode cX9_in 15 = .ok (.ireturn, 1) := by decide +kernel
theorem dX9_tells_0 : decode cX9_tells 0 = .ok (.aload_n 0, 1) := by decide +kernel
theorem dX9_tells_1 : decode cX9_tells 1 = .ok (.iload_n 1, 1) := by decide +kernel
theorem dX9_tells_2 : decode cX9_tells 2 = .ok (.ifCond .ge 7, 3) := by decide +kernel
theorem dX9_tells_5 : decode cX9_tells 5 = .ok (.iload_n 1, 1) := by decide +kernel
theorem dX9_tells_6 : decode cX9_tells 6 = .ok (.goto 4, 3) := by decide +kernel
theorem dX9_tells_9 : decode cX9_tells 9 = .ok (.iconst 0, 1) := by decide +kernel
theorem dX9_tells_10 : decode cX9_tells 10 = .ok (.putfield 1, 3) := by decide +kernel
theorem dX9_tells_13 : decode cX9_tells 13 = .ok (.iload_n 1, 1) := by decide +kernel
theorem dX9_tells_14 : decode cX9_tells 14 = .ok (.ireturn, 1) := by decide +kernel
theorem dX9_init_0 : decode cX9_init 0 = .ok (.aload_n 0, 1) := by decide +kernel
theorem dX9_init_1 : decode cX9_init 1 = .ok (.invokespecial 7, 3) := by decide +kernel
theorem dX9_init_4 : decode cX9_init 4 = .ok (.aload_n 0, 1) := by decide +kernel
theorem dX9_init_5 : decode cX9_init 5 = .ok (.bipush 12, 2) := by decide +kernel
theorem dX9_init_7 : decode cX9_init 7 = .ok (.newarray .int, 2) := by decide +kernel
theorem dX9_init_9 : decode cX9_init 9 = .ok (.putfield 13, 3) := by decide +kernel
theorem dX9_init_12 : decode cX9_init 12 = .ok (.aload_n 0, 1) := by decide +kernel
theorem dX9_init_13 : decode cX9_init 13 = .ok (.bipush 12, 2) := by decide +kernel
theorem dX9_init_15 : decode cX9_init 15 = .ok (.newarray .int, 2) := by decide +kernel
theorem dX9_init_17 : decode cX9_init 17 = .ok (.putfield 17, 3) := by decide +kernel
theorem dX9_init_20 : decode cX9_init 20 = .ok (.aload_n 0, 1) := by decide +kernel
theorem dX9_init_21 : decode cX9_init 21 = .ok (.bipush 12, 2) := by decide +kernel
theorem dX9_init_23 : decode cX9_init 23 = .ok (.newarray .int, 2) := by decide +kernel
theorem dX9_init_25 : decode cX9_init 25 = .ok (.putfield 20, 3) := by decide +kernel
theorem dX9_init_28 : decode cX9_init 28 = .ok (.aload_n 0, 1) := by decide +kernel
theorem dX9_init_29 : decode cX9_init 29 = .ok (.bipush 12, 2) := by decide +kernel
theorem dX9_init_31 : decode cX9_init 31 = .ok (.newarray .int, 2) := by decide +kernel
theorem dX9_init_33 : decode cX9_init 33 = .ok (.putfield 23, 3) := by decide +kernel
theorem dX9_init_36 : decode cX9_init 36 = .ok (.aload_n 0, 1) := by decide +kernel
theorem dX9_init_37 : decode cX9_init 37 = .ok (.bipush 12, 2) := by decide +kernel
theorem dX9_init_39 : decode cX9_init 39 = .ok (.newarray .int, 2) := by decide +kernel
theorem dX9_init_41 : decode cX9_init 41 = .ok (.putfield 26, 3) := by decide +kernel
theorem dX9_init_44 : decode cX9_init 44 = .ok (.aload_n 0, 1) := by decide +kernel
theorem dX9_init_45 : decode cX9_init 45 = .ok (.bipush 8, 2) := by decide +kernel
theorem dX9_init_47 : decode cX9_init 47 = .ok (.newarray .boolean, 2) := by decide +kernel
theorem dX9_init_49 : decode cX9_init 49 = .ok (.putfield 29, 3) := by decide +kernel
theorem dX9_init_52 : decode cX9_init 52 = .ok (.aload_n 0, 1) := by decide +kernel
theorem dX9_init_53 : decode cX9_init 53 = .ok (.bipush 96, 2) := by decide +kernel
theorem dX9_init_55 : decode cX9_init 55 = .ok (.newarray .int, 2) := by decide +kernel
theorem dX9_init_57 : decode cX9_init 57 = .ok (.putfield 33, 3) := by decide +kernel
theorem dX9_init_60 : decode cX9_init 60 = .ok (.aload_n 0, 1) := by decide +kernel
theorem dX9_init_61 : decode cX9_init 61 = .ok (.sipush 501, 3) := by decide +kernel
theorem dX9_init_64 : decode cX9_init 64 = .ok (.newarray .int, 2) := by decide +kernel
theorem dX9_init_66 : decode cX9_init 66 = .ok (.putfield 36, 3) := by decide +kernel
theorem dX9_init_69 : decode cX9_init 69 = .ok (.aload_n 0, 1) := by decide +kernel
theorem dX9_init_70 : decode cX9_init 70 = .ok (.iconst 4, 1) := by decide +kernel
theorem dX9_init_71 : decode cX9_init 71 = .ok (.newarray .int, 2) := by decide +kernel
theorem dX9_init_73 : decode cX9_init 73 = .ok (.putfield 39, 3) := by decide +kernel
theorem dX9_init_76 : decode cX9_init 76 = .ok (.aload_n 0, 1) := by decide +kernel
theorem dX9_init_77 : decode cX9_init 77 = .ok (.iconst 4, 1) := by decide +kernel
theorem dX9_init_78 : decode cX9_init 78 = .ok (.newarray .int, 2) := by decide +kernel
theorem dX9_init_80 : decode cX9_init 80 = .ok (.dup, 1) := by decide +kernel
theorem dX9_init_81 : decode cX9_init 81 = .ok (.iconst 0, 1) := by decide +kernel
theorem dX9_init_82 : decode cX9_init 82 = .ok (.iconst (-1), 1) := by decide +kernel
theorem dX9_init_83 : decode cX9_init 83 = .ok (.iastore, 1) := by decide +kernel
theorem dX9_init_84 : decode cX9_init 84 = .ok (.dup, 1) := by decide +kernel
theorem dX9_init_85 : decode cX9_init 85 = .ok (.iconst 1, 1) := by decide +kernel
theorem dX9_init_86 : decode cX9_init 86 = .ok (.iconst (-1), 1) := by decide +kernel
theorem dX9_init_87 : decode cX9_init 87 = .ok (.iastore, 1) := by decide +kernel
theorem dX9_init_88 : decode cX9_init 88 = .ok (.dup, 1) := by decide +kernel
theorem dX9_init_89 : decode cX9_init 89 = .ok (.iconst 2, 1) := by decide +kernel
theorem dX9_init_90 : decode cX9_init 90 = .ok (.iconst (-1), 1) := by decide +kernel
theorem dX9_init_91 : decode cX9_init 91 = .ok (.iastore, 1) := by decide +kernel
theorem dX9_init_92 : decode cX9_init 92 = .ok (.dup, 1) := by decide +kernel
theorem dX9_init_93 : decode cX9_init 93 = .ok (.iconst 3, 1) := by decide +kernel
theorem dX9_init_94 : decode cX9_init 94 = .ok (.iconst (-1), 1) := by decide +kernel
theorem dX9_init_95 : decode cX9_init 95 = .ok (.iastore, 1) := by decide +kernel
theorem dX9_init_96 : decode cX9_init 96 = .ok (.putfield 42, 3) := by decide +kernel
theorem dX9_init_99 : decode cX9_init 99 = .ok (.aload_n 0, 1) := by decide +kernel
theorem dX9_init_100 : decode cX9_init 100 = .ok (.sipush 400, 3) := by decide +kernel
theorem dX9_init_103 : decode cX9_init 103 = .ok (.newarray .int, 2) := by decide +kernel
theorem dX9_init_105 : decode cX9_init 105 = .ok (.putfield 45, 3) := by decide +kernel
theorem dX9_init_108 : decode cX9_init 108 = .ok (.aload_n 0, 1) := by decide +kernel
theorem dX9_init_109 : decode cX9_init 109 = .ok (.sipush 500, 3) := by decide +kernel
theorem dX9_init_112 : decode cX9_init 112 = .ok (.newarray .int, 2) := by decide +kernel
theorem dX9_init_114 : decode cX9_init 114 = .ok (.putfield 48, 3) := by decide +kernel
theorem dX9_init_117 : decode cX9_init 117 = .ok (.aload_n 0, 1) := by decide +kernel
theorem dX9_init_118 : decode cX9_init 118 = .ok (.sipush 500, 3) := by decide +kernel
theorem dX9_init_121 : decode cX9_init 121 = .ok (.newarray .int, 2) := by decide +kernel
theorem dX9_init_123 : decode cX9_init 123 = .ok (.putfield 51, 3) := by decide +kernel
theorem dX9_init_126 : decode cX9_init 126 = .ok (.aload_n 0, 1) := by decide +kernel
theorem dX9_init_127 : decode cX9_init 127 = .ok (.sipush 500, 3) := by decide +kernel
theorem dX9_init_130 : decode cX9_init 130 = .ok (.newarray .int, 2) := by decide +kernel
theorem dX9_init_132 : decode cX9_init 132 = .ok (.putfield 54, 3) := by decide +kernel
theorem dX9_init_135 : decode cX9_init 135 = .ok (.aload_n 0, 1) := by decide +kernel
theorem dX9_init_136 : decode cX9_init 136 = .ok (.iconst 3, 1) := by decide +kernel
theorem dX9_init_137 : decode cX9_init 137 = .ok (.newarray .boolean, 2) := by decide +kernel
theorem dX9_init_139 : decode cX9_init 139 = .ok (.putfield 57, 3) := by decide +kernel
theorem dX9_init_142 : decode cX9_init 142 = .ok (.aload_n 0, 1) := by decide +kernel
theorem dX9_init_143 : decode cX9_init 143 = .ok (.sipush 600, 3) := by decide +kernel
theorem dX9_init_146 : decode cX9_init 146 = .ok (.newarray .int, 2) := by decide +kernel
theorem dX9_init_148 : decode cX9_init 148 = .ok (.putfield 60, 3) := by decide +kernel
theorem dX9_init_151 : decode cX9_init 151 = .ok (.aload_n 0, 1) := by decide +kernel
theorem dX9_init_152 : decode cX9_init 152 = .ok (.invokevirtual 63, 3) := by decide +kernel
theorem dX9_init_155 : decode cX9_init 155 = .ok (.pop, 1) := by decide +kernel
theorem dX9_init_156 : decode cX9_init 156 = .ok (.return_, 1) := by decide +kernel
theorem dX9_isThing_0 : decode cX9_isThing 0 = .ok (.iload_n 1, 1) := by decide +kernel
theorem dX9_isThing_1 : decode cX9_isThing 1 = .ok (.iconst 0, 1) := by decide +kernel
theorem dX9_isThing_2 : decode cX9_isThing 2 = .ok (.aload_n 0, 1) := by decide +kernel
theorem dX9_isThing_3 : decode cX9_isThing 3 = .ok (.getfield 67, 3) := by decide +kernel
theorem dX9_isThing_6 : decode cX9_isThing 6 = .ok (.iconst 1, 1) := by decide +kernel
theorem dX9_isThing_7 : decode cX9_isThing 7 = .ok (.isub, 1) := by decide +kernel
theorem dX9_isThing_8 : decode cX9_isThing 8 = .ok (.invokestatic 70, 3) := by decide +kernel
theorem dX9_isThing_11 : decode cX9_isThing 11 = .ok (.ireturn, 1) := by decide +kernel
theorem dX9_has_0 : decode cX9_has 0 = .ok (.iload_n 0, 1) := by decide +kernel
theorem dX9_has_1 : decode cX9_has 1 = .ok (.iload_n 1, 1) := by decide +kernel
theorem dX9_has_2 : decode cX9_has 2 = .ok (.ishr, 1) := by decide +kernel
theorem dX9_has_3 : decode cX9_has 3 = .ok (.iconst 1, 1) := by decide +kernel
theorem dX9_has_4 : decode cX9_has 4 = .ok (.iand, 1) := by decide +kernel
theorem dX9_has_5 : decode cX9_has 5 = .ok (.iconst 1, 1) := by decide +kernel
theorem dX9_has_6 : decode cX9_has 6 = .ok (.if_icmp .ne 7, 3) := by decide +kernel
theorem dX9_has_9 : decode cX9_has 9 = .ok (.iconst 1, 1) := by decide +kernel
theorem dX9_has_10 : decode cX9_has 10 = .ok (.goto 4, 3) := by decide +kernel
theorem dX9_has_13 : decode cX9_has 13 = .ok (.iconst 0, 1) := by decide +kernel
theorem dX9_has_14 : decode cX9_has 14 = .ok (.ireturn, 1) := by decide +kernel
theorem dX9_size_0 : decode cX9_size 0 = .ok (.iconst 0, 1) := by decide +kernel
theorem dX9_size_1 : decode cX9_size 1 = .ok (.istore_n 1, 1) := by decide +kernel
theorem dX9_size_2 : decode cX9_size 2 = .ok (.iconst 0, 1) := by decide +kernel
theorem dX9_size_3 : decode cX9_size 3 = .ok (.istore_n 2, 1) := by decide +kernel
theorem dX9_size_4 : decode cX9_size 4 = .ok (.iload_n 2, 1) := by decide +kernel
theorem dX9_size_5 : decode cX9_size 5 = .ok (.bipush 12, 2) := by decide +kernel
theorem dX9_size_7 : decode cX9_size 7 = .ok (.if_icmp .ge 25, 3) := by decide +kernel
theorem dX9_size_10 : decode cX9_size 10 = .ok (.iload_n 1, 1) := by decide +kernel
theorem dX9_size_11 : decode cX9_size 11 = .ok (.iload_n 0, 1) := by decide +kernel
theorem dX9_size_12 : decode cX9_size 12 = .ok (.iload_n 2, 1) := by decide +kernel
theorem dX9_size_13 : decode cX9_size 13 = .ok (.invokestatic 74, 3) := by decide +kernel
theorem dX9_size_16 : decode cX9_size 16 = .ok (.ifCond .eq 7, 3) := by decide +kernel
theorem dX9_size_19 : decode cX9_size 19 = .ok (.iconst 1, 1) := by decide +kernel
theorem dX9_size_20 : decode cX9_size 20 = .ok (.goto 4, 3) := by decide +kernel
theorem dX9_size_23 : decode cX9_size 23 = .ok (.iconst 0, 1) := by decide +kernel
theorem dX9_size_24 : decode cX9_size 24 = .ok (.iadd, 1) := by decide +kernel
theorem dX9_size_25 : decode cX9_size 25 = .ok (.istore_n 1, 1) := by decide +kernel
theorem dX9_size_26 : decode cX9_size 26 = .ok (.iinc 2 1, 3) := by decide +kernel
theorem dX9_size_29 : decode cX9_size 29 = .ok (.goto (-25), 3) := by decide +kernel
theorem dX9_size_32 : decode cX9_size 32 = .ok (.iload_n 1, 1) := by decide +kernel
theorem dX9_size_33 : decode cX9_size 33 = .ok (.ireturn, 1) := by decide +kernel
theorem dX9_reached_0 : decode cX9_reached 0 = .ok (.iconst 1, 1) := by decide +kernel
theorem dX9_reached_1 : decode cX9_reached 1 = .ok (.istore_n 2, 1) := by decide +kernel
theorem dX9_reached_2 : decode cX9_reached 2 = .ok (.iconst 0, 1) := by decide +kernel
theorem dX9_reached_3 : decode cX9_reached 3 = .ok (.istore_n 3, 1) := by decide +kernel
theorem dX9_reached_4 : decode cX9_reached 4 = .ok (.iload_n 3, 1) := by decide +kernel
theorem dX9_reached_5 : decode cX9_reached 5 = .ok (.bipush 6, 2) := by decide +kernel
theorem dX9_reached_7 : decode cX9_reached 7 = .ok (.if_icmp .ge 89, 3) := by decide +kernel
theorem dX9_reached_10 : decode cX9_reached 10 = .ok (.iconst 0, 1) := by decide +kernel
theorem dX9_reached_11 : decode cX9_reached 11 = .ok (.istore 4, 2) := by decide +kernel
theorem dX9_reached_13 : decode cX9_reached 13 = .ok (.iload 4, 2) := by decide +kernel
theorem dX9_reached_15 : decode cX9_reached 15 = .ok (.aload_n 0, 1) := by decide +kernel
theorem dX9_reached_16 : decode cX9_reached 16 = .ok (.getfield 67, 3) := by decide +kernel
theorem dX9_reached_19 : decode cX9_reached 19 = .ok (.if_icmp .ge 71, 3) := by decide +kernel
theorem dX9_reached_22 : decode cX9_reached 22 = .ok (.iload_n 1, 1) := by decide +kernel
theorem dX9_reached_23 : decode cX9_reached 23 = .ok (.iload 4, 2) := by decide +kernel
theorem dX9_reached_25 : decode cX9_reached 25 = .ok (.invokestatic 74, 3) := by decide +kernel
theorem dX9_reached_28 : decode cX9_reached 28 = .ok (.ifCond .ne 6, 3) := by decide +kernel
theorem dX9_reached_31 : decode cX9_reached 31 = .ok (.goto 53, 3) := by decide +kernel
theorem dX9_reached_34 : decode cX9_reached 34 = .ok (.iload_n 2, 1) := by decide +kernel
theorem dX9_reached_35 : decode cX9_reached 35 = .ok (.aload_n 0, 1) := by decide +kernel
theorem dX9_reached_36 : decode cX9_reached 36 = .ok (.getfield 20, 3) := by decide +kernel
theorem dX9_reached_39 : decode cX9_reached 39 = .ok (.iload 4, 2) := by decide +kernel
theorem dX9_reached_41 : decode cX9_reached 41 = .ok (.iaload, 1) := by decide +kernel
theorem dX9_reached_42 : decode cX9_reached 42 = .ok (.invokestatic 74, 3) := by decide +kernel
theorem dX9_reached_45 : decode cX9_reached 45 = .ok (.ifCond .ne 17, 3) := by decide +kernel
theorem dX9_reached_48 : decode cX9_reached 48 = .ok (.iload_n 2, 1) := by decide +kernel
theorem dX9_reached_49 : decode cX9_reached 49 = .ok (.aload_n 0, 1) := by decide +kernel
theorem dX9_reached_50 : decode cX9_reached 50 = .ok (.getfield 23, 3) := by decide +kernel
theorem dX9_reached_53 : decode cX9_reached 53 = .ok (.iload 4, 2) := by decide +kernel
theorem dX9_reached_55 : decode cX9_reached 55 = .ok (.iaload, 1) := by decide +kernel
theorem dX9_reached_56 : decode cX9_reached 56 = .ok (.invokestatic 74, 3) := by decide +kernel
theorem dX9_reached_59 : decode cX9_reached 59 = .ok (.ifCond .eq 25, 3) := by decide +kernel
theorem dX9_reached_62 : decode cX9_reached 62 = .ok (.iload_n 2, 1) := by decide +kernel
theorem dX9_reached_63 : decode cX9_reached 63 = .ok (.iconst 1, 1) := by decide +kernel
theorem dX9_reached_64 : decode cX9_reached 64 = .ok (.aload_n 0, 1) := by decide +kernel
theorem dX9_reached_65 : decode cX9_reached 65 = .ok (.getfield 20, 3) := by decide +kernel
theorem dX9_reached_68 : decode cX9_reached 68 = .ok (.iload 4, 2) := by decide +kernel
theorem dX9_reached_70 : decode cX9_reached 70 = .ok (.iaload, 1) := by decide +kernel
theorem dX9_reached_71 : decode cX9_reached 71 = .ok (.ishl, 1) := by decide +kernel
theorem dX9_reached_72 : decode cX9_reached 72 = .ok (.iconst 1, 1) := by decide +kernel
theorem dX9_reached_73 : decode cX9_reached 73 = .ok (.aload_n 0, 1) := by decide +kernel
theorem dX9_reached_74 : decode cX9_reached 74 = .ok (.getfield 23, 3) := by decide +kernel
theorem dX9_reached_77 : decode cX9_reached 77 = .ok (.iload 4, 2) := by decide +kernel
theorem dX9_reached_79 : decode cX9_reached 79 = .ok (.iaload, 1) := by decide +kernel
theorem dX9_reached_80 : decode cX9_reached 80 = .ok (.ishl, 1) := by decide +kernel
theorem dX9_reached_81 : decode cX9_reached 81 = .ok (.ior, 1) := by decide +kernel
theorem dX9_reached_82 : decode cX9_reached 82 = .ok (.ior, 1) := by decide +kernel
theorem dX9_reached_83 : decode cX9_reached 83 = .ok (.istore_n 2, 1) := by decide +kernel
theorem dX9_reached_84 : decode cX9_reached 84 = .ok (.iinc 4 1, 3) := by decide +kernel
theorem dX9_reached_87 : decode cX9_reached 87 = .ok (.goto (-74), 3) := by decide +kernel
theorem dX9_reached_90 : decode cX9_reached 90 = .ok (.iinc 3 1, 3) := by decide +kernel
theorem dX9_reached_93 : decode cX9_reached 93 = .ok (.goto (-89), 3) := by decide +kernel
theorem dX9_reached_96 : decode cX9_reached 96 = .ok (.iload_n 2, 1) := by decide +kernel
theorem dX9_reached_97 : decode cX9_reached 97 = .ok (.ireturn, 1) := by decide +kernel
theorem dX9_isWay_0 : decode cX9_isWay 0 = .ok (.aload_n 0, 1) := by decide +kernel
theorem dX9_isWay_1 : decode cX9_isWay 1 = .ok (.iload_n 1, 1) := by decide +kernel
theorem dX9_isWay_2 : decode cX9_isWay 2 = .ok (.invokevirtual 78, 3) := by decide +kernel
theorem dX9_isWay_5 : decode cX9_isWay 5 = .ok (.istore_n 2, 1) := by decide +kernel
theorem dX9_isWay_6 : decode cX9_isWay 6 = .ok (.iconst 0, 1) := by decide +kernel
theorem dX9_isWay_7 : decode cX9_isWay 7 = .ok (.istore_n 3, 1) := by decide +kernel
theorem dX9_isWay_8 : decode cX9_isWay 8 = .ok (.iload_n 3, 1) := by decide +kernel
theorem dX9_isWay_9 : decode cX9_isWay 9 = .ok (.bipush 6, 2) := by decide +kernel
theorem dX9_isWay_11 : decode cX9_isWay 11 = .ok (.if_icmp .ge 141, 3) := by decide +kernel
theorem dX9_isWay_14 : decode cX9_isWay 14 = .ok (.iconst 0, 1) := by decide +kernel
theorem dX9_isWay_15 : decode cX9_isWay 15 = .ok (.istore 4, 2) := by decide +kernel
theorem dX9_isWay_17 : decode cX9_isWay 17 = .ok (.iconst 0, 1) := by decide +kernel
theorem dX9_isWay_18 : decode cX9_isWay 18 = .ok (.istore 5, 2) := by decide +kernel
theorem dX9_isWay_20 : decode cX9_isWay 20 = .ok (.iload 5, 2) := by decide +kernel
theorem dX9_isWay_22 : decode cX9_isWay 22 = .ok (.aload_n 0, 1) := by decide +kernel
theorem dX9_isWay_23 : decode cX9_isWay 23 = .ok (.getfield 67, 3) := by decide +kernel
theorem dX9_isWay_26 : decode cX9_isWay 26 = .ok (.if_icmp .ge 86, 3) := by decide +kernel
theorem dX9_isWay_29 : decode cX9_isWay 29 = .ok (.iload_n 1, 1) := by decide +kernel
theorem dX9_isWay_30 : decode cX9_isWay 30 = .ok (.iload 5, 2) := by decide +kernel
theorem dX9_isWay_32 : decode cX9_isWay 32 = .ok (.invokestatic 74, 3) := by decide +kernel
theorem dX9_isWay_35 : decode cX9_isWay 35 = .ok (.ifCond .ne 6, 3) := by decide +kernel
theorem dX9_isWay_38 : decode cX9_isWay 38 = .ok (.goto 68, 3) := by decide +kernel
theorem dX9_isWay_41 : decode cX9_isWay 41 = .ok (.aload_n 0, 1) := by decide +kernel
theorem dX9_isWay_42 : decode cX9_isWay 42 = .ok (.getfield 20, 3) := by decide +kernel
theorem dX9_isWay_45 : decode cX9_isWay 45 = .ok (.iload 5, 2) := by decide +kernel
theorem dX9_isWay_47 : decode cX9_isWay 47 = .ok (.iaload, 1) := by decide +kernel
theorem dX9_isWay_48 : decode cX9_isWay 48 = .ok (.aload_n 0, 1) := by decide +kernel
theorem dX9_isWay_49 : decode cX9_isWay 49 = .ok (.getfield 23, 3) := by decide +kernel
theorem dX9_isWay_52 : decode cX9_isWay 52 = .ok (.iload 5, 2) := by decide +kernel
theorem dX9_isWay_54 : decode cX9_isWay 54 = .ok (.iaload, 1) := by decide +kernel
theorem dX9_isWay_55 : decode cX9_isWay 55 = .ok (.if_icmp .eq 17, 3) := by decide +kernel
theorem dX9_isWay_58 : decode cX9_isWay 58 = .ok (.iload_n 2, 1) := by decide +kernel
theorem dX9_isWay_59 : decode cX9_isWay 59 = .ok (.aload_n 0, 1) := by decide +kernel
theorem dX9_isWay_60 : decode cX9_isWay 60 = .ok (.getfield 20, 3) := by decide +kernel
theorem dX9_isWay_63 : decode cX9_isWay 63 = .ok (.iload 5, 2) := by decide +kernel
theorem dX9_isWay_65 : decode cX9_isWay 65 = .ok (.iaload, 1) := by decide +kernel
theorem dX9_isWay_66 : decode cX9_isWay 66 = .ok (.invokestatic 74, 3) := by decide +kernel
theorem dX9_isWay_69 : decode cX9_isWay 69 = .ok (.ifCond .ne 5, 3) := by decide +kernel
theorem dX9_isWay_72 : decode cX9_isWay 72 = .ok (.iconst 0, 1) := by decide +kernel
theorem dX9_isWay_73 : decode cX9_isWay 73 = .ok (.ireturn, 1) := by decide +kernel
theorem dX9_isWay_74 : decode cX9_isWay 74 = .ok (.iload 4, 2) := by decide +kernel
theorem dX9_isWay_76 : decode cX9_isWay 76 = .ok (.aload_n 0, 1) := by decide +kernel
theorem dX9_isWay_77 : decode cX9_isWay 77 = .ok (.getfield 20, 3) := by decide +kernel
theorem dX9_isWay_80 : decode cX9_isWay 80 = .ok (.iload 5, 2) := by decide +kernel
theorem dX9_isWay_82 : decode cX9_isWay 82 = .ok (.iaload, 1) := by decide +kernel
theorem dX9_isWay_83 : decode cX9_isWay 83 = .ok (.iload_n 3, 1) := by decide +kernel
theorem dX9_isWay_84 : decode cX9_isWay 84 = .ok (.if_icmp .eq 14, 3) := by decide +kernel
theorem dX9_isWay_87 : decode cX9_isWay 87 = .ok (.aload_n 0, 1) := by decide +kernel
theorem dX9_isWay_88 : decode cX9_isWay 88 = .ok (.getfield 23, 3) := by decide +kernel
theorem dX9_isWay_91 : decode cX9_isWay 91 = .ok (.iload 5, 2) := by decide +kernel
theorem dX9_isWay_93 : decode cX9_isWay 93 = .ok (.iaload, 1) := by decide +kernel
theorem dX9_isWay_94 : decode cX9_isWay 94 = .ok (.iload_n 3, 1) := by decide +kernel
theorem dX9_isWay_95 : decode cX9_isWay 95 = .ok (.if_icmp .ne 7, 3) := by decide +kernel
theorem dX9_isWay_98 : decode cX9_isWay 98 = .ok (.iconst 1, 1) := by decide +kernel
theorem dX9_isWay_99 : decode cX9_isWay 99 = .ok (.goto 4, 3) := by decide +kernel
theorem dX9_isWay_102 : decode cX9_isWay 102 = .ok (.iconst 0, 1) := by decide +kernel
theorem dX9_isWay_103 : decode cX9_isWay 103 = .ok (.iadd, 1) := by decide +kernel
theorem dX9_isWay_104 : decode cX9_isWay 104 = .ok (.istore 4, 2) := by decide +kernel
theorem dX9_isWay_106 : decode cX9_isWay 106 = .ok (.iinc 5 1, 3) := by decide +kernel
theorem dX9_isWay_109 : decode cX9_isWay 109 = .ok (.goto (-89), 3) := by decide +kernel
theorem dX9_isWay_112 : decode cX9_isWay 112 = .ok (.iload_n 3, 1) := by decide +kernel
theorem dX9_isWay_113 : decode cX9_isWay 113 = .ok (.ifCond .eq 11, 3) := by decide +kernel
theorem dX9_isWay_116 : decode cX9_isWay 116 = .ok (.iload_n 3, 1) := by decide +kernel
theorem dX9_isWay_117 : decode cX9_isWay 117 = .ok (.aload_n 0, 1) := by decide +kernel
theorem dX9_isWay_118 : decode cX9_isWay 118 = .ok (.getfield 82, 3) := by decide +kernel
theorem dX9_isWay_121 : decode cX9_isWay 121 = .ok (.if_icmp .ne 12, 3) := by decide +kernel
theorem dX9_isWay_124 : decode cX9_isWay 124 = .ok (.iload 4, 2) := by decide +kernel
theorem dX9_isWay_126 : decode cX9_isWay 126 = .ok (.iconst 1, 1) := by decide +kernel
theorem dX9_isWay_127 : decode cX9_isWay 127 = .ok (.if_icmp .eq 19, 3) := by decide +kernel
theorem dX9_isWay_130 : decode cX9_isWay 130 = .ok (.goto 14, 3) := by decide +kernel
theorem dX9_isWay_133 : decode cX9_isWay 133 = .ok (.iload 4, 2) := by decide +kernel
theorem dX9_isWay_135 : decode cX9_isWay 135 = .ok (.ifCond .eq 11, 3) := by decide +kernel
theorem dX9_isWay_138 : decode cX9_isWay 138 = .ok (.iload 4, 2) := by decide +kernel
theorem dX9_isWay_140 : decode cX9_isWay 140 = .ok (.iconst 2, 1) := by decide +kernel
theorem dX9_isWay_141 : decode cX9_isWay 141 = .ok (.if_icmp .eq 5, 3) := by decide +kernel
theorem dX9_isWay_144 : decode cX9_isWay 144 = .ok (.iconst 0, 1) := by decide +kernel
theorem dX9_isWay_145 : decode cX9_isWay 145 = .ok (.ireturn, 1) := by decide +kernel
theorem dX9_isWay_146 : decode cX9_isWay 146 = .ok (.iinc 3 1, 3) := by decide +kernel
theorem dX9_isWay_149 : decode cX9_isWay 149 = .ok (.goto (-141), 3) := by decide +kernel
theorem dX9_isWay_152 : decode cX9_isWay 152 = .ok (.iconst 1, 1) := by decide +kernel
theorem dX9_isWay_153 : decode cX9_isWay 153 = .ok (.ireturn, 1) := by decide +kernel
theorem dX9_isTree_0 : decode cX9_isTree 0 = .ok (.iload_n 1, 1) := by decide +kernel
theorem dX9_isTree_1 : decode cX9_isTree 1 = .ok (.invokestatic 85, 3) := by decide +kernel
theorem dX9_isTree_4 : decode cX9_isTree 4 = .ok (.aload_n 0, 1) := by decide +kernel
theorem dX9_isTree_5 : decode cX9_isTree 5 = .ok (.getfield 82, 3) := by decide +kernel
theorem dX9_isTree_8 : decode cX9_isTree 8 = .ok (.iconst 1, 1) := by decide +kernel
theorem dX9_isTree_9 : decode cX9_isTree 9 = .ok (.isub, 1) := by decide +kernel
theorem dX9_isTree_10 : decode cX9_isTree 10 = .ok (.if_icmp .eq 5, 3) := by decide +kernel
theorem dX9_isTree_13 : decode cX9_isTree 13 = .ok (.iconst 0, 1) := by decide +kernel
theorem dX9_isTree_14 : decode cX9_isTree 14 = .ok (.ireturn, 1) := by decide +kernel
theorem dX9_isTree_15 : decode cX9_isTree 15 = .ok (.iconst 0, 1) := by decide +kernel
theorem dX9_isTree_16 : decode cX9_isTree 16 = .ok (.istore_n 2, 1) := by decide +kernel
theorem dX9_isTree_17 : decode cX9_isTree 17 = .ok (.iload_n 2, 1) := by decide +kernel
theorem dX9_isTree_18 : decode cX9_isTree 18 = .ok (.aload_n 0, 1) := by decide +kernel
theorem dX9_isTree_19 : decode cX9_isTree 19 = .ok (.getfield 67, 3) := by decide +kernel
theorem dX9_isTree_22 : decode cX9_isTree 22 = .ok (.if_icmp .ge 45, 3) := by decide +kernel
theorem dX9_isTree_25 : decode cX9_isTree 25 = .ok (.iload_n 1, 1) := by decide +kernel
theorem dX9_isTree_26 : decode cX9_isTree 26 = .ok (.iload_n 2, 1) := by decide +kernel
theorem dX9_isTree_27 : decode cX9_isTree 27 = .ok (.invokestatic 74, 3) := by decide +kernel
theorem dX9_isTree_30 : decode cX9_isTree 30 = .ok (.ifCond .eq 31, 3) := by decide +kernel
theorem dX9_isTree_33 : decode cX9_isTree 33 = .ok (.aload_n 0, 1) := by decide +kernel
theorem dX9_isTree_34 : decode cX9_isTree 34 = .ok (.getfield 20, 3) := by decide +kernel
theorem dX9_isTree_37 : decode cX9_isTree 37 = .ok (.iload_n 2, 1) := by decide +kernel
theorem dX9_isTree_38 : decode cX9_isTree 38 = .ok (.iaload, 1) := by decide +kernel
theorem dX9_isTree_39 : decode cX9_isTree 39 = .ok (.aload_n 0, 1) := by decide +kernel
theorem dX9_isTree_40 : decode cX9_isTree 40 = .ok (.getfield 82, 3) := by decide +kernel
theorem dX9_isTree_43 : decode cX9_isTree 43 = .ok (.if_icmp .ge 16, 3) := by decide +kernel
theorem dX9_isTree_46 : decode cX9_isTree 46 = .ok (.aload_n 0, 1) := by decide +kernel
theorem dX9_isTree_47 : decode cX9_isTree 47 = .ok (.getfield 23, 3) := by decide +kernel
theorem dX9_isTree_50 : decode cX9_isTree 50 = .ok (.iload_n 2, 1) := by decide +kernel
theorem dX9_isTree_51 : decode cX9_isTree 51 = .ok (.iaload, 1) := by decide +kernel
theorem dX9_isTree_52 : decode cX9_isTree 52 = .ok (.aload_n 0, 1) := by decide +kernel
theorem dX9_isTree_53 : decode cX9_isTree 53 = .ok (.getfield 82, 3) := by decide +kernel
theorem dX9_isTree_56 : decode cX9_isTree 56 = .ok (.if_icmp .lt 5, 3) := by decide +kernel
theorem dX9_isTree_59 : decode cX9_isTree 59 = .ok (.iconst 0, 1) := by decide +kernel
theorem dX9_isTree_60 : decode cX9_isTree 60 = .ok (.ireturn, 1) := by decide +kernel
theorem dX9_isTree_61 : decode cX9_isTree 61 = .ok (.iinc 2 1, 3) := by decide +kernel
theorem dX9_isTree_64 : decode cX9_isTree 64 = .ok (.goto (-47), 3) := by decide +kernel
theorem dX9_isTree_67 : decode cX9_isTree 67 = .ok (.aload_n 0, 1) := by decide +kernel
theorem dX9_isTree_68 : decode cX9_isTree 68 = .ok (.iload_n 1, 1) := by decide +kernel
theorem dX9_isTree_69 : decode cX9_isTree 69 = .ok (.invokevirtual 78, 3) := by decide +kernel
theorem dX9_isTree_72 : decode cX9_isTree 72 = .ok (.iconst 1, 1) := by decide +kernel
theorem dX9_isTree_73 : decode cX9_isTree 73 = .ok (.aload_n 0, 1) := by decide +kernel
theorem dX9_isTree_74 : decode cX9_isTree 74 = .ok (.getfield 82, 3) := by decide +kernel
theorem dX9_isTree_77 : decode cX9_isTree 77 = .ok (.ishl, 1) := by decide +kernel
theorem dX9_isTree_78 : decode cX9_isTree 78 = .ok (.iconst 1, 1) := by decide +kernel
theorem dX9_isTree_79 : decode cX9_isTree 79 = .ok (.isub, 1) := by decide +kernel
theorem dX9_isTree_80 : decode cX9_isTree 80 = .ok (.if_icmp .ne 7, 3) := by decide +kernel
theorem dX9_isTree_83 : decode cX9_isTree 83 = .ok (.iconst 1, 1) := by decide +kernel
theorem dX9_isTree_84 : decode cX9_isTree 84 = .ok (.goto 4, 3) := by decide +kernel
theorem dX9_isTree_87 : decode cX9_isTree 87 = .ok (.iconst 0, 1) := by decide +kernel
theorem dX9_isTree_88 : decode cX9_isTree 88 = .ok (.ireturn, 1) := by decide +kernel
theorem dX9_isPairs_0 : decode cX9_isPairs 0 = .ok (.iload_n 1, 1) := by decide +kernel
theorem dX9_isPairs_1 : decode cX9_isPairs 1 = .ok (.invokestatic 85, 3) := by decide +kernel
theorem dX9_isPairs_4 : decode cX9_isPairs 4 = .ok (.aload_n 0, 1) := by decide +kernel
theorem dX9_isPairs_5 : decode cX9_isPairs 5 = .ok (.getfield 82, 3) := by decide +kernel
theorem dX9_isPairs_8 : decode cX9_isPairs 8 = .ok (.if_icmp .eq 5, 3) := by decide +kernel
theorem dX9_isPairs_11 : decode cX9_isPairs 11 = .ok (.iconst 0, 1) := by decide +kernel
theorem dX9_isPairs_12 : decode cX9_isPairs 12 = .ok (.ireturn, 1) := by decide +kernel
theorem dX9_isPairs_13 : decode cX9_isPairs 13 = .ok (.iconst 0, 1) := by decide +kernel
theorem dX9_isPairs_14 : decode cX9_isPairs 14 = .ok (.istore_n 2, 1) := by decide +kernel
theorem dX9_isPairs_15 : decode cX9_isPairs 15 = .ok (.iload_n 2, 1) := by decide +kernel
theorem dX9_isPairs_16 : decode cX9_isPairs 16 = .ok (.aload_n 0, 1) := by decide +kernel
theorem dX9_isPairs_17 : decode cX9_isPairs 17 = .ok (.getfield 82, 3) := by decide +kernel
theorem dX9_isPairs_20 : decode cX9_isPairs 20 = .ok (.if_icmp .ge 97, 3) := by decide +kernel
theorem dX9_isPairs_23 : decode cX9_isPairs 23 = .ok (.iconst 0, 1) := by decide +kernel
theorem dX9_isPairs_24 : decode cX9_isPairs 24 = .ok (.istore_n 3, 1) := by decide +kernel
theorem dX9_isPairs_25 : decode cX9_isPairs 25 = .ok (.iconst 0, 1) := by decide +kernel
theorem dX9_isPairs_26 : decode cX9_isPairs 26 = .ok (.istore 4, 2) := by decide +kernel
theorem dX9_isPairs_28 : decode cX9_isPairs 28 = .ok (.iconst 0, 1) := by decide +kernel
theorem dX9_isPairs_29 : decode cX9_isPairs 29 = .ok (.istore 5, 2) := by decide +kernel
theorem dX9_isPairs_31 : decode cX9_isPairs 31 = .ok (.iload 5, 2) := by decide +kernel
theorem dX9_isPairs_33 : decode cX9_isPairs 33 = .ok (.aload_n 0, 1) := by decide +kernel
theorem dX9_isPairs_34 : decode cX9_isPairs 34 = .ok (.getfield 67, 3) := by decide +kernel
theorem dX9_isPairs_37 : decode cX9_isPairs 37 = .ok (.if_icmp .ge 61, 3) := by decide +kernel
theorem dX9_isPairs_40 : decode cX9_isPairs 40 = .ok (.iload_n 1, 1) := by decide +kernel
theorem dX9_isPairs_41 : decode cX9_isPairs 41 = .ok (.iload 5, 2) := by decide +kernel
theorem dX9_isPairs_43 : decode cX9_isPairs 43 = .ok (.invokestatic 74, 3) := by decide +kernel
theorem dX9_isPairs_46 : decode cX9_isPairs 46 = .ok (.ifCond .ne 6, 3) := by decide +kernel
theorem dX9_isPairs_49 : decode cX9_isPairs 49 = .ok (.goto 43, 3) := by decide +kernel
theorem dX9_isPairs_52 : decode cX9_isPairs 52 = .ok (.iload_n 3, 1) := by decide +kernel
theorem dX9_isPairs_53 : decode cX9_isPairs 53 = .ok (.aload_n 0, 1) := by decide +kernel
theorem dX9_isPairs_54 : decode cX9_isPairs 54 = .ok (.getfield 20, 3) := by decide +kernel
theorem dX9_isPairs_57 : decode cX9_isPairs 57 = .ok (.iload 5, 2) := by decide +kernel
theorem dX9_isPairs_59 : decode cX9_isPairs 59 = .ok (.iaload, 1) := by decide +kernel
theorem dX9_isPairs_60 : decode cX9_isPairs 60 = .ok (.iload_n 2, 1) := by decide +kernel
theorem dX9_isPairs_61 : decode cX9_isPairs 61 = .ok (.if_icmp .ne 7, 3) := by decide +kernel
theorem dX9_isPairs_64 : decode cX9_isPairs 64 = .ok (.iconst 1, 1) := by decide +kernel
theorem dX9_isPairs_65 : decode cX9_isPairs 65 = .ok (.goto 4, 3) := by decide +kernel
theorem dX9_isPairs_68 : decode cX9_isPairs 68 = .ok (.iconst 0, 1) := by decide +kernel
theorem dX9_isPairs_69 : decode cX9_isPairs 69 = .ok (.iadd, 1) := by decide +kernel
theorem dX9_isPairs_70 : decode cX9_isPairs 70 = .ok (.istore_n 3, 1) := by decide +kernel
theorem dX9_isPairs_71 : decode cX9_isPairs 71 = .ok (.iload 4, 2) := by decide +kernel
theorem dX9_isPairs_73 : decode cX9_isPairs 73 = .ok (.aload_n 0, 1) := by decide +kernel
theorem dX9_isPairs_74 : decode cX9_isPairs 74 = .ok (.getfield 23, 3) := by decide +kernel
theorem dX9_isPairs_77 : decode cX9_isPairs 77 = .ok (.iload 5, 2) := by decide +kernel
theorem dX9_isPairs_79 : decode cX9_isPairs 79 = .ok (.iaload, 1) := by decide +kernel
theorem dX9_isPairs_80 : decode cX9_isPairs 80 = .ok (.iload_n 2, 1) := by decide +kernel
theorem dX9_isPairs_81 : decode cX9_isPairs 81 = .ok (.if_icmp .ne 7, 3) := by decide +kernel
theorem dX9_isPairs_84 : decode cX9_isPairs 84 = .ok (.iconst 1, 1) := by decide +kernel
theorem dX9_isPairs_85 : decode cX9_isPairs 85 = .ok (.goto 4, 3) := by decide +kernel
theorem dX9_isPairs_88 : decode cX9_isPairs 88 = .ok (.iconst 0, 1) := by decide +kernel
theorem dX9_isPairs_89 : decode cX9_isPairs 89 = .ok (.iadd, 1) := by decide +kernel
theorem dX9_isPairs_90 : decode cX9_isPairs 90 = .ok (.istore 4, 2) := by decide +kernel
theorem dX9_isPairs_92 : decode cX9_isPairs 92 = .ok (.iinc 5 1, 3) := by decide +kernel
theorem dX9_isPairs_95 : decode cX9_isPairs 95 = .ok (.goto (-64), 3) := by decide +kernel
theorem dX9_isPairs_98 : decode cX9_isPairs 98 = .ok (.iload_n 3, 1) := by decide +kernel
theorem dX9_isPairs_99 : decode cX9_isPairs 99 = .ok (.iconst 1, 1) := by decide +kernel
theorem dX9_isPairs_100 : decode cX9_isPairs 100 = .ok (.if_icmp .ne 9, 3) := by decide +kernel
theorem dX9_isPairs_103 : decode cX9_isPairs 103 = .ok (.iload 4, 2) := by decide +kernel
theorem dX9_isPairs_105 : decode cX9_isPairs 105 = .ok (.iconst 1, 1) := by decide +kernel
theorem dX9_isPairs_106 : decode cX9_isPairs 106 = .ok (.if_icmp .eq 5, 3) := by decide +kernel
theorem dX9_isPairs_109 : decode cX9_isPairs 109 = .ok (.iconst 0, 1) := by decide +kernel
theorem dX9_isPairs_110 : decode cX9_isPairs 110 = .ok (.ireturn, 1) := by decide +kernel
theorem dX9_isPairs_111 : decode cX9_isPairs 111 = .ok (.iinc 2 1, 3) := by decide +kernel
theorem dX9_isPairs_114 : decode cX9_isPairs 114 = .ok (.goto (-99), 3) := by decide +kernel
theorem dX9_isPairs_117 : decode cX9_isPairs 117 = .ok (.iconst 1, 1) := by decide +kernel
theorem dX9_isPairs_118 : decode cX9_isPairs 118 = .ok (.ireturn, 1) := by decide +kernel
theorem dX9_isChoice_0 : decode cX9_isChoice 0 = .ok (.aload_n 0, 1) := by decide +kernel
theorem dX9_isChoice_1 : decode cX9_isChoice 1 = .ok (.getfield 88, 3) := by decide +kernel
theorem dX9_isChoice_4 : decode cX9_isChoice 4 = .ok (.tableswitch 57 0 2 #[28, 45, 51], 28) := by decide +kernel
theorem dX9_isChoice_32 : decode cX9_isChoice 32 = .ok (.iload_n 1, 1) := by decide +kernel
theorem dX9_isChoice_33 : decode cX9_isChoice 33 = .ok (.invokestatic 85, 3) := by decide +kernel
theorem dX9_isChoice_36 : decode cX9_isChoice 36 = .ok (.aload_n 0, 1) := by decide +kernel
theorem dX9_isChoice_37 : decode cX9_isChoice 37 = .ok (.getfield 82, 3) := by decide +kernel
theorem dX9_isChoice_40 : decode cX9_isChoice 40 = .ok (.if_icmp .ne 7, 3) := by decide +kernel
theorem dX9_isChoice_43 : decode cX9_isChoice 43 = .ok (.iconst 1, 1) := by decide +kernel
theorem dX9_isChoice_44 : decode cX9_isChoice 44 = .ok (.goto 4, 3) := by decide +kernel
theorem dX9_isChoice_47 : decode cX9_isChoice 47 = .ok (.iconst 0, 1) := by decide +kernel
theorem dX9_isChoice_48 : decode cX9_isChoice 48 = .ok (.ireturn, 1) := by decide +kernel
theorem dX9_isChoice_49 : decode cX9_isChoice 49 = .ok (.aload_n 0, 1) := by decide +kernel
theorem dX9_isChoice_50 : decode cX9_isChoice 50 = .ok (.iload_n 1, 1) := by decide +kernel
theorem dX9_isChoice_51 : decode cX9_isChoice 51 = .ok (.invokevirtual 91, 3) := by decide +kernel
theorem dX9_isChoice_54 : decode cX9_isChoice 54 = .ok (.ireturn, 1) := by decide +kernel
theorem dX9_isChoice_55 : decode cX9_isChoice 55 = .ok (.aload_n 0, 1) := by decide +kernel
theorem dX9_isChoice_56 : decode cX9_isChoice 56 = .ok (.iload_n 1, 1) := by decide +kernel
theorem dX9_isChoice_57 : decode cX9_isChoice 57 = .ok (.invokevirtual 95, 3) := by decide +kernel
theorem dX9_isChoice_60 : decode cX9_isChoice 60 = .ok (.ireturn, 1) := by decide +kernel
theorem dX9_isChoice_61 : decode cX9_isChoice 61 = .ok (.aload_n 0, 1) := by decide +kernel
theorem dX9_isChoice_62 : decode cX9_isChoice 62 = .ok (.iload_n 1, 1) := by decide +kernel
theorem dX9_isChoice_63 : decode cX9_isChoice 63 = .ok (.invokevirtual 98, 3) := by decide +kernel
theorem dX9_isChoice_66 : decode cX9_isChoice 66 = .ok (.ireturn, 1) := by decide +kernel
theorem dX9_gathers_0 : decode cX9_gathers 0 = .ok (.aload_n 0, 1) := by decide +kernel
theorem dX9_gathers_1 : decode cX9_gathers 1 = .ok (.iconst 0, 1) := by decide +kernel
theorem dX9_gathers_2 : decode cX9_gathers 2 = .ok (.putfield 101, 3) := by decide +kernel
theorem dX9_gathers_5 : decode cX9_gathers 5 = .ok (.iconst 0, 1) := by decide +kernel
theorem dX9_gathers_6 : decode cX9_gathers 6 = .ok (.istore_n 1, 1) := by decide +kernel
theorem dX9_gathers_7 : decode cX9_gathers 7 = .ok (.iload_n 1, 1) := by decide +kernel
theorem dX9_gathers_8 : decode cX9_gathers 8 = .ok (.iconst 1, 1) := by decide +kernel
theorem dX9_gathers_9 : decode cX9_gathers 9 = .ok (.aload_n 0, 1) := by decide +kernel
theorem dX9_gathers_10 : decode cX9_gathers 10 = .ok (.getfield 67, 3) := by decide +kernel
theorem dX9_gathers_13 : decode cX9_gathers 13 = .ok (.ishl, 1) := by decide +kernel
theorem dX9_gathers_14 : decode cX9_gathers 14 = .ok (.if_icmp .ge 52, 3) := by decide +kernel
theorem dX9_gathers_17 : decode cX9_gathers 17 = .ok (.aload_n 0, 1) := by decide +kernel
theorem dX9_gathers_18 : decode cX9_gathers 18 = .ok (.iload_n 1, 1) := by decide +kernel
theorem dX9_gathers_19 : decode cX9_gathers 19 = .ok (.invokevirtual 104, 3) := by decide +kernel
theorem dX9_gathers_22 : decode cX9_gathers 22 = .ok (.ifCond .ne 6, 3) := by decide +kernel
theorem dX9_gathers_25 : decode cX9_gathers 25 = .ok (.goto 35, 3) := by decide +kernel
theorem dX9_gathers_28 : decode cX9_gathers 28 = .ok (.aload_n 0, 1) := by decide +kernel
theorem dX9_gathers_29 : decode cX9_gathers 29 = .ok (.getfield 101, 3) := by decide +kernel
theorem dX9_gathers_32 : decode cX9_gathers 32 = .ok (.sipush 500, 3) := by decide +kernel
theorem dX9_gathers_35 : decode cX9_gathers 35 = .ok (.if_icmp .ne 5, 3) := by decide +kernel
theorem dX9_gathers_38 : decode cX9_gathers 38 = .ok (.iconst 0, 1) := by decide +kernel
theorem dX9_gathers_39 : decode cX9_gathers 39 = .ok (.ireturn, 1) := by decide +kernel
theorem dX9_gathers_40 : decode cX9_gathers 40 = .ok (.aload_n 0, 1) := by decide +kernel
theorem dX9_gathers_41 : decode cX9_gathers 41 = .ok (.getfield 36, 3) := by decide +kernel
theorem dX9_gathers_44 : decode cX9_gathers 44 = .ok (.aload_n 0, 1) := by decide +kernel
theorem dX9_gathers_45 : decode cX9_gathers 45 = .ok (.getfield 101, 3) := by decide +kernel
theorem dX9_gathers_48 : decode cX9_gathers 48 = .ok (.iload_n 1, 1) := by decide +kernel
theorem dX9_gathers_49 : decode cX9_gathers 49 = .ok (.iastore, 1) := by decide +kernel
theorem dX9_gathers_50 : decode cX9_gathers 50 = .ok (.aload_n 0, 1) := by decide +kernel
theorem dX9_gathers_51 : decode cX9_gathers 51 = .ok (.dup, 1) := by decide +kernel
theorem dX9_gathers_52 : decode cX9_gathers 52 = .ok (.getfield 101, 3) := by decide +kernel
theorem dX9_gathers_55 : decode cX9_gathers 55 = .ok (.iconst 1, 1) := by decide +kernel
theorem dX9_gathers_56 : decode cX9_gathers 56 = .ok (.iadd, 1) := by decide +kernel
theorem dX9_gathers_57 : decode cX9_gathers 57 = .ok (.putfield 101, 3) := by decide +kernel
theorem dX9_gathers_60 : decode cX9_gathers 60 = .ok (.iinc 1 1, 3) := by decide +kernel
theorem dX9_gathers_63 : decode cX9_gathers 63 = .ok (.goto (-56), 3) := by decide +kernel
theorem dX9_gathers_66 : decode cX9_gathers 66 = .ok (.iconst 1, 1) := by decide +kernel
theorem dX9_gathers_67 : decode cX9_gathers 67 = .ok (.ireturn, 1) := by decide +kernel
theorem dX9_thing_0 : decode cX9_thing 0 = .ok (.iload_n 1, 1) := by decide +kernel
theorem dX9_thing_1 : decode cX9_thing 1 = .ok (.iconst 0, 1) := by decide +kernel
theorem dX9_thing_2 : decode cX9_thing 2 = .ok (.sipush 1000, 3) := by decide +kernel
theorem dX9_thing_5 : decode cX9_thing 5 = .ok (.invokestatic 70, 3) := by decide +kernel
theorem dX9_thing_8 : decode cX9_thing 8 = .ok (.ifCond .eq 14, 3) := by decide +kernel
theorem dX9_thing_11 : decode cX9_thing 11 = .ok (.iload_n 2, 1) := by decide +kernel
theorem dX9_thing_12 : decode cX9_thing 12 = .ok (.iload_n 1, 1) := by decide +kernel
theorem dX9_thing_13 : decode cX9_thing 13 = .ok (.sipush 1000, 3) := by decide +kernel
theorem dX9_thing_16 : decode cX9_thing 16 = .ok (.invokestatic 70, 3) := by decide +kernel
theorem dX9_thing_19 : decode cX9_thing 19 = .ok (.ifCond .ne 9, 3) := by decide +kernel
theorem dX9_thing_22 : decode cX9_thing 22 = .ok (.aload_n 0, 1) := by decide +kernel
theorem dX9_thing_23 : decode cX9_thing 23 = .ok (.iconst (-1), 1) := by decide +kernel
theorem dX9_thing_24 : decode cX9_thing 24 = .ok (.invokevirtual 107, 3) := by decide +kernel
theorem dX9_thing_27 : decode cX9_thing 27 = .ok (.ireturn, 1) := by decide +kernel
theorem dX9_thing_28 : decode cX9_thing 28 = .ok (.aload_n 0, 1) := by decide +kernel
theorem dX9_thing_29 : decode cX9_thing 29 = .ok (.getfield 67, 3) := by decide +kernel
theorem dX9_thing_32 : decode cX9_thing 32 = .ok (.bipush 12, 2) := by decide +kernel
theorem dX9_thing_34 : decode cX9_thing 34 = .ok (.if_icmp .ne 10, 3) := by decide +kernel
theorem dX9_thing_37 : decode cX9_thing 37 = .ok (.aload_n 0, 1) := by decide +kernel
theorem dX9_thing_38 : decode cX9_thing 38 = .ok (.bipush (-5), 2) := by decide +kernel
theorem dX9_thing_40 : decode cX9_thing 40 = .ok (.invokevirtual 107, 3) := by decide +kernel
theorem dX9_thing_43 : decode cX9_thing 43 = .ok (.ireturn, 1) := by decide +kernel
theorem dX9_thing_44 : decode cX9_thing 44 = .ok (.aload_n 0, 1) := by decide +kernel
theorem dX9_thing_45 : decode cX9_thing 45 = .ok (.getfield 67, 3) := by decide +kernel
theorem dX9_thing_48 : decode cX9_thing 48 = .ok (.istore_n 3, 1) := by decide +kernel
theorem dX9_thing_49 : decode cX9_thing 49 = .ok (.aload_n 0, 1) := by decide +kernel
theorem dX9_thing_50 : decode cX9_thing 50 = .ok (.getfield 13, 3) := by decide +kernel
theorem dX9_thing_53 : decode cX9_thing 53 = .ok (.iload_n 3, 1) := by decide +kernel
theorem dX9_thing_54 : decode cX9_thing 54 = .ok (.iload_n 1, 1) := by decide +kernel
theorem dX9_thing_55 : decode cX9_thing 55 = .ok (.iastore, 1) := by decide +kernel
theorem dX9_thing_56 : decode cX9_thing 56 = .ok (.aload_n 0, 1) := by decide +kernel
theorem dX9_thing_57 : decode cX9_thing 57 = .ok (.getfield 17, 3) := by decide +kernel
theorem dX9_thing_60 : decode cX9_thing 60 = .ok (.iload_n 3, 1) := by decide +kernel
theorem dX9_thing_61 : decode cX9_thing 61 = .ok (.iload_n 2, 1) := by decide +kernel
theorem dX9_thing_62 : decode cX9_thing 62 = .ok (.iastore, 1) := by decide +kernel
theorem dX9_thing_63 : decode cX9_thing 63 = .ok (.aload_n 0, 1) := by decide +kernel
theorem dX9_thing_64 : decode cX9_thing 64 = .ok (.getfield 20, 3) := by decide +kernel
theorem dX9_thing_67 : decode cX9_thing 67 = .ok (.iload_n 3, 1) := by decide +kernel
theorem dX9_thing_68 : decode cX9_thing 68 = .ok (.iconst 0, 1) := by decide +kernel
theorem dX9_thing_69 : decode cX9_thing 69 = .ok (.iastore, 1) := by decide +kernel
theorem dX9_thing_70 : decode cX9_thing 70 = .ok (.aload_n 0, 1) := by decide +kernel
theorem dX9_thing_71 : decode cX9_thing 71 = .ok (.getfield 23, 3) := by decide +kernel
theorem dX9_thing_74 : decode cX9_thing 74 = .ok (.iload_n 3, 1) := by decide +kernel
theorem dX9_thing_75 : decode cX9_thing 75 = .ok (.iconst 0, 1) := by decide +kernel
theorem dX9_thing_76 : decode cX9_thing 76 = .ok (.iastore, 1) := by decide +kernel
theorem dX9_thing_77 : decode cX9_thing 77 = .ok (.aload_n 0, 1) := by decide +kernel
theorem dX9_thing_78 : decode cX9_thing 78 = .ok (.getfield 26, 3) := by decide +kernel
theorem dX9_thing_81 : decode cX9_thing 81 = .ok (.iload_n 3, 1) := by decide +kernel
theorem dX9_thing_82 : decode cX9_thing 82 = .ok (.iconst 0, 1) := by decide +kernel
theorem dX9_thing_83 : decode cX9_thing 83 = .ok (.iastore, 1) := by decide +kernel
theorem dX9_thing_84 : decode cX9_thing 84 = .ok (.iconst 0, 1) := by decide +kernel
theorem dX9_thing_85 : decode cX9_thing 85 = .ok (.istore 4, 2) := by decide +kernel
theorem dX9_thing_87 : decode cX9_thing 87 = .ok (.iload 4, 2) := by decide +kernel
theorem dX9_thing_89 : decode cX9_thing 89 = .ok (.bipush 8, 2) := by decide +kernel
theorem dX9_thing_91 : decode cX9_thing 91 = .ok (.if_icmp .ge 22, 3) := by decide +kernel
theorem dX9_thing_94 : decode cX9_thing 94 = .ok (.aload_n 0, 1) := by decide +kernel
theorem dX9_thing_95 : decode cX9_thing 95 = .ok (.getfield 33, 3) := by decide +kernel
theorem dX9_thing_98 : decode cX9_thing 98 = .ok (.bipush 12, 2) := by decide +kernel
theorem dX9_thing_100 : decode cX9_thing 100 = .ok (.iload 4, 2) := by decide +kernel
theorem dX9_thing_102 : decode cX9_thing 102 = .ok (.imul, 1) := by decide +kernel
theorem dX9_thing_103 : decode cX9_thing 103 = .ok (.iload_n 3, 1) := by decide +kernel
theorem dX9_thing_104 : decode cX9_thing 104 = .ok (.iadd, 1) := by decide +kernel
theorem dX9_thing_105 : decode cX9_thing 105 = .ok (.iconst 0, 1) := by decide +kernel
theorem dX9_thing_106 : decode cX9_thing 106 = .ok (.iastore, 1) := by decide +kernel
theorem dX9_thing_107 : decode cX9_thing 107 = .ok (.iinc 4 1, 3) := by decide +kernel
theorem dX9_thing_110 : decode cX9_thing 110 = .ok (.goto (-23), 3) := by decide +kernel
theorem dX9_thing_113 : decode cX9_thing 113 = .ok (.aload_n 0, 1) := by decide +kernel
theorem dX9_thing_114 : decode cX9_thing 114 = .ok (.dup, 1) := by decide +kernel
theorem dX9_thing_115 : decode cX9_thing 115 = .ok (.getfield 67, 3) := by decide +kernel
theorem dX9_thing_118 : decode cX9_thing 118 = .ok (.iconst 1, 1) := by decide +kernel
theorem dX9_thing_119 : decode cX9_thing 119 = .ok (.iadd, 1) := by decide +kernel
theorem dX9_thing_120 : decode cX9_thing 120 = .ok (.putfield 67, 3) := by decide +kernel
theorem dX9_thing_123 : decode cX9_thing 123 = .ok (.aload_n 0, 1) := by decide +kernel
theorem dX9_thing_124 : decode cX9_thing 124 = .ok (.invokevirtual 63, 3) := by decide +kernel
theorem dX9_thing_127 : decode cX9_thing 127 = .ok (.ifCond .ne 25, 3) := by decide +kernel
theorem dX9_thing_130 : decode cX9_thing 130 = .ok (.aload_n 0, 1) := by decide +kernel
theorem dX9_thing_131 : decode cX9_thing 131 = .ok (.dup, 1) := by decide +kernel
theorem dX9_thing_132 : decode cX9_thing 132 = .ok (.getfield 67, 3) := by decide +kernel
theorem dX9_thing_135 : decode cX9_thing 135 = .ok (.iconst 1, 1) := by decide +kernel
theorem dX9_thing_136 : decode cX9_thing 136 = .ok (.isub, 1) := by decide +kernel
theorem dX9_thing_137 : decode cX9_thing 137 = .ok (.putfield 67, 3) := by decide +kernel
theorem dX9_thing_140 : decode cX9_thing 140 = .ok (.aload_n 0, 1) := by decide +kernel
theorem dX9_thing_141 : decode cX9_thing 141 = .ok (.invokevirtual 63, 3) := by decide +kernel
theorem dX9_thing_144 : decode cX9_thing 144 = .ok (.pop, 1) := by decide +kernel
theorem dX9_thing_145 : decode cX9_thing 145 = .ok (.aload_n 0, 1) := by decide +kernel
theorem dX9_thing_146 : decode cX9_thing 146 = .ok (.bipush (-5), 2) := by decide +kernel
theorem dX9_thing_148 : decode cX9_thing 148 = .ok (.invokevirtual 107, 3) := by decide +kernel
theorem dX9_thing_151 : decode cX9_thing 151 = .ok (.ireturn, 1) := by decide +kernel
theorem dX9_thing_152 : decode cX9_thing 152 = .ok (.aload_n 0, 1) := by decide +kernel
theorem dX9_thing_153 : decode cX9_thing 153 = .ok (.iload_n 3, 1) := by decide +kernel
theorem dX9_thing_154 : decode cX9_thing 154 = .ok (.invokevirtual 107, 3) := by decide +kernel
theorem dX9_thing_157 : decode cX9_thing 157 = .ok (.ireturn, 1) := by decide +kernel
theorem dX9_ends_0 : decode cX9_ends 0 = .ok (.iload_n 2, 1) := by decide +kernel
theorem dX9_ends_1 : decode cX9_ends 1 = .ok (.iconst 0, 1) := by decide +kernel
theorem dX9_ends_2 : decode cX9_ends 2 = .ok (.sipush 1000, 3) := by decide +kernel
theorem dX9_ends_5 : decode cX9_ends 5 = .ok (.invokestatic 70, 3) := by decide +kernel
theorem dX9_ends_8 : decode cX9_ends 8 = .ok (.ifCond .eq 14, 3) := by decide +kernel
theorem dX9_ends_11 : decode cX9_ends 11 = .ok (.iload_n 3, 1) := by decide +kernel
theorem dX9_ends_12 : decode cX9_ends 12 = .ok (.iload_n 2, 1) := by decide +kernel
theorem dX9_ends_13 : decode cX9_ends 13 = .ok (.sipush 1000, 3) := by decide +kernel
theorem dX9_ends_16 : decode cX9_ends 16 = .ok (.invokestatic 70, 3) := by decide +kernel
theorem dX9_ends_19 : decode cX9_ends 19 = .ok (.ifCond .ne 9, 3) := by decide +kernel
theorem dX9_ends_22 : decode cX9_ends 22 = .ok (.aload_n 0, 1) := by decide +kernel
theorem dX9_ends_23 : decode cX9_ends 23 = .ok (.iconst (-1), 1) := by decide +kernel
theorem dX9_ends_24 : decode cX9_ends 24 = .ok (.invokevirtual 107, 3) := by decide +kernel
theorem dX9_ends_27 : decode cX9_ends 27 = .ok (.ireturn, 1) := by decide +kernel
theorem dX9_ends_28 : decode cX9_ends 28 = .ok (.aload_n 0, 1) := by decide +kernel
theorem dX9_ends_29 : decode cX9_ends 29 = .ok (.iload_n 1, 1) := by decide +kernel
theorem dX9_ends_30 : decode cX9_ends 30 = .ok (.invokevirtual 110, 3) := by decide +kernel
theorem dX9_ends_33 : decode cX9_ends 33 = .ok (.ifCond .ne 10, 3) := by decide +kernel
theorem dX9_ends_36 : decode cX9_ends 36 = .ok (.aload_n 0, 1) := by decide +kernel
theorem dX9_ends_37 : decode cX9_ends 37 = .ok (.bipush (-2), 2) := by decide +kernel
theorem dX9_ends_39 : decode cX9_ends 39 = .ok (.invokevirtual 107, 3) := by decide +kernel
theorem dX9_ends_42 : decode cX9_ends 42 = .ok (.ireturn, 1) := by decide +kernel
theorem dX9_ends_43 : decode cX9_ends 43 = .ok (.aload_n 0, 1) := by decide +kernel
theorem dX9_ends_44 : decode cX9_ends 44 = .ok (.getfield 13, 3) := by decide +kernel
theorem dX9_ends_47 : decode cX9_ends 47 = .ok (.iload_n 1, 1) := by decide +kernel
theorem dX9_ends_48 : decode cX9_ends 48 = .ok (.iload_n 2, 1) := by decide +kernel
theorem dX9_ends_49 : decode cX9_ends 49 = .ok (.iastore, 1) := by decide +kernel
theorem dX9_ends_50 : decode cX9_ends 50 = .ok (.aload_n 0, 1) := by decide +kernel
theorem dX9_ends_51 : decode cX9_ends 51 = .ok (.getfield 17, 3) := by decide +kernel
theorem dX9_ends_54 : decode cX9_ends 54 = .ok (.iload_n 1, 1) := by decide +kernel
theorem dX9_ends_55 : decode cX9_ends 55 = .ok (.iload_n 3, 1) := by decide +kernel
theorem dX9_ends_56 : decode cX9_ends 56 = .ok (.iastore, 1) := by decide +kernel
theorem dX9_ends_57 : decode cX9_ends 57 = .ok (.aload_n 0, 1) := by decide +kernel
theorem dX9_ends_58 : decode cX9_ends 58 = .ok (.iconst 0, 1) := by decide +kernel
theorem dX9_ends_59 : decode cX9_ends 59 = .ok (.invokevirtual 107, 3) := by decide +kernel
theorem dX9_ends_62 : decode cX9_ends 62 = .ok (.ireturn, 1) := by decide +kernel
theorem dX9_posts_0 : decode cX9_posts 0 = .ok (.iload_n 2, 1) := by decide +kernel
theorem dX9_posts_1 : decode cX9_posts 1 = .ok (.iconst 0, 1) := by decide +kernel
theorem dX9_posts_2 : decode cX9_posts 2 = .ok (.iconst 5, 1) := by decide +kernel
theorem dX9_posts_3 : decode cX9_posts 3 = .ok (.invokestatic 70, 3) := by decide +kernel
theorem dX9_posts_6 : decode cX9_posts 6 = .ok (.ifCond .eq 12, 3) := by decide +kernel
theorem dX9_posts_9 : decode cX9_posts 9 = .ok (.iload_n 3, 1) := by decide +kernel
theorem dX9_posts_10 : decode cX9_posts 10 = .ok (.iconst 0, 1) := by decide +kernel
theorem dX9_posts_11 : decode cX9_posts 11 = .ok (.iconst 5, 1) := by decide +kernel
theorem dX9_posts_12 : decode cX9_posts 12 = .ok (.invokestatic 70, 3) := by decide +kernel
theorem dX9_posts_15 : decode cX9_posts 15 = .ok (.ifCond .ne 9, 3) := by decide +kernel
theorem dX9_posts_18 : decode cX9_posts 18 = .ok (.aload_n 0, 1) := by decide +kernel
theorem dX9_posts_19 : decode cX9_posts 19 = .ok (.iconst (-1), 1) := by decide +kernel
theorem dX9_posts_20 : decode cX9_posts 20 = .ok (.invokevirtual 107, 3) := by decide +kernel
theorem dX9_posts_23 : decode cX9_posts 23 = .ok (.ireturn, 1) := by decide +kernel
theorem dX9_posts_24 : decode cX9_posts 24 = .ok (.aload_n 0, 1) := by decide +kernel
theorem dX9_posts_25 : decode cX9_posts 25 = .ok (.iload_n 1, 1) := by decide +kernel
theorem dX9_posts_26 : decode cX9_posts 26 = .ok (.invokevirtual 110, 3) := by decide +kernel
theorem dX9_posts_29 : decode cX9_posts 29 = .ok (.ifCond .ne 10, 3) := by decide +kernel
theorem dX9_posts_32 : decode cX9_posts 32 = .ok (.aload_n 0, 1) := by decide +kernel
theorem dX9_posts_33 : decode cX9_posts 33 = .ok (.bipush (-2), 2) := by decide +kernel
theorem dX9_posts_35 : decode cX9_posts 35 = .ok (.invokevirtual 107, 3) := by decide +kernel
theorem dX9_posts_38 : decode cX9_posts 38 = .ok (.ireturn, 1) := by decide +kernel
theorem dX9_posts_39 : decode cX9_posts 39 = .ok (.aload_n 0, 1) := by decide +kernel
theorem dX9_posts_40 : decode cX9_posts 40 = .ok (.getfield 20, 3) := by decide +kernel
theorem dX9_posts_43 : decode cX9_posts 43 = .ok (.iload_n 1, 1) := by decide +kernel
theorem dX9_posts_44 : decode cX9_posts 44 = .ok (.iaload, 1) := by decide +kernel
theorem dX9_posts_45 : decode cX9_posts 45 = .ok (.istore 4, 2) := by decide +kernel
theorem dX9_posts_47 : decode cX9_posts 47 = .ok (.aload_n 0, 1) := by decide +kernel
theorem dX9_posts_48 : decode cX9_posts 48 = .ok (.getfield 23, 3) := by decide +kernel
theorem dX9_posts_51 : decode cX9_posts 51 = .ok (.iload_n 1, 1) := by decide +kernel
theorem dX9_posts_52 : decode cX9_posts 52 = .ok (.iaload, 1) := by decide +kernel
theorem dX9_posts_53 : decode cX9_posts 53 = .ok (.istore 5, 2) := by decide +kernel
theorem dX9_posts_55 : decode cX9_posts 55 = .ok (.aload_n 0, 1) := by decide +kernel
theorem dX9_posts_56 : decode cX9_posts 56 = .ok (.getfield 20, 3) := by decide +kernel
theorem dX9_posts_59 : decode cX9_posts 59 = .ok (.iload_n 1, 1) := by decide +kernel
theorem dX9_posts_60 : decode cX9_posts 60 = .ok (.iload_n 2, 1) := by decide +kernel
theorem dX9_posts_61 : decode cX9_posts 61 = .ok (.iastore, 1) := by decide +kernel
theorem dX9_posts_62 : decode cX9_posts 62 = .ok (.aload_n 0, 1) := by decide +kernel
theorem dX9_posts_63 : decode cX9_posts 63 = .ok (.getfield 23, 3) := by decide +kernel
theorem dX9_posts_66 : decode cX9_posts 66 = .ok (.iload_n 1, 1) := by decide +kernel
theorem dX9_posts_67 : decode cX9_posts 67 = .ok (.iload_n 3, 1) := by decide +kernel
theorem dX9_posts_68 : decode cX9_posts 68 = .ok (.iastore, 1) := by decide +kernel
theorem dX9_posts_69 : decode cX9_posts 69 = .ok (.aload_n 0, 1) := by decide +kernel
theorem dX9_posts_70 : decode cX9_posts 70 = .ok (.invokevirtual 63, 3) := by decide +kernel
theorem dX9_posts_73 : decode cX9_posts 73 = .ok (.ifCond .ne 31, 3) := by decide +kernel
theorem dX9_posts_76 : decode cX9_posts 76 = .ok (.aload_n 0, 1) := by decide +kernel
theorem dX9_posts_77 : decode cX9_posts 77 = .ok (.getfield 20, 3) := by decide +kernel
theorem dX9_posts_80 : decode cX9_posts 80 = .ok (.iload_n 1, 1) := by decide +kernel
theorem dX9_posts_81 : decode cX9_posts 81 = .ok (.iload 4, 2) := by decide +kernel
theorem dX9_posts_83 : decode cX9_posts 83 = .ok (.iastore, 1) := by decide +kernel
theorem dX9_posts_84 : decode cX9_posts 84 = .ok (.aload_n 0, 1) := by decide +kernel
theorem dX9_posts_85 : decode cX9_posts 85 = .ok (.getfield 23, 3) := by decide +kernel
theorem dX9_posts_88 : decode cX9_posts 88 = .ok (.iload_n 1, 1) := by decide +kernel
theorem dX9_posts_89 : decode cX9_posts 89 = .ok (.iload 5, 2) := by decide +kernel
theorem dX9_posts_91 : decode cX9_posts 91 = .ok (.iastore, 1) := by decide +kernel
theorem dX9_posts_92 : decode cX9_posts 92 = .ok (.aload_n 0, 1) := by decide +kernel
theorem dX9_posts_93 : decode cX9_posts 93 = .ok (.invokevirtual 63, 3) := by decide +kernel
theorem dX9_posts_96 : decode cX9_posts 96 = .ok (.pop, 1) := by decide +kernel
theorem dX9_posts_97 : decode cX9_posts 97 = .ok (.aload_n 0, 1) := by decide +kernel
theorem dX9_posts_98 : decode cX9_posts 98 = .ok (.bipush (-5), 2) := by decide +kernel
theorem dX9_posts_100 : decode cX9_posts 100 = .ok (.invokevirtual 107, 3) := by decide +kernel
theorem dX9_posts_103 : decode cX9_posts 103 = .ok (.ireturn, 1) := by decide +kernel
theorem dX9_posts_104 : decode cX9_posts 104 = .ok (.aload_n 0, 1) := by decide +kernel
theorem dX9_posts_105 : decode cX9_posts 105 = .ok (.iconst 0, 1) := by decide +kernel
theorem dX9_posts_106 : decode cX9_posts 106 = .ok (.invokevirtual 107, 3) := by decide +kernel
theorem dX9_posts_109 : decode cX9_posts 109 = .ok (.ireturn, 1) := by decide +kernel
theorem dX9_price_0 : decode cX9_price 0 = .ok (.iload_n 2, 1) := by decide +kernel
theorem dX9_price_1 : decode cX9_price 1 = .ok (.iconst 0, 1) := by decide +kernel
theorem dX9_price_2 : decode cX9_price 2 = .ok (.sipush 1000, 3) := by decide +kernel
theorem dX9_price_5 : decode cX9_price 5 = .ok (.invokestatic 70, 3) := by decide +kernel
theorem dX9_price_8 : decode cX9_price 8 = .ok (.ifCond .ne 9, 3) := by decide +kernel
theorem dX9_price_11 : decode cX9_price 11 = .ok (.aload_n 0, 1) := by decide +kernel
theorem dX9_price_12 : decode cX9_price 12 = .ok (.iconst (-1), 1) := by decide +kernel
theorem dX9_price_13 : decode cX9_price 13 = .ok (.invokevirtual 107, 3) := by decide +kernel
theorem dX9_price_16 : decode cX9_price 16 = .ok (.ireturn, 1) := by decide +kernel
theorem dX9_price_17 : decode cX9_price 17 = .ok (.aload_n 0, 1) := by decide +kernel
theorem dX9_price_18 : decode cX9_price 18 = .ok (.iload_n 1, 1) := by decide +kernel
theorem dX9_price_19 : decode cX9_price 19 = .ok (.invokevirtual 110, 3) := by decide +kernel
theorem dX9_price_22 : decode cX9_price 22 = .ok (.ifCond .ne 10, 3) := by decide +kernel
theorem dX9_price_25 : decode cX9_price 25 = .ok (.aload_n 0, 1) := by decide +kernel
theorem dX9_price_26 : decode cX9_price 26 = .ok (.bipush (-2), 2) := by decide +kernel
theorem dX9_price_28 : decode cX9_price 28 = .ok (.invokevirtual 107, 3) := by decide +kernel
theorem dX9_price_31 : decode cX9_price 31 = .ok (.ireturn, 1) := by decide +kernel
theorem dX9_price_32 : decode cX9_price 32 = .ok (.aload_n 0, 1) := by decide +kernel
theorem dX9_price_33 : decode cX9_price 33 = .ok (.getfield 26, 3) := by decide +kernel
theorem dX9_price_36 : decode cX9_price 36 = .ok (.iload_n 1, 1) := by decide +kernel
theorem dX9_price_37 : decode cX9_price 37 = .ok (.iaload, 1) := by decide +kernel
theorem dX9_price_38 : decode cX9_price 38 = .ok (.istore_n 3, 1) := by decide +kernel
theorem dX9_price_39 : decode cX9_price 39 = .ok (.aload_n 0, 1) := by decide +kernel
theorem dX9_price_40 : decode cX9_price 40 = .ok (.getfield 26, 3) := by decide +kernel
theorem dX9_price_43 : decode cX9_price 43 = .ok (.iload_n 1, 1) := by decide +kernel
theorem dX9_price_44 : decode cX9_price 44 = .ok (.iload_n 2, 1) := by decide +kernel
theorem dX9_price_45 : decode cX9_price 45 = .ok (.iastore, 1) := by decide +kernel
theorem dX9_price_46 : decode cX9_price 46 = .ok (.aload_n 0, 1) := by decide +kernel
theorem dX9_price_47 : decode cX9_price 47 = .ok (.iload_n 3, 1) := by decide +kernel
theorem dX9_price_48 : decode cX9_price 48 = .ok (.invokevirtual 107, 3) := by decide +kernel
theorem dX9_price_51 : decode cX9_price 51 = .ok (.ireturn, 1) := by decide +kernel
theorem dX9_kind_0 : decode cX9_kind 0 = .ok (.iload_n 1, 1) := by decide +kernel
theorem dX9_kind_1 : decode cX9_kind 1 = .ok (.iconst 0, 1) := by decide +kernel
theorem dX9_kind_2 : decode cX9_kind 2 = .ok (.iconst 3, 1) := by decide +kernel
theorem dX9_kind_3 : decode cX9_kind 3 = .ok (.invokestatic 70, 3) := by decide +kernel
theorem dX9_kind_6 : decode cX9_kind 6 = .ok (.ifCond .eq 45, 3) := by decide +kernel
theorem dX9_kind_9 : decode cX9_kind 9 = .ok (.iload_n 2, 1) := by decide +kernel
theorem dX9_kind_10 : decode cX9_kind 10 = .ok (.iload_n 1, 1) := by decide +kernel
theorem dX9_kind_11 : decode cX9_kind 11 = .ok (.iconst 1, 1) := by decide +kernel
theorem dX9_kind_12 : decode cX9_kind 12 = .ok (.if_icmp .eq 8, 3) := by decide +kernel
theorem dX9_kind_15 : decode cX9_kind 15 = .ok (.iload_n 1, 1) := by decide +kernel
theorem dX9_kind_16 : decode cX9_kind 16 = .ok (.iconst 2, 1) := by decide +kernel
theorem dX9_kind_17 : decode cX9_kind 17 = .ok (.if_icmp .ne 7, 3) := by decide +kernel
theorem dX9_kind_20 : decode cX9_kind 20 = .ok (.iconst 1, 1) := by decide +kernel
theorem dX9_kind_21 : decode cX9_kind 21 = .ok (.goto 4, 3) := by decide +kernel
theorem dX9_kind_24 : decode cX9_kind 24 = .ok (.iconst 0, 1) := by decide +kernel
theorem dX9_kind_25 : decode cX9_kind 25 = .ok (.iload_n 1, 1) := by decide +kernel
theorem dX9_kind_26 : decode cX9_kind 26 = .ok (.ifCond .ne 8, 3) := by decide +kernel
theorem dX9_kind_29 : decode cX9_kind 29 = .ok (.bipush 12, 2) := by decide +kernel
theorem dX9_kind_31 : decode cX9_kind 31 = .ok (.goto 14, 3) := by decide +kernel
theorem dX9_kind_34 : decode cX9_kind 34 = .ok (.iload_n 1, 1) := by decide +kernel
theorem dX9_kind_35 : decode cX9_kind 35 = .ok (.iconst 1, 1) := by decide +kernel
theorem dX9_kind_36 : decode cX9_kind 36 = .ok (.if_icmp .ne 7, 3) := by decide +kernel
theorem dX9_kind_39 : decode cX9_kind 39 = .ok (.iconst 5, 1) := by decide +kernel
theorem dX9_kind_40 : decode cX9_kind 40 = .ok (.goto 5, 3) := by decide +kernel
theorem dX9_kind_43 : decode cX9_kind 43 = .ok (.bipush 6, 2) := by decide +kernel
theorem dX9_kind_45 : decode cX9_kind 45 = .ok (.invokestatic 70, 3) := by decide +kernel
theorem dX9_kind_48 : decode cX9_kind 48 = .ok (.ifCond .ne 9, 3) := by decide +kernel
theorem dX9_kind_51 : decode cX9_kind 51 = .ok (.aload_n 0, 1) := by decide +kernel
theorem dX9_kind_52 : decode cX9_kind 52 = .ok (.iconst (-1), 1) := by decide +kernel
theorem dX9_kind_53 : decode cX9_kind 53 = .ok (.invokevirtual 107, 3) := by decide +kernel
theorem dX9_kind_56 : decode cX9_kind 56 = .ok (.ireturn, 1) := by decide +kernel
theorem dX9_kind_57 : decode cX9_kind 57 = .ok (.aload_n 0, 1) := by decide +kernel
theorem dX9_kind_58 : decode cX9_kind 58 = .ok (.getfield 88, 3) := by decide +kernel
theorem dX9_kind_61 : decode cX9_kind 61 = .ok (.istore_n 3, 1) := by decide +kernel
theorem dX9_kind_62 : decode cX9_kind 62 = .ok (.aload_n 0, 1) := by decide +kernel
theorem dX9_kind_63 : decode cX9_kind 63 = .ok (.getfield 82, 3) := by decide +kernel
theorem dX9_kind_66 : decode cX9_kind 66 = .ok (.istore 4, 2) := by decide +kernel
theorem dX9_kind_68 : decode cX9_kind 68 = .ok (.aload_n 0, 1) := by decide +kernel
theorem dX9_kind_69 : decode cX9_kind 69 = .ok (.iload_n 1, 1) := by decide +kernel
theorem dX9_kind_70 : decode cX9_kind 70 = .ok (.putfield 88, 3) := by decide +kernel
theorem dX9_kind_73 : decode cX9_kind 73 = .ok (.aload_n 0, 1) := by decide +kernel
theorem dX9_kind_74 : decode cX9_kind 74 = .ok (.iload_n 2, 1) := by decide +kernel
theorem dX9_kind_75 : decode cX9_kind 75 = .ok (.putfield 82, 3) := by decide +kernel
theorem dX9_kind_78 : decode cX9_kind 78 = .ok (.aload_n 0, 1) := by decide +kernel
theorem dX9_kind_79 : decode cX9_kind 79 = .ok (.invokevirtual 63, 3) := by decide +kernel
theorem dX9_kind_82 : decode cX9_kind 82 = .ok (.ifCond .ne 26, 3) := by decide +kernel
theorem dX9_kind_85 : decode cX9_kind 85 = .ok (.aload_n 0, 1) := by decide +kernel
theorem dX9_kind_86 : decode cX9_kind 86 = .ok (.iload_n 3, 1) := by decide +kernel
theorem dX9_kind_87 : decode cX9_kind 87 = .ok (.putfield 88, 3) := by decide +kernel
theorem dX9_kind_90 : decode cX9_kind 90 = .ok (.aload_n 0, 1) := by decide +kernel
theorem dX9_kind_91 : decode cX9_kind 91 = .ok (.iload 4, 2) := by decide +kernel
theorem dX9_kind_93 : decode cX9_kind 93 = .ok (.putfield 82, 3) := by decide +kernel
theorem dX9_kind_96 : decode cX9_kind 96 = .ok (.aload_n 0, 1) := by decide +kernel
theorem dX9_kind_97 : decode cX9_kind 97 = .ok (.invokevirtual 63, 3) := by decide +kernel
theorem dX9_kind_100 : decode cX9_kind 100 = .ok (.pop, 1) := by decide +kernel
theorem dX9_kind_101 : decode cX9_kind 101 = .ok (.aload_n 0, 1) := by decide +kernel
theorem dX9_kind_102 : decode cX9_kind 102 = .ok (.bipush (-5), 2) := by decide +kernel
theorem dX9_kind_104 : decode cX9_kind 104 = .ok (.invokevirtual 107, 3) := by decide +kernel
theorem dX9_kind_107 : decode cX9_kind 107 = .ok (.ireturn, 1) := by decide +kernel
theorem dX9_kind_108 : decode cX9_kind 108 = .ok (.aload_n 0, 1) := by decide +kernel
theorem dX9_kind_109 : decode cX9_kind 109 = .ok (.aload_n 0, 1) := by decide +kernel
theorem dX9_kind_110 : decode cX9_kind 110 = .ok (.getfield 101, 3) := by decide +kernel
theorem dX9_kind_113 : decode cX9_kind 113 = .ok (.invokevirtual 107, 3) := by decide +kernel
theorem dX9_kind_116 : decode cX9_kind 116 = .ok (.ireturn, 1) := by decide +kernel
theorem dX9_sheet_0 : decode cX9_sheet 0 = .ok (.iload_n 1, 1) := by decide +kernel
theorem dX9_sheet_1 : decode cX9_sheet 1 = .ok (.iconst 0, 1) := by decide +kernel
theorem dX9_sheet_2 : decode cX9_sheet 2 = .ok (.iconst 3, 1) := by decide +kernel
theorem dX9_sheet_3 : decode cX9_sheet 3 = .ok (.invokestatic 70, 3) := by decide +kernel
theorem dX9_sheet_6 : decode cX9_sheet 6 = .ok (.ifCond .eq 18, 3) := by decide +kernel
theorem dX9_sheet_9 : decode cX9_sheet 9 = .ok (.iload_n 2, 1) := by decide +kernel
theorem dX9_sheet_10 : decode cX9_sheet 10 = .ok (.iconst 0, 1) := by decide +kernel
theorem dX9_sheet_11 : decode cX9_sheet 11 = .ok (.iconst 2, 1) := by decide +kernel
theorem dX9_sheet_12 : decode cX9_sheet 12 = .ok (.invokestatic 70, 3) := by decide +kernel
theorem dX9_sheet_15 : decode cX9_sheet 15 = .ok (.ifCond .eq 9, 3) := by decide +kernel
theorem dX9_sheet_18 : decode cX9_sheet 18 = .ok (.iload_n 3, 1) := by decide +kernel
theorem dX9_sheet_19 : decode cX9_sheet 19 = .ok (.bipush 100, 2) := by decide +kernel
theorem dX9_sheet_21 : decode cX9_sheet 21 = .ok (.if_icmp .le 9, 3) := by decide +kernel
theorem dX9_sheet_24 : decode cX9_sheet 24 = .ok (.aload_n 0, 1) := by decide +kernel
theorem dX9_sheet_25 : decode cX9_sheet 25 = .ok (.iconst (-1), 1) := by decide +kernel
theorem dX9_sheet_26 : decode cX9_sheet 26 = .ok (.invokevirtual 107, 3) := by decide +kernel
theorem dX9_sheet_29 : decode cX9_sheet 29 = .ok (.ireturn, 1) := by decide +kernel
theorem dX9_sheet_30 : decode cX9_sheet 30 = .ok (.aload_n 0, 1) := by decide +kernel
theorem dX9_sheet_31 : decode cX9_sheet 31 = .ok (.getfield 42, 3) := by decide +kernel
theorem dX9_sheet_34 : decode cX9_sheet 34 = .ok (.iload_n 1, 1) := by decide +kernel
theorem dX9_sheet_35 : decode cX9_sheet 35 = .ok (.iconst (-1), 1) := by decide +kernel
theorem dX9_sheet_36 : decode cX9_sheet 36 = .ok (.iastore, 1) := by decide +kernel
theorem dX9_sheet_37 : decode cX9_sheet 37 = .ok (.iload_n 3, 1) := by decide +kernel
theorem dX9_sheet_38 : decode cX9_sheet 38 = .ok (.ifCond .ge 10, 3) := by decide +kernel
theorem dX9_sheet_41 : decode cX9_sheet 41 = .ok (.aload_n 0, 1) := by decide +kernel
theorem dX9_sheet_42 : decode cX9_sheet 42 = .ok (.bipush (-4), 2) := by decide +kernel
theorem dX9_sheet_44 : decode cX9_sheet 44 = .ok (.invokevirtual 107, 3) := by decide +kernel
theorem dX9_sheet_47 : decode cX9_sheet 47 = .ok (.ireturn, 1) := by decide +kernel
theorem dX9_sheet_48 : decode cX9_sheet 48 = .ok (.aload_n 0, 1) := by decide +kernel
theorem dX9_sheet_49 : decode cX9_sheet 49 = .ok (.getfield 39, 3) := by decide +kernel
theorem dX9_sheet_52 : decode cX9_sheet 52 = .ok (.iload_n 1, 1) := by decide +kernel
theorem dX9_sheet_53 : decode cX9_sheet 53 = .ok (.iload_n 2, 1) := by decide +kernel
theorem dX9_sheet_54 : decode cX9_sheet 54 = .ok (.iastore, 1) := by decide +kernel
theorem dX9_sheet_55 : decode cX9_sheet 55 = .ok (.aload_n 0, 1) := by decide +kernel
theorem dX9_sheet_56 : decode cX9_sheet 56 = .ok (.getfield 42, 3) := by decide +kernel
theorem dX9_sheet_59 : decode cX9_sheet 59 = .ok (.iload_n 1, 1) := by decide +kernel
theorem dX9_sheet_60 : decode cX9_sheet 60 = .ok (.iload_n 3, 1) := by decide +kernel
theorem dX9_sheet_61 : decode cX9_sheet 61 = .ok (.iastore, 1) := by decide +kernel
theorem dX9_sheet_62 : decode cX9_sheet 62 = .ok (.iconst 0, 1) := by decide +kernel
theorem dX9_sheet_63 : decode cX9_sheet 63 = .ok (.istore 4, 2) := by decide +kernel
theorem dX9_sheet_65 : decode cX9_sheet 65 = .ok (.iload 4, 2) := by decide +kernel
theorem dX9_sheet_67 : decode cX9_sheet 67 = .ok (.bipush 100, 2) := by decide +kernel
theorem dX9_sheet_69 : decode cX9_sheet 69 = .ok (.if_icmp .ge 22, 3) := by decide +kernel
theorem dX9_sheet_72 : decode cX9_sheet 72 = .ok (.aload_n 0, 1) := by decide +kernel
theorem dX9_sheet_73 : decode cX9_sheet 73 = .ok (.getfield 45, 3) := by decide +kernel
theorem dX9_sheet_76 : decode cX9_sheet 76 = .ok (.bipush 100, 2) := by decide +kernel
theorem dX9_sheet_78 : decode cX9_sheet 78 = .ok (.iload_n 1, 1) := by decide +kernel
theorem dX9_sheet_79 : decode cX9_sheet 79 = .ok (.imul, 1) := by decide +kernel
theorem dX9_sheet_80 : decode cX9_sheet 80 = .ok (.iload 4, 2) := by decide +kernel
theorem dX9_sheet_82 : decode cX9_sheet 82 = .ok (.iadd, 1) := by decide +kernel
theorem dX9_sheet_83 : decode cX9_sheet 83 = .ok (.iconst 0, 1) := by decide +kernel
theorem dX9_sheet_84 : decode cX9_sheet 84 = .ok (.iastore, 1) := by decide +kernel
theorem dX9_sheet_85 : decode cX9_sheet 85 = .ok (.iinc 4 1, 3) := by decide +kernel
theorem dX9_sheet_88 : decode cX9_sheet 88 = .ok (.goto (-23), 3) := by decide +kernel
theorem dX9_sheet_91 : decode cX9_sheet 91 = .ok (.aload_n 0, 1) := by decide +kernel
theorem dX9_sheet_92 : decode cX9_sheet 92 = .ok (.iload_n 3, 1) := by decide +kernel
theorem dX9_sheet_93 : decode cX9_sheet 93 = .ok (.invokevirtual 107, 3) := by decide +kernel
theorem dX9_sheet_96 : decode cX9_sheet 96 = .ok (.ireturn, 1) := by decide +kernel
theorem dX9_write_0 : decode cX9_write 0 = .ok (.iload_n 1, 1) := by decide +kernel
theorem dX9_write_1 : decode cX9_write 1 = .ok (.iconst 0, 1) := by decide +kernel
theorem dX9_write_2 : decode cX9_write 2 = .ok (.iconst 3, 1) := by decide +kernel
theorem dX9_write_3 : decode cX9_write 3 = .ok (.invokestatic 70, 3) := by decide +kernel
theorem dX9_write_6 : decode cX9_write 6 = .ok (.ifCond .ne 9, 3) := by decide +kernel
theorem dX9_write_9 : decode cX9_write 9 = .ok (.aload_n 0, 1) := by decide +kernel
theorem dX9_write_10 : decode cX9_write 10 = .ok (.iconst (-1), 1) := by decide +kernel
theorem dX9_write_11 : decode cX9_write 11 = .ok (.invokevirtual 107, 3) := by decide +kernel
theorem dX9_write_14 : decode cX9_write 14 = .ok (.ireturn, 1) := by decide +kernel
theorem dX9_write_15 : decode cX9_write 15 = .ok (.aload_n 0, 1) := by decide +kernel
theorem dX9_write_16 : decode cX9_write 16 = .ok (.getfield 42, 3) := by decide +kernel
theorem dX9_write_19 : decode cX9_write 19 = .ok (.iload_n 1, 1) := by decide +kernel
theorem dX9_write_20 : decode cX9_write 20 = .ok (.iaload, 1) := by decide +kernel
theorem dX9_write_21 : decode cX9_write 21 = .ok (.iconst (-1), 1) := by decide +kernel
theorem dX9_write_22 : decode cX9_write 22 = .ok (.if_icmp .ne 10, 3) := by decide +kernel
theorem dX9_write_25 : decode cX9_write 25 = .ok (.aload_n 0, 1) := by decide +kernel
theorem dX9_write_26 : decode cX9_write 26 = .ok (.bipush (-2), 2) := by decide +kernel
theorem dX9_write_28 : decode cX9_write 28 = .ok (.invokevirtual 107, 3) := by decide +kernel
theorem dX9_write_31 : decode cX9_write 31 = .ok (.ireturn, 1) := by decide +kernel
theorem dX9_write_32 : decode cX9_write 32 = .ok (.iload_n 2, 1) := by decide +kernel
theorem dX9_write_33 : decode cX9_write 33 = .ok (.iconst 0, 1) := by decide +kernel
theorem dX9_write_34 : decode cX9_write 34 = .ok (.aload_n 0, 1) := by decide +kernel
theorem dX9_write_35 : decode cX9_write 35 = .ok (.getfield 42, 3) := by decide +kernel
theorem dX9_write_38 : decode cX9_write 38 = .ok (.iload_n 1, 1) := by decide +kernel
theorem dX9_write_39 : decode cX9_write 39 = .ok (.iaload, 1) := by decide +kernel
theorem dX9_write_40 : decode cX9_write 40 = .ok (.iconst 1, 1) := by decide +kernel
theorem dX9_write_41 : decode cX9_write 41 = .ok (.isub, 1) := by decide +kernel
theorem dX9_write_42 : decode cX9_write 42 = .ok (.invokestatic 70, 3) := by decide +kernel
theorem dX9_write_45 : decode cX9_write 45 = .ok (.ifCond .ne 10, 3) := by decide +kernel
theorem dX9_write_48 : decode cX9_write 48 = .ok (.aload_n 0, 1) := by decide +kernel
theorem dX9_write_49 : decode cX9_write 49 = .ok (.bipush (-3), 2) := by decide +kernel
theorem dX9_write_51 : decode cX9_write 51 = .ok (.invokevirtual 107, 3) := by decide +kernel
theorem dX9_write_54 : decode cX9_write 54 = .ok (.ireturn, 1) := by decide +kernel
theorem dX9_write_55 : decode cX9_write 55 = .ok (.aload_n 0, 1) := by decide +kernel
theorem dX9_write_56 : decode cX9_write 56 = .ok (.getfield 45, 3) := by decide +kernel
theorem dX9_write_59 : decode cX9_write 59 = .ok (.bipush 100, 2) := by decide +kernel
theorem dX9_write_61 : decode cX9_write 61 = .ok (.iload_n 1, 1) := by decide +kernel
theorem dX9_write_62 : decode cX9_write 62 = .ok (.imul, 1) := by decide +kernel
theorem dX9_write_63 : decode cX9_write 63 = .ok (.iload_n 2, 1) := by decide +kernel
theorem dX9_write_64 : decode cX9_write 64 = .ok (.iadd, 1) := by decide +kernel
theorem dX9_write_65 : decode cX9_write 65 = .ok (.aload_n 0, 1) := by decide +kernel
theorem dX9_write_66 : decode cX9_write 66 = .ok (.getfield 39, 3) := by decide +kernel
theorem dX9_write_69 : decode cX9_write 69 = .ok (.iload_n 1, 1) := by decide +kernel
theorem dX9_write_70 : decode cX9_write 70 = .ok (.iaload, 1) := by decide +kernel
theorem dX9_write_71 : decode cX9_write 71 = .ok (.ifCond .ne 8, 3) := by decide +kernel
theorem dX9_write_74 : decode cX9_write 74 = .ok (.iload_n 3, 1) := by decide +kernel
theorem dX9_write_75 : decode cX9_write 75 = .ok (.i2b, 1) := by decide +kernel
theorem dX9_write_76 : decode cX9_write 76 = .ok (.goto 19, 3) := by decide +kernel
theorem dX9_write_79 : decode cX9_write 79 = .ok (.aload_n 0, 1) := by decide +kernel
theorem dX9_write_80 : decode cX9_write 80 = .ok (.getfield 39, 3) := by decide +kernel
theorem dX9_write_83 : decode cX9_write 83 = .ok (.iload_n 1, 1) := by decide +kernel
theorem dX9_write_84 : decode cX9_write 84 = .ok (.iaload, 1) := by decide +kernel
theorem dX9_write_85 : decode cX9_write 85 = .ok (.iconst 1, 1) := by decide +kernel
theorem dX9_write_86 : decode cX9_write 86 = .ok (.if_icmp .ne 8, 3) := by decide +kernel
theorem dX9_write_89 : decode cX9_write 89 = .ok (.iload_n 3, 1) := by decide +kernel
theorem dX9_write_90 : decode cX9_write 90 = .ok (.i2s, 1) := by decide +kernel
theorem dX9_write_91 : decode cX9_write 91 = .ok (.goto 4, 3) := by decide +kernel
theorem dX9_write_94 : decode cX9_write 94 = .ok (.iload_n 3, 1) := by decide +kernel
theorem dX9_write_95 : decode cX9_write 95 = .ok (.iastore, 1) := by decide +kernel
theorem dX9_write_96 : decode cX9_write 96 = .ok (.aload_n 0, 1) := by decide +kernel
theorem dX9_write_97 : decode cX9_write 97 = .ok (.iconst 0, 1) := by decide +kernel
theorem dX9_write_98 : decode cX9_write 98 = .ok (.invokevirtual 107, 3) := by decide +kernel
theorem dX9_write_101 : decode cX9_write 101 = .ok (.ireturn, 1) := by decide +kernel
theorem dX9_worlds_0 : decode cX9_worlds 0 = .ok (.iconst 0, 1) := by decide +kernel
theorem dX9_worlds_1 : decode cX9_worlds 1 = .ok (.istore_n 1, 1) := by decide +kernel
theorem dX9_worlds_2 : decode cX9_worlds 2 = .ok (.iconst 0, 1) := by decide +kernel
theorem dX9_worlds_3 : decode cX9_worlds 3 = .ok (.istore_n 2, 1) := by decide +kernel
theorem dX9_worlds_4 : decode cX9_worlds 4 = .ok (.iload_n 2, 1) := by decide +kernel
theorem dX9_worlds_5 : decode cX9_worlds 5 = .ok (.bipush 8, 2) := by decide +kernel
theorem dX9_worlds_7 : decode cX9_worlds 7 = .ok (.if_icmp .ge 26, 3) := by decide +kernel
theorem dX9_worlds_10 : decode cX9_worlds 10 = .ok (.iload_n 1, 1) := by decide +kernel
theorem dX9_worlds_11 : decode cX9_worlds 11 = .ok (.aload_n 0, 1) := by decide +kernel
theorem dX9_worlds_12 : decode cX9_worlds 12 = .ok (.getfield 29, 3) := by decide +kernel
theorem dX9_worlds_15 : decode cX9_worlds 15 = .ok (.iload_n 2, 1) := by decide +kernel
theorem dX9_worlds_16 : decode cX9_worlds 16 = .ok (.baload, 1) := by decide +kernel
theorem dX9_worlds_17 : decode cX9_worlds 17 = .ok (.ifCond .eq 7, 3) := by decide +kernel
theorem dX9_worlds_20 : decode cX9_worlds 20 = .ok (.iconst 1, 1) := by decide +kernel
theorem dX9_worlds_21 : decode cX9_worlds 21 = .ok (.goto 4, 3) := by decide +kernel
theorem dX9_worlds_24 : decode cX9_worlds 24 = .ok (.iconst 0, 1) := by decide +kernel
theorem dX9_worlds_25 : decode cX9_worlds 25 = .ok (.iadd, 1) := by decide +kernel
theorem dX9_worlds_26 : decode cX9_worlds 26 = .ok (.istore_n 1, 1) := by decide +kernel
theorem dX9_worlds_27 : decode cX9_worlds 27 = .ok (.iinc 2 1, 3) := by decide +kernel
theorem dX9_worlds_30 : decode cX9_worlds 30 = .ok (.goto (-26), 3) := by decide +kernel
theorem dX9_worlds_33 : decode cX9_worlds 33 = .ok (.iload_n 1, 1) := by decide +kernel
theorem dX9_worlds_34 : decode cX9_worlds 34 = .ok (.ireturn, 1) := by decide +kernel
theorem dX9_stands_0 : decode cX9_stands 0 = .ok (.iload_n 2, 1) := by decide +kernel
theorem dX9_stands_1 : decode cX9_stands 1 = .ok (.aload_n 0, 1) := by decide +kernel
theorem dX9_stands_2 : decode cX9_stands 2 = .ok (.getfield 42, 3) := by decide +kernel
theorem dX9_stands_5 : decode cX9_stands 5 = .ok (.iload_n 1, 1) := by decide +kernel
theorem dX9_stands_6 : decode cX9_stands 6 = .ok (.iaload, 1) := by decide +kernel
theorem dX9_stands_7 : decode cX9_stands 7 = .ok (.iload_n 3, 1) := by decide +kernel
theorem dX9_stands_8 : decode cX9_stands 8 = .ok (.isub, 1) := by decide +kernel
theorem dX9_stands_9 : decode cX9_stands 9 = .ok (.if_icmp .ge 19, 3) := by decide +kernel
theorem dX9_stands_12 : decode cX9_stands 12 = .ok (.aload_n 0, 1) := by decide +kernel
theorem dX9_stands_13 : decode cX9_stands 13 = .ok (.getfield 45, 3) := by decide +kernel
theorem dX9_stands_16 : decode cX9_stands 16 = .ok (.bipush 100, 2) := by decide +kernel
theorem dX9_stands_18 : decode cX9_stands 18 = .ok (.iload_n 1, 1) := by decide +kernel
theorem dX9_stands_19 : decode cX9_stands 19 = .ok (.imul, 1) := by decide +kernel
theorem dX9_stands_20 : decode cX9_stands 20 = .ok (.iload_n 2, 1) := by decide +kernel
theorem dX9_stands_21 : decode cX9_stands 21 = .ok (.iadd, 1) := by decide +kernel
theorem dX9_stands_22 : decode cX9_stands 22 = .ok (.iload_n 3, 1) := by decide +kernel
theorem dX9_stands_23 : decode cX9_stands 23 = .ok (.iadd, 1) := by decide +kernel
theorem dX9_stands_24 : decode cX9_stands 24 = .ok (.iaload, 1) := by decide +kernel
theorem dX9_stands_25 : decode cX9_stands 25 = .ok (.goto 4, 3) := by decide +kernel
theorem dX9_stands_28 : decode cX9_stands 28 = .ok (.iconst 0, 1) := by decide +kernel
