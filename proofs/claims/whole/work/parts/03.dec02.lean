theorem dX10_talk_27 : decode cX10_talk 27 = .ok (.invokestatic 72, 3) := by decide +kernel
theorem dX10_talk_30 : decode cX10_talk 30 = .ok (.ifCond .ne 5, 3) := by decide +kernel
theorem dX10_talk_33 : decode cX10_talk 33 = .ok (.iconst (-1), 1) := by decide +kernel
theorem dX10_talk_34 : decode cX10_talk 34 = .ok (.ireturn, 1) := by decide +kernel
theorem dX10_talk_35 : decode cX10_talk 35 = .ok (.aload_n 0, 1) := by decide +kernel
theorem dX10_talk_36 : decode cX10_talk 36 = .ok (.getfield 26, 3) := by decide +kernel
theorem dX10_talk_39 : decode cX10_talk 39 = .ok (.iload_n 1, 1) := by decide +kernel
theorem dX10_talk_40 : decode cX10_talk 40 = .ok (.iload_n 2, 1) := by decide +kernel
theorem dX10_talk_41 : decode cX10_talk 41 = .ok (.iload_n 3, 1) := by decide +kernel
theorem dX10_talk_42 : decode cX10_talk 42 = .ok (.invokestatic 87, 3) := by decide +kernel
theorem dX10_talk_45 : decode cX10_talk 45 = .ok (.iload 4, 2) := by decide +kernel
theorem dX10_talk_47 : decode cX10_talk 47 = .ok (.iload 5, 2) := by decide +kernel
theorem dX10_talk_49 : decode cX10_talk 49 = .ok (.invokevirtual 91, 3) := by decide +kernel
theorem dX10_talk_52 : decode cX10_talk 52 = .ok (.ireturn, 1) := by decide +kernel
theorem dX10_must_0 : decode cX10_must 0 = .ok (.aload_n 0, 1) := by decide +kernel
theorem dX10_must_1 : decode cX10_must 1 = .ok (.getfield 10, 3) := by decide +kernel
theorem dX10_must_4 : decode cX10_must 4 = .ok (.iload_n 1, 1) := by decide +kernel
theorem dX10_must_5 : decode cX10_must 5 = .ok (.iload_n 2, 1) := by decide +kernel
theorem dX10_must_6 : decode cX10_must 6 = .ok (.iload_n 3, 1) := by decide +kernel
theorem dX10_must_7 : decode cX10_must 7 = .ok (.invokevirtual 80, 3) := by decide +kernel
theorem dX10_must_10 : decode cX10_must 10 = .ok (.ifCond .ne 5, 3) := by decide +kernel
theorem dX10_must_13 : decode cX10_must 13 = .ok (.iconst 0, 1) := by decide +kernel
theorem dX10_must_14 : decode cX10_must 14 = .ok (.ireturn, 1) := by decide +kernel
theorem dX10_must_15 : decode cX10_must 15 = .ok (.aload_n 0, 1) := by decide +kernel
theorem dX10_must_16 : decode cX10_must 16 = .ok (.getfield 10, 3) := by decide +kernel
theorem dX10_must_19 : decode cX10_must 19 = .ok (.getfield 94, 3) := by decide +kernel
theorem dX10_must_22 : decode cX10_must 22 = .ok (.aload_n 0, 1) := by decide +kernel
theorem dX10_must_23 : decode cX10_must 23 = .ok (.getfield 10, 3) := by decide +kernel
theorem dX10_must_26 : decode cX10_must 26 = .ok (.getfield 98, 3) := by decide +kernel
theorem dX10_must_29 : decode cX10_must 29 = .ok (.iload_n 1, 1) := by decide +kernel
theorem dX10_must_30 : decode cX10_must 30 = .ok (.iload_n 2, 1) := by decide +kernel
theorem dX10_must_31 : decode cX10_must 31 = .ok (.invokestatic 101, 3) := by decide +kernel
theorem dX10_must_34 : decode cX10_must 34 = .ok (.iload_n 3, 1) := by decide +kernel
theorem dX10_must_35 : decode cX10_must 35 = .ok (.iload 4, 2) := by decide +kernel
theorem dX10_must_37 : decode cX10_must 37 = .ok (.invokestatic 105, 3) := by decide +kernel
theorem dX10_must_40 : decode cX10_must 40 = .ok (.ireturn, 1) := by decide +kernel
theorem dX10_bar_0 : decode cX10_bar 0 = .ok (.aload_n 0, 1) := by decide +kernel
theorem dX10_bar_1 : decode cX10_bar 1 = .ok (.getfield 10, 3) := by decide +kernel
theorem dX10_bar_4 : decode cX10_bar 4 = .ok (.iload_n 1, 1) := by decide +kernel
theorem dX10_bar_5 : decode cX10_bar 5 = .ok (.iload_n 2, 1) := by decide +kernel
theorem dX10_bar_6 : decode cX10_bar 6 = .ok (.iload_n 3, 1) := by decide +kernel
theorem dX10_bar_7 : decode cX10_bar 7 = .ok (.invokevirtual 80, 3) := by decide +kernel
theorem dX10_bar_10 : decode cX10_bar 10 = .ok (.ifCond .ne 5, 3) := by decide +kernel
theorem dX10_bar_13 : decode cX10_bar 13 = .ok (.iconst 0, 1) := by decide +kernel
theorem dX10_bar_14 : decode cX10_bar 14 = .ok (.ireturn, 1) := by decide +kernel
theorem dX10_bar_15 : decode cX10_bar 15 = .ok (.aload_n 0, 1) := by decide +kernel
theorem dX10_bar_16 : decode cX10_bar 16 = .ok (.getfield 10, 3) := by decide +kernel
theorem dX10_bar_19 : decode cX10_bar 19 = .ok (.getfield 98, 3) := by decide +kernel
theorem dX10_bar_22 : decode cX10_bar 22 = .ok (.aload_n 0, 1) := by decide +kernel
theorem dX10_bar_23 : decode cX10_bar 23 = .ok (.getfield 10, 3) := by decide +kernel
theorem dX10_bar_26 : decode cX10_bar 26 = .ok (.getfield 94, 3) := by decide +kernel
theorem dX10_bar_29 : decode cX10_bar 29 = .ok (.iload_n 1, 1) := by decide +kernel
theorem dX10_bar_30 : decode cX10_bar 30 = .ok (.iload_n 2, 1) := by decide +kernel
theorem dX10_bar_31 : decode cX10_bar 31 = .ok (.invokestatic 101, 3) := by decide +kernel
theorem dX10_bar_34 : decode cX10_bar 34 = .ok (.iload_n 3, 1) := by decide +kernel
theorem dX10_bar_35 : decode cX10_bar 35 = .ok (.iload 4, 2) := by decide +kernel
theorem dX10_bar_37 : decode cX10_bar 37 = .ok (.invokestatic 105, 3) := by decide +kernel
theorem dX10_bar_40 : decode cX10_bar 40 = .ok (.ireturn, 1) := by decide +kernel
theorem dX10_law_0 : decode cX10_law 0 = .ok (.iload_n 1, 1) := by decide +kernel
theorem dX10_law_1 : decode cX10_law 1 = .ok (.iconst 1, 1) := by decide +kernel
theorem dX10_law_2 : decode cX10_law 2 = .ok (.bipush 100, 2) := by decide +kernel
theorem dX10_law_4 : decode cX10_law 4 = .ok (.invokestatic 72, 3) := by decide +kernel
theorem dX10_law_7 : decode cX10_law 7 = .ok (.ifCond .eq 14, 3) := by decide +kernel
theorem dX10_law_10 : decode cX10_law 10 = .ok (.iload_n 2, 1) := by decide +kernel
theorem dX10_law_11 : decode cX10_law 11 = .ok (.iconst 1, 1) := by decide +kernel
theorem dX10_law_12 : decode cX10_law 12 = .ok (.sipush 9999, 3) := by decide +kernel
theorem dX10_law_15 : decode cX10_law 15 = .ok (.invokestatic 72, 3) := by decide +kernel
theorem dX10_law_18 : decode cX10_law 18 = .ok (.ifCond .ne 5, 3) := by decide +kernel
theorem dX10_law_21 : decode cX10_law 21 = .ok (.iconst 0, 1) := by decide +kernel
theorem dX10_law_22 : decode cX10_law 22 = .ok (.ireturn, 1) := by decide +kernel
theorem dX10_law_23 : decode cX10_law 23 = .ok (.aload_n 0, 1) := by decide +kernel
theorem dX10_law_24 : decode cX10_law 24 = .ok (.getfield 19, 3) := by decide +kernel
theorem dX10_law_27 : decode cX10_law 27 = .ok (.iload_n 1, 1) := by decide +kernel
theorem dX10_law_28 : decode cX10_law 28 = .ok (.putfield 109, 3) := by decide +kernel
theorem dX10_law_31 : decode cX10_law 31 = .ok (.aload_n 0, 1) := by decide +kernel
theorem dX10_law_32 : decode cX10_law 32 = .ok (.getfield 19, 3) := by decide +kernel
theorem dX10_law_35 : decode cX10_law 35 = .ok (.iload_n 2, 1) := by decide +kernel
theorem dX10_law_36 : decode cX10_law 36 = .ok (.putfield 113, 3) := by decide +kernel
theorem dX10_law_39 : decode cX10_law 39 = .ok (.aload_n 0, 1) := by decide +kernel
theorem dX10_law_40 : decode cX10_law 40 = .ok (.getfield 19, 3) := by decide +kernel
theorem dX10_law_43 : decode cX10_law 43 = .ok (.iload_n 3, 1) := by decide +kernel
theorem dX10_law_44 : decode cX10_law 44 = .ok (.putfield 116, 3) := by decide +kernel
theorem dX10_law_47 : decode cX10_law 47 = .ok (.iconst 1, 1) := by decide +kernel
theorem dX10_law_48 : decode cX10_law 48 = .ok (.ireturn, 1) := by decide +kernel
theorem dX10_prices_0 : decode cX10_prices 0 = .ok (.iload_n 1, 1) := by decide +kernel
theorem dX10_prices_1 : decode cX10_prices 1 = .ok (.iconst 0, 1) := by decide +kernel
theorem dX10_prices_2 : decode cX10_prices 2 = .ok (.bipush 99, 2) := by decide +kernel
theorem dX10_prices_4 : decode cX10_prices 4 = .ok (.invokestatic 72, 3) := by decide +kernel
theorem dX10_prices_7 : decode cX10_prices 7 = .ok (.ifCond .eq 13, 3) := by decide +kernel
theorem dX10_prices_10 : decode cX10_prices 10 = .ok (.iload_n 2, 1) := by decide +kernel
theorem dX10_prices_11 : decode cX10_prices 11 = .ok (.iconst 0, 1) := by decide +kernel
theorem dX10_prices_12 : decode cX10_prices 12 = .ok (.bipush 99, 2) := by decide +kernel
theorem dX10_prices_14 : decode cX10_prices 14 = .ok (.invokestatic 72, 3) := by decide +kernel
theorem dX10_prices_17 : decode cX10_prices 17 = .ok (.ifCond .ne 5, 3) := by decide +kernel
theorem dX10_prices_20 : decode cX10_prices 20 = .ok (.iconst 0, 1) := by decide +kernel
theorem dX10_prices_21 : decode cX10_prices 21 = .ok (.ireturn, 1) := by decide +kernel
theorem dX10_prices_22 : decode cX10_prices 22 = .ok (.aload_n 0, 1) := by decide +kernel
theorem dX10_prices_23 : decode cX10_prices 23 = .ok (.getfield 19, 3) := by decide +kernel
theorem dX10_prices_26 : decode cX10_prices 26 = .ok (.iload_n 1, 1) := by decide +kernel
theorem dX10_prices_27 : decode cX10_prices 27 = .ok (.putfield 120, 3) := by decide +kernel
theorem dX10_prices_30 : decode cX10_prices 30 = .ok (.aload_n 0, 1) := by decide +kernel
theorem dX10_prices_31 : decode cX10_prices 31 = .ok (.getfield 19, 3) := by decide +kernel
theorem dX10_prices_34 : decode cX10_prices 34 = .ok (.iload_n 2, 1) := by decide +kernel
theorem dX10_prices_35 : decode cX10_prices 35 = .ok (.putfield 123, 3) := by decide +kernel
theorem dX10_prices_38 : decode cX10_prices 38 = .ok (.iconst 1, 1) := by decide +kernel
theorem dX10_prices_39 : decode cX10_prices 39 = .ok (.ireturn, 1) := by decide +kernel
theorem dX10_weight_0 : decode cX10_weight 0 = .ok (.aload_n 0, 1) := by decide +kernel
theorem dX10_weight_1 : decode cX10_weight 1 = .ok (.getfield 10, 3) := by decide +kernel
theorem dX10_weight_4 : decode cX10_weight 4 = .ok (.iload_n 1, 1) := by decide +kernel
theorem dX10_weight_5 : decode cX10_weight 5 = .ok (.iload_n 2, 1) := by decide +kernel
theorem dX10_weight_6 : decode cX10_weight 6 = .ok (.iload_n 3, 1) := by decide +kernel
theorem dX10_weight_7 : decode cX10_weight 7 = .ok (.invokevirtual 80, 3) := by decide +kernel
theorem dX10_weight_10 : decode cX10_weight 10 = .ok (.ifCond .eq 11, 3) := by decide +kernel
theorem dX10_weight_13 : decode cX10_weight 13 = .ok (.iload 4, 2) := by decide +kernel
theorem dX10_weight_15 : decode cX10_weight 15 = .ok (.invokestatic 83, 3) := by decide +kernel
theorem dX10_weight_18 : decode cX10_weight 18 = .ok (.ifCond .ne 5, 3) := by decide +kernel
theorem dX10_weight_21 : decode cX10_weight 21 = .ok (.iconst (-1), 1) := by decide +kernel
theorem dX10_weight_22 : decode cX10_weight 22 = .ok (.ireturn, 1) := by decide +kernel
theorem dX10_weight_23 : decode cX10_weight 23 = .ok (.aload_n 0, 1) := by decide +kernel
theorem dX10_weight_24 : decode cX10_weight 24 = .ok (.getfield 26, 3) := by decide +kernel
theorem dX10_weight_27 : decode cX10_weight 27 = .ok (.iload_n 1, 1) := by decide +kernel
theorem dX10_weight_28 : decode cX10_weight 28 = .ok (.iload_n 2, 1) := by decide +kernel
theorem dX10_weight_29 : decode cX10_weight 29 = .ok (.iload_n 3, 1) := by decide +kernel
theorem dX10_weight_30 : decode cX10_weight 30 = .ok (.invokestatic 87, 3) := by decide +kernel
theorem dX10_weight_33 : decode cX10_weight 33 = .ok (.iload 4, 2) := by decide +kernel
theorem dX10_weight_35 : decode cX10_weight 35 = .ok (.aload_n 0, 1) := by decide +kernel
theorem dX10_weight_36 : decode cX10_weight 36 = .ok (.getfield 19, 3) := by decide +kernel
theorem dX10_weight_39 : decode cX10_weight 39 = .ok (.getfield 109, 3) := by decide +kernel
theorem dX10_weight_42 : decode cX10_weight 42 = .ok (.invokevirtual 126, 3) := by decide +kernel
theorem dX10_weight_45 : decode cX10_weight 45 = .ok (.ireturn, 1) := by decide +kernel
theorem dX10_needed_0 : decode cX10_needed 0 = .ok (.aload_n 0, 1) := by decide +kernel
theorem dX10_needed_1 : decode cX10_needed 1 = .ok (.getfield 10, 3) := by decide +kernel
theorem dX10_needed_4 : decode cX10_needed 4 = .ok (.iload_n 1, 1) := by decide +kernel
theorem dX10_needed_5 : decode cX10_needed 5 = .ok (.iload_n 2, 1) := by decide +kernel
theorem dX10_needed_6 : decode cX10_needed 6 = .ok (.iload_n 3, 1) := by decide +kernel
theorem dX10_needed_7 : decode cX10_needed 7 = .ok (.invokevirtual 80, 3) := by decide +kernel
theorem dX10_needed_10 : decode cX10_needed 10 = .ok (.ifCond .eq 11, 3) := by decide +kernel
theorem dX10_needed_13 : decode cX10_needed 13 = .ok (.iload 4, 2) := by decide +kernel
theorem dX10_needed_15 : decode cX10_needed 15 = .ok (.invokestatic 83, 3) := by decide +kernel
theorem dX10_needed_18 : decode cX10_needed 18 = .ok (.ifCond .ne 5, 3) := by decide +kernel
theorem dX10_needed_21 : decode cX10_needed 21 = .ok (.iconst (-1), 1) := by decide +kernel
theorem dX10_needed_22 : decode cX10_needed 22 = .ok (.ireturn, 1) := by decide +kernel
theorem dX10_needed_23 : decode cX10_needed 23 = .ok (.aload_n 0, 1) := by decide +kernel
theorem dX10_needed_24 : decode cX10_needed 24 = .ok (.getfield 26, 3) := by decide +kernel
theorem dX10_needed_27 : decode cX10_needed 27 = .ok (.iload_n 1, 1) := by decide +kernel
theorem dX10_needed_28 : decode cX10_needed 28 = .ok (.iload_n 2, 1) := by decide +kernel
theorem dX10_needed_29 : decode cX10_needed 29 = .ok (.iload_n 3, 1) := by decide +kernel
theorem dX10_needed_30 : decode cX10_needed 30 = .ok (.invokestatic 87, 3) := by decide +kernel
theorem dX10_needed_33 : decode cX10_needed 33 = .ok (.iload 4, 2) := by decide +kernel
theorem dX10_needed_35 : decode cX10_needed 35 = .ok (.aload_n 0, 1) := by decide +kernel
theorem dX10_needed_36 : decode cX10_needed 36 = .ok (.getfield 19, 3) := by decide +kernel
theorem dX10_needed_39 : decode cX10_needed 39 = .ok (.getfield 109, 3) := by decide +kernel
theorem dX10_needed_42 : decode cX10_needed 42 = .ok (.invokevirtual 126, 3) := by decide +kernel
theorem dX10_needed_45 : decode cX10_needed 45 = .ok (.istore 5, 2) := by decide +kernel
theorem dX10_needed_47 : decode cX10_needed 47 = .ok (.aload_n 0, 1) := by decide +kernel
theorem dX10_needed_48 : decode cX10_needed 48 = .ok (.getfield 10, 3) := by decide +kernel
theorem dX10_needed_51 : decode cX10_needed 51 = .ok (.iload_n 1, 1) := by decide +kernel
theorem dX10_needed_52 : decode cX10_needed 52 = .ok (.iload_n 2, 1) := by decide +kernel
theorem dX10_needed_53 : decode cX10_needed 53 = .ok (.invokestatic 101, 3) := by decide +kernel
theorem dX10_needed_56 : decode cX10_needed 56 = .ok (.iload_n 3, 1) := by decide +kernel
theorem dX10_needed_57 : decode cX10_needed 57 = .ok (.iload 5, 2) := by decide +kernel
theorem dX10_needed_59 : decode cX10_needed 59 = .ok (.aload_n 0, 1) := by decide +kernel
theorem dX10_needed_60 : decode cX10_needed 60 = .ok (.getfield 19, 3) := by decide +kernel
theorem dX10_needed_63 : decode cX10_needed 63 = .ok (.getfield 113, 3) := by decide +kernel
theorem dX10_needed_66 : decode cX10_needed 66 = .ok (.invokevirtual 129, 3) := by decide +kernel
theorem dX10_needed_69 : decode cX10_needed 69 = .ok (.ifCond .eq 7, 3) := by decide +kernel
theorem dX10_needed_72 : decode cX10_needed 72 = .ok (.iconst 1, 1) := by decide +kernel
theorem dX10_needed_73 : decode cX10_needed 73 = .ok (.goto 4, 3) := by decide +kernel
theorem dX10_needed_76 : decode cX10_needed 76 = .ok (.iconst 0, 1) := by decide +kernel
theorem dX10_needed_77 : decode cX10_needed 77 = .ok (.ireturn, 1) := by decide +kernel
theorem dX10_plan_0 : decode cX10_plan 0 = .ok (.iload_n 1, 1) := by decide +kernel
theorem dX10_plan_1 : decode cX10_plan 1 = .ok (.invokestatic 83, 3) := by decide +kernel
theorem dX10_plan_4 : decode cX10_plan 4 = .ok (.ifCond .eq 13, 3) := by decide +kernel
theorem dX10_plan_7 : decode cX10_plan 7 = .ok (.aload_n 0, 1) := by decide +kernel
theorem dX10_plan_8 : decode cX10_plan 8 = .ok (.getfield 10, 3) := by decide +kernel
theorem dX10_plan_11 : decode cX10_plan 11 = .ok (.getfield 133, 3) := by decide +kernel
theorem dX10_plan_14 : decode cX10_plan 14 = .ok (.ifCond .ne 5, 3) := by decide +kernel
theorem dX10_plan_17 : decode cX10_plan 17 = .ok (.iconst (-1), 1) := by decide +kernel
theorem dX10_plan_18 : decode cX10_plan 18 = .ok (.ireturn, 1) := by decide +kernel
theorem dX10_plan_19 : decode cX10_plan 19 = .ok (.aload_n 0, 1) := by decide +kernel
theorem dX10_plan_20 : decode cX10_plan 20 = .ok (.getfield 40, 3) := by decide +kernel
theorem dX10_plan_23 : decode cX10_plan 23 = .ok (.aload_n 0, 1) := by decide +kernel
theorem dX10_plan_24 : decode cX10_plan 24 = .ok (.getfield 10, 3) := by decide +kernel
theorem dX10_plan_27 : decode cX10_plan 27 = .ok (.aload_n 0, 1) := by decide +kernel
theorem dX10_plan_28 : decode cX10_plan 28 = .ok (.getfield 19, 3) := by decide +kernel
theorem dX10_plan_31 : decode cX10_plan 31 = .ok (.aload_n 0, 1) := by decide +kernel
theorem dX10_plan_32 : decode cX10_plan 32 = .ok (.getfield 26, 3) := by decide +kernel
theorem dX10_plan_35 : decode cX10_plan 35 = .ok (.iload_n 1, 1) := by decide +kernel
theorem dX10_plan_36 : decode cX10_plan 36 = .ok (.invokevirtual 136, 3) := by decide +kernel
theorem dX10_plan_39 : decode cX10_plan 39 = .ok (.aload_n 0, 1) := by decide +kernel
theorem dX10_plan_40 : decode cX10_plan 40 = .ok (.getfield 47, 3) := by decide +kernel
theorem dX10_plan_43 : decode cX10_plan 43 = .ok (.aload_n 0, 1) := by decide +kernel
theorem dX10_plan_44 : decode cX10_plan 44 = .ok (.getfield 10, 3) := by decide +kernel
theorem dX10_plan_47 : decode cX10_plan 47 = .ok (.aload_n 0, 1) := by decide +kernel
theorem dX10_plan_48 : decode cX10_plan 48 = .ok (.getfield 19, 3) := by decide +kernel
theorem dX10_plan_51 : decode cX10_plan 51 = .ok (.aload_n 0, 1) := by decide +kernel
theorem dX10_plan_52 : decode cX10_plan 52 = .ok (.getfield 40, 3) := by decide +kernel
theorem dX10_plan_55 : decode cX10_plan 55 = .ok (.invokevirtual 140, 3) := by decide +kernel
theorem dX10_plan_58 : decode cX10_plan 58 = .ok (.aload_n 0, 1) := by decide +kernel
theorem dX10_plan_59 : decode cX10_plan 59 = .ok (.getfield 33, 3) := by decide +kernel
theorem dX10_plan_62 : decode cX10_plan 62 = .ok (.aload_n 0, 1) := by decide +kernel
theorem dX10_plan_63 : decode cX10_plan 63 = .ok (.getfield 47, 3) := by decide +kernel
theorem dX10_plan_66 : decode cX10_plan 66 = .ok (.getfield 144, 3) := by decide +kernel
theorem dX10_plan_69 : decode cX10_plan 69 = .ok (.aload_n 0, 1) := by decide +kernel
theorem dX10_plan_70 : decode cX10_plan 70 = .ok (.getfield 40, 3) := by decide +kernel
theorem dX10_plan_73 : decode cX10_plan 73 = .ok (.aload_n 0, 1) := by decide +kernel
theorem dX10_plan_74 : decode cX10_plan 74 = .ok (.getfield 10, 3) := by decide +kernel
theorem dX10_plan_77 : decode cX10_plan 77 = .ok (.aload_n 0, 1) := by decide +kernel
theorem dX10_plan_78 : decode cX10_plan 78 = .ok (.getfield 19, 3) := by decide +kernel
theorem dX10_plan_81 : decode cX10_plan 81 = .ok (.invokevirtual 147, 3) := by decide +kernel
theorem dX10_plan_84 : decode cX10_plan 84 = .ok (.aload_n 0, 1) := by decide +kernel
theorem dX10_plan_85 : decode cX10_plan 85 = .ok (.getfield 33, 3) := by decide +kernel
theorem dX10_plan_88 : decode cX10_plan 88 = .ok (.getfield 151, 3) := by decide +kernel
theorem dX10_plan_91 : decode cX10_plan 91 = .ok (.ireturn, 1) := by decide +kernel
theorem dX10_room_0 : decode cX10_room 0 = .ok (.aload_n 0, 1) := by decide +kernel
theorem dX10_room_1 : decode cX10_room 1 = .ok (.getfield 10, 3) := by decide +kernel
theorem dX10_room_4 : decode cX10_room 4 = .ok (.iload_n 1, 1) := by decide +kernel
theorem dX10_room_5 : decode cX10_room 5 = .ok (.invokevirtual 154, 3) := by decide +kernel
theorem dX10_room_8 : decode cX10_room 8 = .ok (.ifCond .eq 18, 3) := by decide +kernel
theorem dX10_room_11 : decode cX10_room 11 = .ok (.aload_n 0, 1) := by decide +kernel
theorem dX10_room_12 : decode cX10_room 12 = .ok (.getfield 33, 3) := by decide +kernel
theorem dX10_room_15 : decode cX10_room 15 = .ok (.getfield 157, 3) := by decide +kernel
theorem dX10_room_18 : decode cX10_room 18 = .ok (.getfield 161, 3) := by decide +kernel
theorem dX10_room_21 : decode cX10_room 21 = .ok (.iload_n 1, 1) := by decide +kernel
theorem dX10_room_22 : decode cX10_room 22 = .ok (.iaload, 1) := by decide +kernel
theorem dX10_room_23 : decode cX10_room 23 = .ok (.goto 4, 3) := by decide +kernel
theorem dX10_room_26 : decode cX10_room 26 = .ok (.iconst (-1), 1) := by decide +kernel
theorem dX10_room_27 : decode cX10_room 27 = .ok (.ireturn, 1) := by decide +kernel
theorem dX10_rule_0 : decode cX10_rule 0 = .ok (.iload_n 1, 1) := by decide +kernel
theorem dX10_rule_1 : decode cX10_rule 1 = .ok (.iconst 0, 1) := by decide +kernel
theorem dX10_rule_2 : decode cX10_rule 2 = .ok (.aload_n 0, 1) := by decide +kernel
theorem dX10_rule_3 : decode cX10_rule 3 = .ok (.getfield 33, 3) := by decide +kernel
theorem dX10_rule_6 : decode cX10_rule 6 = .ok (.getfield 166, 3) := by decide +kernel
theorem dX10_rule_9 : decode cX10_rule 9 = .ok (.iconst 1, 1) := by decide +kernel
theorem dX10_rule_10 : decode cX10_rule 10 = .ok (.isub, 1) := by decide +kernel
theorem dX10_rule_11 : decode cX10_rule 11 = .ok (.invokestatic 72, 3) := by decide +kernel
theorem dX10_rule_14 : decode cX10_rule 14 = .ok (.ifCond .ne 5, 3) := by decide +kernel
theorem dX10_rule_17 : decode cX10_rule 17 = .ok (.iconst (-1), 1) := by decide +kernel
theorem dX10_rule_18 : decode cX10_rule 18 = .ok (.ireturn, 1) := by decide +kernel
theorem dX10_rule_19 : decode cX10_rule 19 = .ok (.aload_n 0, 1) := by decide +kernel
theorem dX10_rule_20 : decode cX10_rule 20 = .ok (.getfield 33, 3) := by decide +kernel
theorem dX10_rule_23 : decode cX10_rule 23 = .ok (.getfield 169, 3) := by decide +kernel
theorem dX10_rule_26 : decode cX10_rule 26 = .ok (.iload_n 1, 1) := by decide +kernel
theorem dX10_rule_27 : decode cX10_rule 27 = .ok (.iaload, 1) := by decide +kernel
theorem dX10_rule_28 : decode cX10_rule 28 = .ok (.istore_n 3, 1) := by decide +kernel
theorem dX10_rule_29 : decode cX10_rule 29 = .ok (.iload_n 2, 1) := by decide +kernel
theorem dX10_rule_30 : decode cX10_rule 30 = .ok (.tableswitch 96 0 5 #[38, 43, 48, 53, 62, 72], 38) := by decide +kernel
theorem dX10_rule_68 : decode cX10_rule 68 = .ok (.iload_n 3, 1) := by decide +kernel
theorem dX10_rule_69 : decode cX10_rule 69 = .ok (.invokestatic 172, 3) := by decide +kernel
theorem dX10_rule_72 : decode cX10_rule 72 = .ok (.ireturn, 1) := by decide +kernel
theorem dX10_rule_73 : decode cX10_rule 73 = .ok (.iload_n 3, 1) := by decide +kernel
theorem dX10_rule_74 : decode cX10_rule 74 = .ok (.invokestatic 175, 3) := by decide +kernel
theorem dX10_rule_77 : decode cX10_rule 77 = .ok (.ireturn, 1) := by decide +kernel
theorem dX10_rule_78 : decode cX10_rule 78 = .ok (.iload_n 3, 1) := by decide +kernel
theorem dX10_rule_79 : decode cX10_rule 79 = .ok (.invokestatic 178, 3) := by decide +kernel
theorem dX10_rule_82 : decode cX10_rule 82 = .ok (.ireturn, 1) := by decide +kernel
theorem dX10_rule_83 : decode cX10_rule 83 = .ok (.aload_n 0, 1) := by decide +kernel
theorem dX10_rule_84 : decode cX10_rule 84 = .ok (.getfield 33, 3) := by decide +kernel
theorem dX10_rule_87 : decode cX10_rule 87 = .ok (.iload_n 3, 1) := by decide +kernel
theorem dX10_rule_88 : decode cX10_rule 88 = .ok (.invokevirtual 181, 3) := by decide +kernel
theorem dX10_rule_91 : decode cX10_rule 91 = .ok (.ireturn, 1) := by decide +kernel
theorem dX10_rule_92 : decode cX10_rule 92 = .ok (.aload_n 0, 1) := by decide +kernel
theorem dX10_rule_93 : decode cX10_rule 93 = .ok (.getfield 33, 3) := by decide +kernel
theorem dX10_rule_96 : decode cX10_rule 96 = .ok (.iload_n 3, 1) := by decide +kernel
theorem dX10_rule_97 : decode cX10_rule 97 = .ok (.iconst 0, 1) := by decide +kernel
theorem dX10_rule_98 : decode cX10_rule 98 = .ok (.invokevirtual 184, 3) := by decide +kernel
theorem dX10_rule_101 : decode cX10_rule 101 = .ok (.ireturn, 1) := by decide +kernel
theorem dX10_rule_102 : decode cX10_rule 102 = .ok (.aload_n 0, 1) := by decide +kernel
theorem dX10_rule_103 : decode cX10_rule 103 = .ok (.getfield 33, 3) := by decide +kernel
theorem dX10_rule_106 : decode cX10_rule 106 = .ok (.iload_n 3, 1) := by decide +kernel
theorem dX10_rule_107 : decode cX10_rule 107 = .ok (.aload_n 0, 1) := by decide +kernel
theorem dX10_rule_108 : decode cX10_rule 108 = .ok (.getfield 10, 3) := by decide +kernel
theorem dX10_rule_111 : decode cX10_rule 111 = .ok (.getfield 94, 3) := by decide +kernel
theorem dX10_rule_114 : decode cX10_rule 114 = .ok (.invokevirtual 187, 3) := by decide +kernel
theorem dX10_rule_117 : decode cX10_rule 117 = .ok (.ifCond .eq 7, 3) := by decide +kernel
theorem dX10_rule_120 : decode cX10_rule 120 = .ok (.iconst 0, 1) := by decide +kernel
theorem dX10_rule_121 : decode cX10_rule 121 = .ok (.goto 4, 3) := by decide +kernel
theorem dX10_rule_124 : decode cX10_rule 124 = .ok (.iconst 1, 1) := by decide +kernel
theorem dX10_rule_125 : decode cX10_rule 125 = .ok (.ireturn, 1) := by decide +kernel
theorem dX10_rule_126 : decode cX10_rule 126 = .ok (.iconst (-1), 1) := by decide +kernel
theorem dX10_rule_127 : decode cX10_rule 127 = .ok (.ireturn, 1) := by decide +kernel
theorem dX10_lets_0 : decode cX10_lets 0 = .ok (.aload_n 0, 1) := by decide +kernel
theorem dX10_lets_1 : decode cX10_lets 1 = .ok (.getfield 10, 3) := by decide +kernel
theorem dX10_lets_4 : decode cX10_lets 4 = .ok (.iload_n 1, 1) := by decide +kernel
theorem dX10_lets_5 : decode cX10_lets 5 = .ok (.iload_n 2, 1) := by decide +kernel
theorem dX10_lets_6 : decode cX10_lets 6 = .ok (.iload_n 3, 1) := by decide +kernel
theorem dX10_lets_7 : decode cX10_lets 7 = .ok (.invokevirtual 80, 3) := by decide +kernel
theorem dX10_lets_10 : decode cX10_lets 10 = .ok (.ifCond .eq 18, 3) := by decide +kernel
theorem dX10_lets_13 : decode cX10_lets 13 = .ok (.aload_n 0, 1) := by decide +kernel
theorem dX10_lets_14 : decode cX10_lets 14 = .ok (.getfield 33, 3) := by decide +kernel
theorem dX10_lets_17 : decode cX10_lets 17 = .ok (.getfield 157, 3) := by decide +kernel
theorem dX10_lets_20 : decode cX10_lets 20 = .ok (.iload_n 1, 1) := by decide +kernel
theorem dX10_lets_21 : decode cX10_lets 21 = .ok (.iload_n 2, 1) := by decide +kernel
theorem dX10_lets_22 : decode cX10_lets 22 = .ok (.invokevirtual 191, 3) := by decide +kernel
theorem dX10_lets_25 : decode cX10_lets 25 = .ok (.ifCond .ne 5, 3) := by decide +kernel
theorem dX10_lets_28 : decode cX10_lets 28 = .ok (.iconst (-1), 1) := by decide +kernel
theorem dX10_lets_29 : decode cX10_lets 29 = .ok (.ireturn, 1) := by decide +kernel
theorem dX10_lets_30 : decode cX10_lets 30 = .ok (.aload_n 0, 1) := by decide +kernel
theorem dX10_lets_31 : decode cX10_lets 31 = .ok (.getfield 33, 3) := by decide +kernel
theorem dX10_lets_34 : decode cX10_lets 34 = .ok (.getfield 157, 3) := by decide +kernel
theorem dX10_lets_37 : decode cX10_lets 37 = .ok (.iload_n 1, 1) := by decide +kernel
theorem dX10_lets_38 : decode cX10_lets 38 = .ok (.iload_n 2, 1) := by decide +kernel
theorem dX10_lets_39 : decode cX10_lets 39 = .ok (.iload_n 3, 1) := by decide +kernel
theorem dX10_lets_40 : decode cX10_lets 40 = .ok (.invokevirtual 195, 3) := by decide +kernel
theorem dX10_lets_43 : decode cX10_lets 43 = .ok (.ifCond .ne 5, 3) := by decide +kernel
theorem dX10_lets_46 : decode cX10_lets 46 = .ok (.iconst 0, 1) := by decide +kernel
theorem dX10_lets_47 : decode cX10_lets 47 = .ok (.ireturn, 1) := by decide +kernel
theorem dX10_lets_48 : decode cX10_lets 48 = .ok (.aload_n 0, 1) := by decide +kernel
theorem dX10_lets_49 : decode cX10_lets 49 = .ok (.getfield 33, 3) := by decide +kernel
theorem dX10_lets_52 : decode cX10_lets 52 = .ok (.getfield 157, 3) := by decide +kernel
theorem dX10_lets_55 : decode cX10_lets 55 = .ok (.getfield 161, 3) := by decide +kernel
theorem dX10_lets_58 : decode cX10_lets 58 = .ok (.iload_n 1, 1) := by decide +kernel
theorem dX10_lets_59 : decode cX10_lets 59 = .ok (.iaload, 1) := by decide +kernel
theorem dX10_lets_60 : decode cX10_lets 60 = .ok (.aload_n 0, 1) := by decide +kernel
theorem dX10_lets_61 : decode cX10_lets 61 = .ok (.getfield 33, 3) := by decide +kernel
theorem dX10_lets_64 : decode cX10_lets 64 = .ok (.getfield 157, 3) := by decide +kernel
theorem dX10_lets_67 : decode cX10_lets 67 = .ok (.getfield 161, 3) := by decide +kernel
theorem dX10_lets_70 : decode cX10_lets 70 = .ok (.iload_n 2, 1) := by decide +kernel
theorem dX10_lets_71 : decode cX10_lets 71 = .ok (.iaload, 1) := by decide +kernel
theorem dX10_lets_72 : decode cX10_lets 72 = .ok (.if_icmp .ne 7, 3) := by decide +kernel
theorem dX10_lets_75 : decode cX10_lets 75 = .ok (.iconst 1, 1) := by decide +kernel
theorem dX10_lets_76 : decode cX10_lets 76 = .ok (.goto 4, 3) := by decide +kernel
theorem dX10_lets_79 : decode cX10_lets 79 = .ok (.iconst 2, 1) := by decide +kernel
theorem dX10_lets_80 : decode cX10_lets 80 = .ok (.ireturn, 1) := by decide +kernel
theorem dX10_reach_0 : decode cX10_reach 0 = .ok (.aload_n 0, 1) := by decide +kernel
theorem dX10_reach_1 : decode cX10_reach 1 = .ok (.getfield 10, 3) := by decide +kernel
theorem dX10_reach_4 : decode cX10_reach 4 = .ok (.iload_n 1, 1) := by decide +kernel
theorem dX10_reach_5 : decode cX10_reach 5 = .ok (.invokevirtual 154, 3) := by decide +kernel
theorem dX10_reach_8 : decode cX10_reach 8 = .ok (.ifCond .eq 19, 3) := by decide +kernel
theorem dX10_reach_11 : decode cX10_reach 11 = .ok (.aload_n 0, 1) := by decide +kernel
theorem dX10_reach_12 : decode cX10_reach 12 = .ok (.getfield 33, 3) := by decide +kernel
theorem dX10_reach_15 : decode cX10_reach 15 = .ok (.getfield 157, 3) := by decide +kernel
theorem dX10_reach_18 : decode cX10_reach 18 = .ok (.getfield 161, 3) := by decide +kernel
theorem dX10_reach_21 : decode cX10_reach 21 = .ok (.iload_n 1, 1) := by decide +kernel
theorem dX10_reach_22 : decode cX10_reach 22 = .ok (.iaload, 1) := by decide +kernel
theorem dX10_reach_23 : decode cX10_reach 23 = .ok (.iconst (-1), 1) := by decide +kernel
theorem dX10_reach_24 : decode cX10_reach 24 = .ok (.if_icmp .ne 5, 3) := by decide +kernel
theorem dX10_reach_27 : decode cX10_reach 27 = .ok (.iconst (-1), 1) := by decide +kernel
theorem dX10_reach_28 : decode cX10_reach 28 = .ok (.ireturn, 1) := by decide +kernel
theorem dX10_reach_29 : decode cX10_reach 29 = .ok (.aload_n 0, 1) := by decide +kernel
theorem dX10_reach_30 : decode cX10_reach 30 = .ok (.getfield 54, 3) := by decide +kernel
theorem dX10_reach_33 : decode cX10_reach 33 = .ok (.aload_n 0, 1) := by decide +kernel
theorem dX10_reach_34 : decode cX10_reach 34 = .ok (.getfield 33, 3) := by decide +kernel
theorem dX10_reach_37 : decode cX10_reach 37 = .ok (.invokevirtual 198, 3) := by decide +kernel
theorem dX10_reach_40 : decode cX10_reach 40 = .ok (.aload_n 0, 1) := by decide +kernel
theorem dX10_reach_41 : decode cX10_reach 41 = .ok (.getfield 54, 3) := by decide +kernel
theorem dX10_reach_44 : decode cX10_reach 44 = .ok (.aload_n 0, 1) := by decide +kernel
theorem dX10_reach_45 : decode cX10_reach 45 = .ok (.getfield 33, 3) := by decide +kernel
theorem dX10_reach_48 : decode cX10_reach 48 = .ok (.getfield 157, 3) := by decide +kernel
theorem dX10_reach_51 : decode cX10_reach 51 = .ok (.getfield 161, 3) := by decide +kernel
theorem dX10_reach_54 : decode cX10_reach 54 = .ok (.iload_n 1, 1) := by decide +kernel
theorem dX10_reach_55 : decode cX10_reach 55 = .ok (.iaload, 1) := by decide +kernel
theorem dX10_reach_56 : decode cX10_reach 56 = .ok (.invokevirtual 202, 3) := by decide +kernel
theorem dX10_reach_59 : decode cX10_reach 59 = .ok (.ireturn, 1) := by decide +kernel
theorem dX10_spread_0 : decode cX10_spread 0 = .ok (.aload_n 0, 1) := by decide +kernel
theorem dX10_spread_1 : decode cX10_spread 1 = .ok (.getfield 33, 3) := by decide +kernel
theorem dX10_spread_4 : decode cX10_spread 4 = .ok (.getfield 205, 3) := by decide +kernel
theorem dX10_spread_7 : decode cX10_spread 7 = .ok (.ifCond .eq 12, 3) := by decide +kernel
theorem dX10_spread_10 : decode cX10_spread 10 = .ok (.iload_n 1, 1) := by decide +kernel
theorem dX10_spread_11 : decode cX10_spread 11 = .ok (.iconst 0, 1) := by decide +kernel
theorem dX10_spread_12 : decode cX10_spread 12 = .ok (.iconst 1, 1) := by decide +kernel
theorem dX10_spread_13 : decode cX10_spread 13 = .ok (.invokestatic 72, 3) := by decide +kernel
theorem dX10_spread_16 : decode cX10_spread 16 = .ok (.ifCond .ne 5, 3) := by decide +kernel
theorem dX10_spread_19 : decode cX10_spread 19 = .ok (.iconst (-1), 1) := by decide +kernel
theorem dX10_spread_20 : decode cX10_spread 20 = .ok (.ireturn, 1) := by decide +kernel
theorem dX10_spread_21 : decode cX10_spread 21 = .ok (.aload_n 0, 1) := by decide +kernel
theorem dX10_spread_22 : decode cX10_spread 22 = .ok (.getfield 54, 3) := by decide +kernel
theorem dX10_spread_25 : decode cX10_spread 25 = .ok (.aload_n 0, 1) := by decide +kernel
theorem dX10_spread_26 : decode cX10_spread 26 = .ok (.getfield 33, 3) := by decide +kernel
theorem dX10_spread_29 : decode cX10_spread 29 = .ok (.invokevirtual 198, 3) := by decide +kernel
theorem dX10_spread_32 : decode cX10_spread 32 = .ok (.aload_n 0, 1) := by decide +kernel
theorem dX10_spread_33 : decode cX10_spread 33 = .ok (.getfield 54, 3) := by decide +kernel
theorem dX10_spread_36 : decode cX10_spread 36 = .ok (.invokevirtual 208, 3) := by decide +kernel
theorem dX10_spread_39 : decode cX10_spread 39 = .ok (.istore_n 2, 1) := by decide +kernel
theorem dX10_spread_40 : decode cX10_spread 40 = .ok (.iload_n 1, 1) := by decide +kernel
theorem dX10_spread_41 : decode cX10_spread 41 = .ok (.ifCond .ne 7, 3) := by decide +kernel
theorem dX10_spread_44 : decode cX10_spread 44 = .ok (.iload_n 2, 1) := by decide +kernel
theorem dX10_spread_45 : decode cX10_spread 45 = .ok (.goto 18, 3) := by decide +kernel
theorem dX10_spread_48 : decode cX10_spread 48 = .ok (.aload_n 0, 1) := by decide +kernel
theorem dX10_spread_49 : decode cX10_spread 49 = .ok (.getfield 54, 3) := by decide +kernel
theorem dX10_spread_52 : decode cX10_spread 52 = .ok (.iload_n 2, 1) := by decide +kernel
theorem dX10_spread_53 : decode cX10_spread 53 = .ok (.aload_n 0, 1) := by decide +kernel
theorem dX10_spread_54 : decode cX10_spread 54 = .ok (.getfield 33, 3) := by decide +kernel
theorem dX10_spread_57 : decode cX10_spread 57 = .ok (.getfield 157, 3) := by decide +kernel
theorem dX10_spread_60 : decode cX10_spread 60 = .ok (.invokevirtual 212, 3) := by decide +kernel
theorem dX10_spread_63 : decode cX10_spread 63 = .ok (.ireturn, 1) := by decide +kernel
theorem dX10_shut_0 : decode cX10_shut 0 = .ok (.aload_n 0, 1) := by decide +kernel
theorem dX10_shut_1 : decode cX10_shut 1 = .ok (.getfield 33, 3) := by decide +kernel
theorem dX10_shut_4 : decode cX10_shut 4 = .ok (.getfield 205, 3) := by decide +kernel
theorem dX10_shut_7 : decode cX10_shut 7 = .ok (.ifCond .eq 13, 3) := by decide +kernel
theorem dX10_shut_10 : decode cX10_shut 10 = .ok (.iload_n 1, 1) := by decide +kernel
theorem dX10_shut_11 : decode cX10_shut 11 = .ok (.iconst 0, 1) := by decide +kernel
theorem dX10_shut_12 : decode cX10_shut 12 = .ok (.bipush 8, 2) := by decide +kernel
theorem dX10_shut_14 : decode cX10_shut 14 = .ok (.invokestatic 72, 3) := by decide +kernel
theorem dX10_shut_17 : decode cX10_shut 17 = .ok (.ifCond .ne 5, 3) := by decide +kernel
theorem dX10_shut_20 : decode cX10_shut 20 = .ok (.iconst (-1), 1) := by decide +kernel
theorem dX10_shut_21 : decode cX10_shut 21 = .ok (.ireturn, 1) := by decide +kernel
theorem dX10_shut_22 : decode cX10_shut 22 = .ok (.aload_n 0, 1) := by decide +kernel
theorem dX10_shut_23 : decode cX10_shut 23 = .ok (.getfield 61, 3) := by decide +kernel
theorem dX10_shut_26 : decode cX10_shut 26 = .ok (.aload_n 0, 1) := by decide +kernel
theorem dX10_shut_27 : decode cX10_shut 27 = .ok (.getfield 33, 3) := by decide +kernel
theorem dX10_shut_30 : decode cX10_shut 30 = .ok (.aload_n 0, 1) := by decide +kernel
theorem dX10_shut_31 : decode cX10_shut 31 = .ok (.getfield 10, 3) := by decide +kernel
theorem dX10_shut_34 : decode cX10_shut 34 = .ok (.getfield 94, 3) := by decide +kernel
theorem dX10_shut_37 : decode cX10_shut 37 = .ok (.iload_n 1, 1) := by decide +kernel
theorem dX10_shut_38 : decode cX10_shut 38 = .ok (.invokevirtual 216, 3) := by decide +kernel
theorem dX10_shut_41 : decode cX10_shut 41 = .ok (.ireturn, 1) := by decide +kernel
theorem dX10_shutting_0 : decode cX10_shutting 0 = .ok (.iload_n 1, 1) := by decide +kernel
theorem dX10_shutting_1 : decode cX10_shutting 1 = .ok (.iconst 0, 1) := by decide +kernel
theorem dX10_shutting_2 : decode cX10_shutting 2 = .ok (.aload_n 0, 1) := by decide +kernel
theorem dX10_shutting_3 : decode cX10_shutting 3 = .ok (.getfield 61, 3) := by decide +kernel
theorem dX10_shutting_6 : decode cX10_shutting 6 = .ok (.getfield 220, 3) := by decide +kernel
theorem dX10_shutting_9 : decode cX10_shutting 9 = .ok (.iconst 1, 1) := by decide +kernel
theorem dX10_shutting_10 : decode cX10_shutting 10 = .ok (.isub, 1) := by decide +kernel
theorem dX10_shutting_11 : decode cX10_shutting 11 = .ok (.invokestatic 72, 3) := by decide +kernel
theorem dX10_shutting_14 : decode cX10_shutting 14 = .ok (.ifCond .eq 15, 3) := by decide +kernel
theorem dX10_shutting_17 : decode cX10_shutting 17 = .ok (.aload_n 0, 1) := by decide +kernel
theorem dX10_shutting_18 : decode cX10_shutting 18 = .ok (.getfield 61, 3) := by decide +kernel
theorem dX10_shutting_21 : decode cX10_shutting 21 = .ok (.getfield 223, 3) := by decide +kernel
theorem dX10_shutting_24 : decode cX10_shutting 24 = .ok (.iload_n 1, 1) := by decide +kernel
theorem dX10_shutting_25 : decode cX10_shutting 25 = .ok (.iaload, 1) := by decide +kernel
theorem dX10_shutting_26 : decode cX10_shutting 26 = .ok (.goto 4, 3) := by decide +kernel
theorem dX10_shutting_29 : decode cX10_shutting 29 = .ok (.iconst (-1), 1) := by decide +kernel
theorem dX10_shutting_30 : decode cX10_shutting 30 = .ok (.ireturn, 1) := by decide +kernel
theorem dX10_odd_0 : decode cX10_odd 0 = .ok (.aload_n 0, 1) := by decide +kernel
theorem dX10_odd_1 : decode cX10_odd 1 = .ok (.getfield 33, 3) := by decide +kernel
theorem dX10_odd_4 : decode cX10_odd 4 = .ok (.getfield 205, 3) := by decide +kernel
theorem dX10_odd_7 : decode cX10_odd 7 = .ok (.ifCond .eq 10, 3) := by decide +kernel
theorem dX10_odd_10 : decode cX10_odd 10 = .ok (.iload_n 1, 1) := by decide +kernel
theorem dX10_odd_11 : decode cX10_odd 11 = .ok (.invokestatic 83, 3) := by decide +kernel
theorem dX10_odd_14 : decode cX10_odd 14 = .ok (.ifCond .ne 5, 3) := by decide +kernel
theorem dX10_odd_17 : decode cX10_odd 17 = .ok (.iconst (-1), 1) := by decide +kernel
theorem dX10_odd_18 : decode cX10_odd 18 = .ok (.ireturn, 1) := by decide +kernel
theorem dX10_odd_19 : decode cX10_odd 19 = .ok (.aload_n 0, 1) := by decide +kernel
theorem dX10_odd_20 : decode cX10_odd 20 = .ok (.getfield 68, 3) := by decide +kernel
theorem dX10_odd_23 : decode cX10_odd 23 = .ok (.aload_n 0, 1) := by decide +kernel
theorem dX10_odd_24 : decode cX10_odd 24 = .ok (.getfield 26, 3) := by decide +kernel
theorem dX10_odd_27 : decode cX10_odd 27 = .ok (.aload_n 0, 1) := by decide +kernel
theorem dX10_odd_28 : decode cX10_odd 28 = .ok (.getfield 33, 3) := by decide +kernel
theorem dX10_odd_31 : decode cX10_odd 31 = .ok (.getfield 157, 3) := by decide +kernel
theorem dX10_odd_34 : decode cX10_odd 34 = .ok (.iload_n 1, 1) := by decide +kernel
theorem dX10_odd_35 : decode cX10_odd 35 = .ok (.invokevirtual 226, 3) := by decide +kernel
theorem dX10_odd_38 : decode cX10_odd 38 = .ok (.aload_n 0, 1) := by decide +kernel
theorem dX10_odd_39 : decode cX10_odd 39 = .ok (.getfield 68, 3) := by decide +kernel
theorem dX10_odd_42 : decode cX10_odd 42 = .ok (.getfield 230, 3) := by decide +kernel
theorem dX10_odd_45 : decode cX10_odd 45 = .ok (.ireturn, 1) := by decide +kernel
theorem dX10_oddTalk_0 : decode cX10_oddTalk 0 = .ok (.iload_n 1, 1) := by decide +kernel
theorem dX10_oddTalk_1 : decode cX10_oddTalk 1 = .ok (.iconst 0, 1) := by decide +kernel
theorem dX10_oddTalk_2 : decode cX10_oddTalk 2 = .ok (.aload_n 0, 1) := by decide +kernel
theorem dX10_oddTalk_3 : decode cX10_oddTalk 3 = .ok (.getfield 68, 3) := by decide +kernel
theorem dX10_oddTalk_6 : decode cX10_oddTalk 6 = .ok (.getfield 230, 3) := by decide +kernel
theorem dX10_oddTalk_9 : decode cX10_oddTalk 9 = .ok (.iconst 1, 1) := by decide +kernel
theorem dX10_oddTalk_10 : decode cX10_oddTalk 10 = .ok (.isub, 1) := by decide +kernel
theorem dX10_oddTalk_11 : decode cX10_oddTalk 11 = .ok (.invokestatic 72, 3) := by decide +kernel
theorem dX10_oddTalk_14 : decode cX10_oddTalk 14 = .ok (.ifCond .ne 5, 3) := by decide +kernel
theorem dX10_oddTalk_17 : decode cX10_oddTalk 17 = .ok (.iconst (-1), 1) := by decide +kernel
theorem dX10_oddTalk_18 : decode cX10_oddTalk 18 = .ok (.ireturn, 1) := by decide +kernel
theorem dX10_oddTalk_19 : decode cX10_oddTalk 19 = .ok (.aload_n 0, 1) := by decide +kernel
theorem dX10_oddTalk_20 : decode cX10_oddTalk 20 = .ok (.getfield 68, 3) := by decide +kernel
theorem dX10_oddTalk_23 : decode cX10_oddTalk 23 = .ok (.getfield 233, 3) := by decide +kernel
theorem dX10_oddTalk_26 : decode cX10_oddTalk 26 = .ok (.iload_n 1, 1) := by decide +kernel
theorem dX10_oddTalk_27 : decode cX10_oddTalk 27 = .ok (.iaload, 1) := by decide +kernel
theorem dX10_oddTalk_28 : decode cX10_oddTalk 28 = .ok (.istore_n 3, 1) := by decide +kernel
theorem dX10_oddTalk_29 : decode cX10_oddTalk 29 = .ok (.iload_n 2, 1) := by decide +kernel
theorem dX10_oddTalk_30 : decode cX10_oddTalk 30 = .ok (.tableswitch 93 0 4 #[34, 47, 60, 73, 83], 34) := by decide +kernel
theorem dX10_oddTalk_64 : decode cX10_oddTalk 64 = .ok (.aload_n 0, 1) := by decide +kernel
theorem dX10_oddTalk_65 : decode cX10_oddTalk 65 = .ok (.getfield 26, 3) := by decide +kernel
theorem dX10_oddTalk_68 : decode cX10_oddTalk 68 = .ok (.getfield 236, 3) := by decide +kernel
theorem dX10_oddTalk_71 : decode cX10_oddTalk 71 = .ok (.iload_n 3, 1) := by decide +kernel
theorem dX10_oddTalk_72 : decode cX10_oddTalk 72 = .ok (.iaload, 1) := by decide +kernel
theorem dX10_oddTalk_73 : decode cX10_oddTalk 73 = .ok (.invokestatic 172, 3) := by decide +kernel
theorem dX10_oddTalk_76 : decode cX10_oddTalk 76 = .ok (.ireturn, 1) := by decide +kernel
theorem dX10_oddTalk_77 : decode cX10_oddTalk 77 = .ok (.aload_n 0, 1) := by decide +kernel
theorem dX10_oddTalk_78 : decode cX10_oddTalk 78 = .ok (.getfield 26, 3) := by decide +kernel
theorem dX10_oddTalk_81 : decode cX10_oddTalk 81 = .ok (.getfield 236, 3) := by decide +kernel
theorem dX10_oddTalk_84 : decode cX10_oddTalk 84 = .ok (.iload_n 3, 1) := by decide +kernel
theorem dX10_oddTalk_85 : decode cX10_oddTalk 85 = .ok (.iaload, 1) := by decide +kernel
theorem dX10_oddTalk_86 : decode cX10_oddTalk 86 = .ok (.invokestatic 175, 3) := by decide +kernel
theorem dX10_oddTalk_89 : decode cX10_oddTalk 89 = .ok (.ireturn, 1) := by decide +kernel
theorem dX10_oddTalk_90 : decode cX10_oddTalk 90 = .ok (.aload_n 0, 1) := by decide +kernel
theorem dX10_oddTalk_91 : decode cX10_oddTalk 91 = .ok (.getfield 26, 3) := by decide +kernel
theorem dX10_oddTalk_94 : decode cX10_oddTalk 94 = .ok (.getfield 236, 3) := by decide +kernel
theorem dX10_oddTalk_97 : decode cX10_oddTalk 97 = .ok (.iload_n 3, 1) := by decide +kernel
theorem dX10_oddTalk_98 : decode cX10_oddTalk 98 = .ok (.iaload, 1) := by decide +kernel
theorem dX10_oddTalk_99 : decode cX10_oddTalk 99 = .ok (.invokestatic 178, 3) := by decide +kernel
theorem dX10_oddTalk_102 : decode cX10_oddTalk 102 = .ok (.ireturn, 1) := by decide +kernel
theorem dX10_oddTalk_103 : decode cX10_oddTalk 103 = .ok (.aload_n 0, 1) := by decide +kernel
theorem dX10_oddTalk_104 : decode cX10_oddTalk 104 = .ok (.getfield 26, 3) := by decide +kernel
theorem dX10_oddTalk_107 : decode cX10_oddTalk 107 = .ok (.getfield 239, 3) := by decide +kernel
theorem dX10_oddTalk_110 : decode cX10_oddTalk 110 = .ok (.iload_n 3, 1) := by decide +kernel
theorem dX10_oddTalk_111 : decode cX10_oddTalk 111 = .ok (.iaload, 1) := by decide +kernel
theorem dX10_oddTalk_112 : decode cX10_oddTalk 112 = .ok (.ireturn, 1) := by decide +kernel
theorem dX10_oddTalk_113 : decode cX10_oddTalk 113 = .ok (.aload_n 0, 1) := by decide +kernel
theorem dX10_oddTalk_114 : decode cX10_oddTalk 114 = .ok (.getfield 68, 3) := by decide +kernel
theorem dX10_oddTalk_117 : decode cX10_oddTalk 117 = .ok (.getfield 242, 3) := by decide +kernel
theorem dX10_oddTalk_120 : decode cX10_oddTalk 120 = .ok (.iload_n 1, 1) := by decide +kernel
theorem dX10_oddTalk_121 : decode cX10_oddTalk 121 = .ok (.iaload, 1) := by decide +kernel
theorem dX10_oddTalk_122 : decode cX10_oddTalk 122 = .ok (.ireturn, 1) := by decide +kernel
theorem dX10_oddTalk_123 : decode cX10_oddTalk 123 = .ok (.iconst (-1), 1) := by decide +kernel
theorem dX10_oddTalk_124 : decode cX10_oddTalk 124 = .ok (.ireturn, 1) := by decide +kernel
theorem dX10_place_0 : decode cX10_place 0 = .ok (.aload_n 0, 1) := by decide +kernel
theorem dX10_place_1 : decode cX10_place 1 = .ok (.getfield 10, 3) := by decide +kernel
theorem dX10_place_4 : decode cX10_place 4 = .ok (.iload_n 1, 1) := by decide +kernel
theorem dX10_place_5 : decode cX10_place 5 = .ok (.invokevirtual 154, 3) := by decide +kernel
theorem dX10_place_8 : decode cX10_place 8 = .ok (.ifCond .eq 36, 3) := by decide +kernel
theorem dX10_place_11 : decode cX10_place 11 = .ok (.iload_n 2, 1) := by decide +kernel
theorem dX10_place_12 : decode cX10_place 12 = .ok (.invokestatic 83, 3) := by decide +kernel
theorem dX10_place_15 : decode cX10_place 15 = .ok (.ifCond .eq 29, 3) := by decide +kernel
theorem dX10_place_18 : decode cX10_place 18 = .ok (.aload_n 0, 1) := by decide +kernel
theorem dX10_place_19 : decode cX10_place 19 = .ok (.getfield 33, 3) := by decide +kernel
theorem dX10_place_22 : decode cX10_place 22 = .ok (.getfield 205, 3) := by decide +kernel
theorem dX10_place_25 : decode cX10_place 25 = .ok (.ifCond .eq 19, 3) := by decide +kernel
theorem dX10_place_28 : decode cX10_place 28 = .ok (.aload_n 0, 1) := by decide +kernel
theorem dX10_place_29 : decode cX10_place 29 = .ok (.getfield 33, 3) := by decide +kernel
theorem dX10_place_32 : decode cX10_place 32 = .ok (.getfield 157, 3) := by decide +kernel
theorem dX10_place_35 : decode cX10_place 35 = .ok (.getfield 161, 3) := by decide +kernel
theorem dX10_place_38 : decode cX10_place 38 = .ok (.iload_n 1, 1) := by decide +kernel
theorem dX10_place_39 : decode cX10_place 39 = .ok (.iaload, 1) := by decide +kernel
theorem dX10_place_40 : decode cX10_place 40 = .ok (.iconst (-1), 1) := by decide +kernel
theorem dX10_place_41 : decode cX10_place 41 = .ok (.if_icmp .eq 5, 3) := by decide +kernel
theorem dX10_place_44 : decode cX10_place 44 = .ok (.iconst (-1), 1) := by decide +kernel
theorem dX10_place_45 : decode cX10_place 45 = .ok (.ireturn, 1) := by decide +kernel
theorem dX10_place_46 : decode cX10_place 46 = .ok (.aload_n 0, 1) := by decide +kernel
theorem dX10_place_47 : decode cX10_place 47 = .ok (.getfield 40, 3) := by decide +kernel
theorem dX10_place_50 : decode cX10_place 50 = .ok (.aload_n 0, 1) := by decide +kernel
theorem dX10_place_51 : decode cX10_place 51 = .ok (.getfield 10, 3) := by decide +kernel
theorem dX10_place_54 : decode cX10_place 54 = .ok (.aload_n 0, 1) := by decide +kernel
theorem dX10_place_55 : decode cX10_place 55 = .ok (.getfield 19, 3) := by decide +kernel
theorem dX10_place_58 : decode cX10_place 58 = .ok (.aload_n 0, 1) := by decide +kernel
theorem dX10_place_59 : decode cX10_place 59 = .ok (.getfield 26, 3) := by decide +kernel
theorem dX10_place_62 : decode cX10_place 62 = .ok (.iload_n 2, 1) := by decide +kernel
theorem dX10_place_63 : decode cX10_place 63 = .ok (.invokevirtual 136, 3) := by decide +kernel
theorem dX10_place_66 : decode cX10_place 66 = .ok (.aload_n 0, 1) := by decide +kernel
theorem dX10_place_67 : decode cX10_place 67 = .ok (.getfield 47, 3) := by decide +kernel
theorem dX10_place_70 : decode cX10_place 70 = .ok (.iload_n 1, 1) := by decide +kernel
theorem dX10_place_71 : decode cX10_place 71 = .ok (.aload_n 0, 1) := by decide +kernel
theorem dX10_place_72 : decode cX10_place 72 = .ok (.getfield 33, 3) := by decide +kernel
theorem dX10_place_75 : decode cX10_place 75 = .ok (.aload_n 0, 1) := by decide +kernel
theorem dX10_place_76 : decode cX10_place 76 = .ok (.getfield 10, 3) := by decide +kernel
theorem dX10_place_79 : decode cX10_place 79 = .ok (.aload_n 0, 1) := by decide +kernel
theorem dX10_place_80 : decode cX10_place 80 = .ok (.getfield 19, 3) := by decide +kernel
theorem dX10_place_83 : decode cX10_place 83 = .ok (.aload_n 0, 1) := by decide +kernel
theorem dX10_place_84 : decode cX10_place 84 = .ok (.getfield 40, 3) := by decide +kernel
theorem dX10_place_87 : decode cX10_place 87 = .ok (.invokevirtual 245, 3) := by decide +kernel
theorem dX10_place_90 : decode cX10_place 90 = .ok (.istore_n 3, 1) := by decide +kernel
theorem dX10_place_91 : decode cX10_place 91 = .ok (.iload_n 3, 1) := by decide +kernel
theorem dX10_place_92 : decode cX10_place 92 = .ok (.iconst (-1), 1) := by decide +kernel
theorem dX10_place_93 : decode cX10_place 93 = .ok (.if_icmp .eq 29, 3) := by decide +kernel
theorem dX10_place_96 : decode cX10_place 96 = .ok (.aload_n 0, 1) := by decide +kernel
theorem dX10_place_97 : decode cX10_place 97 = .ok (.getfield 33, 3) := by decide +kernel
theorem dX10_place_100 : decode cX10_place 100 = .ok (.aload_n 0, 1) := by decide +kernel
theorem dX10_place_101 : decode cX10_place 101 = .ok (.getfield 47, 3) := by decide +kernel
theorem dX10_place_104 : decode cX10_place 104 = .ok (.getfield 144, 3) := by decide +kernel
theorem dX10_place_107 : decode cX10_place 107 = .ok (.aload_n 0, 1) := by decide +kernel
theorem dX10_place_108 : decode cX10_place 108 = .ok (.getfield 40, 3) := by decide +kernel
theorem dX10_place_111 : decode cX10_place 111 = .ok (.aload_n 0, 1) := by decide +kernel
theorem dX10_place_112 : decode cX10_place 112 = .ok (.getfield 10, 3) := by decide +kernel
theorem dX10_place_115 : decode cX10_place 115 = .ok (.aload_n 0, 1) := by decide +kernel
theorem dX10_place_116 : decode cX10_place 116 = .ok (.getfield 19, 3) := by decide +kernel
theorem dX10_place_119 : decode cX10_place 119 = .ok (.invokevirtual 147, 3) := by decide +kernel
theorem dX10_place_122 : decode cX10_place 122 = .ok (.iload_n 3, 1) := by decide +kernel
theorem dX10_place_123 : decode cX10_place 123 = .ok (.ireturn, 1) := by decide +kernel
theorem dX10_count_0 : decode cX10_count 0 = .ok (.iload_n 1, 1) := by decide +kernel
theorem dX10_count_1 : decode cX10_count 1 = .ok (.tableswitch 107 0 5 #[39, 47, 55, 66, 74, 85], 39) := by decide +kernel
theorem dX10_count_40 : decode cX10_count 40 = .ok (.aload_n 0, 1) := by decide +kernel
theorem dX10_count_41 : decode cX10_count 41 = .ok (.getfield 10, 3) := by decide +kernel
theorem dX10_count_44 : decode cX10_count 44 = .ok (.getfield 133, 3) := by decide +kernel
theorem dX10_count_47 : decode cX10_count 47 = .ok (.ireturn, 1) := by decide +kernel
theorem dX10_count_48 : decode cX10_count 48 = .ok (.aload_n 0, 1) := by decide +kernel
theorem dX10_count_49 : decode cX10_count 49 = .ok (.getfield 26, 3) := by decide +kernel
theorem dX10_count_52 : decode cX10_count 52 = .ok (.getfield 249, 3) := by decide +kernel
theorem dX10_count_55 : decode cX10_count 55 = .ok (.ireturn, 1) := by decide +kernel
theorem dX10_count_56 : decode cX10_count 56 = .ok (.aload_n 0, 1) := by decide +kernel
theorem dX10_count_57 : decode cX10_count 57 = .ok (.getfield 33, 3) := by decide +kernel
theorem dX10_count_60 : decode cX10_count 60 = .ok (.getfield 157, 3) := by decide +kernel
theorem dX10_count_63 : decode cX10_count 63 = .ok (.invokevirtual 250, 3) := by decide +kernel
theorem dX10_count_66 : decode cX10_count 66 = .ok (.ireturn, 1) := by decide +kernel
theorem dX10_count_67 : decode cX10_count 67 = .ok (.aload_n 0, 1) := by decide +kernel
theorem dX10_count_68 : decode cX10_count 68 = .ok (.getfield 33, 3) := by decide +kernel
theorem dX10_count_71 : decode cX10_count 71 = .ok (.getfield 166, 3) := by decide +kernel
theorem dX10_count_74 : decode cX10_count 74 = .ok (.ireturn, 1) := by decide +kernel
theorem dX10_count_75 : decode cX10_count 75 = .ok (.aload_n 0, 1) := by decide +kernel
theorem dX10_count_76 : decode cX10_count 76 = .ok (.getfield 33, 3) := by decide +kernel
theorem dX10_count_79 : decode cX10_count 79 = .ok (.getfield 157, 3) := by decide +kernel
theorem dX10_count_82 : decode cX10_count 82 = .ok (.getfield 253, 3) := by decide +kernel
theorem dX10_count_85 : decode cX10_count 85 = .ok (.ireturn, 1) := by decide +kernel
theorem dX10_count_86 : decode cX10_count 86 = .ok (.aload_n 0, 1) := by decide +kernel
theorem dX10_count_87 : decode cX10_count 87 = .ok (.getfield 33, 3) := by decide +kernel
theorem dX10_count_90 : decode cX10_count 90 = .ok (.getfield 205, 3) := by decide +kernel
theorem dX10_count_93 : decode cX10_count 93 = .ok (.ifCond .eq 13, 3) := by decide +kernel
theorem dX10_count_96 : decode cX10_count 96 = .ok (.aload_n 0, 1) := by decide +kernel
theorem dX10_count_97 : decode cX10_count 97 = .ok (.getfield 33, 3) := by decide +kernel
theorem dX10_count_100 : decode cX10_count 100 = .ok (.getfield 151, 3) := by decide +kernel
theorem dX10_count_103 : decode cX10_count 103 = .ok (.goto 4, 3) := by decide +kernel
theorem dX10_count_106 : decode cX10_count 106 = .ok (.iconst (-1), 1) := by decide +kernel
theorem dX10_count_107 : decode cX10_count 107 = .ok (.ireturn, 1) := by decide +kernel
theorem dX10_count_108 : decode cX10_count 108 = .ok (.iconst (-1), 1) := by decide +kernel
theorem dX10_count_109 : decode cX10_count 109 = .ok (.ireturn, 1) := by decide +kernel
theorem dX10_isBetween_0 : decode cX10_isBetween 0 = .ok (.iload_n 0, 1) := by decide +kernel
theorem dX10_isBetween_1 : decode cX10_isBetween 1 = .ok (.iload_n 1, 1) := by decide +kernel
theorem dX10_isBetween_2 : decode cX10_isBetween 2 = .ok (.if_icmp .lt 12, 3) := by decide +kernel
theorem dX10_isBetween_5 : decode cX10_isBetween 5 = .ok (.iload_n 0, 1) := by decide +kernel
theorem dX10_isBetween_6 : decode cX10_isBetween 6 = .ok (.iload_n 2, 1) := by decide +kernel
theorem dX10_isBetween_7 : decode cX10_isBetween 7 = .ok (.if_icmp .gt 7, 3) := by decide +kernel
theorem dX10_isBetween_10 : decode cX10_isBetween 10 = .ok (.iconst 1, 1) := by decide +kernel
theorem dX10_isBetween_11 : decode cX10_isBetween 11 = .ok (.goto 4, 3) := by decide +kernel
theorem dX10_isBetween_14 : decode cX10_isBetween 14 = .ok (.iconst 0, 1) := by decide +kernel
theorem dX10_isBetween_15 : decode cX10_isBetween 15 = .ok (.ireturn, 1) := by decide +kernel
theorem dX10_isDay_0 : decode cX10_isDay 0 = .ok (.iload_n 0, 1) := by decide +kernel
theorem dX10_isDay_1 : decode cX10_isDay 1 = .ok (.iconst 0, 1) := by decide +kernel
theorem dX10_isDay_2 : decode cX10_isDay 2 = .ok (.bipush 99, 2) := by decide +kernel
theorem dX10_isDay_4 : decode cX10_isDay 4 = .ok (.invokestatic 72, 3) := by decide +kernel
theorem dX10_isDay_7 : decode cX10_isDay 7 = .ok (.ireturn, 1) := by decide +kernel
theorem dX10_pairOf_0 : decode cX10_pairOf 0 = .ok (.iload_n 0, 1) := by decide +kernel
theorem dX10_pairOf_1 : decode cX10_pairOf 1 = .ok (.bipush 8, 2) := by decide +kernel
theorem dX10_pairOf_3 : decode cX10_pairOf 3 = .ok (.imul, 1) := by decide +kernel
theorem dX10_pairOf_4 : decode cX10_pairOf 4 = .ok (.iload_n 1, 1) := by decide +kernel
theorem dX10_pairOf_5 : decode cX10_pairOf 5 = .ok (.iadd, 1) := by decide +kernel
theorem dX10_pairOf_6 : decode cX10_pairOf 6 = .ok (.ireturn, 1) := by decide +kernel
theorem dX10_wayOf_0 : decode cX10_wayOf 0 = .ok (.iload_n 0, 1) := by decide +kernel
theorem dX10_wayOf_1 : decode cX10_wayOf 1 = .ok (.iload_n 1, 1) := by decide +kernel
theorem dX10_wayOf_2 : decode cX10_wayOf 2 = .ok (.invokestatic 101, 3) := by decide +kernel
theorem dX10_wayOf_5 : decode cX10_wayOf 5 = .ok (.iconst 4, 1) := by decide +kernel
theorem dX10_wayOf_6 : decode cX10_wayOf 6 = .ok (.imul, 1) := by decide +kernel
theorem dX10_wayOf_7 : decode cX10_wayOf 7 = .ok (.iload_n 2, 1) := by decide +kernel
theorem dX10_wayOf_8 : decode cX10_wayOf 8 = .ok (.iadd, 1) := by decide +kernel
theorem dX10_wayOf_9 : decode cX10_wayOf 9 = .ok (.ireturn, 1) := by decide +kernel
theorem dX10_firstOf_0 : decode cX10_firstOf 0 = .ok (.iload_n 0, 1) := by decide +kernel
theorem dX10_firstOf_1 : decode cX10_firstOf 1 = .ok (.iconst 4, 1) := by decide +kernel
theorem dX10_firstOf_2 : decode cX10_firstOf 2 = .ok (.idiv, 1) := by decide +kernel
theorem dX10_firstOf_3 : decode cX10_firstOf 3 = .ok (.bipush 8, 2) := by decide +kernel
theorem dX10_firstOf_5 : decode cX10_firstOf 5 = .ok (.idiv, 1) := by decide +kernel
theorem dX10_firstOf_6 : decode cX10_firstOf 6 = .ok (.ireturn, 1) := by decide +kernel
theorem dX10_secondOf_0 : decode cX10_secondOf 0 = .ok (.iload_n 0, 1) := by decide +kernel
theorem dX10_secondOf_1 : decode cX10_secondOf 1 = .ok (.iconst 4, 1) := by decide +kernel
theorem dX10_secondOf_2 : decode cX10_secondOf 2 = .ok (.idiv, 1) := by decide +kernel
theorem dX10_secondOf_3 : decode cX10_secondOf 3 = .ok (.bipush 8, 2) := by decide +kernel
theorem dX10_secondOf_5 : decode cX10_secondOf 5 = .ok (.irem, 1) := by decide +kernel
theorem dX10_secondOf_6 : decode cX10_secondOf 6 = .ok (.ireturn, 1) := by decide +kernel
theorem dX10_doorOf_0 : decode cX10_doorOf 0 = .ok (.iload_n 0, 1) := by decide +kernel
theorem dX10_doorOf_1 : decode cX10_doorOf 1 = .ok (.iconst 4, 1) := by decide +kernel
theorem dX10_doorOf_2 : decode cX10_doorOf 2 = .ok (.irem, 1) := by decide +kernel
theorem dX10_doorOf_3 : decode cX10_doorOf 3 = .ok (.ireturn, 1) := by decide +kernel
theorem dX10_hasDoor_0 : decode cX10_hasDoor 0 = .ok (.iload_n 0, 1) := by decide +kernel
theorem dX10_hasDoor_1 : decode cX10_hasDoor 1 = .ok (.iload_n 1, 1) := by decide +kernel
theorem dX10_hasDoor_2 : decode cX10_hasDoor 2 = .ok (.ishr, 1) := by decide +kernel
theorem dX10_hasDoor_3 : decode cX10_hasDoor 3 = .ok (.iconst 1, 1) := by decide +kernel
theorem dX10_hasDoor_4 : decode cX10_hasDoor 4 = .ok (.iand, 1) := by decide +kernel
theorem dX10_hasDoor_5 : decode cX10_hasDoor 5 = .ok (.iconst 1, 1) := by decide +kernel
theorem dX10_hasDoor_6 : decode cX10_hasDoor 6 = .ok (.if_icmp .ne 7, 3) := by decide +kernel
theorem dX10_hasDoor_9 : decode cX10_hasDoor 9 = .ok (.iconst 1, 1) := by decide +kernel
theorem dX10_hasDoor_10 : decode cX10_hasDoor 10 = .ok (.goto 4, 3) := by decide +kernel
theorem dX10_hasDoor_13 : decode cX10_hasDoor 13 = .ok (.iconst 0, 1) := by decide +kernel
theorem dX10_hasDoor_14 : decode cX10_hasDoor 14 = .ok (.ireturn, 1) := by decide +kernel
theorem dX10_turnDoor_0 : decode cX10_turnDoor 0 = .ok (.aload_n 1, 1) := by decide +kernel
theorem dX10_turnDoor_1 : decode cX10_turnDoor 1 = .ok (.iload_n 2, 1) := by decide +kernel
theorem dX10_turnDoor_2 : decode cX10_turnDoor 2 = .ok (.iaload, 1) := by decide +kernel
theorem dX10_turnDoor_3 : decode cX10_turnDoor 3 = .ok (.iload_n 3, 1) := by decide +kernel
theorem dX10_turnDoor_4 : decode cX10_turnDoor 4 = .ok (.invokestatic 256, 3) := by decide +kernel
theorem dX10_turnDoor_7 : decode cX10_turnDoor 7 = .ok (.ifCond .ne 15, 3) := by decide +kernel
theorem dX10_turnDoor_10 : decode cX10_turnDoor 10 = .ok (.aload_n 0, 1) := by decide +kernel
theorem dX10_turnDoor_11 : decode cX10_turnDoor 11 = .ok (.iload_n 2, 1) := by decide +kernel
theorem dX10_turnDoor_12 : decode cX10_turnDoor 12 = .ok (.iaload, 1) := by decide +kernel
theorem dX10_turnDoor_13 : decode cX10_turnDoor 13 = .ok (.iload_n 3, 1) := by decide +kernel
theorem dX10_turnDoor_14 : decode cX10_turnDoor 14 = .ok (.invokestatic 256, 3) := by decide +kernel
theorem dX10_turnDoor_17 : decode cX10_turnDoor 17 = .ok (.iload 4, 2) := by decide +kernel
theorem dX10_turnDoor_19 : decode cX10_turnDoor 19 = .ok (.if_icmp .ne 5, 3) := by decide +kernel
theorem dX10_turnDoor_22 : decode cX10_turnDoor 22 = .ok (.iconst 0, 1) := by decide +kernel
theorem dX10_turnDoor_23 : decode cX10_turnDoor 23 = .ok (.ireturn, 1) := by decide +kernel
theorem dX10_turnDoor_24 : decode cX10_turnDoor 24 = .ok (.aload_n 0, 1) := by decide +kernel
theorem dX10_turnDoor_25 : decode cX10_turnDoor 25 = .ok (.iload_n 2, 1) := by decide +kernel
theorem dX10_turnDoor_26 : decode cX10_turnDoor 26 = .ok (.dup2, 1) := by decide +kernel
theorem dX10_turnDoor_27 : decode cX10_turnDoor 27 = .ok (.iaload, 1) := by decide +kernel
theorem dX10_turnDoor_28 : decode cX10_turnDoor 28 = .ok (.iconst 1, 1) := by decide +kernel
theorem dX10_turnDoor_29 : decode cX10_turnDoor 29 = .ok (.iload_n 3, 1) := by decide +kernel
theorem dX10_turnDoor_30 : decode cX10_turnDoor 30 = .ok (.ishl, 1) := by decide +kernel
theorem dX10_turnDoor_31 : decode cX10_turnDoor 31 = .ok (.ixor, 1) := by decide +kernel
theorem dX10_turnDoor_32 : decode cX10_turnDoor 32 = .ok (.iastore, 1) := by decide +kernel
theorem dX10_turnDoor_33 : decode cX10_turnDoor 33 = .ok (.iconst 1, 1) := by decide +kernel
theorem dX10_turnDoor_34 : decode cX10_turnDoor 34 = .ok (.ireturn, 1) := by decide +kernel
theorem dX11_init_0 : decode cX11_init 0 = .ok (.aload_n 0, 1) := by decide +kernel
theorem dX11_init_1 : decode cX11_init 1 = .ok (.invokespecial 1, 3) := by decide +kernel
theorem dX11_init_4 : decode cX11_init 4 = .ok (.aload_n 0, 1) := by decide +kernel
theorem dX11_init_5 : decode cX11_init 5 = .ok (.bipush 8, 2) := by decide +kernel
theorem dX11_init_7 : decode cX11_init 7 = .ok (.newarray .int, 2) := by decide +kernel
theorem dX11_init_9 : decode cX11_init 9 = .ok (.putfield 7, 3) := by decide +kernel
theorem dX11_init_12 : decode cX11_init 12 = .ok (.aload_n 0, 1) := by decide +kernel
theorem dX11_init_13 : decode cX11_init 13 = .ok (.bipush 8, 2) := by decide +kernel
theorem dX11_init_15 : decode cX11_init 15 = .ok (.newarray .int, 2) := by decide +kernel
theorem dX11_init_17 : decode cX11_init 17 = .ok (.putfield 13, 3) := by decide +kernel
theorem dX11_init_20 : decode cX11_init 20 = .ok (.aload_n 0, 1) := by decide +kernel
theorem dX11_init_21 : decode cX11_init 21 = .ok (.sipush 300, 3) := by decide +kernel
theorem dX11_init_24 : decode cX11_init 24 = .ok (.newarray .int, 2) := by decide +kernel
theorem dX11_init_26 : decode cX11_init 26 = .ok (.putfield 16, 3) := by decide +kernel
theorem dX11_init_29 : decode cX11_init 29 = .ok (.aload_n 0, 1) := by decide +kernel
theorem dX11_init_30 : decode cX11_init 30 = .ok (.sipush 300, 3) := by decide +kernel
theorem dX11_init_33 : decode cX11_init 33 = .ok (.newarray .int, 2) := by decide +kernel
theorem dX11_init_35 : decode cX11_init 35 = .ok (.putfield 19, 3) := by decide +kernel
theorem dX11_init_38 : decode cX11_init 38 = .ok (.aload_n 0, 1) := by decide +kernel
theorem dX11_init_39 : decode cX11_init 39 = .ok (.sipush 300, 3) := by decide +kernel
theorem dX11_init_42 : decode cX11_init 42 = .ok (.newarray .int, 2) := by decide +kernel
theorem dX11_init_44 : decode cX11_init 44 = .ok (.putfield 22, 3) := by decide +kernel
theorem dX11_init_47 : decode cX11_init 47 = .ok (.aload_n 0, 1) := by decide +kernel
theorem dX11_init_48 : decode cX11_init 48 = .ok (.sipush 256, 3) := by decide +kernel
theorem dX11_init_51 : decode cX11_init 51 = .ok (.newarray .boolean, 2) := by decide +kernel
theorem dX11_init_53 : decode cX11_init 53 = .ok (.putfield 25, 3) := by decide +kernel
theorem dX11_init_56 : decode cX11_init 56 = .ok (.aload_n 0, 1) := by decide +kernel
theorem dX11_init_57 : decode cX11_init 57 = .ok (.sipush 256, 3) := by decide +kernel
theorem dX11_init_60 : decode cX11_init 60 = .ok (.newarray .boolean, 2) := by decide +kernel
theorem dX11_init_62 : decode cX11_init 62 = .ok (.putfield 29, 3) := by decide +kernel
theorem dX11_init_65 : decode cX11_init 65 = .ok (.aload_n 0, 1) := by decide +kernel
theorem dX11_init_66 : decode cX11_init 66 = .ok (.bipush 7, 2) := by decide +kernel
theorem dX11_init_68 : decode cX11_init 68 = .ok (.putfield 32, 3) := by decide +kernel
theorem dX11_init_71 : decode cX11_init 71 = .ok (.aload_n 0, 1) := by decide +kernel
theorem dX11_init_72 : decode cX11_init 72 = .ok (.iconst 1, 1) := by decide +kernel
theorem dX11_init_73 : decode cX11_init 73 = .ok (.putfield 36, 3) := by decide +kernel
theorem dX11_init_76 : decode cX11_init 76 = .ok (.aload_n 0, 1) := by decide +kernel
theorem dX11_init_77 : decode cX11_init 77 = .ok (.iconst 5, 1) := by decide +kernel
theorem dX11_init_78 : decode cX11_init 78 = .ok (.putfield 39, 3) := by decide +kernel
theorem dX11_init_81 : decode cX11_init 81 = .ok (.aload_n 0, 1) := by decide +kernel
theorem dX11_init_82 : decode cX11_init 82 = .ok (.iconst 1, 1) := by decide +kernel
theorem dX11_init_83 : decode cX11_init 83 = .ok (.putfield 42, 3) := by decide +kernel
theorem dX11_init_86 : decode cX11_init 86 = .ok (.aload_n 0, 1) := by decide +kernel
theorem dX11_init_87 : decode cX11_init 87 = .ok (.sipush 256, 3) := by decide +kernel
theorem dX11_init_90 : decode cX11_init 90 = .ok (.newarray .boolean, 2) := by decide +kernel
theorem dX11_init_92 : decode cX11_init 92 = .ok (.putfield 45, 3) := by decide +kernel
theorem dX11_init_95 : decode cX11_init 95 = .ok (.aload_n 0, 1) := by decide +kernel
theorem dX11_init_96 : decode cX11_init 96 = .ok (.sipush 256, 3) := by decide +kernel
theorem dX11_init_99 : decode cX11_init 99 = .ok (.newarray .int, 2) := by decide +kernel
theorem dX11_init_101 : decode cX11_init 101 = .ok (.putfield 48, 3) := by decide +kernel
theorem dX11_init_104 : decode cX11_init 104 = .ok (.aload_n 0, 1) := by decide +kernel
theorem dX11_init_105 : decode cX11_init 105 = .ok (.sipush 256, 3) := by decide +kernel
theorem dX11_init_108 : decode cX11_init 108 = .ok (.newarray .boolean, 2) := by decide +kernel
theorem dX11_init_110 : decode cX11_init 110 = .ok (.putfield 51, 3) := by decide +kernel
theorem dX11_init_113 : decode cX11_init 113 = .ok (.aload_n 0, 1) := by decide +kernel
theorem dX11_init_114 : decode cX11_init 114 = .ok (.sipush 256, 3) := by decide +kernel
theorem dX11_init_117 : decode cX11_init 117 = .ok (.newarray .int, 2) := by decide +kernel
theorem dX11_init_119 : decode cX11_init 119 = .ok (.putfield 54, 3) := by decide +kernel
theorem dX11_init_122 : decode cX11_init 122 = .ok (.aload_n 0, 1) := by decide +kernel
theorem dX11_init_123 : decode cX11_init 123 = .ok (.bipush 8, 2) := by decide +kernel
theorem dX11_init_125 : decode cX11_init 125 = .ok (.newarray .int, 2) := by decide +kernel
theorem dX11_init_127 : decode cX11_init 127 = .ok (.putfield 57, 3) := by decide +kernel
theorem dX11_init_130 : decode cX11_init 130 = .ok (.aload_n 0, 1) := by decide +kernel
theorem dX11_init_131 : decode cX11_init 131 = .ok (.bipush 8, 2) := by decide +kernel
theorem dX11_init_133 : decode cX11_init 133 = .ok (.newarray .int, 2) := by decide +kernel
theorem dX11_init_135 : decode cX11_init 135 = .ok (.putfield 60, 3) := by decide +kernel
theorem dX11_init_138 : decode cX11_init 138 = .ok (.aload_n 0, 1) := by decide +kernel
theorem dX11_init_139 : decode cX11_init 139 = .ok (.sipush 256, 3) := by decide +kernel
theorem dX11_init_142 : decode cX11_init 142 = .ok (.newarray .boolean, 2) := by decide +kernel
theorem dX11_init_144 : decode cX11_init 144 = .ok (.putfield 63, 3) := by decide +kernel
theorem dX11_init_147 : decode cX11_init 147 = .ok (.aload_n 0, 1) := by decide +kernel
theorem dX11_init_148 : decode cX11_init 148 = .ok (.sipush 256, 3) := by decide +kernel
theorem dX11_init_151 : decode cX11_init 151 = .ok (.newarray .boolean, 2) := by decide +kernel
theorem dX11_init_153 : decode cX11_init 153 = .ok (.putfield 66, 3) := by decide +kernel
theorem dX11_init_156 : decode cX11_init 156 = .ok (.aload_n 0, 1) := by decide +kernel
theorem dX11_init_157 : decode cX11_init 157 = .ok (.sipush 256, 3) := by decide +kernel
theorem dX11_init_160 : decode cX11_init 160 = .ok (.newarray .boolean, 2) := by decide +kernel
theorem dX11_init_162 : decode cX11_init 162 = .ok (.putfield 69, 3) := by decide +kernel
theorem dX11_init_165 : decode cX11_init 165 = .ok (.aload_n 0, 1) := by decide +kernel
theorem dX11_init_166 : decode cX11_init 166 = .ok (.bipush 12, 2) := by decide +kernel
theorem dX11_init_168 : decode cX11_init 168 = .ok (.newarray .int, 2) := by decide +kernel
theorem dX11_init_170 : decode cX11_init 170 = .ok (.putfield 72, 3) := by decide +kernel
theorem dX11_init_173 : decode cX11_init 173 = .ok (.aload_n 0, 1) := by decide +kernel
theorem dX11_init_174 : decode cX11_init 174 = .ok (.bipush 12, 2) := by decide +kernel
theorem dX11_init_176 : decode cX11_init 176 = .ok (.newarray .int, 2) := by decide +kernel
theorem dX11_init_178 : decode cX11_init 178 = .ok (.putfield 75, 3) := by decide +kernel
theorem dX11_init_181 : decode cX11_init 181 = .ok (.aload_n 0, 1) := by decide +kernel
theorem dX11_init_182 : decode cX11_init 182 = .ok (.bipush 12, 2) := by decide +kernel
theorem dX11_init_184 : decode cX11_init 184 = .ok (.newarray .int, 2) := by decide +kernel
theorem dX11_init_186 : decode cX11_init 186 = .ok (.putfield 78, 3) := by decide +kernel
theorem dX11_init_189 : decode cX11_init 189 = .ok (.aload_n 0, 1) := by decide +kernel
theorem dX11_init_190 : decode cX11_init 190 = .ok (.bipush 12, 2) := by decide +kernel
theorem dX11_init_192 : decode cX11_init 192 = .ok (.newarray .int, 2) := by decide +kernel
theorem dX11_init_194 : decode cX11_init 194 = .ok (.putfield 81, 3) := by decide +kernel
theorem dX11_init_197 : decode cX11_init 197 = .ok (.aload_n 0, 1) := by decide +kernel
theorem dX11_init_198 : decode cX11_init 198 = .ok (.sipush 300, 3) := by decide +kernel
theorem dX11_init_201 : decode cX11_init 201 = .ok (.newarray .int, 2) := by decide +kernel
theorem dX11_init_203 : decode cX11_init 203 = .ok (.putfield 84, 3) := by decide +kernel
theorem dX11_init_206 : decode cX11_init 206 = .ok (.aload_n 0, 1) := by decide +kernel
theorem dX11_init_207 : decode cX11_init 207 = .ok (.sipush 300, 3) := by decide +kernel
theorem dX11_init_210 : decode cX11_init 210 = .ok (.newarray .int, 2) := by decide +kernel
theorem dX11_init_212 : decode cX11_init 212 = .ok (.putfield 87, 3) := by decide +kernel
theorem dX11_init_215 : decode cX11_init 215 = .ok (.aload_n 0, 1) := by decide +kernel
theorem dX11_init_216 : decode cX11_init 216 = .ok (.sipush 300, 3) := by decide +kernel
theorem dX11_init_219 : decode cX11_init 219 = .ok (.newarray .int, 2) := by decide +kernel
theorem dX11_init_221 : decode cX11_init 221 = .ok (.putfield 90, 3) := by decide +kernel
theorem dX11_init_224 : decode cX11_init 224 = .ok (.iconst 0, 1) := by decide +kernel
theorem dX11_init_225 : decode cX11_init 225 = .ok (.istore_n 1, 1) := by decide +kernel
theorem dX11_init_226 : decode cX11_init 226 = .ok (.iload_n 1, 1) := by decide +kernel
theorem dX11_init_227 : decode cX11_init 227 = .ok (.bipush 8, 2) := by decide +kernel
theorem dX11_init_229 : decode cX11_init 229 = .ok (.if_icmp .ge 16, 3) := by decide +kernel
theorem dX11_init_232 : decode cX11_init 232 = .ok (.aload_n 0, 1) := by decide +kernel
theorem dX11_init_233 : decode cX11_init 233 = .ok (.getfield 13, 3) := by decide +kernel
theorem dX11_init_236 : decode cX11_init 236 = .ok (.iload_n 1, 1) := by decide +kernel
theorem dX11_init_237 : decode cX11_init 237 = .ok (.iconst (-1), 1) := by decide +kernel
theorem dX11_init_238 : decode cX11_init 238 = .ok (.iastore, 1) := by decide +kernel
theorem dX11_init_239 : decode cX11_init 239 = .ok (.iinc 1 1, 3) := by decide +kernel
theorem dX11_init_242 : decode cX11_init 242 = .ok (.goto (-16), 3) := by decide +kernel
theorem dX11_init_245 : decode cX11_init 245 = .ok (.return_, 1) := by decide +kernel
theorem dX11_isHost_0 : decode cX11_isHost 0 = .ok (.iload_n 1, 1) := by decide +kernel
theorem dX11_isHost_1 : decode cX11_isHost 1 = .ok (.ifCond .lt 15, 3) := by decide +kernel
theorem dX11_isHost_4 : decode cX11_isHost 4 = .ok (.iload_n 1, 1) := by decide +kernel
theorem dX11_isHost_5 : decode cX11_isHost 5 = .ok (.aload_n 0, 1) := by decide +kernel
theorem dX11_isHost_6 : decode cX11_isHost 6 = .ok (.getfield 96, 3) := by decide +kernel
theorem dX11_isHost_9 : decode cX11_isHost 9 = .ok (.if_icmp .ge 7, 3) := by decide +kernel
theorem dX11_isHost_12 : decode cX11_isHost 12 = .ok (.iconst 1, 1) := by decide +kernel
theorem dX11_isHost_13 : decode cX11_isHost 13 = .ok (.goto 4, 3) := by decide +kernel
theorem dX11_isHost_16 : decode cX11_isHost 16 = .ok (.iconst 0, 1) := by decide +kernel
theorem dX11_isHost_17 : decode cX11_isHost 17 = .ok (.ireturn, 1) := by decide +kernel
theorem dX11_way_0 : decode cX11_way 0 = .ok (.aload_n 0, 1) := by decide +kernel
theorem dX11_way_1 : decode cX11_way 1 = .ok (.iload_n 1, 1) := by decide +kernel
theorem dX11_way_2 : decode cX11_way 2 = .ok (.invokevirtual 99, 3) := by decide +kernel
theorem dX11_way_5 : decode cX11_way 5 = .ok (.ifCond .eq 38, 3) := by decide +kernel
theorem dX11_way_8 : decode cX11_way 8 = .ok (.aload_n 0, 1) := by decide +kernel
theorem dX11_way_9 : decode cX11_way 9 = .ok (.iload_n 2, 1) := by decide +kernel
theorem dX11_way_10 : decode cX11_way 10 = .ok (.invokevirtual 99, 3) := by decide +kernel
theorem dX11_way_13 : decode cX11_way 13 = .ok (.ifCond .eq 30, 3) := by decide +kernel
theorem dX11_way_16 : decode cX11_way 16 = .ok (.iload_n 1, 1) := by decide +kernel
theorem dX11_way_17 : decode cX11_way 17 = .ok (.iload_n 2, 1) := by decide +kernel
theorem dX11_way_18 : decode cX11_way 18 = .ok (.if_icmp .eq 25, 3) := by decide +kernel
theorem dX11_way_21 : decode cX11_way 21 = .ok (.iload_n 3, 1) := by decide +kernel
theorem dX11_way_22 : decode cX11_way 22 = .ok (.ifCond .lt 21, 3) := by decide +kernel
theorem dX11_way_25 : decode cX11_way 25 = .ok (.iload_n 3, 1) := by decide +kernel
theorem dX11_way_26 : decode cX11_way 26 = .ok (.iconst 3, 1) := by decide +kernel
theorem dX11_way_27 : decode cX11_way 27 = .ok (.if_icmp .gt 16, 3) := by decide +kernel
theorem dX11_way_30 : decode cX11_way 30 = .ok (.bipush 32, 2) := by decide +kernel
theorem dX11_way_32 : decode cX11_way 32 = .ok (.iload_n 1, 1) := by decide +kernel
theorem dX11_way_33 : decode cX11_way 33 = .ok (.imul, 1) := by decide +kernel
theorem dX11_way_34 : decode cX11_way 34 = .ok (.iconst 4, 1) := by decide +kernel
theorem dX11_way_35 : decode cX11_way 35 = .ok (.iload_n 2, 1) := by decide +kernel
theorem dX11_way_36 : decode cX11_way 36 = .ok (.imul, 1) := by decide +kernel
theorem dX11_way_37 : decode cX11_way 37 = .ok (.iadd, 1) := by decide +kernel
theorem dX11_way_38 : decode cX11_way 38 = .ok (.iload_n 3, 1) := by decide +kernel
theorem dX11_way_39 : decode cX11_way 39 = .ok (.iadd, 1) := by decide +kernel
theorem dX11_way_40 : decode cX11_way 40 = .ok (.goto 4, 3) := by decide +kernel
theorem dX11_way_43 : decode cX11_way 43 = .ok (.iconst (-1), 1) := by decide +kernel
theorem dX11_way_44 : decode cX11_way 44 = .ok (.ireturn, 1) := by decide +kernel
theorem dX11_isDay_0 : decode cX11_isDay 0 = .ok (.iload_n 0, 1) := by decide +kernel
theorem dX11_isDay_1 : decode cX11_isDay 1 = .ok (.ifCond .lt 13, 3) := by decide +kernel
theorem dX11_isDay_4 : decode cX11_isDay 4 = .ok (.iload_n 0, 1) := by decide +kernel
theorem dX11_isDay_5 : decode cX11_isDay 5 = .ok (.bipush 99, 2) := by decide +kernel
theorem dX11_isDay_7 : decode cX11_isDay 7 = .ok (.if_icmp .gt 7, 3) := by decide +kernel
theorem dX11_isDay_10 : decode cX11_isDay 10 = .ok (.iconst 1, 1) := by decide +kernel
theorem dX11_isDay_11 : decode cX11_isDay 11 = .ok (.goto 4, 3) := by decide +kernel
theorem dX11_isDay_14 : decode cX11_isDay 14 = .ok (.iconst 0, 1) := by decide +kernel
theorem dX11_isDay_15 : decode cX11_isDay 15 = .ok (.ireturn, 1) := by decide +kernel
theorem dX11_host_0 : decode cX11_host 0 = .ok (.aload_n 0, 1) := by decide +kernel
theorem dX11_host_1 : decode cX11_host 1 = .ok (.iconst 0, 1) := by decide +kernel
theorem dX11_host_2 : decode cX11_host 2 = .ok (.putfield 93, 3) := by decide +kernel
theorem dX11_host_5 : decode cX11_host 5 = .ok (.iload_n 1, 1) := by decide +kernel
theorem dX11_host_6 : decode cX11_host 6 = .ok (.ifCond .lt 17, 3) := by decide +kernel
theorem dX11_host_9 : decode cX11_host 9 = .ok (.iload_n 1, 1) := by decide +kernel
theorem dX11_host_10 : decode cX11_host 10 = .ok (.iconst 3, 1) := by decide +kernel
theorem dX11_host_11 : decode cX11_host 11 = .ok (.if_icmp .gt 12, 3) := by decide +kernel
theorem dX11_host_14 : decode cX11_host 14 = .ok (.aload_n 0, 1) := by decide +kernel
theorem dX11_host_15 : decode cX11_host 15 = .ok (.getfield 96, 3) := by decide +kernel
theorem dX11_host_18 : decode cX11_host 18 = .ok (.bipush 8, 2) := by decide +kernel
theorem dX11_host_20 : decode cX11_host 20 = .ok (.if_icmp .ne 5, 3) := by decide +kernel
theorem dX11_host_23 : decode cX11_host 23 = .ok (.iconst (-1), 1) := by decide +kernel
theorem dX11_host_24 : decode cX11_host 24 = .ok (.ireturn, 1) := by decide +kernel
theorem dX11_host_25 : decode cX11_host 25 = .ok (.aload_n 0, 1) := by decide +kernel
theorem dX11_host_26 : decode cX11_host 26 = .ok (.getfield 7, 3) := by decide +kernel
theorem dX11_host_29 : decode cX11_host 29 = .ok (.aload_n 0, 1) := by decide +kernel
theorem dX11_host_30 : decode cX11_host 30 = .ok (.getfield 96, 3) := by decide +kernel
theorem dX11_host_33 : decode cX11_host 33 = .ok (.iload_n 1, 1) := by decide +kernel
theorem dX11_host_34 : decode cX11_host 34 = .ok (.iastore, 1) := by decide +kernel
theorem dX11_host_35 : decode cX11_host 35 = .ok (.aload_n 0, 1) := by decide +kernel
theorem dX11_host_36 : decode cX11_host 36 = .ok (.dup, 1) := by decide +kernel
theorem dX11_host_37 : decode cX11_host 37 = .ok (.getfield 96, 3) := by decide +kernel
theorem dX11_host_40 : decode cX11_host 40 = .ok (.iconst 1, 1) := by decide +kernel
theorem dX11_host_41 : decode cX11_host 41 = .ok (.iadd, 1) := by decide +kernel
theorem dX11_host_42 : decode cX11_host 42 = .ok (.putfield 96, 3) := by decide +kernel
theorem dX11_host_45 : decode cX11_host 45 = .ok (.aload_n 0, 1) := by decide +kernel
theorem dX11_host_46 : decode cX11_host 46 = .ok (.getfield 96, 3) := by decide +kernel
theorem dX11_host_49 : decode cX11_host 49 = .ok (.iconst 1, 1) := by decide +kernel
theorem dX11_host_50 : decode cX11_host 50 = .ok (.isub, 1) := by decide +kernel
theorem dX11_host_51 : decode cX11_host 51 = .ok (.ireturn, 1) := by decide +kernel
theorem dX11_talk_0 : decode cX11_talk 0 = .ok (.aload_n 0, 1) := by decide +kernel
theorem dX11_talk_1 : decode cX11_talk 1 = .ok (.iconst 0, 1) := by decide +kernel
theorem dX11_talk_2 : decode cX11_talk 2 = .ok (.putfield 93, 3) := by decide +kernel
theorem dX11_talk_5 : decode cX11_talk 5 = .ok (.aload_n 0, 1) := by decide +kernel
theorem dX11_talk_6 : decode cX11_talk 6 = .ok (.iload_n 1, 1) := by decide +kernel
theorem dX11_talk_7 : decode cX11_talk 7 = .ok (.iload_n 2, 1) := by decide +kernel
theorem dX11_talk_8 : decode cX11_talk 8 = .ok (.iload_n 3, 1) := by decide +kernel
theorem dX11_talk_9 : decode cX11_talk 9 = .ok (.invokevirtual 103, 3) := by decide +kernel
theorem dX11_talk_12 : decode cX11_talk 12 = .ok (.istore 6, 2) := by decide +kernel
theorem dX11_talk_14 : decode cX11_talk 14 = .ok (.iload 6, 2) := by decide +kernel
theorem dX11_talk_16 : decode cX11_talk 16 = .ok (.iconst (-1), 1) := by decide +kernel
theorem dX11_talk_17 : decode cX11_talk 17 = .ok (.if_icmp .eq 35, 3) := by decide +kernel
theorem dX11_talk_20 : decode cX11_talk 20 = .ok (.iload 4, 2) := by decide +kernel
theorem dX11_talk_22 : decode cX11_talk 22 = .ok (.invokestatic 107, 3) := by decide +kernel
theorem dX11_talk_25 : decode cX11_talk 25 = .ok (.ifCond .eq 27, 3) := by decide +kernel
theorem dX11_talk_28 : decode cX11_talk 28 = .ok (.iload 5, 2) := by decide +kernel
theorem dX11_talk_30 : decode cX11_talk 30 = .ok (.iconst 1, 1) := by decide +kernel
theorem dX11_talk_31 : decode cX11_talk 31 = .ok (.if_icmp .lt 21, 3) := by decide +kernel
theorem dX11_talk_34 : decode cX11_talk 34 = .ok (.iload 5, 2) := by decide +kernel
theorem dX11_talk_36 : decode cX11_talk 36 = .ok (.sipush 999, 3) := by decide +kernel
theorem dX11_talk_39 : decode cX11_talk 39 = .ok (.if_icmp .gt 13, 3) := by decide +kernel
theorem dX11_talk_42 : decode cX11_talk 42 = .ok (.aload_n 0, 1) := by decide +kernel
theorem dX11_talk_43 : decode cX11_talk 43 = .ok (.getfield 110, 3) := by decide +kernel
