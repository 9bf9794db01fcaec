theorem dX11_talk_46 : decode cX11_talk 46 = .ok (.sipush 300, 3) := by decide +kernel
theorem dX11_talk_49 : decode cX11_talk 49 = .ok (.if_icmp .ne 5, 3) := by decide +kernel
theorem dX11_talk_52 : decode cX11_talk 52 = .ok (.iconst (-1), 1) := by decide +kernel
theorem dX11_talk_53 : decode cX11_talk 53 = .ok (.ireturn, 1) := by decide +kernel
theorem dX11_talk_54 : decode cX11_talk 54 = .ok (.aload_n 0, 1) := by decide +kernel
theorem dX11_talk_55 : decode cX11_talk 55 = .ok (.getfield 16, 3) := by decide +kernel
theorem dX11_talk_58 : decode cX11_talk 58 = .ok (.aload_n 0, 1) := by decide +kernel
theorem dX11_talk_59 : decode cX11_talk 59 = .ok (.getfield 110, 3) := by decide +kernel
theorem dX11_talk_62 : decode cX11_talk 62 = .ok (.iload 6, 2) := by decide +kernel
theorem dX11_talk_64 : decode cX11_talk 64 = .ok (.iastore, 1) := by decide +kernel
theorem dX11_talk_65 : decode cX11_talk 65 = .ok (.aload_n 0, 1) := by decide +kernel
theorem dX11_talk_66 : decode cX11_talk 66 = .ok (.getfield 19, 3) := by decide +kernel
theorem dX11_talk_69 : decode cX11_talk 69 = .ok (.aload_n 0, 1) := by decide +kernel
theorem dX11_talk_70 : decode cX11_talk 70 = .ok (.getfield 110, 3) := by decide +kernel
theorem dX11_talk_73 : decode cX11_talk 73 = .ok (.iload 4, 2) := by decide +kernel
theorem dX11_talk_75 : decode cX11_talk 75 = .ok (.iastore, 1) := by decide +kernel
theorem dX11_talk_76 : decode cX11_talk 76 = .ok (.aload_n 0, 1) := by decide +kernel
theorem dX11_talk_77 : decode cX11_talk 77 = .ok (.getfield 22, 3) := by decide +kernel
theorem dX11_talk_80 : decode cX11_talk 80 = .ok (.aload_n 0, 1) := by decide +kernel
theorem dX11_talk_81 : decode cX11_talk 81 = .ok (.getfield 110, 3) := by decide +kernel
theorem dX11_talk_84 : decode cX11_talk 84 = .ok (.iload 5, 2) := by decide +kernel
theorem dX11_talk_86 : decode cX11_talk 86 = .ok (.iastore, 1) := by decide +kernel
theorem dX11_talk_87 : decode cX11_talk 87 = .ok (.aload_n 0, 1) := by decide +kernel
theorem dX11_talk_88 : decode cX11_talk 88 = .ok (.dup, 1) := by decide +kernel
theorem dX11_talk_89 : decode cX11_talk 89 = .ok (.getfield 110, 3) := by decide +kernel
theorem dX11_talk_92 : decode cX11_talk 92 = .ok (.iconst 1, 1) := by decide +kernel
theorem dX11_talk_93 : decode cX11_talk 93 = .ok (.iadd, 1) := by decide +kernel
theorem dX11_talk_94 : decode cX11_talk 94 = .ok (.putfield 110, 3) := by decide +kernel
theorem dX11_talk_97 : decode cX11_talk 97 = .ok (.aload_n 0, 1) := by decide +kernel
theorem dX11_talk_98 : decode cX11_talk 98 = .ok (.getfield 110, 3) := by decide +kernel
theorem dX11_talk_101 : decode cX11_talk 101 = .ok (.ireturn, 1) := by decide +kernel
theorem dX11_must_0 : decode cX11_must 0 = .ok (.aload_n 0, 1) := by decide +kernel
theorem dX11_must_1 : decode cX11_must 1 = .ok (.iconst 0, 1) := by decide +kernel
theorem dX11_must_2 : decode cX11_must 2 = .ok (.putfield 93, 3) := by decide +kernel
theorem dX11_must_5 : decode cX11_must 5 = .ok (.aload_n 0, 1) := by decide +kernel
theorem dX11_must_6 : decode cX11_must 6 = .ok (.iload_n 1, 1) := by decide +kernel
theorem dX11_must_7 : decode cX11_must 7 = .ok (.iload_n 2, 1) := by decide +kernel
theorem dX11_must_8 : decode cX11_must 8 = .ok (.iload_n 3, 1) := by decide +kernel
theorem dX11_must_9 : decode cX11_must 9 = .ok (.invokevirtual 103, 3) := by decide +kernel
theorem dX11_must_12 : decode cX11_must 12 = .ok (.istore 5, 2) := by decide +kernel
theorem dX11_must_14 : decode cX11_must 14 = .ok (.iload 5, 2) := by decide +kernel
theorem dX11_must_16 : decode cX11_must 16 = .ok (.iconst (-1), 1) := by decide +kernel
theorem dX11_must_17 : decode cX11_must 17 = .ok (.if_icmp .eq 25, 3) := by decide +kernel
theorem dX11_must_20 : decode cX11_must 20 = .ok (.aload_n 0, 1) := by decide +kernel
theorem dX11_must_21 : decode cX11_must 21 = .ok (.getfield 29, 3) := by decide +kernel
theorem dX11_must_24 : decode cX11_must 24 = .ok (.iload 5, 2) := by decide +kernel
theorem dX11_must_26 : decode cX11_must 26 = .ok (.baload, 1) := by decide +kernel
theorem dX11_must_27 : decode cX11_must 27 = .ok (.ifCond .ne 15, 3) := by decide +kernel
theorem dX11_must_30 : decode cX11_must 30 = .ok (.aload_n 0, 1) := by decide +kernel
theorem dX11_must_31 : decode cX11_must 31 = .ok (.getfield 25, 3) := by decide +kernel
theorem dX11_must_34 : decode cX11_must 34 = .ok (.iload 5, 2) := by decide +kernel
theorem dX11_must_36 : decode cX11_must 36 = .ok (.baload, 1) := by decide +kernel
theorem dX11_must_37 : decode cX11_must 37 = .ok (.iload 4, 2) := by decide +kernel
theorem dX11_must_39 : decode cX11_must 39 = .ok (.if_icmp .ne 5, 3) := by decide +kernel
theorem dX11_must_42 : decode cX11_must 42 = .ok (.iconst 0, 1) := by decide +kernel
theorem dX11_must_43 : decode cX11_must 43 = .ok (.ireturn, 1) := by decide +kernel
theorem dX11_must_44 : decode cX11_must 44 = .ok (.aload_n 0, 1) := by decide +kernel
theorem dX11_must_45 : decode cX11_must 45 = .ok (.getfield 25, 3) := by decide +kernel
theorem dX11_must_48 : decode cX11_must 48 = .ok (.iload 5, 2) := by decide +kernel
theorem dX11_must_50 : decode cX11_must 50 = .ok (.iload 4, 2) := by decide +kernel
theorem dX11_must_52 : decode cX11_must 52 = .ok (.bastore, 1) := by decide +kernel
theorem dX11_must_53 : decode cX11_must 53 = .ok (.iconst 1, 1) := by decide +kernel
theorem dX11_must_54 : decode cX11_must 54 = .ok (.ireturn, 1) := by decide +kernel
theorem dX11_bar_0 : decode cX11_bar 0 = .ok (.aload_n 0, 1) := by decide +kernel
theorem dX11_bar_1 : decode cX11_bar 1 = .ok (.iconst 0, 1) := by decide +kernel
theorem dX11_bar_2 : decode cX11_bar 2 = .ok (.putfield 93, 3) := by decide +kernel
theorem dX11_bar_5 : decode cX11_bar 5 = .ok (.aload_n 0, 1) := by decide +kernel
theorem dX11_bar_6 : decode cX11_bar 6 = .ok (.iload_n 1, 1) := by decide +kernel
theorem dX11_bar_7 : decode cX11_bar 7 = .ok (.iload_n 2, 1) := by decide +kernel
theorem dX11_bar_8 : decode cX11_bar 8 = .ok (.iload_n 3, 1) := by decide +kernel
theorem dX11_bar_9 : decode cX11_bar 9 = .ok (.invokevirtual 103, 3) := by decide +kernel
theorem dX11_bar_12 : decode cX11_bar 12 = .ok (.istore 5, 2) := by decide +kernel
theorem dX11_bar_14 : decode cX11_bar 14 = .ok (.iload 5, 2) := by decide +kernel
theorem dX11_bar_16 : decode cX11_bar 16 = .ok (.iconst (-1), 1) := by decide +kernel
theorem dX11_bar_17 : decode cX11_bar 17 = .ok (.if_icmp .eq 25, 3) := by decide +kernel
theorem dX11_bar_20 : decode cX11_bar 20 = .ok (.aload_n 0, 1) := by decide +kernel
theorem dX11_bar_21 : decode cX11_bar 21 = .ok (.getfield 25, 3) := by decide +kernel
theorem dX11_bar_24 : decode cX11_bar 24 = .ok (.iload 5, 2) := by decide +kernel
theorem dX11_bar_26 : decode cX11_bar 26 = .ok (.baload, 1) := by decide +kernel
theorem dX11_bar_27 : decode cX11_bar 27 = .ok (.ifCond .ne 15, 3) := by decide +kernel
theorem dX11_bar_30 : decode cX11_bar 30 = .ok (.aload_n 0, 1) := by decide +kernel
theorem dX11_bar_31 : decode cX11_bar 31 = .ok (.getfield 29, 3) := by decide +kernel
theorem dX11_bar_34 : decode cX11_bar 34 = .ok (.iload 5, 2) := by decide +kernel
theorem dX11_bar_36 : decode cX11_bar 36 = .ok (.baload, 1) := by decide +kernel
theorem dX11_bar_37 : decode cX11_bar 37 = .ok (.iload 4, 2) := by decide +kernel
theorem dX11_bar_39 : decode cX11_bar 39 = .ok (.if_icmp .ne 5, 3) := by decide +kernel
theorem dX11_bar_42 : decode cX11_bar 42 = .ok (.iconst 0, 1) := by decide +kernel
theorem dX11_bar_43 : decode cX11_bar 43 = .ok (.ireturn, 1) := by decide +kernel
theorem dX11_bar_44 : decode cX11_bar 44 = .ok (.aload_n 0, 1) := by decide +kernel
theorem dX11_bar_45 : decode cX11_bar 45 = .ok (.getfield 29, 3) := by decide +kernel
theorem dX11_bar_48 : decode cX11_bar 48 = .ok (.iload 5, 2) := by decide +kernel
theorem dX11_bar_50 : decode cX11_bar 50 = .ok (.iload 4, 2) := by decide +kernel
theorem dX11_bar_52 : decode cX11_bar 52 = .ok (.bastore, 1) := by decide +kernel
theorem dX11_bar_53 : decode cX11_bar 53 = .ok (.iconst 1, 1) := by decide +kernel
theorem dX11_bar_54 : decode cX11_bar 54 = .ok (.ireturn, 1) := by decide +kernel
theorem dX11_law_0 : decode cX11_law 0 = .ok (.aload_n 0, 1) := by decide +kernel
theorem dX11_law_1 : decode cX11_law 1 = .ok (.iconst 0, 1) := by decide +kernel
theorem dX11_law_2 : decode cX11_law 2 = .ok (.putfield 93, 3) := by decide +kernel
theorem dX11_law_5 : decode cX11_law 5 = .ok (.iload_n 1, 1) := by decide +kernel
theorem dX11_law_6 : decode cX11_law 6 = .ok (.iconst 1, 1) := by decide +kernel
theorem dX11_law_7 : decode cX11_law 7 = .ok (.if_icmp .lt 21, 3) := by decide +kernel
theorem dX11_law_10 : decode cX11_law 10 = .ok (.iload_n 1, 1) := by decide +kernel
theorem dX11_law_11 : decode cX11_law 11 = .ok (.bipush 100, 2) := by decide +kernel
theorem dX11_law_13 : decode cX11_law 13 = .ok (.if_icmp .gt 15, 3) := by decide +kernel
theorem dX11_law_16 : decode cX11_law 16 = .ok (.iload_n 2, 1) := by decide +kernel
theorem dX11_law_17 : decode cX11_law 17 = .ok (.iconst 1, 1) := by decide +kernel
theorem dX11_law_18 : decode cX11_law 18 = .ok (.if_icmp .lt 10, 3) := by decide +kernel
theorem dX11_law_21 : decode cX11_law 21 = .ok (.iload_n 2, 1) := by decide +kernel
theorem dX11_law_22 : decode cX11_law 22 = .ok (.sipush 9999, 3) := by decide +kernel
theorem dX11_law_25 : decode cX11_law 25 = .ok (.if_icmp .le 5, 3) := by decide +kernel
theorem dX11_law_28 : decode cX11_law 28 = .ok (.iconst 0, 1) := by decide +kernel
theorem dX11_law_29 : decode cX11_law 29 = .ok (.ireturn, 1) := by decide +kernel
theorem dX11_law_30 : decode cX11_law 30 = .ok (.aload_n 0, 1) := by decide +kernel
theorem dX11_law_31 : decode cX11_law 31 = .ok (.iload_n 1, 1) := by decide +kernel
theorem dX11_law_32 : decode cX11_law 32 = .ok (.putfield 32, 3) := by decide +kernel
theorem dX11_law_35 : decode cX11_law 35 = .ok (.aload_n 0, 1) := by decide +kernel
theorem dX11_law_36 : decode cX11_law 36 = .ok (.iload_n 2, 1) := by decide +kernel
theorem dX11_law_37 : decode cX11_law 37 = .ok (.putfield 36, 3) := by decide +kernel
theorem dX11_law_40 : decode cX11_law 40 = .ok (.aload_n 0, 1) := by decide +kernel
theorem dX11_law_41 : decode cX11_law 41 = .ok (.iload_n 3, 1) := by decide +kernel
theorem dX11_law_42 : decode cX11_law 42 = .ok (.putfield 113, 3) := by decide +kernel
theorem dX11_law_45 : decode cX11_law 45 = .ok (.iconst 1, 1) := by decide +kernel
theorem dX11_law_46 : decode cX11_law 46 = .ok (.ireturn, 1) := by decide +kernel
theorem dX11_prices_0 : decode cX11_prices 0 = .ok (.aload_n 0, 1) := by decide +kernel
theorem dX11_prices_1 : decode cX11_prices 1 = .ok (.iconst 0, 1) := by decide +kernel
theorem dX11_prices_2 : decode cX11_prices 2 = .ok (.putfield 93, 3) := by decide +kernel
theorem dX11_prices_5 : decode cX11_prices 5 = .ok (.iload_n 1, 1) := by decide +kernel
theorem dX11_prices_6 : decode cX11_prices 6 = .ok (.ifCond .lt 19, 3) := by decide +kernel
theorem dX11_prices_9 : decode cX11_prices 9 = .ok (.iload_n 1, 1) := by decide +kernel
theorem dX11_prices_10 : decode cX11_prices 10 = .ok (.bipush 99, 2) := by decide +kernel
theorem dX11_prices_12 : decode cX11_prices 12 = .ok (.if_icmp .gt 13, 3) := by decide +kernel
theorem dX11_prices_15 : decode cX11_prices 15 = .ok (.iload_n 2, 1) := by decide +kernel
theorem dX11_prices_16 : decode cX11_prices 16 = .ok (.ifCond .lt 9, 3) := by decide +kernel
theorem dX11_prices_19 : decode cX11_prices 19 = .ok (.iload_n 2, 1) := by decide +kernel
theorem dX11_prices_20 : decode cX11_prices 20 = .ok (.bipush 99, 2) := by decide +kernel
theorem dX11_prices_22 : decode cX11_prices 22 = .ok (.if_icmp .le 5, 3) := by decide +kernel
theorem dX11_prices_25 : decode cX11_prices 25 = .ok (.iconst 0, 1) := by decide +kernel
theorem dX11_prices_26 : decode cX11_prices 26 = .ok (.ireturn, 1) := by decide +kernel
theorem dX11_prices_27 : decode cX11_prices 27 = .ok (.aload_n 0, 1) := by decide +kernel
theorem dX11_prices_28 : decode cX11_prices 28 = .ok (.iload_n 1, 1) := by decide +kernel
theorem dX11_prices_29 : decode cX11_prices 29 = .ok (.putfield 39, 3) := by decide +kernel
theorem dX11_prices_32 : decode cX11_prices 32 = .ok (.aload_n 0, 1) := by decide +kernel
theorem dX11_prices_33 : decode cX11_prices 33 = .ok (.iload_n 2, 1) := by decide +kernel
theorem dX11_prices_34 : decode cX11_prices 34 = .ok (.putfield 42, 3) := by decide +kernel
theorem dX11_prices_37 : decode cX11_prices 37 = .ok (.iconst 1, 1) := by decide +kernel
theorem dX11_prices_38 : decode cX11_prices 38 = .ok (.ireturn, 1) := by decide +kernel
theorem dX11_weightOf_0 : decode cX11_weightOf 0 = .ok (.iconst 0, 1) := by decide +kernel
theorem dX11_weightOf_1 : decode cX11_weightOf 1 = .ok (.istore_n 3, 1) := by decide +kernel
theorem dX11_weightOf_2 : decode cX11_weightOf 2 = .ok (.iconst 0, 1) := by decide +kernel
theorem dX11_weightOf_3 : decode cX11_weightOf 3 = .ok (.istore 4, 2) := by decide +kernel
theorem dX11_weightOf_5 : decode cX11_weightOf 5 = .ok (.iload 4, 2) := by decide +kernel
theorem dX11_weightOf_7 : decode cX11_weightOf 7 = .ok (.aload_n 0, 1) := by decide +kernel
theorem dX11_weightOf_8 : decode cX11_weightOf 8 = .ok (.getfield 110, 3) := by decide +kernel
theorem dX11_weightOf_11 : decode cX11_weightOf 11 = .ok (.if_icmp .ge 57, 3) := by decide +kernel
theorem dX11_weightOf_14 : decode cX11_weightOf 14 = .ok (.aload_n 0, 1) := by decide +kernel
theorem dX11_weightOf_15 : decode cX11_weightOf 15 = .ok (.getfield 16, 3) := by decide +kernel
theorem dX11_weightOf_18 : decode cX11_weightOf 18 = .ok (.iload 4, 2) := by decide +kernel
theorem dX11_weightOf_20 : decode cX11_weightOf 20 = .ok (.iaload, 1) := by decide +kernel
theorem dX11_weightOf_21 : decode cX11_weightOf 21 = .ok (.iload_n 1, 1) := by decide +kernel
theorem dX11_weightOf_22 : decode cX11_weightOf 22 = .ok (.if_icmp .ne 40, 3) := by decide +kernel
theorem dX11_weightOf_25 : decode cX11_weightOf 25 = .ok (.aload_n 0, 1) := by decide +kernel
theorem dX11_weightOf_26 : decode cX11_weightOf 26 = .ok (.getfield 19, 3) := by decide +kernel
theorem dX11_weightOf_29 : decode cX11_weightOf 29 = .ok (.iload 4, 2) := by decide +kernel
theorem dX11_weightOf_31 : decode cX11_weightOf 31 = .ok (.iaload, 1) := by decide +kernel
theorem dX11_weightOf_32 : decode cX11_weightOf 32 = .ok (.iload_n 2, 1) := by decide +kernel
theorem dX11_weightOf_33 : decode cX11_weightOf 33 = .ok (.if_icmp .gt 29, 3) := by decide +kernel
theorem dX11_weightOf_36 : decode cX11_weightOf 36 = .ok (.aload_n 0, 1) := by decide +kernel
theorem dX11_weightOf_37 : decode cX11_weightOf 37 = .ok (.getfield 19, 3) := by decide +kernel
theorem dX11_weightOf_40 : decode cX11_weightOf 40 = .ok (.iload 4, 2) := by decide +kernel
theorem dX11_weightOf_42 : decode cX11_weightOf 42 = .ok (.iaload, 1) := by decide +kernel
theorem dX11_weightOf_43 : decode cX11_weightOf 43 = .ok (.iload_n 2, 1) := by decide +kernel
theorem dX11_weightOf_44 : decode cX11_weightOf 44 = .ok (.aload_n 0, 1) := by decide +kernel
theorem dX11_weightOf_45 : decode cX11_weightOf 45 = .ok (.getfield 32, 3) := by decide +kernel
theorem dX11_weightOf_48 : decode cX11_weightOf 48 = .ok (.isub, 1) := by decide +kernel
theorem dX11_weightOf_49 : decode cX11_weightOf 49 = .ok (.if_icmp .le 13, 3) := by decide +kernel
theorem dX11_weightOf_52 : decode cX11_weightOf 52 = .ok (.iload_n 3, 1) := by decide +kernel
theorem dX11_weightOf_53 : decode cX11_weightOf 53 = .ok (.aload_n 0, 1) := by decide +kernel
theorem dX11_weightOf_54 : decode cX11_weightOf 54 = .ok (.getfield 22, 3) := by decide +kernel
theorem dX11_weightOf_57 : decode cX11_weightOf 57 = .ok (.iload 4, 2) := by decide +kernel
theorem dX11_weightOf_59 : decode cX11_weightOf 59 = .ok (.iaload, 1) := by decide +kernel
theorem dX11_weightOf_60 : decode cX11_weightOf 60 = .ok (.iadd, 1) := by decide +kernel
theorem dX11_weightOf_61 : decode cX11_weightOf 61 = .ok (.istore_n 3, 1) := by decide +kernel
theorem dX11_weightOf_62 : decode cX11_weightOf 62 = .ok (.iinc 4 1, 3) := by decide +kernel
theorem dX11_weightOf_65 : decode cX11_weightOf 65 = .ok (.goto (-60), 3) := by decide +kernel
theorem dX11_weightOf_68 : decode cX11_weightOf 68 = .ok (.iload_n 3, 1) := by decide +kernel
theorem dX11_weightOf_69 : decode cX11_weightOf 69 = .ok (.ireturn, 1) := by decide +kernel
theorem dX11_isNeeded_0 : decode cX11_isNeeded 0 = .ok (.aload_n 0, 1) := by decide +kernel
theorem dX11_isNeeded_1 : decode cX11_isNeeded 1 = .ok (.getfield 25, 3) := by decide +kernel
theorem dX11_isNeeded_4 : decode cX11_isNeeded 4 = .ok (.iload_n 1, 1) := by decide +kernel
theorem dX11_isNeeded_5 : decode cX11_isNeeded 5 = .ok (.baload, 1) := by decide +kernel
theorem dX11_isNeeded_6 : decode cX11_isNeeded 6 = .ok (.ifCond .ne 20, 3) := by decide +kernel
theorem dX11_isNeeded_9 : decode cX11_isNeeded 9 = .ok (.aload_n 0, 1) := by decide +kernel
theorem dX11_isNeeded_10 : decode cX11_isNeeded 10 = .ok (.getfield 29, 3) := by decide +kernel
theorem dX11_isNeeded_13 : decode cX11_isNeeded 13 = .ok (.iload_n 1, 1) := by decide +kernel
theorem dX11_isNeeded_14 : decode cX11_isNeeded 14 = .ok (.baload, 1) := by decide +kernel
theorem dX11_isNeeded_15 : decode cX11_isNeeded 15 = .ok (.ifCond .ne 15, 3) := by decide +kernel
theorem dX11_isNeeded_18 : decode cX11_isNeeded 18 = .ok (.iload_n 2, 1) := by decide +kernel
theorem dX11_isNeeded_19 : decode cX11_isNeeded 19 = .ok (.aload_n 0, 1) := by decide +kernel
theorem dX11_isNeeded_20 : decode cX11_isNeeded 20 = .ok (.getfield 36, 3) := by decide +kernel
theorem dX11_isNeeded_23 : decode cX11_isNeeded 23 = .ok (.if_icmp .lt 7, 3) := by decide +kernel
theorem dX11_isNeeded_26 : decode cX11_isNeeded 26 = .ok (.iconst 1, 1) := by decide +kernel
theorem dX11_isNeeded_27 : decode cX11_isNeeded 27 = .ok (.goto 4, 3) := by decide +kernel
theorem dX11_isNeeded_30 : decode cX11_isNeeded 30 = .ok (.iconst 0, 1) := by decide +kernel
theorem dX11_isNeeded_31 : decode cX11_isNeeded 31 = .ok (.ireturn, 1) := by decide +kernel
theorem dX11_weight_0 : decode cX11_weight 0 = .ok (.aload_n 0, 1) := by decide +kernel
theorem dX11_weight_1 : decode cX11_weight 1 = .ok (.iconst 0, 1) := by decide +kernel
theorem dX11_weight_2 : decode cX11_weight 2 = .ok (.putfield 93, 3) := by decide +kernel
theorem dX11_weight_5 : decode cX11_weight 5 = .ok (.aload_n 0, 1) := by decide +kernel
theorem dX11_weight_6 : decode cX11_weight 6 = .ok (.iload_n 1, 1) := by decide +kernel
theorem dX11_weight_7 : decode cX11_weight 7 = .ok (.iload_n 2, 1) := by decide +kernel
theorem dX11_weight_8 : decode cX11_weight 8 = .ok (.iload_n 3, 1) := by decide +kernel
theorem dX11_weight_9 : decode cX11_weight 9 = .ok (.invokevirtual 103, 3) := by decide +kernel
theorem dX11_weight_12 : decode cX11_weight 12 = .ok (.istore 5, 2) := by decide +kernel
theorem dX11_weight_14 : decode cX11_weight 14 = .ok (.iload 5, 2) := by decide +kernel
theorem dX11_weight_16 : decode cX11_weight 16 = .ok (.iconst (-1), 1) := by decide +kernel
theorem dX11_weight_17 : decode cX11_weight 17 = .ok (.if_icmp .eq 11, 3) := by decide +kernel
theorem dX11_weight_20 : decode cX11_weight 20 = .ok (.iload 4, 2) := by decide +kernel
theorem dX11_weight_22 : decode cX11_weight 22 = .ok (.invokestatic 107, 3) := by decide +kernel
theorem dX11_weight_25 : decode cX11_weight 25 = .ok (.ifCond .ne 7, 3) := by decide +kernel
theorem dX11_weight_28 : decode cX11_weight 28 = .ok (.iconst (-1), 1) := by decide +kernel
theorem dX11_weight_29 : decode cX11_weight 29 = .ok (.goto 11, 3) := by decide +kernel
theorem dX11_weight_32 : decode cX11_weight 32 = .ok (.aload_n 0, 1) := by decide +kernel
theorem dX11_weight_33 : decode cX11_weight 33 = .ok (.iload 5, 2) := by decide +kernel
theorem dX11_weight_35 : decode cX11_weight 35 = .ok (.iload 4, 2) := by decide +kernel
theorem dX11_weight_37 : decode cX11_weight 37 = .ok (.invokevirtual 117, 3) := by decide +kernel
theorem dX11_weight_40 : decode cX11_weight 40 = .ok (.ireturn, 1) := by decide +kernel
theorem dX11_needed_0 : decode cX11_needed 0 = .ok (.aload_n 0, 1) := by decide +kernel
theorem dX11_needed_1 : decode cX11_needed 1 = .ok (.iconst 0, 1) := by decide +kernel
theorem dX11_needed_2 : decode cX11_needed 2 = .ok (.putfield 93, 3) := by decide +kernel
theorem dX11_needed_5 : decode cX11_needed 5 = .ok (.aload_n 0, 1) := by decide +kernel
theorem dX11_needed_6 : decode cX11_needed 6 = .ok (.iload_n 1, 1) := by decide +kernel
theorem dX11_needed_7 : decode cX11_needed 7 = .ok (.iload_n 2, 1) := by decide +kernel
theorem dX11_needed_8 : decode cX11_needed 8 = .ok (.iload_n 3, 1) := by decide +kernel
theorem dX11_needed_9 : decode cX11_needed 9 = .ok (.invokevirtual 103, 3) := by decide +kernel
theorem dX11_needed_12 : decode cX11_needed 12 = .ok (.istore 5, 2) := by decide +kernel
theorem dX11_needed_14 : decode cX11_needed 14 = .ok (.iload 5, 2) := by decide +kernel
theorem dX11_needed_16 : decode cX11_needed 16 = .ok (.iconst (-1), 1) := by decide +kernel
theorem dX11_needed_17 : decode cX11_needed 17 = .ok (.if_icmp .eq 11, 3) := by decide +kernel
theorem dX11_needed_20 : decode cX11_needed 20 = .ok (.iload 4, 2) := by decide +kernel
theorem dX11_needed_22 : decode cX11_needed 22 = .ok (.invokestatic 107, 3) := by decide +kernel
theorem dX11_needed_25 : decode cX11_needed 25 = .ok (.ifCond .ne 7, 3) := by decide +kernel
theorem dX11_needed_28 : decode cX11_needed 28 = .ok (.iconst (-1), 1) := by decide +kernel
theorem dX11_needed_29 : decode cX11_needed 29 = .ok (.goto 25, 3) := by decide +kernel
theorem dX11_needed_32 : decode cX11_needed 32 = .ok (.aload_n 0, 1) := by decide +kernel
theorem dX11_needed_33 : decode cX11_needed 33 = .ok (.iload 5, 2) := by decide +kernel
theorem dX11_needed_35 : decode cX11_needed 35 = .ok (.aload_n 0, 1) := by decide +kernel
theorem dX11_needed_36 : decode cX11_needed 36 = .ok (.iload 5, 2) := by decide +kernel
theorem dX11_needed_38 : decode cX11_needed 38 = .ok (.iload 4, 2) := by decide +kernel
theorem dX11_needed_40 : decode cX11_needed 40 = .ok (.invokevirtual 117, 3) := by decide +kernel
theorem dX11_needed_43 : decode cX11_needed 43 = .ok (.invokevirtual 121, 3) := by decide +kernel
theorem dX11_needed_46 : decode cX11_needed 46 = .ok (.ifCond .eq 7, 3) := by decide +kernel
theorem dX11_needed_49 : decode cX11_needed 49 = .ok (.iconst 1, 1) := by decide +kernel
theorem dX11_needed_50 : decode cX11_needed 50 = .ok (.goto 4, 3) := by decide +kernel
theorem dX11_needed_53 : decode cX11_needed 53 = .ok (.iconst 0, 1) := by decide +kernel
theorem dX11_needed_54 : decode cX11_needed 54 = .ok (.ireturn, 1) := by decide +kernel
theorem dX11_dues_0 : decode cX11_dues 0 = .ok (.iconst 0, 1) := by decide +kernel
theorem dX11_dues_1 : decode cX11_dues 1 = .ok (.istore_n 2, 1) := by decide +kernel
theorem dX11_dues_2 : decode cX11_dues 2 = .ok (.iload_n 2, 1) := by decide +kernel
theorem dX11_dues_3 : decode cX11_dues 3 = .ok (.sipush 256, 3) := by decide +kernel
theorem dX11_dues_6 : decode cX11_dues 6 = .ok (.if_icmp .ge 85, 3) := by decide +kernel
theorem dX11_dues_9 : decode cX11_dues 9 = .ok (.aload_n 0, 1) := by decide +kernel
theorem dX11_dues_10 : decode cX11_dues 10 = .ok (.iload_n 2, 1) := by decide +kernel
theorem dX11_dues_11 : decode cX11_dues 11 = .ok (.bipush 32, 2) := by decide +kernel
theorem dX11_dues_13 : decode cX11_dues 13 = .ok (.idiv, 1) := by decide +kernel
theorem dX11_dues_14 : decode cX11_dues 14 = .ok (.iload_n 2, 1) := by decide +kernel
theorem dX11_dues_15 : decode cX11_dues 15 = .ok (.iconst 4, 1) := by decide +kernel
theorem dX11_dues_16 : decode cX11_dues 16 = .ok (.idiv, 1) := by decide +kernel
theorem dX11_dues_17 : decode cX11_dues 17 = .ok (.bipush 8, 2) := by decide +kernel
theorem dX11_dues_19 : decode cX11_dues 19 = .ok (.irem, 1) := by decide +kernel
theorem dX11_dues_20 : decode cX11_dues 20 = .ok (.iload_n 2, 1) := by decide +kernel
theorem dX11_dues_21 : decode cX11_dues 21 = .ok (.iconst 4, 1) := by decide +kernel
theorem dX11_dues_22 : decode cX11_dues 22 = .ok (.irem, 1) := by decide +kernel
theorem dX11_dues_23 : decode cX11_dues 23 = .ok (.invokevirtual 103, 3) := by decide +kernel
theorem dX11_dues_26 : decode cX11_dues 26 = .ok (.iconst (-1), 1) := by decide +kernel
theorem dX11_dues_27 : decode cX11_dues 27 = .ok (.if_icmp .eq 7, 3) := by decide +kernel
theorem dX11_dues_30 : decode cX11_dues 30 = .ok (.iconst 1, 1) := by decide +kernel
theorem dX11_dues_31 : decode cX11_dues 31 = .ok (.goto 4, 3) := by decide +kernel
theorem dX11_dues_34 : decode cX11_dues 34 = .ok (.iconst 0, 1) := by decide +kernel
theorem dX11_dues_35 : decode cX11_dues 35 = .ok (.istore_n 3, 1) := by decide +kernel
theorem dX11_dues_36 : decode cX11_dues 36 = .ok (.aload_n 0, 1) := by decide +kernel
theorem dX11_dues_37 : decode cX11_dues 37 = .ok (.getfield 48, 3) := by decide +kernel
theorem dX11_dues_40 : decode cX11_dues 40 = .ok (.iload_n 2, 1) := by decide +kernel
theorem dX11_dues_41 : decode cX11_dues 41 = .ok (.iload_n 3, 1) := by decide +kernel
theorem dX11_dues_42 : decode cX11_dues 42 = .ok (.ifCond .eq 12, 3) := by decide +kernel
theorem dX11_dues_45 : decode cX11_dues 45 = .ok (.aload_n 0, 1) := by decide +kernel
theorem dX11_dues_46 : decode cX11_dues 46 = .ok (.iload_n 2, 1) := by decide +kernel
theorem dX11_dues_47 : decode cX11_dues 47 = .ok (.iload_n 1, 1) := by decide +kernel
theorem dX11_dues_48 : decode cX11_dues 48 = .ok (.invokevirtual 117, 3) := by decide +kernel
theorem dX11_dues_51 : decode cX11_dues 51 = .ok (.goto 4, 3) := by decide +kernel
theorem dX11_dues_54 : decode cX11_dues 54 = .ok (.iconst 0, 1) := by decide +kernel
theorem dX11_dues_55 : decode cX11_dues 55 = .ok (.iastore, 1) := by decide +kernel
theorem dX11_dues_56 : decode cX11_dues 56 = .ok (.aload_n 0, 1) := by decide +kernel
theorem dX11_dues_57 : decode cX11_dues 57 = .ok (.getfield 45, 3) := by decide +kernel
theorem dX11_dues_60 : decode cX11_dues 60 = .ok (.iload_n 2, 1) := by decide +kernel
theorem dX11_dues_61 : decode cX11_dues 61 = .ok (.iload_n 3, 1) := by decide +kernel
theorem dX11_dues_62 : decode cX11_dues 62 = .ok (.ifCond .eq 21, 3) := by decide +kernel
theorem dX11_dues_65 : decode cX11_dues 65 = .ok (.aload_n 0, 1) := by decide +kernel
theorem dX11_dues_66 : decode cX11_dues 66 = .ok (.iload_n 2, 1) := by decide +kernel
theorem dX11_dues_67 : decode cX11_dues 67 = .ok (.aload_n 0, 1) := by decide +kernel
theorem dX11_dues_68 : decode cX11_dues 68 = .ok (.getfield 48, 3) := by decide +kernel
theorem dX11_dues_71 : decode cX11_dues 71 = .ok (.iload_n 2, 1) := by decide +kernel
theorem dX11_dues_72 : decode cX11_dues 72 = .ok (.iaload, 1) := by decide +kernel
theorem dX11_dues_73 : decode cX11_dues 73 = .ok (.invokevirtual 121, 3) := by decide +kernel
theorem dX11_dues_76 : decode cX11_dues 76 = .ok (.ifCond .eq 7, 3) := by decide +kernel
theorem dX11_dues_79 : decode cX11_dues 79 = .ok (.iconst 1, 1) := by decide +kernel
theorem dX11_dues_80 : decode cX11_dues 80 = .ok (.goto 4, 3) := by decide +kernel
theorem dX11_dues_83 : decode cX11_dues 83 = .ok (.iconst 0, 1) := by decide +kernel
theorem dX11_dues_84 : decode cX11_dues 84 = .ok (.bastore, 1) := by decide +kernel
theorem dX11_dues_85 : decode cX11_dues 85 = .ok (.iinc 2 1, 3) := by decide +kernel
theorem dX11_dues_88 : decode cX11_dues 88 = .ok (.goto (-86), 3) := by decide +kernel
theorem dX11_dues_91 : decode cX11_dues 91 = .ok (.return_, 1) := by decide +kernel
theorem dX11_between_0 : decode cX11_between 0 = .ok (.bipush 32, 2) := by decide +kernel
theorem dX11_between_2 : decode cX11_between 2 = .ok (.aload_n 0, 1) := by decide +kernel
theorem dX11_between_3 : decode cX11_between 3 = .ok (.getfield 57, 3) := by decide +kernel
theorem dX11_between_6 : decode cX11_between 6 = .ok (.iload_n 1, 1) := by decide +kernel
theorem dX11_between_7 : decode cX11_between 7 = .ok (.bipush 32, 2) := by decide +kernel
theorem dX11_between_9 : decode cX11_between 9 = .ok (.idiv, 1) := by decide +kernel
theorem dX11_between_10 : decode cX11_between 10 = .ok (.iaload, 1) := by decide +kernel
theorem dX11_between_11 : decode cX11_between 11 = .ok (.imul, 1) := by decide +kernel
theorem dX11_between_12 : decode cX11_between 12 = .ok (.iconst 4, 1) := by decide +kernel
theorem dX11_between_13 : decode cX11_between 13 = .ok (.aload_n 0, 1) := by decide +kernel
theorem dX11_between_14 : decode cX11_between 14 = .ok (.getfield 57, 3) := by decide +kernel
theorem dX11_between_17 : decode cX11_between 17 = .ok (.iload_n 1, 1) := by decide +kernel
theorem dX11_between_18 : decode cX11_between 18 = .ok (.iconst 4, 1) := by decide +kernel
theorem dX11_between_19 : decode cX11_between 19 = .ok (.idiv, 1) := by decide +kernel
theorem dX11_between_20 : decode cX11_between 20 = .ok (.bipush 8, 2) := by decide +kernel
theorem dX11_between_22 : decode cX11_between 22 = .ok (.irem, 1) := by decide +kernel
theorem dX11_between_23 : decode cX11_between 23 = .ok (.iaload, 1) := by decide +kernel
theorem dX11_between_24 : decode cX11_between 24 = .ok (.imul, 1) := by decide +kernel
theorem dX11_between_25 : decode cX11_between 25 = .ok (.iadd, 1) := by decide +kernel
theorem dX11_between_26 : decode cX11_between 26 = .ok (.iload_n 1, 1) := by decide +kernel
theorem dX11_between_27 : decode cX11_between 27 = .ok (.iconst 4, 1) := by decide +kernel
theorem dX11_between_28 : decode cX11_between 28 = .ok (.irem, 1) := by decide +kernel
theorem dX11_between_29 : decode cX11_between 29 = .ok (.iadd, 1) := by decide +kernel
theorem dX11_between_30 : decode cX11_between 30 = .ok (.ireturn, 1) := by decide +kernel
theorem dX11_isTried_0 : decode cX11_isTried 0 = .ok (.aload_n 0, 1) := by decide +kernel
theorem dX11_isTried_1 : decode cX11_isTried 1 = .ok (.iload_n 1, 1) := by decide +kernel
theorem dX11_isTried_2 : decode cX11_isTried 2 = .ok (.bipush 32, 2) := by decide +kernel
theorem dX11_isTried_4 : decode cX11_isTried 4 = .ok (.idiv, 1) := by decide +kernel
theorem dX11_isTried_5 : decode cX11_isTried 5 = .ok (.iload_n 1, 1) := by decide +kernel
theorem dX11_isTried_6 : decode cX11_isTried 6 = .ok (.iconst 4, 1) := by decide +kernel
theorem dX11_isTried_7 : decode cX11_isTried 7 = .ok (.idiv, 1) := by decide +kernel
theorem dX11_isTried_8 : decode cX11_isTried 8 = .ok (.bipush 8, 2) := by decide +kernel
theorem dX11_isTried_10 : decode cX11_isTried 10 = .ok (.irem, 1) := by decide +kernel
theorem dX11_isTried_11 : decode cX11_isTried 11 = .ok (.iload_n 1, 1) := by decide +kernel
theorem dX11_isTried_12 : decode cX11_isTried 12 = .ok (.iconst 4, 1) := by decide +kernel
theorem dX11_isTried_13 : decode cX11_isTried 13 = .ok (.irem, 1) := by decide +kernel
theorem dX11_isTried_14 : decode cX11_isTried 14 = .ok (.invokevirtual 103, 3) := by decide +kernel
theorem dX11_isTried_17 : decode cX11_isTried 17 = .ok (.iconst (-1), 1) := by decide +kernel
theorem dX11_isTried_18 : decode cX11_isTried 18 = .ok (.if_icmp .eq 35, 3) := by decide +kernel
theorem dX11_isTried_21 : decode cX11_isTried 21 = .ok (.aload_n 0, 1) := by decide +kernel
theorem dX11_isTried_22 : decode cX11_isTried 22 = .ok (.getfield 57, 3) := by decide +kernel
theorem dX11_isTried_25 : decode cX11_isTried 25 = .ok (.iload_n 1, 1) := by decide +kernel
theorem dX11_isTried_26 : decode cX11_isTried 26 = .ok (.bipush 32, 2) := by decide +kernel
theorem dX11_isTried_28 : decode cX11_isTried 28 = .ok (.idiv, 1) := by decide +kernel
theorem dX11_isTried_29 : decode cX11_isTried 29 = .ok (.iaload, 1) := by decide +kernel
theorem dX11_isTried_30 : decode cX11_isTried 30 = .ok (.iconst (-1), 1) := by decide +kernel
theorem dX11_isTried_31 : decode cX11_isTried 31 = .ok (.if_icmp .eq 22, 3) := by decide +kernel
theorem dX11_isTried_34 : decode cX11_isTried 34 = .ok (.aload_n 0, 1) := by decide +kernel
theorem dX11_isTried_35 : decode cX11_isTried 35 = .ok (.getfield 57, 3) := by decide +kernel
theorem dX11_isTried_38 : decode cX11_isTried 38 = .ok (.iload_n 1, 1) := by decide +kernel
theorem dX11_isTried_39 : decode cX11_isTried 39 = .ok (.iconst 4, 1) := by decide +kernel
theorem dX11_isTried_40 : decode cX11_isTried 40 = .ok (.idiv, 1) := by decide +kernel
theorem dX11_isTried_41 : decode cX11_isTried 41 = .ok (.bipush 8, 2) := by decide +kernel
theorem dX11_isTried_43 : decode cX11_isTried 43 = .ok (.irem, 1) := by decide +kernel
theorem dX11_isTried_44 : decode cX11_isTried 44 = .ok (.iaload, 1) := by decide +kernel
theorem dX11_isTried_45 : decode cX11_isTried 45 = .ok (.iconst (-1), 1) := by decide +kernel
theorem dX11_isTried_46 : decode cX11_isTried 46 = .ok (.if_icmp .eq 7, 3) := by decide +kernel
theorem dX11_isTried_49 : decode cX11_isTried 49 = .ok (.iconst 1, 1) := by decide +kernel
theorem dX11_isTried_50 : decode cX11_isTried 50 = .ok (.goto 4, 3) := by decide +kernel
theorem dX11_isTried_53 : decode cX11_isTried 53 = .ok (.iconst 0, 1) := by decide +kernel
theorem dX11_isTried_54 : decode cX11_isTried 54 = .ok (.ireturn, 1) := by decide +kernel
theorem dX11_costs_0 : decode cX11_costs 0 = .ok (.iconst 0, 1) := by decide +kernel
theorem dX11_costs_1 : decode cX11_costs 1 = .ok (.istore_n 1, 1) := by decide +kernel
theorem dX11_costs_2 : decode cX11_costs 2 = .ok (.iload_n 1, 1) := by decide +kernel
theorem dX11_costs_3 : decode cX11_costs 3 = .ok (.sipush 256, 3) := by decide +kernel
theorem dX11_costs_6 : decode cX11_costs 6 = .ok (.if_icmp .ge 16, 3) := by decide +kernel
theorem dX11_costs_9 : decode cX11_costs 9 = .ok (.aload_n 0, 1) := by decide +kernel
theorem dX11_costs_10 : decode cX11_costs 10 = .ok (.getfield 63, 3) := by decide +kernel
theorem dX11_costs_13 : decode cX11_costs 13 = .ok (.iload_n 1, 1) := by decide +kernel
theorem dX11_costs_14 : decode cX11_costs 14 = .ok (.iconst 0, 1) := by decide +kernel
theorem dX11_costs_15 : decode cX11_costs 15 = .ok (.bastore, 1) := by decide +kernel
theorem dX11_costs_16 : decode cX11_costs 16 = .ok (.iinc 1 1, 3) := by decide +kernel
theorem dX11_costs_19 : decode cX11_costs 19 = .ok (.goto (-17), 3) := by decide +kernel
theorem dX11_costs_22 : decode cX11_costs 22 = .ok (.iconst 0, 1) := by decide +kernel
theorem dX11_costs_23 : decode cX11_costs 23 = .ok (.istore_n 1, 1) := by decide +kernel
theorem dX11_costs_24 : decode cX11_costs 24 = .ok (.iconst 0, 1) := by decide +kernel
theorem dX11_costs_25 : decode cX11_costs 25 = .ok (.istore_n 2, 1) := by decide +kernel
theorem dX11_costs_26 : decode cX11_costs 26 = .ok (.iload_n 2, 1) := by decide +kernel
theorem dX11_costs_27 : decode cX11_costs 27 = .ok (.sipush 256, 3) := by decide +kernel
theorem dX11_costs_30 : decode cX11_costs 30 = .ok (.if_icmp .ge 79, 3) := by decide +kernel
theorem dX11_costs_33 : decode cX11_costs 33 = .ok (.aload_n 0, 1) := by decide +kernel
theorem dX11_costs_34 : decode cX11_costs 34 = .ok (.iload_n 2, 1) := by decide +kernel
theorem dX11_costs_35 : decode cX11_costs 35 = .ok (.invokevirtual 125, 3) := by decide +kernel
theorem dX11_costs_38 : decode cX11_costs 38 = .ok (.ifCond .eq 65, 3) := by decide +kernel
theorem dX11_costs_41 : decode cX11_costs 41 = .ok (.aload_n 0, 1) := by decide +kernel
theorem dX11_costs_42 : decode cX11_costs 42 = .ok (.getfield 45, 3) := by decide +kernel
theorem dX11_costs_45 : decode cX11_costs 45 = .ok (.iload_n 2, 1) := by decide +kernel
theorem dX11_costs_46 : decode cX11_costs 46 = .ok (.baload, 1) := by decide +kernel
theorem dX11_costs_47 : decode cX11_costs 47 = .ok (.ifCond .eq 56, 3) := by decide +kernel
theorem dX11_costs_50 : decode cX11_costs 50 = .ok (.aload_n 0, 1) := by decide +kernel
theorem dX11_costs_51 : decode cX11_costs 51 = .ok (.getfield 57, 3) := by decide +kernel
theorem dX11_costs_54 : decode cX11_costs 54 = .ok (.iload_n 2, 1) := by decide +kernel
theorem dX11_costs_55 : decode cX11_costs 55 = .ok (.bipush 32, 2) := by decide +kernel
theorem dX11_costs_57 : decode cX11_costs 57 = .ok (.idiv, 1) := by decide +kernel
theorem dX11_costs_58 : decode cX11_costs 58 = .ok (.iaload, 1) := by decide +kernel
theorem dX11_costs_59 : decode cX11_costs 59 = .ok (.aload_n 0, 1) := by decide +kernel
theorem dX11_costs_60 : decode cX11_costs 60 = .ok (.getfield 57, 3) := by decide +kernel
theorem dX11_costs_63 : decode cX11_costs 63 = .ok (.iload_n 2, 1) := by decide +kernel
theorem dX11_costs_64 : decode cX11_costs 64 = .ok (.iconst 4, 1) := by decide +kernel
theorem dX11_costs_65 : decode cX11_costs 65 = .ok (.idiv, 1) := by decide +kernel
theorem dX11_costs_66 : decode cX11_costs 66 = .ok (.bipush 8, 2) := by decide +kernel
theorem dX11_costs_68 : decode cX11_costs 68 = .ok (.irem, 1) := by decide +kernel
theorem dX11_costs_69 : decode cX11_costs 69 = .ok (.iaload, 1) := by decide +kernel
theorem dX11_costs_70 : decode cX11_costs 70 = .ok (.if_icmp .eq 33, 3) := by decide +kernel
theorem dX11_costs_73 : decode cX11_costs 73 = .ok (.aload_n 0, 1) := by decide +kernel
theorem dX11_costs_74 : decode cX11_costs 74 = .ok (.getfield 63, 3) := by decide +kernel
theorem dX11_costs_77 : decode cX11_costs 77 = .ok (.aload_n 0, 1) := by decide +kernel
theorem dX11_costs_78 : decode cX11_costs 78 = .ok (.iload_n 2, 1) := by decide +kernel
theorem dX11_costs_79 : decode cX11_costs 79 = .ok (.invokevirtual 128, 3) := by decide +kernel
theorem dX11_costs_82 : decode cX11_costs 82 = .ok (.baload, 1) := by decide +kernel
theorem dX11_costs_83 : decode cX11_costs 83 = .ok (.ifCond .eq 6, 3) := by decide +kernel
theorem dX11_costs_86 : decode cX11_costs 86 = .ok (.goto 17, 3) := by decide +kernel
theorem dX11_costs_89 : decode cX11_costs 89 = .ok (.aload_n 0, 1) := by decide +kernel
theorem dX11_costs_90 : decode cX11_costs 90 = .ok (.getfield 63, 3) := by decide +kernel
theorem dX11_costs_93 : decode cX11_costs 93 = .ok (.aload_n 0, 1) := by decide +kernel
theorem dX11_costs_94 : decode cX11_costs 94 = .ok (.iload_n 2, 1) := by decide +kernel
theorem dX11_costs_95 : decode cX11_costs 95 = .ok (.invokevirtual 128, 3) := by decide +kernel
theorem dX11_costs_98 : decode cX11_costs 98 = .ok (.iconst 1, 1) := by decide +kernel
theorem dX11_costs_99 : decode cX11_costs 99 = .ok (.bastore, 1) := by decide +kernel
theorem dX11_costs_100 : decode cX11_costs 100 = .ok (.iinc 1 1, 3) := by decide +kernel
theorem dX11_costs_103 : decode cX11_costs 103 = .ok (.iinc 2 1, 3) := by decide +kernel
theorem dX11_costs_106 : decode cX11_costs 106 = .ok (.goto (-80), 3) := by decide +kernel
theorem dX11_costs_109 : decode cX11_costs 109 = .ok (.aload_n 0, 1) := by decide +kernel
theorem dX11_costs_110 : decode cX11_costs 110 = .ok (.iconst 0, 1) := by decide +kernel
theorem dX11_costs_111 : decode cX11_costs 111 = .ok (.putfield 132, 3) := by decide +kernel
theorem dX11_costs_114 : decode cX11_costs 114 = .ok (.iconst 0, 1) := by decide +kernel
theorem dX11_costs_115 : decode cX11_costs 115 = .ok (.istore_n 2, 1) := by decide +kernel
theorem dX11_costs_116 : decode cX11_costs 116 = .ok (.iload_n 2, 1) := by decide +kernel
theorem dX11_costs_117 : decode cX11_costs 117 = .ok (.sipush 256, 3) := by decide +kernel
theorem dX11_costs_120 : decode cX11_costs 120 = .ok (.if_icmp .ge 104, 3) := by decide +kernel
theorem dX11_costs_123 : decode cX11_costs 123 = .ok (.aload_n 0, 1) := by decide +kernel
theorem dX11_costs_124 : decode cX11_costs 124 = .ok (.iload_n 2, 1) := by decide +kernel
theorem dX11_costs_125 : decode cX11_costs 125 = .ok (.invokevirtual 125, 3) := by decide +kernel
theorem dX11_costs_128 : decode cX11_costs 128 = .ok (.ifCond .ne 6, 3) := by decide +kernel
theorem dX11_costs_131 : decode cX11_costs 131 = .ok (.goto 87, 3) := by decide +kernel
theorem dX11_costs_134 : decode cX11_costs 134 = .ok (.aload_n 0, 1) := by decide +kernel
theorem dX11_costs_135 : decode cX11_costs 135 = .ok (.getfield 57, 3) := by decide +kernel
theorem dX11_costs_138 : decode cX11_costs 138 = .ok (.iload_n 2, 1) := by decide +kernel
theorem dX11_costs_139 : decode cX11_costs 139 = .ok (.bipush 32, 2) := by decide +kernel
theorem dX11_costs_141 : decode cX11_costs 141 = .ok (.idiv, 1) := by decide +kernel
theorem dX11_costs_142 : decode cX11_costs 142 = .ok (.iaload, 1) := by decide +kernel
theorem dX11_costs_143 : decode cX11_costs 143 = .ok (.aload_n 0, 1) := by decide +kernel
theorem dX11_costs_144 : decode cX11_costs 144 = .ok (.getfield 57, 3) := by decide +kernel
theorem dX11_costs_147 : decode cX11_costs 147 = .ok (.iload_n 2, 1) := by decide +kernel
theorem dX11_costs_148 : decode cX11_costs 148 = .ok (.iconst 4, 1) := by decide +kernel
theorem dX11_costs_149 : decode cX11_costs 149 = .ok (.idiv, 1) := by decide +kernel
theorem dX11_costs_150 : decode cX11_costs 150 = .ok (.bipush 8, 2) := by decide +kernel
theorem dX11_costs_152 : decode cX11_costs 152 = .ok (.irem, 1) := by decide +kernel
theorem dX11_costs_153 : decode cX11_costs 153 = .ok (.iaload, 1) := by decide +kernel
theorem dX11_costs_154 : decode cX11_costs 154 = .ok (.if_icmp .eq 16, 3) := by decide +kernel
theorem dX11_costs_157 : decode cX11_costs 157 = .ok (.aload_n 0, 1) := by decide +kernel
theorem dX11_costs_158 : decode cX11_costs 158 = .ok (.getfield 63, 3) := by decide +kernel
theorem dX11_costs_161 : decode cX11_costs 161 = .ok (.aload_n 0, 1) := by decide +kernel
theorem dX11_costs_162 : decode cX11_costs 162 = .ok (.iload_n 2, 1) := by decide +kernel
theorem dX11_costs_163 : decode cX11_costs 163 = .ok (.invokevirtual 128, 3) := by decide +kernel
theorem dX11_costs_166 : decode cX11_costs 166 = .ok (.baload, 1) := by decide +kernel
theorem dX11_costs_167 : decode cX11_costs 167 = .ok (.ifCond .eq 7, 3) := by decide +kernel
theorem dX11_costs_170 : decode cX11_costs 170 = .ok (.iconst 1, 1) := by decide +kernel
theorem dX11_costs_171 : decode cX11_costs 171 = .ok (.goto 4, 3) := by decide +kernel
theorem dX11_costs_174 : decode cX11_costs 174 = .ok (.iconst 0, 1) := by decide +kernel
theorem dX11_costs_175 : decode cX11_costs 175 = .ok (.istore_n 3, 1) := by decide +kernel
theorem dX11_costs_176 : decode cX11_costs 176 = .ok (.iload_n 3, 1) := by decide +kernel
theorem dX11_costs_177 : decode cX11_costs 177 = .ok (.ifCond .eq 14, 3) := by decide +kernel
theorem dX11_costs_180 : decode cX11_costs 180 = .ok (.aload_n 0, 1) := by decide +kernel
theorem dX11_costs_181 : decode cX11_costs 181 = .ok (.getfield 29, 3) := by decide +kernel
theorem dX11_costs_184 : decode cX11_costs 184 = .ok (.iload_n 2, 1) := by decide +kernel
theorem dX11_costs_185 : decode cX11_costs 185 = .ok (.baload, 1) := by decide +kernel
theorem dX11_costs_186 : decode cX11_costs 186 = .ok (.ifCond .eq 5, 3) := by decide +kernel
theorem dX11_costs_189 : decode cX11_costs 189 = .ok (.iconst (-1), 1) := by decide +kernel
theorem dX11_costs_190 : decode cX11_costs 190 = .ok (.ireturn, 1) := by decide +kernel
theorem dX11_costs_191 : decode cX11_costs 191 = .ok (.aload_n 0, 1) := by decide +kernel
theorem dX11_costs_192 : decode cX11_costs 192 = .ok (.dup, 1) := by decide +kernel
theorem dX11_costs_193 : decode cX11_costs 193 = .ok (.getfield 132, 3) := by decide +kernel
theorem dX11_costs_196 : decode cX11_costs 196 = .ok (.iload_n 3, 1) := by decide +kernel
theorem dX11_costs_197 : decode cX11_costs 197 = .ok (.ifCond .eq 16, 3) := by decide +kernel
theorem dX11_costs_200 : decode cX11_costs 200 = .ok (.aload_n 0, 1) := by decide +kernel
theorem dX11_costs_201 : decode cX11_costs 201 = .ok (.getfield 45, 3) := by decide +kernel
theorem dX11_costs_204 : decode cX11_costs 204 = .ok (.iload_n 2, 1) := by decide +kernel
theorem dX11_costs_205 : decode cX11_costs 205 = .ok (.baload, 1) := by decide +kernel
theorem dX11_costs_206 : decode cX11_costs 206 = .ok (.ifCond .ne 7, 3) := by decide +kernel
theorem dX11_costs_209 : decode cX11_costs 209 = .ok (.iconst 1, 1) := by decide +kernel
theorem dX11_costs_210 : decode cX11_costs 210 = .ok (.goto 4, 3) := by decide +kernel
theorem dX11_costs_213 : decode cX11_costs 213 = .ok (.iconst 0, 1) := by decide +kernel
theorem dX11_costs_214 : decode cX11_costs 214 = .ok (.iadd, 1) := by decide +kernel
theorem dX11_costs_215 : decode cX11_costs 215 = .ok (.putfield 132, 3) := by decide +kernel
theorem dX11_costs_218 : decode cX11_costs 218 = .ok (.iinc 2 1, 3) := by decide +kernel
theorem dX11_costs_221 : decode cX11_costs 221 = .ok (.goto (-105), 3) := by decide +kernel
theorem dX11_costs_224 : decode cX11_costs 224 = .ok (.iload_n 1, 1) := by decide +kernel
theorem dX11_costs_225 : decode cX11_costs 225 = .ok (.aload_n 0, 1) := by decide +kernel
theorem dX11_costs_226 : decode cX11_costs 226 = .ok (.getfield 39, 3) := by decide +kernel
theorem dX11_costs_229 : decode cX11_costs 229 = .ok (.imul, 1) := by decide +kernel
theorem dX11_costs_230 : decode cX11_costs 230 = .ok (.aload_n 0, 1) := by decide +kernel
theorem dX11_costs_231 : decode cX11_costs 231 = .ok (.getfield 132, 3) := by decide +kernel
theorem dX11_costs_234 : decode cX11_costs 234 = .ok (.aload_n 0, 1) := by decide +kernel
theorem dX11_costs_235 : decode cX11_costs 235 = .ok (.getfield 42, 3) := by decide +kernel
theorem dX11_costs_238 : decode cX11_costs 238 = .ok (.imul, 1) := by decide +kernel
theorem dX11_costs_239 : decode cX11_costs 239 = .ok (.iadd, 1) := by decide +kernel
theorem dX11_costs_240 : decode cX11_costs 240 = .ok (.ireturn, 1) := by decide +kernel
theorem dX11_mixes_0 : decode cX11_mixes 0 = .ok (.iconst 0, 1) := by decide +kernel
theorem dX11_mixes_1 : decode cX11_mixes 1 = .ok (.istore_n 1, 1) := by decide +kernel
theorem dX11_mixes_2 : decode cX11_mixes 2 = .ok (.iload_n 1, 1) := by decide +kernel
theorem dX11_mixes_3 : decode cX11_mixes 3 = .ok (.aload_n 0, 1) := by decide +kernel
theorem dX11_mixes_4 : decode cX11_mixes 4 = .ok (.getfield 96, 3) := by decide +kernel
theorem dX11_mixes_7 : decode cX11_mixes 7 = .ok (.if_icmp .ge 54, 3) := by decide +kernel
theorem dX11_mixes_10 : decode cX11_mixes 10 = .ok (.iconst 0, 1) := by decide +kernel
theorem dX11_mixes_11 : decode cX11_mixes 11 = .ok (.istore_n 2, 1) := by decide +kernel
theorem dX11_mixes_12 : decode cX11_mixes 12 = .ok (.iload_n 2, 1) := by decide +kernel
theorem dX11_mixes_13 : decode cX11_mixes 13 = .ok (.iload_n 1, 1) := by decide +kernel
theorem dX11_mixes_14 : decode cX11_mixes 14 = .ok (.if_icmp .ge 41, 3) := by decide +kernel
theorem dX11_mixes_17 : decode cX11_mixes 17 = .ok (.aload_n 0, 1) := by decide +kernel
theorem dX11_mixes_18 : decode cX11_mixes 18 = .ok (.getfield 57, 3) := by decide +kernel
theorem dX11_mixes_21 : decode cX11_mixes 21 = .ok (.iload_n 1, 1) := by decide +kernel
theorem dX11_mixes_22 : decode cX11_mixes 22 = .ok (.iaload, 1) := by decide +kernel
theorem dX11_mixes_23 : decode cX11_mixes 23 = .ok (.aload_n 0, 1) := by decide +kernel
theorem dX11_mixes_24 : decode cX11_mixes 24 = .ok (.getfield 57, 3) := by decide +kernel
theorem dX11_mixes_27 : decode cX11_mixes 27 = .ok (.iload_n 2, 1) := by decide +kernel
theorem dX11_mixes_28 : decode cX11_mixes 28 = .ok (.iaload, 1) := by decide +kernel
theorem dX11_mixes_29 : decode cX11_mixes 29 = .ok (.if_icmp .ne 20, 3) := by decide +kernel
theorem dX11_mixes_32 : decode cX11_mixes 32 = .ok (.aload_n 0, 1) := by decide +kernel
theorem dX11_mixes_33 : decode cX11_mixes 33 = .ok (.getfield 7, 3) := by decide +kernel
theorem dX11_mixes_36 : decode cX11_mixes 36 = .ok (.iload_n 1, 1) := by decide +kernel
theorem dX11_mixes_37 : decode cX11_mixes 37 = .ok (.iaload, 1) := by decide +kernel
theorem dX11_mixes_38 : decode cX11_mixes 38 = .ok (.aload_n 0, 1) := by decide +kernel
theorem dX11_mixes_39 : decode cX11_mixes 39 = .ok (.getfield 7, 3) := by decide +kernel
theorem dX11_mixes_42 : decode cX11_mixes 42 = .ok (.iload_n 2, 1) := by decide +kernel
theorem dX11_mixes_43 : decode cX11_mixes 43 = .ok (.iaload, 1) := by decide +kernel
theorem dX11_mixes_44 : decode cX11_mixes 44 = .ok (.if_icmp .eq 5, 3) := by decide +kernel
theorem dX11_mixes_47 : decode cX11_mixes 47 = .ok (.iconst 1, 1) := by decide +kernel
theorem dX11_mixes_48 : decode cX11_mixes 48 = .ok (.ireturn, 1) := by decide +kernel
theorem dX11_mixes_49 : decode cX11_mixes 49 = .ok (.iinc 2 1, 3) := by decide +kernel
theorem dX11_mixes_52 : decode cX11_mixes 52 = .ok (.goto (-40), 3) := by decide +kernel
theorem dX11_mixes_55 : decode cX11_mixes 55 = .ok (.iinc 1 1, 3) := by decide +kernel
theorem dX11_mixes_58 : decode cX11_mixes 58 = .ok (.goto (-56), 3) := by decide +kernel
theorem dX11_mixes_61 : decode cX11_mixes 61 = .ok (.iconst 0, 1) := by decide +kernel
theorem dX11_mixes_62 : decode cX11_mixes 62 = .ok (.ireturn, 1) := by decide +kernel
theorem dX11_goesOn_0 : decode cX11_goesOn 0 = .ok (.aload_n 0, 1) := by decide +kernel
theorem dX11_goesOn_1 : decode cX11_goesOn 1 = .ok (.getfield 96, 3) := by decide +kernel
theorem dX11_goesOn_4 : decode cX11_goesOn 4 = .ok (.iconst 1, 1) := by decide +kernel
theorem dX11_goesOn_5 : decode cX11_goesOn 5 = .ok (.isub, 1) := by decide +kernel
theorem dX11_goesOn_6 : decode cX11_goesOn 6 = .ok (.istore_n 1, 1) := by decide +kernel
theorem dX11_goesOn_7 : decode cX11_goesOn 7 = .ok (.iload_n 1, 1) := by decide +kernel
theorem dX11_goesOn_8 : decode cX11_goesOn 8 = .ok (.ifCond .le 85, 3) := by decide +kernel
theorem dX11_goesOn_11 : decode cX11_goesOn 11 = .ok (.iconst (-1), 1) := by decide +kernel
theorem dX11_goesOn_12 : decode cX11_goesOn 12 = .ok (.istore_n 2, 1) := by decide +kernel
theorem dX11_goesOn_13 : decode cX11_goesOn 13 = .ok (.iconst 0, 1) := by decide +kernel
theorem dX11_goesOn_14 : decode cX11_goesOn 14 = .ok (.istore_n 3, 1) := by decide +kernel
theorem dX11_goesOn_15 : decode cX11_goesOn 15 = .ok (.iload_n 3, 1) := by decide +kernel
theorem dX11_goesOn_16 : decode cX11_goesOn 16 = .ok (.iload_n 1, 1) := by decide +kernel
theorem dX11_goesOn_17 : decode cX11_goesOn 17 = .ok (.if_icmp .ge 20, 3) := by decide +kernel
theorem dX11_goesOn_20 : decode cX11_goesOn 20 = .ok (.iload_n 2, 1) := by decide +kernel
theorem dX11_goesOn_21 : decode cX11_goesOn 21 = .ok (.aload_n 0, 1) := by decide +kernel
theorem dX11_goesOn_22 : decode cX11_goesOn 22 = .ok (.getfield 57, 3) := by decide +kernel
theorem dX11_goesOn_25 : decode cX11_goesOn 25 = .ok (.iload_n 3, 1) := by decide +kernel
theorem dX11_goesOn_26 : decode cX11_goesOn 26 = .ok (.iaload, 1) := by decide +kernel
theorem dX11_goesOn_27 : decode cX11_goesOn 27 = .ok (.invokestatic 135, 3) := by decide +kernel
theorem dX11_goesOn_30 : decode cX11_goesOn 30 = .ok (.istore_n 2, 1) := by decide +kernel
theorem dX11_goesOn_31 : decode cX11_goesOn 31 = .ok (.iinc 3 1, 3) := by decide +kernel
theorem dX11_goesOn_34 : decode cX11_goesOn 34 = .ok (.goto (-19), 3) := by decide +kernel
theorem dX11_goesOn_37 : decode cX11_goesOn 37 = .ok (.aload_n 0, 1) := by decide +kernel
theorem dX11_goesOn_38 : decode cX11_goesOn 38 = .ok (.getfield 57, 3) := by decide +kernel
theorem dX11_goesOn_41 : decode cX11_goesOn 41 = .ok (.iload_n 1, 1) := by decide +kernel
theorem dX11_goesOn_42 : decode cX11_goesOn 42 = .ok (.iaload, 1) := by decide +kernel
theorem dX11_goesOn_43 : decode cX11_goesOn 43 = .ok (.iload_n 2, 1) := by decide +kernel
theorem dX11_goesOn_44 : decode cX11_goesOn 44 = .ok (.if_icmp .le 6, 3) := by decide +kernel
theorem dX11_goesOn_47 : decode cX11_goesOn 47 = .ok (.goto 40, 3) := by decide +kernel
theorem dX11_goesOn_50 : decode cX11_goesOn 50 = .ok (.aload_n 0, 1) := by decide +kernel
theorem dX11_goesOn_51 : decode cX11_goesOn 51 = .ok (.getfield 57, 3) := by decide +kernel
theorem dX11_goesOn_54 : decode cX11_goesOn 54 = .ok (.iload_n 1, 1) := by decide +kernel
theorem dX11_goesOn_55 : decode cX11_goesOn 55 = .ok (.dup2, 1) := by decide +kernel
theorem dX11_goesOn_56 : decode cX11_goesOn 56 = .ok (.iaload, 1) := by decide +kernel
theorem dX11_goesOn_57 : decode cX11_goesOn 57 = .ok (.iconst 1, 1) := by decide +kernel
theorem dX11_goesOn_58 : decode cX11_goesOn 58 = .ok (.iadd, 1) := by decide +kernel
theorem dX11_goesOn_59 : decode cX11_goesOn 59 = .ok (.iastore, 1) := by decide +kernel
theorem dX11_goesOn_60 : decode cX11_goesOn 60 = .ok (.iload_n 1, 1) := by decide +kernel
theorem dX11_goesOn_61 : decode cX11_goesOn 61 = .ok (.iconst 1, 1) := by decide +kernel
theorem dX11_goesOn_62 : decode cX11_goesOn 62 = .ok (.iadd, 1) := by decide +kernel
theorem dX11_goesOn_63 : decode cX11_goesOn 63 = .ok (.istore_n 3, 1) := by decide +kernel
theorem dX11_goesOn_64 : decode cX11_goesOn 64 = .ok (.iload_n 3, 1) := by decide +kernel
theorem dX11_goesOn_65 : decode cX11_goesOn 65 = .ok (.aload_n 0, 1) := by decide +kernel
theorem dX11_goesOn_66 : decode cX11_goesOn 66 = .ok (.getfield 96, 3) := by decide +kernel
theorem dX11_goesOn_69 : decode cX11_goesOn 69 = .ok (.if_icmp .ge 16, 3) := by decide +kernel
theorem dX11_goesOn_72 : decode cX11_goesOn 72 = .ok (.aload_n 0, 1) := by decide +kernel
theorem dX11_goesOn_73 : decode cX11_goesOn 73 = .ok (.getfield 57, 3) := by decide +kernel
theorem dX11_goesOn_76 : decode cX11_goesOn 76 = .ok (.iload_n 3, 1) := by decide +kernel
theorem dX11_goesOn_77 : decode cX11_goesOn 77 = .ok (.iconst 0, 1) := by decide +kernel
theorem dX11_goesOn_78 : decode cX11_goesOn 78 = .ok (.iastore, 1) := by decide +kernel
theorem dX11_goesOn_79 : decode cX11_goesOn 79 = .ok (.iinc 3 1, 3) := by decide +kernel
theorem dX11_goesOn_82 : decode cX11_goesOn 82 = .ok (.goto (-18), 3) := by decide +kernel
theorem dX11_goesOn_85 : decode cX11_goesOn 85 = .ok (.iconst 1, 1) := by decide +kernel
theorem dX11_goesOn_86 : decode cX11_goesOn 86 = .ok (.ireturn, 1) := by decide +kernel
theorem dX11_goesOn_87 : decode cX11_goesOn 87 = .ok (.iinc 1 (-1), 3) := by decide +kernel
theorem dX11_goesOn_90 : decode cX11_goesOn 90 = .ok (.goto (-83), 3) := by decide +kernel
theorem dX11_goesOn_93 : decode cX11_goesOn 93 = .ok (.iconst 0, 1) := by decide +kernel
theorem dX11_goesOn_94 : decode cX11_goesOn 94 = .ok (.ireturn, 1) := by decide +kernel
theorem dX11_comes_0 : decode cX11_comes 0 = .ok (.aload_n 0, 1) := by decide +kernel
theorem dX11_comes_1 : decode cX11_comes 1 = .ok (.iconst 1, 1) := by decide +kernel
theorem dX11_comes_2 : decode cX11_comes 2 = .ok (.putfield 140, 3) := by decide +kernel
theorem dX11_comes_5 : decode cX11_comes 5 = .ok (.aload_n 0, 1) := by decide +kernel
theorem dX11_comes_6 : decode cX11_comes 6 = .ok (.iload_n 1, 1) := by decide +kernel
theorem dX11_comes_7 : decode cX11_comes 7 = .ok (.putfield 143, 3) := by decide +kernel
theorem dX11_comes_10 : decode cX11_comes 10 = .ok (.aload_n 0, 1) := by decide +kernel
theorem dX11_comes_11 : decode cX11_comes 11 = .ok (.aload_n 0, 1) := by decide +kernel
theorem dX11_comes_12 : decode cX11_comes 12 = .ok (.getfield 132, 3) := by decide +kernel
theorem dX11_comes_15 : decode cX11_comes 15 = .ok (.putfield 146, 3) := by decide +kernel
theorem dX11_comes_18 : decode cX11_comes 18 = .ok (.iconst 0, 1) := by decide +kernel
theorem dX11_comes_19 : decode cX11_comes 19 = .ok (.istore_n 2, 1) := by decide +kernel
theorem dX11_comes_20 : decode cX11_comes 20 = .ok (.iload_n 2, 1) := by decide +kernel
theorem dX11_comes_21 : decode cX11_comes 21 = .ok (.bipush 8, 2) := by decide +kernel
theorem dX11_comes_23 : decode cX11_comes 23 = .ok (.if_icmp .ge 21, 3) := by decide +kernel
theorem dX11_comes_26 : decode cX11_comes 26 = .ok (.aload_n 0, 1) := by decide +kernel
theorem dX11_comes_27 : decode cX11_comes 27 = .ok (.getfield 13, 3) := by decide +kernel
theorem dX11_comes_30 : decode cX11_comes 30 = .ok (.iload_n 2, 1) := by decide +kernel
theorem dX11_comes_31 : decode cX11_comes 31 = .ok (.aload_n 0, 1) := by decide +kernel
theorem dX11_comes_32 : decode cX11_comes 32 = .ok (.getfield 57, 3) := by decide +kernel
theorem dX11_comes_35 : decode cX11_comes 35 = .ok (.iload_n 2, 1) := by decide +kernel
theorem dX11_comes_36 : decode cX11_comes 36 = .ok (.iaload, 1) := by decide +kernel
theorem dX11_comes_37 : decode cX11_comes 37 = .ok (.iastore, 1) := by decide +kernel
theorem dX11_comes_38 : decode cX11_comes 38 = .ok (.iinc 2 1, 3) := by decide +kernel
theorem dX11_comes_41 : decode cX11_comes 41 = .ok (.goto (-21), 3) := by decide +kernel
theorem dX11_comes_44 : decode cX11_comes 44 = .ok (.iconst 0, 1) := by decide +kernel
theorem dX11_comes_45 : decode cX11_comes 45 = .ok (.istore_n 2, 1) := by decide +kernel
theorem dX11_comes_46 : decode cX11_comes 46 = .ok (.iload_n 2, 1) := by decide +kernel
theorem dX11_comes_47 : decode cX11_comes 47 = .ok (.sipush 256, 3) := by decide +kernel
theorem dX11_comes_50 : decode cX11_comes 50 = .ok (.if_icmp .ge 45, 3) := by decide +kernel
theorem dX11_comes_53 : decode cX11_comes 53 = .ok (.aload_n 0, 1) := by decide +kernel
theorem dX11_comes_54 : decode cX11_comes 54 = .ok (.getfield 51, 3) := by decide +kernel
theorem dX11_comes_57 : decode cX11_comes 57 = .ok (.iload_n 2, 1) := by decide +kernel
theorem dX11_comes_58 : decode cX11_comes 58 = .ok (.aload_n 0, 1) := by decide +kernel
theorem dX11_comes_59 : decode cX11_comes 59 = .ok (.getfield 45, 3) := by decide +kernel
theorem dX11_comes_62 : decode cX11_comes 62 = .ok (.iload_n 2, 1) := by decide +kernel
theorem dX11_comes_63 : decode cX11_comes 63 = .ok (.baload, 1) := by decide +kernel
theorem dX11_comes_64 : decode cX11_comes 64 = .ok (.bastore, 1) := by decide +kernel
theorem dX11_comes_65 : decode cX11_comes 65 = .ok (.aload_n 0, 1) := by decide +kernel
theorem dX11_comes_66 : decode cX11_comes 66 = .ok (.getfield 54, 3) := by decide +kernel
theorem dX11_comes_69 : decode cX11_comes 69 = .ok (.iload_n 2, 1) := by decide +kernel
theorem dX11_comes_70 : decode cX11_comes 70 = .ok (.aload_n 0, 1) := by decide +kernel
theorem dX11_comes_71 : decode cX11_comes 71 = .ok (.getfield 48, 3) := by decide +kernel
theorem dX11_comes_74 : decode cX11_comes 74 = .ok (.iload_n 2, 1) := by decide +kernel
theorem dX11_comes_75 : decode cX11_comes 75 = .ok (.iaload, 1) := by decide +kernel
theorem dX11_comes_76 : decode cX11_comes 76 = .ok (.iastore, 1) := by decide +kernel
theorem dX11_comes_77 : decode cX11_comes 77 = .ok (.aload_n 0, 1) := by decide +kernel
theorem dX11_comes_78 : decode cX11_comes 78 = .ok (.getfield 66, 3) := by decide +kernel
theorem dX11_comes_81 : decode cX11_comes 81 = .ok (.iload_n 2, 1) := by decide +kernel
theorem dX11_comes_82 : decode cX11_comes 82 = .ok (.aload_n 0, 1) := by decide +kernel
theorem dX11_comes_83 : decode cX11_comes 83 = .ok (.getfield 63, 3) := by decide +kernel
theorem dX11_comes_86 : decode cX11_comes 86 = .ok (.iload_n 2, 1) := by decide +kernel
theorem dX11_comes_87 : decode cX11_comes 87 = .ok (.baload, 1) := by decide +kernel
theorem dX11_comes_88 : decode cX11_comes 88 = .ok (.bastore, 1) := by decide +kernel
theorem dX11_comes_89 : decode cX11_comes 89 = .ok (.iinc 2 1, 3) := by decide +kernel
theorem dX11_comes_92 : decode cX11_comes 92 = .ok (.goto (-46), 3) := by decide +kernel
theorem dX11_comes_95 : decode cX11_comes 95 = .ok (.return_, 1) := by decide +kernel
theorem dX11_plan_0 : decode cX11_plan 0 = .ok (.aload_n 0, 1) := by decide +kernel
theorem dX11_plan_1 : decode cX11_plan 1 = .ok (.iconst 0, 1) := by decide +kernel
theorem dX11_plan_2 : decode cX11_plan 2 = .ok (.putfield 93, 3) := by decide +kernel
theorem dX11_plan_5 : decode cX11_plan 5 = .ok (.iload_n 1, 1) := by decide +kernel
theorem dX11_plan_6 : decode cX11_plan 6 = .ok (.invokestatic 107, 3) := by decide +kernel
theorem dX11_plan_9 : decode cX11_plan 9 = .ok (.ifCond .eq 10, 3) := by decide +kernel
theorem dX11_plan_12 : decode cX11_plan 12 = .ok (.aload_n 0, 1) := by decide +kernel
theorem dX11_plan_13 : decode cX11_plan 13 = .ok (.getfield 96, 3) := by decide +kernel
theorem dX11_plan_16 : decode cX11_plan 16 = .ok (.ifCond .ne 5, 3) := by decide +kernel
theorem dX11_plan_19 : decode cX11_plan 19 = .ok (.iconst (-1), 1) := by decide +kernel
theorem dX11_plan_20 : decode cX11_plan 20 = .ok (.ireturn, 1) := by decide +kernel
theorem dX11_plan_21 : decode cX11_plan 21 = .ok (.aload_n 0, 1) := by decide +kernel
theorem dX11_plan_22 : decode cX11_plan 22 = .ok (.iload_n 1, 1) := by decide +kernel
theorem dX11_plan_23 : decode cX11_plan 23 = .ok (.invokevirtual 149, 3) := by decide +kernel
theorem dX11_plan_26 : decode cX11_plan 26 = .ok (.iconst 0, 1) := by decide +kernel
theorem dX11_plan_27 : decode cX11_plan 27 = .ok (.istore_n 2, 1) := by decide +kernel
theorem dX11_plan_28 : decode cX11_plan 28 = .ok (.iload_n 2, 1) := by decide +kernel
theorem dX11_plan_29 : decode cX11_plan 29 = .ok (.bipush 8, 2) := by decide +kernel
theorem dX11_plan_31 : decode cX11_plan 31 = .ok (.if_icmp .ge 28, 3) := by decide +kernel
theorem dX11_plan_34 : decode cX11_plan 34 = .ok (.aload_n 0, 1) := by decide +kernel
theorem dX11_plan_35 : decode cX11_plan 35 = .ok (.getfield 57, 3) := by decide +kernel
theorem dX11_plan_38 : decode cX11_plan 38 = .ok (.iload_n 2, 1) := by decide +kernel
theorem dX11_plan_39 : decode cX11_plan 39 = .ok (.iload_n 2, 1) := by decide +kernel
theorem dX11_plan_40 : decode cX11_plan 40 = .ok (.aload_n 0, 1) := by decide +kernel
theorem dX11_plan_41 : decode cX11_plan 41 = .ok (.getfield 96, 3) := by decide +kernel
theorem dX11_plan_44 : decode cX11_plan 44 = .ok (.if_icmp .ge 7, 3) := by decide +kernel
theorem dX11_plan_47 : decode cX11_plan 47 = .ok (.iconst 0, 1) := by decide +kernel
theorem dX11_plan_48 : decode cX11_plan 48 = .ok (.goto 4, 3) := by decide +kernel
theorem dX11_plan_51 : decode cX11_plan 51 = .ok (.iconst (-1), 1) := by decide +kernel
theorem dX11_plan_52 : decode cX11_plan 52 = .ok (.iastore, 1) := by decide +kernel
theorem dX11_plan_53 : decode cX11_plan 53 = .ok (.iinc 2 1, 3) := by decide +kernel
theorem dX11_plan_56 : decode cX11_plan 56 = .ok (.goto (-28), 3) := by decide +kernel
theorem dX11_plan_59 : decode cX11_plan 59 = .ok (.iconst (-1), 1) := by decide +kernel
theorem dX11_plan_60 : decode cX11_plan 60 = .ok (.istore_n 2, 1) := by decide +kernel
theorem dX11_plan_61 : decode cX11_plan 61 = .ok (.iconst 1, 1) := by decide +kernel
theorem dX11_plan_62 : decode cX11_plan 62 = .ok (.istore_n 3, 1) := by decide +kernel
theorem dX11_plan_63 : decode cX11_plan 63 = .ok (.iload_n 3, 1) := by decide +kernel
theorem dX11_plan_64 : decode cX11_plan 64 = .ok (.ifCond .eq 85, 3) := by decide +kernel
theorem dX11_plan_67 : decode cX11_plan 67 = .ok (.aload_n 0, 1) := by decide +kernel
theorem dX11_plan_68 : decode cX11_plan 68 = .ok (.getfield 113, 3) := by decide +kernel
theorem dX11_plan_71 : decode cX11_plan 71 = .ok (.ifCond .eq 14, 3) := by decide +kernel
theorem dX11_plan_74 : decode cX11_plan 74 = .ok (.aload_n 0, 1) := by decide +kernel
theorem dX11_plan_75 : decode cX11_plan 75 = .ok (.invokevirtual 153, 3) := by decide +kernel
theorem dX11_plan_78 : decode cX11_plan 78 = .ok (.ifCond .eq 7, 3) := by decide +kernel
theorem dX11_plan_81 : decode cX11_plan 81 = .ok (.iconst (-1), 1) := by decide +kernel
theorem dX11_plan_82 : decode cX11_plan 82 = .ok (.goto 7, 3) := by decide +kernel
theorem dX11_plan_85 : decode cX11_plan 85 = .ok (.aload_n 0, 1) := by decide +kernel
theorem dX11_plan_86 : decode cX11_plan 86 = .ok (.invokevirtual 157, 3) := by decide +kernel
theorem dX11_plan_89 : decode cX11_plan 89 = .ok (.istore 4, 2) := by decide +kernel
theorem dX11_plan_91 : decode cX11_plan 91 = .ok (.iload 4, 2) := by decide +kernel
theorem dX11_plan_93 : decode cX11_plan 93 = .ok (.iconst (-1), 1) := by decide +kernel
theorem dX11_plan_94 : decode cX11_plan 94 = .ok (.if_icmp .eq 47, 3) := by decide +kernel
theorem dX11_plan_97 : decode cX11_plan 97 = .ok (.iload_n 2, 1) := by decide +kernel
theorem dX11_plan_98 : decode cX11_plan 98 = .ok (.iconst (-1), 1) := by decide +kernel
theorem dX11_plan_99 : decode cX11_plan 99 = .ok (.if_icmp .eq 9, 3) := by decide +kernel
theorem dX11_plan_102 : decode cX11_plan 102 = .ok (.iload 4, 2) := by decide +kernel
theorem dX11_plan_104 : decode cX11_plan 104 = .ok (.iload_n 2, 1) := by decide +kernel
theorem dX11_plan_105 : decode cX11_plan 105 = .ok (.if_icmp .ge 36, 3) := by decide +kernel
theorem dX11_plan_108 : decode cX11_plan 108 = .ok (.iload 4, 2) := by decide +kernel
theorem dX11_plan_110 : decode cX11_plan 110 = .ok (.istore_n 2, 1) := by decide +kernel
theorem dX11_plan_111 : decode cX11_plan 111 = .ok (.iconst 0, 1) := by decide +kernel
theorem dX11_plan_112 : decode cX11_plan 112 = .ok (.istore 5, 2) := by decide +kernel
theorem dX11_plan_114 : decode cX11_plan 114 = .ok (.iload 5, 2) := by decide +kernel
theorem dX11_plan_116 : decode cX11_plan 116 = .ok (.bipush 8, 2) := by decide +kernel
theorem dX11_plan_118 : decode cX11_plan 118 = .ok (.if_icmp .ge 23, 3) := by decide +kernel
theorem dX11_plan_121 : decode cX11_plan 121 = .ok (.aload_n 0, 1) := by decide +kernel
theorem dX11_plan_122 : decode cX11_plan 122 = .ok (.getfield 60, 3) := by decide +kernel
theorem dX11_plan_125 : decode cX11_plan 125 = .ok (.iload 5, 2) := by decide +kernel
theorem dX11_plan_127 : decode cX11_plan 127 = .ok (.aload_n 0, 1) := by decide +kernel
theorem dX11_plan_128 : decode cX11_plan 128 = .ok (.getfield 57, 3) := by decide +kernel
theorem dX11_plan_131 : decode cX11_plan 131 = .ok (.iload 5, 2) := by decide +kernel
theorem dX11_plan_133 : decode cX11_plan 133 = .ok (.iaload, 1) := by decide +kernel
theorem dX11_plan_134 : decode cX11_plan 134 = .ok (.iastore, 1) := by decide +kernel
theorem dX11_plan_135 : decode cX11_plan 135 = .ok (.iinc 5 1, 3) := by decide +kernel
theorem dX11_plan_138 : decode cX11_plan 138 = .ok (.goto (-24), 3) := by decide +kernel
theorem dX11_plan_141 : decode cX11_plan 141 = .ok (.aload_n 0, 1) := by decide +kernel
theorem dX11_plan_142 : decode cX11_plan 142 = .ok (.invokevirtual 161, 3) := by decide +kernel
theorem dX11_plan_145 : decode cX11_plan 145 = .ok (.istore_n 3, 1) := by decide +kernel
theorem dX11_plan_146 : decode cX11_plan 146 = .ok (.goto (-83), 3) := by decide +kernel
theorem dX11_plan_149 : decode cX11_plan 149 = .ok (.iconst 0, 1) := by decide +kernel
theorem dX11_plan_150 : decode cX11_plan 150 = .ok (.istore 4, 2) := by decide +kernel
theorem dX11_plan_152 : decode cX11_plan 152 = .ok (.iload 4, 2) := by decide +kernel
theorem dX11_plan_154 : decode cX11_plan 154 = .ok (.bipush 8, 2) := by decide +kernel
theorem dX11_plan_156 : decode cX11_plan 156 = .ok (.if_icmp .ge 23, 3) := by decide +kernel
theorem dX11_plan_159 : decode cX11_plan 159 = .ok (.aload_n 0, 1) := by decide +kernel
theorem dX11_plan_160 : decode cX11_plan 160 = .ok (.getfield 57, 3) := by decide +kernel
theorem dX11_plan_163 : decode cX11_plan 163 = .ok (.iload 4, 2) := by decide +kernel
theorem dX11_plan_165 : decode cX11_plan 165 = .ok (.aload_n 0, 1) := by decide +kernel
theorem dX11_plan_166 : decode cX11_plan 166 = .ok (.getfield 60, 3) := by decide +kernel
theorem dX11_plan_169 : decode cX11_plan 169 = .ok (.iload 4, 2) := by decide +kernel
theorem dX11_plan_171 : decode cX11_plan 171 = .ok (.iaload, 1) := by decide +kernel
theorem dX11_plan_172 : decode cX11_plan 172 = .ok (.iastore, 1) := by decide +kernel
theorem dX11_plan_173 : decode cX11_plan 173 = .ok (.iinc 4 1, 3) := by decide +kernel
theorem dX11_plan_176 : decode cX11_plan 176 = .ok (.goto (-24), 3) := by decide +kernel
theorem dX11_plan_179 : decode cX11_plan 179 = .ok (.aload_n 0, 1) := by decide +kernel
theorem dX11_plan_180 : decode cX11_plan 180 = .ok (.aload_n 0, 1) := by decide +kernel
theorem dX11_plan_181 : decode cX11_plan 181 = .ok (.invokevirtual 157, 3) := by decide +kernel
theorem dX11_plan_184 : decode cX11_plan 184 = .ok (.invokevirtual 164, 3) := by decide +kernel
theorem dX11_plan_187 : decode cX11_plan 187 = .ok (.iload_n 2, 1) := by decide +kernel
theorem dX11_plan_188 : decode cX11_plan 188 = .ok (.ireturn, 1) := by decide +kernel
theorem dX11_room_0 : decode cX11_room 0 = .ok (.aload_n 0, 1) := by decide +kernel
theorem dX11_room_1 : decode cX11_room 1 = .ok (.iconst 0, 1) := by decide +kernel
theorem dX11_room_2 : decode cX11_room 2 = .ok (.putfield 93, 3) := by decide +kernel
theorem dX11_room_5 : decode cX11_room 5 = .ok (.aload_n 0, 1) := by decide +kernel
theorem dX11_room_6 : decode cX11_room 6 = .ok (.iload_n 1, 1) := by decide +kernel
theorem dX11_room_7 : decode cX11_room 7 = .ok (.invokevirtual 99, 3) := by decide +kernel
theorem dX11_room_10 : decode cX11_room 10 = .ok (.ifCond .eq 12, 3) := by decide +kernel
theorem dX11_room_13 : decode cX11_room 13 = .ok (.aload_n 0, 1) := by decide +kernel
theorem dX11_room_14 : decode cX11_room 14 = .ok (.getfield 13, 3) := by decide +kernel
theorem dX11_room_17 : decode cX11_room 17 = .ok (.iload_n 1, 1) := by decide +kernel
theorem dX11_room_18 : decode cX11_room 18 = .ok (.iaload, 1) := by decide +kernel
theorem dX11_room_19 : decode cX11_room 19 = .ok (.goto 4, 3) := by decide +kernel
theorem dX11_room_22 : decode cX11_room 22 = .ok (.iconst (-1), 1) := by decide +kernel
theorem dX11_room_23 : decode cX11_room 23 = .ok (.ireturn, 1) := by decide +kernel
theorem dX11_roomMany_0 : decode cX11_roomMany 0 = .ok (.iconst 0, 1) := by decide +kernel
theorem dX11_roomMany_1 : decode cX11_roomMany 1 = .ok (.istore_n 1, 1) := by decide +kernel
theorem dX11_roomMany_2 : decode cX11_roomMany 2 = .ok (.iconst 0, 1) := by decide +kernel
theorem dX11_roomMany_3 : decode cX11_roomMany 3 = .ok (.istore_n 2, 1) := by decide +kernel
theorem dX11_roomMany_4 : decode cX11_roomMany 4 = .ok (.iload_n 2, 1) := by decide +kernel
theorem dX11_roomMany_5 : decode cX11_roomMany 5 = .ok (.bipush 8, 2) := by decide +kernel
theorem dX11_roomMany_7 : decode cX11_roomMany 7 = .ok (.if_icmp .ge 22, 3) := by decide +kernel
theorem dX11_roomMany_10 : decode cX11_roomMany 10 = .ok (.iload_n 1, 1) := by decide +kernel
theorem dX11_roomMany_11 : decode cX11_roomMany 11 = .ok (.aload_n 0, 1) := by decide +kernel
theorem dX11_roomMany_12 : decode cX11_roomMany 12 = .ok (.getfield 13, 3) := by decide +kernel
theorem dX11_roomMany_15 : decode cX11_roomMany 15 = .ok (.iload_n 2, 1) := by decide +kernel
theorem dX11_roomMany_16 : decode cX11_roomMany 16 = .ok (.iaload, 1) := by decide +kernel
theorem dX11_roomMany_17 : decode cX11_roomMany 17 = .ok (.iconst 1, 1) := by decide +kernel
theorem dX11_roomMany_18 : decode cX11_roomMany 18 = .ok (.iadd, 1) := by decide +kernel
theorem dX11_roomMany_19 : decode cX11_roomMany 19 = .ok (.invokestatic 135, 3) := by decide +kernel
theorem dX11_roomMany_22 : decode cX11_roomMany 22 = .ok (.istore_n 1, 1) := by decide +kernel
theorem dX11_roomMany_23 : decode cX11_roomMany 23 = .ok (.iinc 2 1, 3) := by decide +kernel
theorem dX11_roomMany_26 : decode cX11_roomMany 26 = .ok (.goto (-22), 3) := by decide +kernel
theorem dX11_roomMany_29 : decode cX11_roomMany 29 = .ok (.iload_n 1, 1) := by decide +kernel
theorem dX11_roomMany_30 : decode cX11_roomMany 30 = .ok (.ireturn, 1) := by decide +kernel
theorem dX11_ruleAt_0 : decode cX11_ruleAt 0 = .ok (.iload_n 1, 1) := by decide +kernel
theorem dX11_ruleAt_1 : decode cX11_ruleAt 1 = .ok (.istore_n 2, 1) := by decide +kernel
theorem dX11_ruleAt_2 : decode cX11_ruleAt 2 = .ok (.iconst 0, 1) := by decide +kernel
theorem dX11_ruleAt_3 : decode cX11_ruleAt 3 = .ok (.istore_n 3, 1) := by decide +kernel
theorem dX11_ruleAt_4 : decode cX11_ruleAt 4 = .ok (.iload_n 3, 1) := by decide +kernel
theorem dX11_ruleAt_5 : decode cX11_ruleAt 5 = .ok (.sipush 256, 3) := by decide +kernel
theorem dX11_ruleAt_8 : decode cX11_ruleAt 8 = .ok (.if_icmp .ge 34, 3) := by decide +kernel
theorem dX11_ruleAt_11 : decode cX11_ruleAt 11 = .ok (.iload_n 1, 1) := by decide +kernel
theorem dX11_ruleAt_12 : decode cX11_ruleAt 12 = .ok (.ifCond .lt 30, 3) := by decide +kernel
theorem dX11_ruleAt_15 : decode cX11_ruleAt 15 = .ok (.aload_n 0, 1) := by decide +kernel
theorem dX11_ruleAt_16 : decode cX11_ruleAt 16 = .ok (.getfield 66, 3) := by decide +kernel
theorem dX11_ruleAt_19 : decode cX11_ruleAt 19 = .ok (.iload_n 3, 1) := by decide +kernel
theorem dX11_ruleAt_20 : decode cX11_ruleAt 20 = .ok (.baload, 1) := by decide +kernel
theorem dX11_ruleAt_21 : decode cX11_ruleAt 21 = .ok (.ifCond .ne 6, 3) := by decide +kernel
theorem dX11_ruleAt_24 : decode cX11_ruleAt 24 = .ok (.goto 12, 3) := by decide +kernel
theorem dX11_ruleAt_27 : decode cX11_ruleAt 27 = .ok (.iload_n 2, 1) := by decide +kernel
theorem dX11_ruleAt_28 : decode cX11_ruleAt 28 = .ok (.ifCond .ne 5, 3) := by decide +kernel
theorem dX11_ruleAt_31 : decode cX11_ruleAt 31 = .ok (.iload_n 3, 1) := by decide +kernel
theorem dX11_ruleAt_32 : decode cX11_ruleAt 32 = .ok (.ireturn, 1) := by decide +kernel
theorem dX11_ruleAt_33 : decode cX11_ruleAt 33 = .ok (.iinc 2 (-1), 3) := by decide +kernel
theorem dX11_ruleAt_36 : decode cX11_ruleAt 36 = .ok (.iinc 3 1, 3) := by decide +kernel
theorem dX11_ruleAt_39 : decode cX11_ruleAt 39 = .ok (.goto (-35), 3) := by decide +kernel
theorem dX11_ruleAt_42 : decode cX11_ruleAt 42 = .ok (.iconst (-1), 1) := by decide +kernel
theorem dX11_ruleAt_43 : decode cX11_ruleAt 43 = .ok (.ireturn, 1) := by decide +kernel
theorem dX11_isBy_0 : decode cX11_isBy 0 = .ok (.aload_n 0, 1) := by decide +kernel
theorem dX11_isBy_1 : decode cX11_isBy 1 = .ok (.getfield 13, 3) := by decide +kernel
theorem dX11_isBy_4 : decode cX11_isBy 4 = .ok (.iload_n 1, 1) := by decide +kernel
theorem dX11_isBy_5 : decode cX11_isBy 5 = .ok (.bipush 32, 2) := by decide +kernel
theorem dX11_isBy_7 : decode cX11_isBy 7 = .ok (.idiv, 1) := by decide +kernel
theorem dX11_isBy_8 : decode cX11_isBy 8 = .ok (.iaload, 1) := by decide +kernel
theorem dX11_isBy_9 : decode cX11_isBy 9 = .ok (.istore_n 3, 1) := by decide +kernel
theorem dX11_isBy_10 : decode cX11_isBy 10 = .ok (.aload_n 0, 1) := by decide +kernel
theorem dX11_isBy_11 : decode cX11_isBy 11 = .ok (.getfield 13, 3) := by decide +kernel
theorem dX11_isBy_14 : decode cX11_isBy 14 = .ok (.iload_n 1, 1) := by decide +kernel
theorem dX11_isBy_15 : decode cX11_isBy 15 = .ok (.iconst 4, 1) := by decide +kernel
theorem dX11_isBy_16 : decode cX11_isBy 16 = .ok (.idiv, 1) := by decide +kernel
theorem dX11_isBy_17 : decode cX11_isBy 17 = .ok (.bipush 8, 2) := by decide +kernel
theorem dX11_isBy_19 : decode cX11_isBy 19 = .ok (.irem, 1) := by decide +kernel
theorem dX11_isBy_20 : decode cX11_isBy 20 = .ok (.iaload, 1) := by decide +kernel
theorem dX11_isBy_21 : decode cX11_isBy 21 = .ok (.istore 4, 2) := by decide +kernel
theorem dX11_isBy_23 : decode cX11_isBy 23 = .ok (.iload_n 3, 1) := by decide +kernel
theorem dX11_isBy_24 : decode cX11_isBy 24 = .ok (.iconst (-1), 1) := by decide +kernel
theorem dX11_isBy_25 : decode cX11_isBy 25 = .ok (.if_icmp .eq 36, 3) := by decide +kernel
theorem dX11_isBy_28 : decode cX11_isBy 28 = .ok (.iload 4, 2) := by decide +kernel
theorem dX11_isBy_30 : decode cX11_isBy 30 = .ok (.iconst (-1), 1) := by decide +kernel
theorem dX11_isBy_31 : decode cX11_isBy 31 = .ok (.if_icmp .eq 30, 3) := by decide +kernel
theorem dX11_isBy_34 : decode cX11_isBy 34 = .ok (.iload_n 3, 1) := by decide +kernel
theorem dX11_isBy_35 : decode cX11_isBy 35 = .ok (.iload 4, 2) := by decide +kernel
theorem dX11_isBy_37 : decode cX11_isBy 37 = .ok (.if_icmp .eq 24, 3) := by decide +kernel
theorem dX11_isBy_40 : decode cX11_isBy 40 = .ok (.bipush 32, 2) := by decide +kernel
theorem dX11_isBy_42 : decode cX11_isBy 42 = .ok (.iload_n 3, 1) := by decide +kernel
theorem dX11_isBy_43 : decode cX11_isBy 43 = .ok (.imul, 1) := by decide +kernel
theorem dX11_isBy_44 : decode cX11_isBy 44 = .ok (.iconst 4, 1) := by decide +kernel
theorem dX11_isBy_45 : decode cX11_isBy 45 = .ok (.iload 4, 2) := by decide +kernel
theorem dX11_isBy_47 : decode cX11_isBy 47 = .ok (.imul, 1) := by decide +kernel
theorem dX11_isBy_48 : decode cX11_isBy 48 = .ok (.iadd, 1) := by decide +kernel
theorem dX11_isBy_49 : decode cX11_isBy 49 = .ok (.iload_n 1, 1) := by decide +kernel
theorem dX11_isBy_50 : decode cX11_isBy 50 = .ok (.iconst 4, 1) := by decide +kernel
theorem dX11_isBy_51 : decode cX11_isBy 51 = .ok (.irem, 1) := by decide +kernel
theorem dX11_isBy_52 : decode cX11_isBy 52 = .ok (.iadd, 1) := by decide +kernel
theorem dX11_isBy_53 : decode cX11_isBy 53 = .ok (.iload_n 2, 1) := by decide +kernel
theorem dX11_isBy_54 : decode cX11_isBy 54 = .ok (.if_icmp .ne 7, 3) := by decide +kernel
theorem dX11_isBy_57 : decode cX11_isBy 57 = .ok (.iconst 1, 1) := by decide +kernel
theorem dX11_isBy_58 : decode cX11_isBy 58 = .ok (.goto 4, 3) := by decide +kernel
theorem dX11_isBy_61 : decode cX11_isBy 61 = .ok (.iconst 0, 1) := by decide +kernel
theorem dX11_isBy_62 : decode cX11_isBy 62 = .ok (.ireturn, 1) := by decide +kernel
theorem dX11_canShut_0 : decode cX11_canShut 0 = .ok (.iconst 0, 1) := by decide +kernel
theorem dX11_canShut_1 : decode cX11_canShut 1 = .ok (.istore_n 2, 1) := by decide +kernel
theorem dX11_canShut_2 : decode cX11_canShut 2 = .ok (.iload_n 2, 1) := by decide +kernel
theorem dX11_canShut_3 : decode cX11_canShut 3 = .ok (.sipush 256, 3) := by decide +kernel
theorem dX11_canShut_6 : decode cX11_canShut 6 = .ok (.if_icmp .ge 29, 3) := by decide +kernel
theorem dX11_canShut_9 : decode cX11_canShut 9 = .ok (.aload_n 0, 1) := by decide +kernel
theorem dX11_canShut_10 : decode cX11_canShut 10 = .ok (.getfield 25, 3) := by decide +kernel
theorem dX11_canShut_13 : decode cX11_canShut 13 = .ok (.iload_n 2, 1) := by decide +kernel
theorem dX11_canShut_14 : decode cX11_canShut 14 = .ok (.baload, 1) := by decide +kernel
theorem dX11_canShut_15 : decode cX11_canShut 15 = .ok (.ifCond .eq 14, 3) := by decide +kernel
theorem dX11_canShut_18 : decode cX11_canShut 18 = .ok (.aload_n 0, 1) := by decide +kernel
theorem dX11_canShut_19 : decode cX11_canShut 19 = .ok (.iload_n 2, 1) := by decide +kernel
theorem dX11_canShut_20 : decode cX11_canShut 20 = .ok (.iload_n 1, 1) := by decide +kernel
theorem dX11_canShut_21 : decode cX11_canShut 21 = .ok (.invokevirtual 167, 3) := by decide +kernel
theorem dX11_canShut_24 : decode cX11_canShut 24 = .ok (.ifCond .eq 5, 3) := by decide +kernel
theorem dX11_canShut_27 : decode cX11_canShut 27 = .ok (.iconst 0, 1) := by decide +kernel
theorem dX11_canShut_28 : decode cX11_canShut 28 = .ok (.ireturn, 1) := by decide +kernel
theorem dX11_canShut_29 : decode cX11_canShut 29 = .ok (.iinc 2 1, 3) := by decide +kernel
theorem dX11_canShut_32 : decode cX11_canShut 32 = .ok (.goto (-30), 3) := by decide +kernel
theorem dX11_canShut_35 : decode cX11_canShut 35 = .ok (.iconst 1, 1) := by decide +kernel
theorem dX11_canShut_36 : decode cX11_canShut 36 = .ok (.ireturn, 1) := by decide +kernel
theorem dX11_rule_0 : decode cX11_rule 0 = .ok (.aload_n 0, 1) := by decide +kernel
theorem dX11_rule_1 : decode cX11_rule 1 = .ok (.iconst 0, 1) := by decide +kernel
theorem dX11_rule_2 : decode cX11_rule 2 = .ok (.putfield 93, 3) := by decide +kernel
theorem dX11_rule_5 : decode cX11_rule 5 = .ok (.aload_n 0, 1) := by decide +kernel
theorem dX11_rule_6 : decode cX11_rule 6 = .ok (.iload_n 1, 1) := by decide +kernel
theorem dX11_rule_7 : decode cX11_rule 7 = .ok (.invokevirtual 170, 3) := by decide +kernel
theorem dX11_rule_10 : decode cX11_rule 10 = .ok (.istore_n 3, 1) := by decide +kernel
theorem dX11_rule_11 : decode cX11_rule 11 = .ok (.iload_n 3, 1) := by decide +kernel
theorem dX11_rule_12 : decode cX11_rule 12 = .ok (.iconst (-1), 1) := by decide +kernel
theorem dX11_rule_13 : decode cX11_rule 13 = .ok (.if_icmp .ne 5, 3) := by decide +kernel
theorem dX11_rule_16 : decode cX11_rule 16 = .ok (.iconst (-1), 1) := by decide +kernel
theorem dX11_rule_17 : decode cX11_rule 17 = .ok (.ireturn, 1) := by decide +kernel
theorem dX11_rule_18 : decode cX11_rule 18 = .ok (.iconst 0, 1) := by decide +kernel
theorem dX11_rule_19 : decode cX11_rule 19 = .ok (.istore 4, 2) := by decide +kernel
theorem dX11_rule_21 : decode cX11_rule 21 = .ok (.iconst 0, 1) := by decide +kernel
theorem dX11_rule_22 : decode cX11_rule 22 = .ok (.istore 5, 2) := by decide +kernel
theorem dX11_rule_24 : decode cX11_rule 24 = .ok (.iconst 0, 1) := by decide +kernel
