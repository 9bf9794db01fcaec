theorem dX6_isNeedBy_0 : decode cX6_isNeedBy 0 = .ok (.aload_n 0, 1) := by decide +kernel
theorem dX6_isNeedBy_1 : decode cX6_isNeedBy 1 = .ok (.iload_n 1, 1) := by decide +kernel
theorem dX6_isNeedBy_2 : decode cX6_isNeedBy 2 = .ok (.iload_n 2, 1) := by decide +kernel
theorem dX6_isNeedBy_3 : decode cX6_isNeedBy 3 = .ok (.iload_n 3, 1) := by decide +kernel
theorem dX6_isNeedBy_4 : decode cX6_isNeedBy 4 = .ok (.invokevirtual 94, 3) := by decide +kernel
theorem dX6_isNeedBy_7 : decode cX6_isNeedBy 7 = .ok (.ifCond .eq 30, 3) := by decide +kernel
theorem dX6_isNeedBy_10 : decode cX6_isNeedBy 10 = .ok (.aload_n 0, 1) := by decide +kernel
theorem dX6_isNeedBy_11 : decode cX6_isNeedBy 11 = .ok (.getfield 21, 3) := by decide +kernel
theorem dX6_isNeedBy_14 : decode cX6_isNeedBy 14 = .ok (.getfield 48, 3) := by decide +kernel
theorem dX6_isNeedBy_17 : decode cX6_isNeedBy 17 = .ok (.iload_n 2, 1) := by decide +kernel
theorem dX6_isNeedBy_18 : decode cX6_isNeedBy 18 = .ok (.iload_n 3, 1) := by decide +kernel
theorem dX6_isNeedBy_19 : decode cX6_isNeedBy 19 = .ok (.invokestatic 98, 3) := by decide +kernel
theorem dX6_isNeedBy_22 : decode cX6_isNeedBy 22 = .ok (.iaload, 1) := by decide +kernel
theorem dX6_isNeedBy_23 : decode cX6_isNeedBy 23 = .ok (.iload_n 1, 1) := by decide +kernel
theorem dX6_isNeedBy_24 : decode cX6_isNeedBy 24 = .ok (.invokestatic 84, 3) := by decide +kernel
theorem dX6_isNeedBy_27 : decode cX6_isNeedBy 27 = .ok (.invokestatic 87, 3) := by decide +kernel
theorem dX6_isNeedBy_30 : decode cX6_isNeedBy 30 = .ok (.ifCond .eq 7, 3) := by decide +kernel
theorem dX6_isNeedBy_33 : decode cX6_isNeedBy 33 = .ok (.iconst 1, 1) := by decide +kernel
theorem dX6_isNeedBy_34 : decode cX6_isNeedBy 34 = .ok (.goto 4, 3) := by decide +kernel
theorem dX6_isNeedBy_37 : decode cX6_isNeedBy 37 = .ok (.iconst 0, 1) := by decide +kernel
theorem dX6_isNeedBy_38 : decode cX6_isNeedBy 38 = .ok (.ireturn, 1) := by decide +kernel
theorem dX6_waysBy_0 : decode cX6_waysBy 0 = .ok (.iconst 0, 1) := by decide +kernel
theorem dX6_waysBy_1 : decode cX6_waysBy 1 = .ok (.istore_n 2, 1) := by decide +kernel
theorem dX6_waysBy_2 : decode cX6_waysBy 2 = .ok (.iconst 0, 1) := by decide +kernel
theorem dX6_waysBy_3 : decode cX6_waysBy 3 = .ok (.istore_n 3, 1) := by decide +kernel
theorem dX6_waysBy_4 : decode cX6_waysBy 4 = .ok (.iload_n 3, 1) := by decide +kernel
theorem dX6_waysBy_5 : decode cX6_waysBy 5 = .ok (.bipush 8, 2) := by decide +kernel
theorem dX6_waysBy_7 : decode cX6_waysBy 7 = .ok (.if_icmp .ge 39, 3) := by decide +kernel
theorem dX6_waysBy_10 : decode cX6_waysBy 10 = .ok (.iconst 0, 1) := by decide +kernel
theorem dX6_waysBy_11 : decode cX6_waysBy 11 = .ok (.istore 4, 2) := by decide +kernel
theorem dX6_waysBy_13 : decode cX6_waysBy 13 = .ok (.iload 4, 2) := by decide +kernel
theorem dX6_waysBy_15 : decode cX6_waysBy 15 = .ok (.bipush 8, 2) := by decide +kernel
theorem dX6_waysBy_17 : decode cX6_waysBy 17 = .ok (.if_icmp .ge 23, 3) := by decide +kernel
theorem dX6_waysBy_20 : decode cX6_waysBy 20 = .ok (.aload_n 0, 1) := by decide +kernel
theorem dX6_waysBy_21 : decode cX6_waysBy 21 = .ok (.iload_n 1, 1) := by decide +kernel
theorem dX6_waysBy_22 : decode cX6_waysBy 22 = .ok (.iload_n 3, 1) := by decide +kernel
theorem dX6_waysBy_23 : decode cX6_waysBy 23 = .ok (.iload 4, 2) := by decide +kernel
theorem dX6_waysBy_25 : decode cX6_waysBy 25 = .ok (.invokevirtual 101, 3) := by decide +kernel
theorem dX6_waysBy_28 : decode cX6_waysBy 28 = .ok (.ifCond .eq 6, 3) := by decide +kernel
theorem dX6_waysBy_31 : decode cX6_waysBy 31 = .ok (.iinc 2 1, 3) := by decide +kernel
theorem dX6_waysBy_34 : decode cX6_waysBy 34 = .ok (.iinc 4 1, 3) := by decide +kernel
theorem dX6_waysBy_37 : decode cX6_waysBy 37 = .ok (.goto (-24), 3) := by decide +kernel
theorem dX6_waysBy_40 : decode cX6_waysBy 40 = .ok (.iinc 3 1, 3) := by decide +kernel
theorem dX6_waysBy_43 : decode cX6_waysBy 43 = .ok (.goto (-39), 3) := by decide +kernel
theorem dX6_waysBy_46 : decode cX6_waysBy 46 = .ok (.iload_n 2, 1) := by decide +kernel
theorem dX6_waysBy_47 : decode cX6_waysBy 47 = .ok (.ireturn, 1) := by decide +kernel
theorem dX6_weightBy_0 : decode cX6_weightBy 0 = .ok (.iconst 0, 1) := by decide +kernel
theorem dX6_weightBy_1 : decode cX6_weightBy 1 = .ok (.istore_n 3, 1) := by decide +kernel
theorem dX6_weightBy_2 : decode cX6_weightBy 2 = .ok (.iconst 0, 1) := by decide +kernel
theorem dX6_weightBy_3 : decode cX6_weightBy 3 = .ok (.istore 4, 2) := by decide +kernel
theorem dX6_weightBy_5 : decode cX6_weightBy 5 = .ok (.iload 4, 2) := by decide +kernel
theorem dX6_weightBy_7 : decode cX6_weightBy 7 = .ok (.bipush 8, 2) := by decide +kernel
theorem dX6_weightBy_9 : decode cX6_weightBy 9 = .ok (.if_icmp .ge 63, 3) := by decide +kernel
theorem dX6_weightBy_12 : decode cX6_weightBy 12 = .ok (.iconst 0, 1) := by decide +kernel
theorem dX6_weightBy_13 : decode cX6_weightBy 13 = .ok (.istore 5, 2) := by decide +kernel
theorem dX6_weightBy_15 : decode cX6_weightBy 15 = .ok (.iload 5, 2) := by decide +kernel
theorem dX6_weightBy_17 : decode cX6_weightBy 17 = .ok (.bipush 8, 2) := by decide +kernel
theorem dX6_weightBy_19 : decode cX6_weightBy 19 = .ok (.if_icmp .ge 47, 3) := by decide +kernel
theorem dX6_weightBy_22 : decode cX6_weightBy 22 = .ok (.aload_n 0, 1) := by decide +kernel
theorem dX6_weightBy_23 : decode cX6_weightBy 23 = .ok (.iload_n 1, 1) := by decide +kernel
theorem dX6_weightBy_24 : decode cX6_weightBy 24 = .ok (.iload 4, 2) := by decide +kernel
theorem dX6_weightBy_26 : decode cX6_weightBy 26 = .ok (.iload 5, 2) := by decide +kernel
theorem dX6_weightBy_28 : decode cX6_weightBy 28 = .ok (.invokevirtual 101, 3) := by decide +kernel
theorem dX6_weightBy_31 : decode cX6_weightBy 31 = .ok (.ifCond .eq 29, 3) := by decide +kernel
theorem dX6_weightBy_34 : decode cX6_weightBy 34 = .ok (.iload_n 3, 1) := by decide +kernel
theorem dX6_weightBy_35 : decode cX6_weightBy 35 = .ok (.iload_n 2, 1) := by decide +kernel
theorem dX6_weightBy_36 : decode cX6_weightBy 36 = .ok (.aload_n 0, 1) := by decide +kernel
theorem dX6_weightBy_37 : decode cX6_weightBy 37 = .ok (.getfield 21, 3) := by decide +kernel
theorem dX6_weightBy_40 : decode cX6_weightBy 40 = .ok (.getfield 104, 3) := by decide +kernel
theorem dX6_weightBy_43 : decode cX6_weightBy 43 = .ok (.iload 4, 2) := by decide +kernel
theorem dX6_weightBy_45 : decode cX6_weightBy 45 = .ok (.iload 5, 2) := by decide +kernel
theorem dX6_weightBy_47 : decode cX6_weightBy 47 = .ok (.iload_n 1, 1) := by decide +kernel
theorem dX6_weightBy_48 : decode cX6_weightBy 48 = .ok (.invokestatic 84, 3) := by decide +kernel
theorem dX6_weightBy_51 : decode cX6_weightBy 51 = .ok (.invokestatic 107, 3) := by decide +kernel
theorem dX6_weightBy_54 : decode cX6_weightBy 54 = .ok (.iaload, 1) := by decide +kernel
theorem dX6_weightBy_55 : decode cX6_weightBy 55 = .ok (.invokestatic 111, 3) := by decide +kernel
theorem dX6_weightBy_58 : decode cX6_weightBy 58 = .ok (.iadd, 1) := by decide +kernel
theorem dX6_weightBy_59 : decode cX6_weightBy 59 = .ok (.istore_n 3, 1) := by decide +kernel
theorem dX6_weightBy_60 : decode cX6_weightBy 60 = .ok (.iinc 5 1, 3) := by decide +kernel
theorem dX6_weightBy_63 : decode cX6_weightBy 63 = .ok (.goto (-48), 3) := by decide +kernel
theorem dX6_weightBy_66 : decode cX6_weightBy 66 = .ok (.iinc 4 1, 3) := by decide +kernel
theorem dX6_weightBy_69 : decode cX6_weightBy 69 = .ok (.goto (-64), 3) := by decide +kernel
theorem dX6_weightBy_72 : decode cX6_weightBy 72 = .ok (.iload_n 3, 1) := by decide +kernel
theorem dX6_weightBy_73 : decode cX6_weightBy 73 = .ok (.ireturn, 1) := by decide +kernel
theorem dX6_isMustBy_0 : decode cX6_isMustBy 0 = .ok (.iconst 0, 1) := by decide +kernel
theorem dX6_isMustBy_1 : decode cX6_isMustBy 1 = .ok (.istore_n 3, 1) := by decide +kernel
theorem dX6_isMustBy_2 : decode cX6_isMustBy 2 = .ok (.iload_n 3, 1) := by decide +kernel
theorem dX6_isMustBy_3 : decode cX6_isMustBy 3 = .ok (.bipush 8, 2) := by decide +kernel
theorem dX6_isMustBy_5 : decode cX6_isMustBy 5 = .ok (.if_icmp .ge 56, 3) := by decide +kernel
theorem dX6_isMustBy_8 : decode cX6_isMustBy 8 = .ok (.iconst 0, 1) := by decide +kernel
theorem dX6_isMustBy_9 : decode cX6_isMustBy 9 = .ok (.istore 4, 2) := by decide +kernel
theorem dX6_isMustBy_11 : decode cX6_isMustBy 11 = .ok (.iload 4, 2) := by decide +kernel
theorem dX6_isMustBy_13 : decode cX6_isMustBy 13 = .ok (.bipush 8, 2) := by decide +kernel
theorem dX6_isMustBy_15 : decode cX6_isMustBy 15 = .ok (.if_icmp .ge 40, 3) := by decide +kernel
theorem dX6_isMustBy_18 : decode cX6_isMustBy 18 = .ok (.aload_n 0, 1) := by decide +kernel
theorem dX6_isMustBy_19 : decode cX6_isMustBy 19 = .ok (.iload_n 1, 1) := by decide +kernel
theorem dX6_isMustBy_20 : decode cX6_isMustBy 20 = .ok (.iload_n 3, 1) := by decide +kernel
theorem dX6_isMustBy_21 : decode cX6_isMustBy 21 = .ok (.iload 4, 2) := by decide +kernel
theorem dX6_isMustBy_23 : decode cX6_isMustBy 23 = .ok (.invokevirtual 94, 3) := by decide +kernel
theorem dX6_isMustBy_26 : decode cX6_isMustBy 26 = .ok (.ifCond .eq 23, 3) := by decide +kernel
theorem dX6_isMustBy_29 : decode cX6_isMustBy 29 = .ok (.aload_n 2, 1) := by decide +kernel
theorem dX6_isMustBy_30 : decode cX6_isMustBy 30 = .ok (.iload_n 3, 1) := by decide +kernel
theorem dX6_isMustBy_31 : decode cX6_isMustBy 31 = .ok (.iload 4, 2) := by decide +kernel
theorem dX6_isMustBy_33 : decode cX6_isMustBy 33 = .ok (.invokestatic 98, 3) := by decide +kernel
theorem dX6_isMustBy_36 : decode cX6_isMustBy 36 = .ok (.iaload, 1) := by decide +kernel
theorem dX6_isMustBy_37 : decode cX6_isMustBy 37 = .ok (.iload_n 1, 1) := by decide +kernel
theorem dX6_isMustBy_38 : decode cX6_isMustBy 38 = .ok (.invokestatic 84, 3) := by decide +kernel
theorem dX6_isMustBy_41 : decode cX6_isMustBy 41 = .ok (.invokestatic 87, 3) := by decide +kernel
theorem dX6_isMustBy_44 : decode cX6_isMustBy 44 = .ok (.ifCond .eq 5, 3) := by decide +kernel
theorem dX6_isMustBy_47 : decode cX6_isMustBy 47 = .ok (.iconst 1, 1) := by decide +kernel
theorem dX6_isMustBy_48 : decode cX6_isMustBy 48 = .ok (.ireturn, 1) := by decide +kernel
theorem dX6_isMustBy_49 : decode cX6_isMustBy 49 = .ok (.iinc 4 1, 3) := by decide +kernel
theorem dX6_isMustBy_52 : decode cX6_isMustBy 52 = .ok (.goto (-41), 3) := by decide +kernel
theorem dX6_isMustBy_55 : decode cX6_isMustBy 55 = .ok (.iinc 3 1, 3) := by decide +kernel
theorem dX6_isMustBy_58 : decode cX6_isMustBy 58 = .ok (.goto (-56), 3) := by decide +kernel
theorem dX6_isMustBy_61 : decode cX6_isMustBy 61 = .ok (.iconst 0, 1) := by decide +kernel
theorem dX6_isMustBy_62 : decode cX6_isMustBy 62 = .ok (.ireturn, 1) := by decide +kernel
theorem dX7_init_0 : decode cX7_init 0 = .ok (.aload_n 0, 1) := by decide +kernel
theorem dX7_init_1 : decode cX7_init 1 = .ok (.invokespecial 3, 3) := by decide +kernel
theorem dX7_init_4 : decode cX7_init 4 = .ok (.aload_n 0, 1) := by decide +kernel
theorem dX7_init_5 : decode cX7_init 5 = .ok (.new 9, 3) := by decide +kernel
theorem dX7_init_8 : decode cX7_init 8 = .ok (.dup, 1) := by decide +kernel
theorem dX7_init_9 : decode cX7_init 9 = .ok (.invokespecial 11, 3) := by decide +kernel
theorem dX7_init_12 : decode cX7_init 12 = .ok (.putfield 12, 3) := by decide +kernel
theorem dX7_init_15 : decode cX7_init 15 = .ok (.aload_n 0, 1) := by decide +kernel
theorem dX7_init_16 : decode cX7_init 16 = .ok (.bipush 8, 2) := by decide +kernel
theorem dX7_init_18 : decode cX7_init 18 = .ok (.newarray .int, 2) := by decide +kernel
theorem dX7_init_20 : decode cX7_init 20 = .ok (.putfield 18, 3) := by decide +kernel
theorem dX7_init_23 : decode cX7_init 23 = .ok (.aload_n 0, 1) := by decide +kernel
theorem dX7_init_24 : decode cX7_init 24 = .ok (.bipush 8, 2) := by decide +kernel
theorem dX7_init_26 : decode cX7_init 26 = .ok (.newarray .int, 2) := by decide +kernel
theorem dX7_init_28 : decode cX7_init 28 = .ok (.putfield 22, 3) := by decide +kernel
theorem dX7_init_31 : decode cX7_init 31 = .ok (.aload_n 0, 1) := by decide +kernel
theorem dX7_init_32 : decode cX7_init 32 = .ok (.iconst 0, 1) := by decide +kernel
theorem dX7_init_33 : decode cX7_init 33 = .ok (.putfield 25, 3) := by decide +kernel
theorem dX7_init_36 : decode cX7_init 36 = .ok (.aload_n 0, 1) := by decide +kernel
theorem dX7_init_37 : decode cX7_init 37 = .ok (.iconst 0, 1) := by decide +kernel
theorem dX7_init_38 : decode cX7_init 38 = .ok (.putfield 29, 3) := by decide +kernel
theorem dX7_init_41 : decode cX7_init 41 = .ok (.return_, 1) := by decide +kernel
theorem dX7_seekRooms_0 : decode cX7_seekRooms 0 = .ok (.aload_n 0, 1) := by decide +kernel
theorem dX7_seekRooms_1 : decode cX7_seekRooms 1 = .ok (.aload_n 2, 1) := by decide +kernel
theorem dX7_seekRooms_2 : decode cX7_seekRooms 2 = .ok (.aload_n 3, 1) := by decide +kernel
theorem dX7_seekRooms_3 : decode cX7_seekRooms 3 = .ok (.invokevirtual 32, 3) := by decide +kernel
theorem dX7_seekRooms_6 : decode cX7_seekRooms 6 = .ok (.iconst 0, 1) := by decide +kernel
theorem dX7_seekRooms_7 : decode cX7_seekRooms 7 = .ok (.invokevirtual 38, 3) := by decide +kernel
theorem dX7_seekRooms_10 : decode cX7_seekRooms 10 = .ok (.iconst 1, 1) := by decide +kernel
theorem dX7_seekRooms_11 : decode cX7_seekRooms 11 = .ok (.iadd, 1) := by decide +kernel
theorem dX7_seekRooms_12 : decode cX7_seekRooms 12 = .ok (.putfield 29, 3) := by decide +kernel
theorem dX7_seekRooms_15 : decode cX7_seekRooms 15 = .ok (.aload_n 0, 1) := by decide +kernel
theorem dX7_seekRooms_16 : decode cX7_seekRooms 16 = .ok (.getfield 12, 3) := by decide +kernel
theorem dX7_seekRooms_19 : decode cX7_seekRooms 19 = .ok (.getfield 44, 3) := by decide +kernel
theorem dX7_seekRooms_22 : decode cX7_seekRooms 22 = .ok (.iconst (-1), 1) := by decide +kernel
theorem dX7_seekRooms_23 : decode cX7_seekRooms 23 = .ok (.invokestatic 47, 3) := by decide +kernel
theorem dX7_seekRooms_26 : decode cX7_seekRooms 26 = .ok (.aload_n 0, 1) := by decide +kernel
theorem dX7_seekRooms_27 : decode cX7_seekRooms 27 = .ok (.getfield 22, 3) := by decide +kernel
theorem dX7_seekRooms_30 : decode cX7_seekRooms 30 = .ok (.iconst (-1), 1) := by decide +kernel
theorem dX7_seekRooms_31 : decode cX7_seekRooms 31 = .ok (.invokestatic 47, 3) := by decide +kernel
theorem dX7_seekRooms_34 : decode cX7_seekRooms 34 = .ok (.aload_n 0, 1) := by decide +kernel
theorem dX7_seekRooms_35 : decode cX7_seekRooms 35 = .ok (.getfield 18, 3) := by decide +kernel
theorem dX7_seekRooms_38 : decode cX7_seekRooms 38 = .ok (.iconst 0, 1) := by decide +kernel
theorem dX7_seekRooms_39 : decode cX7_seekRooms 39 = .ok (.iconst 0, 1) := by decide +kernel
theorem dX7_seekRooms_40 : decode cX7_seekRooms 40 = .ok (.iastore, 1) := by decide +kernel
theorem dX7_seekRooms_41 : decode cX7_seekRooms 41 = .ok (.iconst 0, 1) := by decide +kernel
theorem dX7_seekRooms_42 : decode cX7_seekRooms 42 = .ok (.istore 4, 2) := by decide +kernel
theorem dX7_seekRooms_44 : decode cX7_seekRooms 44 = .ok (.iconst 0, 1) := by decide +kernel
theorem dX7_seekRooms_45 : decode cX7_seekRooms 45 = .ok (.istore 5, 2) := by decide +kernel
theorem dX7_seekRooms_47 : decode cX7_seekRooms 47 = .ok (.iload 5, 2) := by decide +kernel
theorem dX7_seekRooms_49 : decode cX7_seekRooms 49 = .ok (.ldc 53, 2) := by decide +kernel
theorem dX7_seekRooms_51 : decode cX7_seekRooms 51 = .ok (.if_icmp .ge 93, 3) := by decide +kernel
theorem dX7_seekRooms_54 : decode cX7_seekRooms 54 = .ok (.iload 4, 2) := by decide +kernel
theorem dX7_seekRooms_56 : decode cX7_seekRooms 56 = .ok (.ifCond .lt 88, 3) := by decide +kernel
theorem dX7_seekRooms_59 : decode cX7_seekRooms 59 = .ok (.aload_n 0, 1) := by decide +kernel
theorem dX7_seekRooms_60 : decode cX7_seekRooms 60 = .ok (.getfield 12, 3) := by decide +kernel
theorem dX7_seekRooms_63 : decode cX7_seekRooms 63 = .ok (.getfield 44, 3) := by decide +kernel
theorem dX7_seekRooms_66 : decode cX7_seekRooms 66 = .ok (.iload 4, 2) := by decide +kernel
theorem dX7_seekRooms_68 : decode cX7_seekRooms 68 = .ok (.dup2, 1) := by decide +kernel
theorem dX7_seekRooms_69 : decode cX7_seekRooms 69 = .ok (.iaload, 1) := by decide +kernel
theorem dX7_seekRooms_70 : decode cX7_seekRooms 70 = .ok (.iconst 1, 1) := by decide +kernel
theorem dX7_seekRooms_71 : decode cX7_seekRooms 71 = .ok (.iadd, 1) := by decide +kernel
theorem dX7_seekRooms_72 : decode cX7_seekRooms 72 = .ok (.iastore, 1) := by decide +kernel
theorem dX7_seekRooms_73 : decode cX7_seekRooms 73 = .ok (.aload_n 0, 1) := by decide +kernel
theorem dX7_seekRooms_74 : decode cX7_seekRooms 74 = .ok (.getfield 12, 3) := by decide +kernel
theorem dX7_seekRooms_77 : decode cX7_seekRooms 77 = .ok (.getfield 44, 3) := by decide +kernel
theorem dX7_seekRooms_80 : decode cX7_seekRooms 80 = .ok (.iload 4, 2) := by decide +kernel
theorem dX7_seekRooms_82 : decode cX7_seekRooms 82 = .ok (.iaload, 1) := by decide +kernel
theorem dX7_seekRooms_83 : decode cX7_seekRooms 83 = .ok (.aload_n 0, 1) := by decide +kernel
theorem dX7_seekRooms_84 : decode cX7_seekRooms 84 = .ok (.getfield 18, 3) := by decide +kernel
theorem dX7_seekRooms_87 : decode cX7_seekRooms 87 = .ok (.iload 4, 2) := by decide +kernel
theorem dX7_seekRooms_89 : decode cX7_seekRooms 89 = .ok (.iaload, 1) := by decide +kernel
theorem dX7_seekRooms_90 : decode cX7_seekRooms 90 = .ok (.if_icmp .le 20, 3) := by decide +kernel
theorem dX7_seekRooms_93 : decode cX7_seekRooms 93 = .ok (.aload_n 0, 1) := by decide +kernel
theorem dX7_seekRooms_94 : decode cX7_seekRooms 94 = .ok (.getfield 12, 3) := by decide +kernel
theorem dX7_seekRooms_97 : decode cX7_seekRooms 97 = .ok (.getfield 44, 3) := by decide +kernel
theorem dX7_seekRooms_100 : decode cX7_seekRooms 100 = .ok (.iload 4, 2) := by decide +kernel
theorem dX7_seekRooms_102 : decode cX7_seekRooms 102 = .ok (.iconst (-1), 1) := by decide +kernel
theorem dX7_seekRooms_103 : decode cX7_seekRooms 103 = .ok (.iastore, 1) := by decide +kernel
theorem dX7_seekRooms_104 : decode cX7_seekRooms 104 = .ok (.iinc 4 (-1), 3) := by decide +kernel
theorem dX7_seekRooms_107 : decode cX7_seekRooms 107 = .ok (.goto 31, 3) := by decide +kernel
theorem dX7_seekRooms_110 : decode cX7_seekRooms 110 = .ok (.aload_n 0, 1) := by decide +kernel
theorem dX7_seekRooms_111 : decode cX7_seekRooms 111 = .ok (.iload 4, 2) := by decide +kernel
theorem dX7_seekRooms_113 : decode cX7_seekRooms 113 = .ok (.iload 4, 2) := by decide +kernel
theorem dX7_seekRooms_115 : decode cX7_seekRooms 115 = .ok (.iconst 1, 1) := by decide +kernel
theorem dX7_seekRooms_116 : decode cX7_seekRooms 116 = .ok (.iadd, 1) := by decide +kernel
theorem dX7_seekRooms_117 : decode cX7_seekRooms 117 = .ok (.aload_n 1, 1) := by decide +kernel
theorem dX7_seekRooms_118 : decode cX7_seekRooms 118 = .ok (.aload_n 2, 1) := by decide +kernel
theorem dX7_seekRooms_119 : decode cX7_seekRooms 119 = .ok (.aload_n 3, 1) := by decide +kernel
theorem dX7_seekRooms_120 : decode cX7_seekRooms 120 = .ok (.invokevirtual 54, 3) := by decide +kernel
theorem dX7_seekRooms_123 : decode cX7_seekRooms 123 = .ok (.ifCond .eq 15, 3) := by decide +kernel
theorem dX7_seekRooms_126 : decode cX7_seekRooms 126 = .ok (.aload_n 0, 1) := by decide +kernel
theorem dX7_seekRooms_127 : decode cX7_seekRooms 127 = .ok (.iload 4, 2) := by decide +kernel
theorem dX7_seekRooms_129 : decode cX7_seekRooms 129 = .ok (.aload_n 1, 1) := by decide +kernel
theorem dX7_seekRooms_130 : decode cX7_seekRooms 130 = .ok (.getfield 58, 3) := by decide +kernel
theorem dX7_seekRooms_133 : decode cX7_seekRooms 133 = .ok (.invokevirtual 63, 3) := by decide +kernel
theorem dX7_seekRooms_136 : decode cX7_seekRooms 136 = .ok (.istore 4, 2) := by decide +kernel
theorem dX7_seekRooms_138 : decode cX7_seekRooms 138 = .ok (.iinc 5 1, 3) := by decide +kernel
theorem dX7_seekRooms_141 : decode cX7_seekRooms 141 = .ok (.goto (-94), 3) := by decide +kernel
theorem dX7_seekRooms_144 : decode cX7_seekRooms 144 = .ok (.return_, 1) := by decide +kernel
theorem dX7_goOn_0 : decode cX7_goOn 0 = .ok (.iload_n 1, 1) := by decide +kernel
theorem dX7_goOn_1 : decode cX7_goOn 1 = .ok (.iconst 1, 1) := by decide +kernel
theorem dX7_goOn_2 : decode cX7_goOn 2 = .ok (.iadd, 1) := by decide +kernel
theorem dX7_goOn_3 : decode cX7_goOn 3 = .ok (.iload_n 2, 1) := by decide +kernel
theorem dX7_goOn_4 : decode cX7_goOn 4 = .ok (.if_icmp .lt 9, 3) := by decide +kernel
theorem dX7_goOn_7 : decode cX7_goOn 7 = .ok (.aload_n 0, 1) := by decide +kernel
theorem dX7_goOn_8 : decode cX7_goOn 8 = .ok (.invokevirtual 66, 3) := by decide +kernel
theorem dX7_goOn_11 : decode cX7_goOn 11 = .ok (.iload_n 1, 1) := by decide +kernel
theorem dX7_goOn_12 : decode cX7_goOn 12 = .ok (.ireturn, 1) := by decide +kernel
theorem dX7_goOn_13 : decode cX7_goOn 13 = .ok (.aload_n 0, 1) := by decide +kernel
theorem dX7_goOn_14 : decode cX7_goOn 14 = .ok (.getfield 18, 3) := by decide +kernel
theorem dX7_goOn_17 : decode cX7_goOn 17 = .ok (.iload_n 1, 1) := by decide +kernel
theorem dX7_goOn_18 : decode cX7_goOn 18 = .ok (.iconst 1, 1) := by decide +kernel
theorem dX7_goOn_19 : decode cX7_goOn 19 = .ok (.iadd, 1) := by decide +kernel
theorem dX7_goOn_20 : decode cX7_goOn 20 = .ok (.aload_n 0, 1) := by decide +kernel
theorem dX7_goOn_21 : decode cX7_goOn 21 = .ok (.getfield 18, 3) := by decide +kernel
theorem dX7_goOn_24 : decode cX7_goOn 24 = .ok (.iload_n 1, 1) := by decide +kernel
theorem dX7_goOn_25 : decode cX7_goOn 25 = .ok (.iaload, 1) := by decide +kernel
theorem dX7_goOn_26 : decode cX7_goOn 26 = .ok (.aload_n 0, 1) := by decide +kernel
theorem dX7_goOn_27 : decode cX7_goOn 27 = .ok (.getfield 12, 3) := by decide +kernel
theorem dX7_goOn_30 : decode cX7_goOn 30 = .ok (.getfield 44, 3) := by decide +kernel
theorem dX7_goOn_33 : decode cX7_goOn 33 = .ok (.iload_n 1, 1) := by decide +kernel
theorem dX7_goOn_34 : decode cX7_goOn 34 = .ok (.iaload, 1) := by decide +kernel
theorem dX7_goOn_35 : decode cX7_goOn 35 = .ok (.iconst 1, 1) := by decide +kernel
theorem dX7_goOn_36 : decode cX7_goOn 36 = .ok (.iadd, 1) := by decide +kernel
theorem dX7_goOn_37 : decode cX7_goOn 37 = .ok (.invokestatic 69, 3) := by decide +kernel
theorem dX7_goOn_40 : decode cX7_goOn 40 = .ok (.iastore, 1) := by decide +kernel
theorem dX7_goOn_41 : decode cX7_goOn 41 = .ok (.iload_n 1, 1) := by decide +kernel
theorem dX7_goOn_42 : decode cX7_goOn 42 = .ok (.iconst 1, 1) := by decide +kernel
theorem dX7_goOn_43 : decode cX7_goOn 43 = .ok (.iadd, 1) := by decide +kernel
theorem dX7_goOn_44 : decode cX7_goOn 44 = .ok (.ireturn, 1) := by decide +kernel
theorem dX7_seekRoomFor_0 : decode cX7_seekRoomFor 0 = .ok (.aload_n 0, 1) := by decide +kernel
theorem dX7_seekRoomFor_1 : decode cX7_seekRoomFor 1 = .ok (.aload 4, 2) := by decide +kernel
theorem dX7_seekRoomFor_3 : decode cX7_seekRoomFor 3 = .ok (.sipush 256, 3) := by decide +kernel
theorem dX7_seekRoomFor_6 : decode cX7_seekRoomFor 6 = .ok (.sipush 256, 3) := by decide +kernel
theorem dX7_seekRoomFor_9 : decode cX7_seekRoomFor 9 = .ok (.invokevirtual 38, 3) := by decide +kernel
theorem dX7_seekRoomFor_12 : decode cX7_seekRoomFor 12 = .ok (.iconst 1, 1) := by decide +kernel
theorem dX7_seekRoomFor_13 : decode cX7_seekRoomFor 13 = .ok (.iadd, 1) := by decide +kernel
theorem dX7_seekRoomFor_14 : decode cX7_seekRoomFor 14 = .ok (.putfield 29, 3) := by decide +kernel
theorem dX7_seekRoomFor_17 : decode cX7_seekRoomFor 17 = .ok (.aload_n 0, 1) := by decide +kernel
theorem dX7_seekRoomFor_18 : decode cX7_seekRoomFor 18 = .ok (.getfield 12, 3) := by decide +kernel
theorem dX7_seekRoomFor_21 : decode cX7_seekRoomFor 21 = .ok (.aload_n 2, 1) := by decide +kernel
theorem dX7_seekRoomFor_22 : decode cX7_seekRoomFor 22 = .ok (.getfield 74, 3) := by decide +kernel
theorem dX7_seekRoomFor_25 : decode cX7_seekRoomFor 25 = .ok (.getfield 44, 3) := by decide +kernel
theorem dX7_seekRoomFor_28 : decode cX7_seekRoomFor 28 = .ok (.invokevirtual 79, 3) := by decide +kernel
theorem dX7_seekRoomFor_31 : decode cX7_seekRoomFor 31 = .ok (.aload_n 0, 1) := by decide +kernel
theorem dX7_seekRoomFor_32 : decode cX7_seekRoomFor 32 = .ok (.getfield 12, 3) := by decide +kernel
theorem dX7_seekRoomFor_35 : decode cX7_seekRoomFor 35 = .ok (.invokevirtual 83, 3) := by decide +kernel
theorem dX7_seekRoomFor_38 : decode cX7_seekRoomFor 38 = .ok (.istore 6, 2) := by decide +kernel
theorem dX7_seekRoomFor_40 : decode cX7_seekRoomFor 40 = .ok (.iconst (-1), 1) := by decide +kernel
theorem dX7_seekRoomFor_41 : decode cX7_seekRoomFor 41 = .ok (.istore 7, 2) := by decide +kernel
theorem dX7_seekRoomFor_43 : decode cX7_seekRoomFor 43 = .ok (.iconst 0, 1) := by decide +kernel
theorem dX7_seekRoomFor_44 : decode cX7_seekRoomFor 44 = .ok (.istore 8, 2) := by decide +kernel
theorem dX7_seekRoomFor_46 : decode cX7_seekRoomFor 46 = .ok (.iload 8, 2) := by decide +kernel
theorem dX7_seekRoomFor_48 : decode cX7_seekRoomFor 48 = .ok (.iload 6, 2) := by decide +kernel
theorem dX7_seekRoomFor_50 : decode cX7_seekRoomFor 50 = .ok (.if_icmp .gt 52, 3) := by decide +kernel
theorem dX7_seekRoomFor_53 : decode cX7_seekRoomFor 53 = .ok (.iload 8, 2) := by decide +kernel
theorem dX7_seekRoomFor_55 : decode cX7_seekRoomFor 55 = .ok (.bipush 8, 2) := by decide +kernel
theorem dX7_seekRoomFor_57 : decode cX7_seekRoomFor 57 = .ok (.if_icmp .ge 45, 3) := by decide +kernel
theorem dX7_seekRoomFor_60 : decode cX7_seekRoomFor 60 = .ok (.aload_n 0, 1) := by decide +kernel
theorem dX7_seekRoomFor_61 : decode cX7_seekRoomFor 61 = .ok (.getfield 12, 3) := by decide +kernel
theorem dX7_seekRoomFor_64 : decode cX7_seekRoomFor 64 = .ok (.getfield 44, 3) := by decide +kernel
theorem dX7_seekRoomFor_67 : decode cX7_seekRoomFor 67 = .ok (.iload_n 1, 1) := by decide +kernel
theorem dX7_seekRoomFor_68 : decode cX7_seekRoomFor 68 = .ok (.iload 8, 2) := by decide +kernel
theorem dX7_seekRoomFor_70 : decode cX7_seekRoomFor 70 = .ok (.iastore, 1) := by decide +kernel
theorem dX7_seekRoomFor_71 : decode cX7_seekRoomFor 71 = .ok (.aload_n 0, 1) := by decide +kernel
theorem dX7_seekRoomFor_72 : decode cX7_seekRoomFor 72 = .ok (.iload_n 1, 1) := by decide +kernel
theorem dX7_seekRoomFor_73 : decode cX7_seekRoomFor 73 = .ok (.aload_n 3, 1) := by decide +kernel
theorem dX7_seekRoomFor_74 : decode cX7_seekRoomFor 74 = .ok (.getfield 58, 3) := by decide +kernel
theorem dX7_seekRoomFor_77 : decode cX7_seekRoomFor 77 = .ok (.aload_n 3, 1) := by decide +kernel
theorem dX7_seekRoomFor_78 : decode cX7_seekRoomFor 78 = .ok (.aload 4, 2) := by decide +kernel
theorem dX7_seekRoomFor_80 : decode cX7_seekRoomFor 80 = .ok (.aload 5, 2) := by decide +kernel
theorem dX7_seekRoomFor_82 : decode cX7_seekRoomFor 82 = .ok (.invokevirtual 54, 3) := by decide +kernel
theorem dX7_seekRoomFor_85 : decode cX7_seekRoomFor 85 = .ok (.ifCond .eq 11, 3) := by decide +kernel
theorem dX7_seekRoomFor_88 : decode cX7_seekRoomFor 88 = .ok (.aload_n 0, 1) := by decide +kernel
theorem dX7_seekRoomFor_89 : decode cX7_seekRoomFor 89 = .ok (.invokevirtual 66, 3) := by decide +kernel
theorem dX7_seekRoomFor_92 : decode cX7_seekRoomFor 92 = .ok (.iload 8, 2) := by decide +kernel
theorem dX7_seekRoomFor_94 : decode cX7_seekRoomFor 94 = .ok (.istore 7, 2) := by decide +kernel
theorem dX7_seekRoomFor_96 : decode cX7_seekRoomFor 96 = .ok (.iinc 8 1, 3) := by decide +kernel
theorem dX7_seekRoomFor_99 : decode cX7_seekRoomFor 99 = .ok (.goto (-53), 3) := by decide +kernel
theorem dX7_seekRoomFor_102 : decode cX7_seekRoomFor 102 = .ok (.iload 7, 2) := by decide +kernel
theorem dX7_seekRoomFor_104 : decode cX7_seekRoomFor 104 = .ok (.ireturn, 1) := by decide +kernel
theorem dX7_isCheaper_0 : decode cX7_isCheaper 0 = .ok (.aload 4, 2) := by decide +kernel
theorem dX7_isCheaper_2 : decode cX7_isCheaper 2 = .ok (.getfield 86, 3) := by decide +kernel
theorem dX7_isCheaper_5 : decode cX7_isCheaper 5 = .ok (.ifCond .eq 20, 3) := by decide +kernel
theorem dX7_isCheaper_8 : decode cX7_isCheaper 8 = .ok (.aload_n 0, 1) := by decide +kernel
theorem dX7_isCheaper_9 : decode cX7_isCheaper 9 = .ok (.getfield 12, 3) := by decide +kernel
theorem dX7_isCheaper_12 : decode cX7_isCheaper 12 = .ok (.iload_n 1, 1) := by decide +kernel
theorem dX7_isCheaper_13 : decode cX7_isCheaper 13 = .ok (.aload_n 3, 1) := by decide +kernel
theorem dX7_isCheaper_14 : decode cX7_isCheaper 14 = .ok (.getfield 90, 3) := by decide +kernel
theorem dX7_isCheaper_17 : decode cX7_isCheaper 17 = .ok (.invokevirtual 93, 3) := by decide +kernel
theorem dX7_isCheaper_20 : decode cX7_isCheaper 20 = .ok (.ifCond .eq 5, 3) := by decide +kernel
theorem dX7_isCheaper_23 : decode cX7_isCheaper 23 = .ok (.iconst 0, 1) := by decide +kernel
theorem dX7_isCheaper_24 : decode cX7_isCheaper 24 = .ok (.ireturn, 1) := by decide +kernel
theorem dX7_isCheaper_25 : decode cX7_isCheaper 25 = .ok (.aload_n 0, 1) := by decide +kernel
theorem dX7_isCheaper_26 : decode cX7_isCheaper 26 = .ok (.getfield 12, 3) := by decide +kernel
theorem dX7_isCheaper_29 : decode cX7_isCheaper 29 = .ok (.aload 5, 2) := by decide +kernel
theorem dX7_isCheaper_31 : decode cX7_isCheaper 31 = .ok (.getfield 97, 3) := by decide +kernel
theorem dX7_isCheaper_34 : decode cX7_isCheaper 34 = .ok (.aload_n 3, 1) := by decide +kernel
theorem dX7_isCheaper_35 : decode cX7_isCheaper 35 = .ok (.getfield 100, 3) := by decide +kernel
theorem dX7_isCheaper_38 : decode cX7_isCheaper 38 = .ok (.iload_n 2, 1) := by decide +kernel
theorem dX7_isCheaper_39 : decode cX7_isCheaper 39 = .ok (.invokevirtual 103, 3) := by decide +kernel
theorem dX7_isCheaper_42 : decode cX7_isCheaper 42 = .ok (.aload_n 0, 1) := by decide +kernel
theorem dX7_isCheaper_43 : decode cX7_isCheaper 43 = .ok (.aload 4, 2) := by decide +kernel
theorem dX7_isCheaper_45 : decode cX7_isCheaper 45 = .ok (.aload_n 0, 1) := by decide +kernel
theorem dX7_isCheaper_46 : decode cX7_isCheaper 46 = .ok (.getfield 12, 3) := by decide +kernel
theorem dX7_isCheaper_49 : decode cX7_isCheaper 49 = .ok (.getfield 107, 3) := by decide +kernel
theorem dX7_isCheaper_52 : decode cX7_isCheaper 52 = .ok (.aload_n 0, 1) := by decide +kernel
theorem dX7_isCheaper_53 : decode cX7_isCheaper 53 = .ok (.getfield 12, 3) := by decide +kernel
theorem dX7_isCheaper_56 : decode cX7_isCheaper 56 = .ok (.getfield 110, 3) := by decide +kernel
theorem dX7_isCheaper_59 : decode cX7_isCheaper 59 = .ok (.invokevirtual 38, 3) := by decide +kernel
theorem dX7_isCheaper_62 : decode cX7_isCheaper 62 = .ok (.putfield 25, 3) := by decide +kernel
theorem dX7_isCheaper_65 : decode cX7_isCheaper 65 = .ok (.aload_n 0, 1) := by decide +kernel
theorem dX7_isCheaper_66 : decode cX7_isCheaper 66 = .ok (.getfield 12, 3) := by decide +kernel
theorem dX7_isCheaper_69 : decode cX7_isCheaper 69 = .ok (.getfield 113, 3) := by decide +kernel
theorem dX7_isCheaper_72 : decode cX7_isCheaper 72 = .ok (.ifCond .ne 18, 3) := by decide +kernel
theorem dX7_isCheaper_75 : decode cX7_isCheaper 75 = .ok (.aload_n 0, 1) := by decide +kernel
theorem dX7_isCheaper_76 : decode cX7_isCheaper 76 = .ok (.getfield 25, 3) := by decide +kernel
theorem dX7_isCheaper_79 : decode cX7_isCheaper 79 = .ok (.aload_n 0, 1) := by decide +kernel
theorem dX7_isCheaper_80 : decode cX7_isCheaper 80 = .ok (.getfield 29, 3) := by decide +kernel
theorem dX7_isCheaper_83 : decode cX7_isCheaper 83 = .ok (.if_icmp .ge 7, 3) := by decide +kernel
theorem dX7_isCheaper_86 : decode cX7_isCheaper 86 = .ok (.iconst 1, 1) := by decide +kernel
theorem dX7_isCheaper_87 : decode cX7_isCheaper 87 = .ok (.goto 4, 3) := by decide +kernel
theorem dX7_isCheaper_90 : decode cX7_isCheaper 90 = .ok (.iconst 0, 1) := by decide +kernel
theorem dX7_isCheaper_91 : decode cX7_isCheaper 91 = .ok (.ireturn, 1) := by decide +kernel
theorem dX7_keepTrial_0 : decode cX7_keepTrial 0 = .ok (.aload_n 0, 1) := by decide +kernel
theorem dX7_keepTrial_1 : decode cX7_keepTrial 1 = .ok (.getfield 12, 3) := by decide +kernel
theorem dX7_keepTrial_4 : decode cX7_keepTrial 4 = .ok (.getfield 44, 3) := by decide +kernel
theorem dX7_keepTrial_7 : decode cX7_keepTrial 7 = .ok (.iconst 0, 1) := by decide +kernel
theorem dX7_keepTrial_8 : decode cX7_keepTrial 8 = .ok (.aload_n 0, 1) := by decide +kernel
theorem dX7_keepTrial_9 : decode cX7_keepTrial 9 = .ok (.getfield 22, 3) := by decide +kernel
theorem dX7_keepTrial_12 : decode cX7_keepTrial 12 = .ok (.iconst 0, 1) := by decide +kernel
theorem dX7_keepTrial_13 : decode cX7_keepTrial 13 = .ok (.bipush 8, 2) := by decide +kernel
theorem dX7_keepTrial_15 : decode cX7_keepTrial 15 = .ok (.invokestatic 116, 3) := by decide +kernel
theorem dX7_keepTrial_18 : decode cX7_keepTrial 18 = .ok (.aload_n 0, 1) := by decide +kernel
theorem dX7_keepTrial_19 : decode cX7_keepTrial 19 = .ok (.aload_n 0, 1) := by decide +kernel
theorem dX7_keepTrial_20 : decode cX7_keepTrial 20 = .ok (.getfield 25, 3) := by decide +kernel
theorem dX7_keepTrial_23 : decode cX7_keepTrial 23 = .ok (.putfield 29, 3) := by decide +kernel
theorem dX7_keepTrial_26 : decode cX7_keepTrial 26 = .ok (.return_, 1) := by decide +kernel
theorem dX8_init_0 : decode cX8_init 0 = .ok (.aload_n 0, 1) := by decide +kernel
theorem dX8_init_1 : decode cX8_init 1 = .ok (.invokespecial 3, 3) := by decide +kernel
theorem dX8_init_4 : decode cX8_init 4 = .ok (.aload_n 0, 1) := by decide +kernel
theorem dX8_init_5 : decode cX8_init 5 = .ok (.new 9, 3) := by decide +kernel
theorem dX8_init_8 : decode cX8_init 8 = .ok (.dup, 1) := by decide +kernel
theorem dX8_init_9 : decode cX8_init 9 = .ok (.invokespecial 11, 3) := by decide +kernel
theorem dX8_init_12 : decode cX8_init 12 = .ok (.putfield 12, 3) := by decide +kernel
theorem dX8_init_15 : decode cX8_init 15 = .ok (.aload_n 0, 1) := by decide +kernel
theorem dX8_init_16 : decode cX8_init 16 = .ok (.bipush 8, 2) := by decide +kernel
theorem dX8_init_18 : decode cX8_init 18 = .ok (.newarray .int, 2) := by decide +kernel
theorem dX8_init_20 : decode cX8_init 20 = .ok (.putfield 18, 3) := by decide +kernel
theorem dX8_init_23 : decode cX8_init 23 = .ok (.aload_n 0, 1) := by decide +kernel
theorem dX8_init_24 : decode cX8_init 24 = .ok (.bipush 12, 2) := by decide +kernel
theorem dX8_init_26 : decode cX8_init 26 = .ok (.newarray .int, 2) := by decide +kernel
theorem dX8_init_28 : decode cX8_init 28 = .ok (.putfield 22, 3) := by decide +kernel
theorem dX8_init_31 : decode cX8_init 31 = .ok (.aload_n 0, 1) := by decide +kernel
theorem dX8_init_32 : decode cX8_init 32 = .ok (.bipush 12, 2) := by decide +kernel
theorem dX8_init_34 : decode cX8_init 34 = .ok (.newarray .int, 2) := by decide +kernel
theorem dX8_init_36 : decode cX8_init 36 = .ok (.putfield 25, 3) := by decide +kernel
theorem dX8_init_39 : decode cX8_init 39 = .ok (.aload_n 0, 1) := by decide +kernel
theorem dX8_init_40 : decode cX8_init 40 = .ok (.bipush 12, 2) := by decide +kernel
theorem dX8_init_42 : decode cX8_init 42 = .ok (.newarray .int, 2) := by decide +kernel
theorem dX8_init_44 : decode cX8_init 44 = .ok (.putfield 28, 3) := by decide +kernel
theorem dX8_init_47 : decode cX8_init 47 = .ok (.aload_n 0, 1) := by decide +kernel
theorem dX8_init_48 : decode cX8_init 48 = .ok (.iconst 0, 1) := by decide +kernel
theorem dX8_init_49 : decode cX8_init 49 = .ok (.putfield 31, 3) := by decide +kernel
theorem dX8_init_52 : decode cX8_init 52 = .ok (.aload_n 0, 1) := by decide +kernel
theorem dX8_init_53 : decode cX8_init 53 = .ok (.bipush 12, 2) := by decide +kernel
theorem dX8_init_55 : decode cX8_init 55 = .ok (.newarray .int, 2) := by decide +kernel
theorem dX8_init_57 : decode cX8_init 57 = .ok (.putfield 35, 3) := by decide +kernel
theorem dX8_init_60 : decode cX8_init 60 = .ok (.aload_n 0, 1) := by decide +kernel
theorem dX8_init_61 : decode cX8_init 61 = .ok (.iconst 0, 1) := by decide +kernel
theorem dX8_init_62 : decode cX8_init 62 = .ok (.putfield 38, 3) := by decide +kernel
theorem dX8_init_65 : decode cX8_init 65 = .ok (.return_, 1) := by decide +kernel
theorem dX8_seekSet_0 : decode cX8_seekSet 0 = .ok (.aload_n 0, 1) := by decide +kernel
theorem dX8_seekSet_1 : decode cX8_seekSet 1 = .ok (.aload_n 1, 1) := by decide +kernel
theorem dX8_seekSet_2 : decode cX8_seekSet 2 = .ok (.aload_n 2, 1) := by decide +kernel
theorem dX8_seekSet_3 : decode cX8_seekSet 3 = .ok (.invokevirtual 41, 3) := by decide +kernel
theorem dX8_seekSet_6 : decode cX8_seekSet 6 = .ok (.ifCond .ne 6, 3) := by decide +kernel
theorem dX8_seekSet_9 : decode cX8_seekSet 9 = .ok (.bipush (-2), 2) := by decide +kernel
theorem dX8_seekSet_11 : decode cX8_seekSet 11 = .ok (.ireturn, 1) := by decide +kernel
theorem dX8_seekSet_12 : decode cX8_seekSet 12 = .ok (.iconst 1, 1) := by decide +kernel
theorem dX8_seekSet_13 : decode cX8_seekSet 13 = .ok (.aload_n 0, 1) := by decide +kernel
theorem dX8_seekSet_14 : decode cX8_seekSet 14 = .ok (.getfield 31, 3) := by decide +kernel
theorem dX8_seekSet_17 : decode cX8_seekSet 17 = .ok (.ishl, 1) := by decide +kernel
theorem dX8_seekSet_18 : decode cX8_seekSet 18 = .ok (.istore 4, 2) := by decide +kernel
theorem dX8_seekSet_20 : decode cX8_seekSet 20 = .ok (.aload_n 0, 1) := by decide +kernel
theorem dX8_seekSet_21 : decode cX8_seekSet 21 = .ok (.iload 4, 2) := by decide +kernel
theorem dX8_seekSet_23 : decode cX8_seekSet 23 = .ok (.iconst 1, 1) := by decide +kernel
theorem dX8_seekSet_24 : decode cX8_seekSet 24 = .ok (.isub, 1) := by decide +kernel
theorem dX8_seekSet_25 : decode cX8_seekSet 25 = .ok (.invokevirtual 45, 3) := by decide +kernel
theorem dX8_seekSet_28 : decode cX8_seekSet 28 = .ok (.iload_n 3, 1) := by decide +kernel
theorem dX8_seekSet_29 : decode cX8_seekSet 29 = .ok (.if_icmp .le 5, 3) := by decide +kernel
theorem dX8_seekSet_32 : decode cX8_seekSet 32 = .ok (.iconst (-1), 1) := by decide +kernel
theorem dX8_seekSet_33 : decode cX8_seekSet 33 = .ok (.ireturn, 1) := by decide +kernel
theorem dX8_seekSet_34 : decode cX8_seekSet 34 = .ok (.iload 4, 2) := by decide +kernel
theorem dX8_seekSet_36 : decode cX8_seekSet 36 = .ok (.iconst 1, 1) := by decide +kernel
theorem dX8_seekSet_37 : decode cX8_seekSet 37 = .ok (.isub, 1) := by decide +kernel
theorem dX8_seekSet_38 : decode cX8_seekSet 38 = .ok (.istore 5, 2) := by decide +kernel
theorem dX8_seekSet_40 : decode cX8_seekSet 40 = .ok (.aload_n 0, 1) := by decide +kernel
theorem dX8_seekSet_41 : decode cX8_seekSet 41 = .ok (.iload 5, 2) := by decide +kernel
theorem dX8_seekSet_43 : decode cX8_seekSet 43 = .ok (.invokevirtual 49, 3) := by decide +kernel
theorem dX8_seekSet_46 : decode cX8_seekSet 46 = .ok (.istore 6, 2) := by decide +kernel
theorem dX8_seekSet_48 : decode cX8_seekSet 48 = .ok (.iconst 0, 1) := by decide +kernel
theorem dX8_seekSet_49 : decode cX8_seekSet 49 = .ok (.istore 7, 2) := by decide +kernel
theorem dX8_seekSet_51 : decode cX8_seekSet 51 = .ok (.iload 7, 2) := by decide +kernel
theorem dX8_seekSet_53 : decode cX8_seekSet 53 = .ok (.iload 4, 2) := by decide +kernel
theorem dX8_seekSet_55 : decode cX8_seekSet 55 = .ok (.if_icmp .ge 42, 3) := by decide +kernel
theorem dX8_seekSet_58 : decode cX8_seekSet 58 = .ok (.aload_n 0, 1) := by decide +kernel
theorem dX8_seekSet_59 : decode cX8_seekSet 59 = .ok (.iload 7, 2) := by decide +kernel
theorem dX8_seekSet_61 : decode cX8_seekSet 61 = .ok (.invokevirtual 49, 3) := by decide +kernel
theorem dX8_seekSet_64 : decode cX8_seekSet 64 = .ok (.istore 8, 2) := by decide +kernel
theorem dX8_seekSet_66 : decode cX8_seekSet 66 = .ok (.iload 8, 2) := by decide +kernel
theorem dX8_seekSet_68 : decode cX8_seekSet 68 = .ok (.iload 6, 2) := by decide +kernel
theorem dX8_seekSet_70 : decode cX8_seekSet 70 = .ok (.if_icmp .ge 21, 3) := by decide +kernel
theorem dX8_seekSet_73 : decode cX8_seekSet 73 = .ok (.aload_n 0, 1) := by decide +kernel
theorem dX8_seekSet_74 : decode cX8_seekSet 74 = .ok (.iload 7, 2) := by decide +kernel
theorem dX8_seekSet_76 : decode cX8_seekSet 76 = .ok (.invokevirtual 45, 3) := by decide +kernel
theorem dX8_seekSet_79 : decode cX8_seekSet 79 = .ok (.iload_n 3, 1) := by decide +kernel
theorem dX8_seekSet_80 : decode cX8_seekSet 80 = .ok (.if_icmp .gt 11, 3) := by decide +kernel
theorem dX8_seekSet_83 : decode cX8_seekSet 83 = .ok (.iload 7, 2) := by decide +kernel
theorem dX8_seekSet_85 : decode cX8_seekSet 85 = .ok (.istore 5, 2) := by decide +kernel
theorem dX8_seekSet_87 : decode cX8_seekSet 87 = .ok (.iload 8, 2) := by decide +kernel
theorem dX8_seekSet_89 : decode cX8_seekSet 89 = .ok (.istore 6, 2) := by decide +kernel
theorem dX8_seekSet_91 : decode cX8_seekSet 91 = .ok (.iinc 7 1, 3) := by decide +kernel
theorem dX8_seekSet_94 : decode cX8_seekSet 94 = .ok (.goto (-43), 3) := by decide +kernel
theorem dX8_seekSet_97 : decode cX8_seekSet 97 = .ok (.aload_n 0, 1) := by decide +kernel
theorem dX8_seekSet_98 : decode cX8_seekSet 98 = .ok (.iload 5, 2) := by decide +kernel
theorem dX8_seekSet_100 : decode cX8_seekSet 100 = .ok (.invokevirtual 52, 3) := by decide +kernel
theorem dX8_seekSet_103 : decode cX8_seekSet 103 = .ok (.iload 6, 2) := by decide +kernel
theorem dX8_seekSet_105 : decode cX8_seekSet 105 = .ok (.ireturn, 1) := by decide +kernel
theorem dX8_gatherCans_0 : decode cX8_gatherCans 0 = .ok (.aload_n 0, 1) := by decide +kernel
theorem dX8_gatherCans_1 : decode cX8_gatherCans 1 = .ok (.iconst 0, 1) := by decide +kernel
theorem dX8_gatherCans_2 : decode cX8_gatherCans 2 = .ok (.putfield 31, 3) := by decide +kernel
theorem dX8_gatherCans_5 : decode cX8_gatherCans 5 = .ok (.aload_n 0, 1) := by decide +kernel
theorem dX8_gatherCans_6 : decode cX8_gatherCans 6 = .ok (.getfield 12, 3) := by decide +kernel
theorem dX8_gatherCans_9 : decode cX8_gatherCans 9 = .ok (.aload_n 1, 1) := by decide +kernel
theorem dX8_gatherCans_10 : decode cX8_gatherCans 10 = .ok (.getfield 56, 3) := by decide +kernel
theorem dX8_gatherCans_13 : decode cX8_gatherCans 13 = .ok (.invokevirtual 62, 3) := by decide +kernel
theorem dX8_gatherCans_16 : decode cX8_gatherCans 16 = .ok (.iconst 0, 1) := by decide +kernel
theorem dX8_gatherCans_17 : decode cX8_gatherCans 17 = .ok (.istore_n 3, 1) := by decide +kernel
theorem dX8_gatherCans_18 : decode cX8_gatherCans 18 = .ok (.iload_n 3, 1) := by decide +kernel
theorem dX8_gatherCans_19 : decode cX8_gatherCans 19 = .ok (.aload_n 1, 1) := by decide +kernel
theorem dX8_gatherCans_20 : decode cX8_gatherCans 20 = .ok (.getfield 66, 3) := by decide +kernel
theorem dX8_gatherCans_23 : decode cX8_gatherCans 23 = .ok (.if_icmp .ge 97, 3) := by decide +kernel
theorem dX8_gatherCans_26 : decode cX8_gatherCans 26 = .ok (.aload_n 1, 1) := by decide +kernel
theorem dX8_gatherCans_27 : decode cX8_gatherCans 27 = .ok (.getfield 69, 3) := by decide +kernel
theorem dX8_gatherCans_30 : decode cX8_gatherCans 30 = .ok (.iload_n 3, 1) := by decide +kernel
theorem dX8_gatherCans_31 : decode cX8_gatherCans 31 = .ok (.iaload, 1) := by decide +kernel
theorem dX8_gatherCans_32 : decode cX8_gatherCans 32 = .ok (.istore 4, 2) := by decide +kernel
theorem dX8_gatherCans_34 : decode cX8_gatherCans 34 = .ok (.aload_n 1, 1) := by decide +kernel
theorem dX8_gatherCans_35 : decode cX8_gatherCans 35 = .ok (.iload 4, 2) := by decide +kernel
theorem dX8_gatherCans_37 : decode cX8_gatherCans 37 = .ok (.aload_n 2, 1) := by decide +kernel
theorem dX8_gatherCans_38 : decode cX8_gatherCans 38 = .ok (.invokevirtual 70, 3) := by decide +kernel
theorem dX8_gatherCans_41 : decode cX8_gatherCans 41 = .ok (.ifCond .eq 15, 3) := by decide +kernel
theorem dX8_gatherCans_44 : decode cX8_gatherCans 44 = .ok (.aload_n 0, 1) := by decide +kernel
theorem dX8_gatherCans_45 : decode cX8_gatherCans 45 = .ok (.getfield 12, 3) := by decide +kernel
theorem dX8_gatherCans_48 : decode cX8_gatherCans 48 = .ok (.iload 4, 2) := by decide +kernel
theorem dX8_gatherCans_50 : decode cX8_gatherCans 50 = .ok (.invokevirtual 74, 3) := by decide +kernel
theorem dX8_gatherCans_53 : decode cX8_gatherCans 53 = .ok (.goto 61, 3) := by decide +kernel
theorem dX8_gatherCans_56 : decode cX8_gatherCans 56 = .ok (.aload_n 0, 1) := by decide +kernel
theorem dX8_gatherCans_57 : decode cX8_gatherCans 57 = .ok (.getfield 31, 3) := by decide +kernel
theorem dX8_gatherCans_60 : decode cX8_gatherCans 60 = .ok (.bipush 12, 2) := by decide +kernel
theorem dX8_gatherCans_62 : decode cX8_gatherCans 62 = .ok (.if_icmp .lt 5, 3) := by decide +kernel
theorem dX8_gatherCans_65 : decode cX8_gatherCans 65 = .ok (.iconst 0, 1) := by decide +kernel
theorem dX8_gatherCans_66 : decode cX8_gatherCans 66 = .ok (.ireturn, 1) := by decide +kernel
theorem dX8_gatherCans_67 : decode cX8_gatherCans 67 = .ok (.aload_n 0, 1) := by decide +kernel
theorem dX8_gatherCans_68 : decode cX8_gatherCans 68 = .ok (.getfield 22, 3) := by decide +kernel
theorem dX8_gatherCans_71 : decode cX8_gatherCans 71 = .ok (.aload_n 0, 1) := by decide +kernel
theorem dX8_gatherCans_72 : decode cX8_gatherCans 72 = .ok (.getfield 31, 3) := by decide +kernel
theorem dX8_gatherCans_75 : decode cX8_gatherCans 75 = .ok (.iload_n 3, 1) := by decide +kernel
theorem dX8_gatherCans_76 : decode cX8_gatherCans 76 = .ok (.iastore, 1) := by decide +kernel
theorem dX8_gatherCans_77 : decode cX8_gatherCans 77 = .ok (.aload_n 0, 1) := by decide +kernel
theorem dX8_gatherCans_78 : decode cX8_gatherCans 78 = .ok (.getfield 25, 3) := by decide +kernel
theorem dX8_gatherCans_81 : decode cX8_gatherCans 81 = .ok (.aload_n 0, 1) := by decide +kernel
theorem dX8_gatherCans_82 : decode cX8_gatherCans 82 = .ok (.getfield 31, 3) := by decide +kernel
theorem dX8_gatherCans_85 : decode cX8_gatherCans 85 = .ok (.iload 4, 2) := by decide +kernel
theorem dX8_gatherCans_87 : decode cX8_gatherCans 87 = .ok (.iastore, 1) := by decide +kernel
theorem dX8_gatherCans_88 : decode cX8_gatherCans 88 = .ok (.aload_n 0, 1) := by decide +kernel
theorem dX8_gatherCans_89 : decode cX8_gatherCans 89 = .ok (.getfield 28, 3) := by decide +kernel
theorem dX8_gatherCans_92 : decode cX8_gatherCans 92 = .ok (.aload_n 0, 1) := by decide +kernel
theorem dX8_gatherCans_93 : decode cX8_gatherCans 93 = .ok (.getfield 31, 3) := by decide +kernel
theorem dX8_gatherCans_96 : decode cX8_gatherCans 96 = .ok (.aload_n 1, 1) := by decide +kernel
theorem dX8_gatherCans_97 : decode cX8_gatherCans 97 = .ok (.iload 4, 2) := by decide +kernel
theorem dX8_gatherCans_99 : decode cX8_gatherCans 99 = .ok (.iconst 1, 1) := by decide +kernel
theorem dX8_gatherCans_100 : decode cX8_gatherCans 100 = .ok (.invokevirtual 77, 3) := by decide +kernel
theorem dX8_gatherCans_103 : decode cX8_gatherCans 103 = .ok (.iastore, 1) := by decide +kernel
theorem dX8_gatherCans_104 : decode cX8_gatherCans 104 = .ok (.aload_n 0, 1) := by decide +kernel
theorem dX8_gatherCans_105 : decode cX8_gatherCans 105 = .ok (.dup, 1) := by decide +kernel
theorem dX8_gatherCans_106 : decode cX8_gatherCans 106 = .ok (.getfield 31, 3) := by decide +kernel
theorem dX8_gatherCans_109 : decode cX8_gatherCans 109 = .ok (.iconst 1, 1) := by decide +kernel
theorem dX8_gatherCans_110 : decode cX8_gatherCans 110 = .ok (.iadd, 1) := by decide +kernel
theorem dX8_gatherCans_111 : decode cX8_gatherCans 111 = .ok (.putfield 31, 3) := by decide +kernel
theorem dX8_gatherCans_114 : decode cX8_gatherCans 114 = .ok (.iinc 3 1, 3) := by decide +kernel
theorem dX8_gatherCans_117 : decode cX8_gatherCans 117 = .ok (.goto (-99), 3) := by decide +kernel
theorem dX8_gatherCans_120 : decode cX8_gatherCans 120 = .ok (.aload_n 0, 1) := by decide +kernel
theorem dX8_gatherCans_121 : decode cX8_gatherCans 121 = .ok (.getfield 12, 3) := by decide +kernel
theorem dX8_gatherCans_124 : decode cX8_gatherCans 124 = .ok (.getfield 81, 3) := by decide +kernel
theorem dX8_gatherCans_127 : decode cX8_gatherCans 127 = .ok (.iconst 0, 1) := by decide +kernel
theorem dX8_gatherCans_128 : decode cX8_gatherCans 128 = .ok (.aload_n 0, 1) := by decide +kernel
theorem dX8_gatherCans_129 : decode cX8_gatherCans 129 = .ok (.getfield 18, 3) := by decide +kernel
theorem dX8_gatherCans_132 : decode cX8_gatherCans 132 = .ok (.iconst 0, 1) := by decide +kernel
theorem dX8_gatherCans_133 : decode cX8_gatherCans 133 = .ok (.bipush 8, 2) := by decide +kernel
theorem dX8_gatherCans_135 : decode cX8_gatherCans 135 = .ok (.invokestatic 84, 3) := by decide +kernel
theorem dX8_gatherCans_138 : decode cX8_gatherCans 138 = .ok (.iconst 1, 1) := by decide +kernel
theorem dX8_gatherCans_139 : decode cX8_gatherCans 139 = .ok (.ireturn, 1) := by decide +kernel
theorem dX8_tollOf_0 : decode cX8_tollOf 0 = .ok (.iconst 0, 1) := by decide +kernel
theorem dX8_tollOf_1 : decode cX8_tollOf 1 = .ok (.istore_n 2, 1) := by decide +kernel
theorem dX8_tollOf_2 : decode cX8_tollOf 2 = .ok (.iconst 0, 1) := by decide +kernel
theorem dX8_tollOf_3 : decode cX8_tollOf 3 = .ok (.istore_n 3, 1) := by decide +kernel
theorem dX8_tollOf_4 : decode cX8_tollOf 4 = .ok (.iload_n 3, 1) := by decide +kernel
theorem dX8_tollOf_5 : decode cX8_tollOf 5 = .ok (.aload_n 0, 1) := by decide +kernel
theorem dX8_tollOf_6 : decode cX8_tollOf 6 = .ok (.getfield 31, 3) := by decide +kernel
theorem dX8_tollOf_9 : decode cX8_tollOf 9 = .ok (.if_icmp .ge 27, 3) := by decide +kernel
theorem dX8_tollOf_12 : decode cX8_tollOf 12 = .ok (.iload_n 1, 1) := by decide +kernel
theorem dX8_tollOf_13 : decode cX8_tollOf 13 = .ok (.iload_n 3, 1) := by decide +kernel
theorem dX8_tollOf_14 : decode cX8_tollOf 14 = .ok (.ishr, 1) := by decide +kernel
theorem dX8_tollOf_15 : decode cX8_tollOf 15 = .ok (.iconst 1, 1) := by decide +kernel
theorem dX8_tollOf_16 : decode cX8_tollOf 16 = .ok (.iand, 1) := by decide +kernel
theorem dX8_tollOf_17 : decode cX8_tollOf 17 = .ok (.iconst 1, 1) := by decide +kernel
theorem dX8_tollOf_18 : decode cX8_tollOf 18 = .ok (.if_icmp .ne 12, 3) := by decide +kernel
theorem dX8_tollOf_21 : decode cX8_tollOf 21 = .ok (.iload_n 2, 1) := by decide +kernel
theorem dX8_tollOf_22 : decode cX8_tollOf 22 = .ok (.aload_n 0, 1) := by decide +kernel
theorem dX8_tollOf_23 : decode cX8_tollOf 23 = .ok (.getfield 28, 3) := by decide +kernel
theorem dX8_tollOf_26 : decode cX8_tollOf 26 = .ok (.iload_n 3, 1) := by decide +kernel
theorem dX8_tollOf_27 : decode cX8_tollOf 27 = .ok (.iaload, 1) := by decide +kernel
theorem dX8_tollOf_28 : decode cX8_tollOf 28 = .ok (.iadd, 1) := by decide +kernel
theorem dX8_tollOf_29 : decode cX8_tollOf 29 = .ok (.istore_n 2, 1) := by decide +kernel
theorem dX8_tollOf_30 : decode cX8_tollOf 30 = .ok (.iinc 3 1, 3) := by decide +kernel
theorem dX8_tollOf_33 : decode cX8_tollOf 33 = .ok (.goto (-29), 3) := by decide +kernel
theorem dX8_tollOf_36 : decode cX8_tollOf 36 = .ok (.iload_n 2, 1) := by decide +kernel
theorem dX8_tollOf_37 : decode cX8_tollOf 37 = .ok (.ireturn, 1) := by decide +kernel
theorem dX8_widestWithout_0 : decode cX8_widestWithout 0 = .ok (.aload_n 0, 1) := by decide +kernel
theorem dX8_widestWithout_1 : decode cX8_widestWithout 1 = .ok (.getfield 18, 3) := by decide +kernel
theorem dX8_widestWithout_4 : decode cX8_widestWithout 4 = .ok (.iconst 0, 1) := by decide +kernel
theorem dX8_widestWithout_5 : decode cX8_widestWithout 5 = .ok (.aload_n 0, 1) := by decide +kernel
theorem dX8_widestWithout_6 : decode cX8_widestWithout 6 = .ok (.getfield 12, 3) := by decide +kernel
theorem dX8_widestWithout_9 : decode cX8_widestWithout 9 = .ok (.getfield 81, 3) := by decide +kernel
theorem dX8_widestWithout_12 : decode cX8_widestWithout 12 = .ok (.iconst 0, 1) := by decide +kernel
theorem dX8_widestWithout_13 : decode cX8_widestWithout 13 = .ok (.bipush 8, 2) := by decide +kernel
theorem dX8_widestWithout_15 : decode cX8_widestWithout 15 = .ok (.invokestatic 84, 3) := by decide +kernel
theorem dX8_widestWithout_18 : decode cX8_widestWithout 18 = .ok (.iconst 0, 1) := by decide +kernel
theorem dX8_widestWithout_19 : decode cX8_widestWithout 19 = .ok (.istore_n 2, 1) := by decide +kernel
theorem dX8_widestWithout_20 : decode cX8_widestWithout 20 = .ok (.iload_n 2, 1) := by decide +kernel
theorem dX8_widestWithout_21 : decode cX8_widestWithout 21 = .ok (.aload_n 0, 1) := by decide +kernel
theorem dX8_widestWithout_22 : decode cX8_widestWithout 22 = .ok (.getfield 31, 3) := by decide +kernel
theorem dX8_widestWithout_25 : decode cX8_widestWithout 25 = .ok (.if_icmp .ge 30, 3) := by decide +kernel
theorem dX8_widestWithout_28 : decode cX8_widestWithout 28 = .ok (.iload_n 1, 1) := by decide +kernel
theorem dX8_widestWithout_29 : decode cX8_widestWithout 29 = .ok (.iload_n 2, 1) := by decide +kernel
theorem dX8_widestWithout_30 : decode cX8_widestWithout 30 = .ok (.ishr, 1) := by decide +kernel
theorem dX8_widestWithout_31 : decode cX8_widestWithout 31 = .ok (.iconst 1, 1) := by decide +kernel
theorem dX8_widestWithout_32 : decode cX8_widestWithout 32 = .ok (.iand, 1) := by decide +kernel
theorem dX8_widestWithout_33 : decode cX8_widestWithout 33 = .ok (.ifCond .ne 16, 3) := by decide +kernel
theorem dX8_widestWithout_36 : decode cX8_widestWithout 36 = .ok (.aload_n 0, 1) := by decide +kernel
theorem dX8_widestWithout_37 : decode cX8_widestWithout 37 = .ok (.getfield 12, 3) := by decide +kernel
theorem dX8_widestWithout_40 : decode cX8_widestWithout 40 = .ok (.aload_n 0, 1) := by decide +kernel
theorem dX8_widestWithout_41 : decode cX8_widestWithout 41 = .ok (.getfield 25, 3) := by decide +kernel
theorem dX8_widestWithout_44 : decode cX8_widestWithout 44 = .ok (.iload_n 2, 1) := by decide +kernel
theorem dX8_widestWithout_45 : decode cX8_widestWithout 45 = .ok (.iaload, 1) := by decide +kernel
theorem dX8_widestWithout_46 : decode cX8_widestWithout 46 = .ok (.invokevirtual 74, 3) := by decide +kernel
theorem dX8_widestWithout_49 : decode cX8_widestWithout 49 = .ok (.iinc 2 1, 3) := by decide +kernel
theorem dX8_widestWithout_52 : decode cX8_widestWithout 52 = .ok (.goto (-32), 3) := by decide +kernel
theorem dX8_widestWithout_55 : decode cX8_widestWithout 55 = .ok (.aload_n 0, 1) := by decide +kernel
theorem dX8_widestWithout_56 : decode cX8_widestWithout 56 = .ok (.getfield 12, 3) := by decide +kernel
theorem dX8_widestWithout_59 : decode cX8_widestWithout 59 = .ok (.invokevirtual 90, 3) := by decide +kernel
theorem dX8_widestWithout_62 : decode cX8_widestWithout 62 = .ok (.aload_n 0, 1) := by decide +kernel
theorem dX8_widestWithout_63 : decode cX8_widestWithout 63 = .ok (.getfield 12, 3) := by decide +kernel
theorem dX8_widestWithout_66 : decode cX8_widestWithout 66 = .ok (.invokevirtual 93, 3) := by decide +kernel
theorem dX8_widestWithout_69 : decode cX8_widestWithout 69 = .ok (.ireturn, 1) := by decide +kernel
theorem dX8_choose_0 : decode cX8_choose 0 = .ok (.aload_n 0, 1) := by decide +kernel
theorem dX8_choose_1 : decode cX8_choose 1 = .ok (.iconst 0, 1) := by decide +kernel
theorem dX8_choose_2 : decode cX8_choose 2 = .ok (.putfield 38, 3) := by decide +kernel
theorem dX8_choose_5 : decode cX8_choose 5 = .ok (.iconst 0, 1) := by decide +kernel
theorem dX8_choose_6 : decode cX8_choose 6 = .ok (.istore_n 2, 1) := by decide +kernel
theorem dX8_choose_7 : decode cX8_choose 7 = .ok (.iload_n 2, 1) := by decide +kernel
theorem dX8_choose_8 : decode cX8_choose 8 = .ok (.aload_n 0, 1) := by decide +kernel
theorem dX8_choose_9 : decode cX8_choose 9 = .ok (.getfield 31, 3) := by decide +kernel
theorem dX8_choose_12 : decode cX8_choose 12 = .ok (.if_icmp .ge 43, 3) := by decide +kernel
theorem dX8_choose_15 : decode cX8_choose 15 = .ok (.iload_n 1, 1) := by decide +kernel
theorem dX8_choose_16 : decode cX8_choose 16 = .ok (.iload_n 2, 1) := by decide +kernel
theorem dX8_choose_17 : decode cX8_choose 17 = .ok (.ishr, 1) := by decide +kernel
theorem dX8_choose_18 : decode cX8_choose 18 = .ok (.iconst 1, 1) := by decide +kernel
theorem dX8_choose_19 : decode cX8_choose 19 = .ok (.iand, 1) := by decide +kernel
theorem dX8_choose_20 : decode cX8_choose 20 = .ok (.iconst 1, 1) := by decide +kernel
theorem dX8_choose_21 : decode cX8_choose 21 = .ok (.if_icmp .ne 28, 3) := by decide +kernel
theorem dX8_choose_24 : decode cX8_choose 24 = .ok (.aload_n 0, 1) := by decide +kernel
theorem dX8_choose_25 : decode cX8_choose 25 = .ok (.getfield 35, 3) := by decide +kernel
theorem dX8_choose_28 : decode cX8_choose 28 = .ok (.aload_n 0, 1) := by decide +kernel
theorem dX8_choose_29 : decode cX8_choose 29 = .ok (.getfield 38, 3) := by decide +kernel
theorem dX8_choose_32 : decode cX8_choose 32 = .ok (.aload_n 0, 1) := by decide +kernel
theorem dX8_choose_33 : decode cX8_choose 33 = .ok (.getfield 22, 3) := by decide +kernel
theorem dX8_choose_36 : decode cX8_choose 36 = .ok (.iload_n 2, 1) := by decide +kernel
theorem dX8_choose_37 : decode cX8_choose 37 = .ok (.iaload, 1) := by decide +kernel
theorem dX8_choose_38 : decode cX8_choose 38 = .ok (.iastore, 1) := by decide +kernel
theorem dX8_choose_39 : decode cX8_choose 39 = .ok (.aload_n 0, 1) := by decide +kernel
theorem dX8_choose_40 : decode cX8_choose 40 = .ok (.dup, 1) := by decide +kernel
theorem dX8_choose_41 : decode cX8_choose 41 = .ok (.getfield 38, 3) := by decide +kernel
theorem dX8_choose_44 : decode cX8_choose 44 = .ok (.iconst 1, 1) := by decide +kernel
theorem dX8_choose_45 : decode cX8_choose 45 = .ok (.iadd, 1) := by decide +kernel
theorem dX8_choose_46 : decode cX8_choose 46 = .ok (.putfield 38, 3) := by decide +kernel
theorem dX8_choose_49 : decode cX8_choose 49 = .ok (.iinc 2 1, 3) := by decide +kernel
theorem dX8_choose_52 : decode cX8_choose 52 = .ok (.goto (-45), 3) := by decide +kernel
theorem dX8_choose_55 : decode cX8_choose 55 = .ok (.return_, 1) := by decide +kernel
theorem dX9_init_0 : decode cX9_init 0 = .ok (.aload_n 0, 1) := by decide +kernel
theorem dX9_init_1 : decode cX9_init 1 = .ok (.invokespecial 3, 3) := by decide +kernel
theorem dX9_init_4 : decode cX9_init 4 = .ok (.aload_n 0, 1) := by decide +kernel
theorem dX9_init_5 : decode cX9_init 5 = .ok (.bipush 8, 2) := by decide +kernel
theorem dX9_init_7 : decode cX9_init 7 = .ok (.newarray .int, 2) := by decide +kernel
theorem dX9_init_9 : decode cX9_init 9 = .ok (.putfield 9, 3) := by decide +kernel
theorem dX9_init_12 : decode cX9_init 12 = .ok (.aload_n 0, 1) := by decide +kernel
theorem dX9_init_13 : decode cX9_init 13 = .ok (.bipush 8, 2) := by decide +kernel
theorem dX9_init_15 : decode cX9_init 15 = .ok (.newarray .int, 2) := by decide +kernel
theorem dX9_init_17 : decode cX9_init 17 = .ok (.putfield 15, 3) := by decide +kernel
theorem dX9_init_20 : decode cX9_init 20 = .ok (.aload_n 0, 1) := by decide +kernel
theorem dX9_init_21 : decode cX9_init 21 = .ok (.iconst 0, 1) := by decide +kernel
theorem dX9_init_22 : decode cX9_init 22 = .ok (.putfield 18, 3) := by decide +kernel
theorem dX9_init_25 : decode cX9_init 25 = .ok (.return_, 1) := by decide +kernel
theorem dX9_follow_0 : decode cX9_follow 0 = .ok (.aload_n 0, 1) := by decide +kernel
theorem dX9_follow_1 : decode cX9_follow 1 = .ok (.aload_n 1, 1) := by decide +kernel
theorem dX9_follow_2 : decode cX9_follow 2 = .ok (.getfield 22, 3) := by decide +kernel
theorem dX9_follow_5 : decode cX9_follow 5 = .ok (.invokevirtual 28, 3) := by decide +kernel
theorem dX9_follow_8 : decode cX9_follow 8 = .ok (.iconst 0, 1) := by decide +kernel
theorem dX9_follow_9 : decode cX9_follow 9 = .ok (.istore_n 2, 1) := by decide +kernel
theorem dX9_follow_10 : decode cX9_follow 10 = .ok (.iload_n 2, 1) := by decide +kernel
theorem dX9_follow_11 : decode cX9_follow 11 = .ok (.aload_n 1, 1) := by decide +kernel
theorem dX9_follow_12 : decode cX9_follow 12 = .ok (.getfield 32, 3) := by decide +kernel
theorem dX9_follow_15 : decode cX9_follow 15 = .ok (.if_icmp .ge 19, 3) := by decide +kernel
theorem dX9_follow_18 : decode cX9_follow 18 = .ok (.aload_n 0, 1) := by decide +kernel
theorem dX9_follow_19 : decode cX9_follow 19 = .ok (.aload_n 1, 1) := by decide +kernel
theorem dX9_follow_20 : decode cX9_follow 20 = .ok (.getfield 35, 3) := by decide +kernel
theorem dX9_follow_23 : decode cX9_follow 23 = .ok (.iload_n 2, 1) := by decide +kernel
theorem dX9_follow_24 : decode cX9_follow 24 = .ok (.iaload, 1) := by decide +kernel
theorem dX9_follow_25 : decode cX9_follow 25 = .ok (.invokevirtual 38, 3) := by decide +kernel
theorem dX9_follow_28 : decode cX9_follow 28 = .ok (.iinc 2 1, 3) := by decide +kernel
theorem dX9_follow_31 : decode cX9_follow 31 = .ok (.goto (-21), 3) := by decide +kernel
theorem dX9_follow_34 : decode cX9_follow 34 = .ok (.aload_n 0, 1) := by decide +kernel
theorem dX9_follow_35 : decode cX9_follow 35 = .ok (.invokevirtual 42, 3) := by decide +kernel
theorem dX9_follow_38 : decode cX9_follow 38 = .ok (.return_, 1) := by decide +kernel
theorem dX9_begin_0 : decode cX9_begin 0 = .ok (.aload_n 0, 1) := by decide +kernel
theorem dX9_begin_1 : decode cX9_begin 1 = .ok (.aload_n 1, 1) := by decide +kernel
theorem dX9_begin_2 : decode cX9_begin 2 = .ok (.invokevirtual 45, 3) := by decide +kernel
theorem dX9_begin_5 : decode cX9_begin 5 = .ok (.putfield 18, 3) := by decide +kernel
theorem dX9_begin_8 : decode cX9_begin 8 = .ok (.iconst 0, 1) := by decide +kernel
theorem dX9_begin_9 : decode cX9_begin 9 = .ok (.istore_n 2, 1) := by decide +kernel
theorem dX9_begin_10 : decode cX9_begin 10 = .ok (.iload_n 2, 1) := by decide +kernel
theorem dX9_begin_11 : decode cX9_begin 11 = .ok (.bipush 8, 2) := by decide +kernel
theorem dX9_begin_13 : decode cX9_begin 13 = .ok (.if_icmp .ge 25, 3) := by decide +kernel
theorem dX9_begin_16 : decode cX9_begin 16 = .ok (.aload_n 0, 1) := by decide +kernel
theorem dX9_begin_17 : decode cX9_begin 17 = .ok (.getfield 9, 3) := by decide +kernel
theorem dX9_begin_20 : decode cX9_begin 20 = .ok (.iload_n 2, 1) := by decide +kernel
theorem dX9_begin_21 : decode cX9_begin 21 = .ok (.iconst 0, 1) := by decide +kernel
theorem dX9_begin_22 : decode cX9_begin 22 = .ok (.iastore, 1) := by decide +kernel
theorem dX9_begin_23 : decode cX9_begin 23 = .ok (.aload_n 0, 1) := by decide +kernel
theorem dX9_begin_24 : decode cX9_begin 24 = .ok (.getfield 15, 3) := by decide +kernel
theorem dX9_begin_27 : decode cX9_begin 27 = .ok (.iload_n 2, 1) := by decide +kernel
theorem dX9_begin_28 : decode cX9_begin 28 = .ok (.iconst 1, 1) := by decide +kernel
theorem dX9_begin_29 : decode cX9_begin 29 = .ok (.iload_n 2, 1) := by decide +kernel
theorem dX9_begin_30 : decode cX9_begin 30 = .ok (.ishl, 1) := by decide +kernel
theorem dX9_begin_31 : decode cX9_begin 31 = .ok (.iastore, 1) := by decide +kernel
theorem dX9_begin_32 : decode cX9_begin 32 = .ok (.iinc 2 1, 3) := by decide +kernel
theorem dX9_begin_35 : decode cX9_begin 35 = .ok (.goto (-25), 3) := by decide +kernel
theorem dX9_begin_38 : decode cX9_begin 38 = .ok (.iconst 0, 1) := by decide +kernel
theorem dX9_begin_39 : decode cX9_begin 39 = .ok (.istore_n 2, 1) := by decide +kernel
theorem dX9_begin_40 : decode cX9_begin 40 = .ok (.iload_n 2, 1) := by decide +kernel
theorem dX9_begin_41 : decode cX9_begin 41 = .ok (.bipush 8, 2) := by decide +kernel
theorem dX9_begin_43 : decode cX9_begin 43 = .ok (.if_icmp .ge 34, 3) := by decide +kernel
theorem dX9_begin_46 : decode cX9_begin 46 = .ok (.aload_n 1, 1) := by decide +kernel
theorem dX9_begin_47 : decode cX9_begin 47 = .ok (.getfield 51, 3) := by decide +kernel
theorem dX9_begin_50 : decode cX9_begin 50 = .ok (.iload_n 2, 1) := by decide +kernel
theorem dX9_begin_51 : decode cX9_begin 51 = .ok (.iaload, 1) := by decide +kernel
theorem dX9_begin_52 : decode cX9_begin 52 = .ok (.iconst (-1), 1) := by decide +kernel
theorem dX9_begin_53 : decode cX9_begin 53 = .ok (.if_icmp .eq 18, 3) := by decide +kernel
theorem dX9_begin_56 : decode cX9_begin 56 = .ok (.aload_n 0, 1) := by decide +kernel
theorem dX9_begin_57 : decode cX9_begin 57 = .ok (.getfield 9, 3) := by decide +kernel
theorem dX9_begin_60 : decode cX9_begin 60 = .ok (.aload_n 1, 1) := by decide +kernel
theorem dX9_begin_61 : decode cX9_begin 61 = .ok (.getfield 51, 3) := by decide +kernel
theorem dX9_begin_64 : decode cX9_begin 64 = .ok (.iload_n 2, 1) := by decide +kernel
theorem dX9_begin_65 : decode cX9_begin 65 = .ok (.iaload, 1) := by decide +kernel
theorem dX9_begin_66 : decode cX9_begin 66 = .ok (.dup2, 1) := by decide +kernel
theorem dX9_begin_67 : decode cX9_begin 67 = .ok (.iaload, 1) := by decide +kernel
theorem dX9_begin_68 : decode cX9_begin 68 = .ok (.iconst 1, 1) := by decide +kernel
theorem dX9_begin_69 : decode cX9_begin 69 = .ok (.iadd, 1) := by decide +kernel
theorem dX9_begin_70 : decode cX9_begin 70 = .ok (.iastore, 1) := by decide +kernel
theorem dX9_begin_71 : decode cX9_begin 71 = .ok (.iinc 2 1, 3) := by decide +kernel
theorem dX9_begin_74 : decode cX9_begin 74 = .ok (.goto (-34), 3) := by decide +kernel
theorem dX9_begin_77 : decode cX9_begin 77 = .ok (.return_, 1) := by decide +kernel
theorem dX9_addRule_0 : decode cX9_addRule 0 = .ok (.aload_n 0, 1) := by decide +kernel
theorem dX9_addRule_1 : decode cX9_addRule 1 = .ok (.getfield 15, 3) := by decide +kernel
theorem dX9_addRule_4 : decode cX9_addRule 4 = .ok (.iload_n 1, 1) := by decide +kernel
theorem dX9_addRule_5 : decode cX9_addRule 5 = .ok (.invokestatic 54, 3) := by decide +kernel
theorem dX9_addRule_8 : decode cX9_addRule 8 = .ok (.dup2, 1) := by decide +kernel
theorem dX9_addRule_9 : decode cX9_addRule 9 = .ok (.iaload, 1) := by decide +kernel
theorem dX9_addRule_10 : decode cX9_addRule 10 = .ok (.iconst 1, 1) := by decide +kernel
theorem dX9_addRule_11 : decode cX9_addRule 11 = .ok (.iload_n 1, 1) := by decide +kernel
theorem dX9_addRule_12 : decode cX9_addRule 12 = .ok (.invokestatic 58, 3) := by decide +kernel
theorem dX9_addRule_15 : decode cX9_addRule 15 = .ok (.ishl, 1) := by decide +kernel
theorem dX9_addRule_16 : decode cX9_addRule 16 = .ok (.ior, 1) := by decide +kernel
theorem dX9_addRule_17 : decode cX9_addRule 17 = .ok (.iastore, 1) := by decide +kernel
theorem dX9_addRule_18 : decode cX9_addRule 18 = .ok (.return_, 1) := by decide +kernel
theorem dX9_chain_0 : decode cX9_chain 0 = .ok (.iconst 0, 1) := by decide +kernel
theorem dX9_chain_1 : decode cX9_chain 1 = .ok (.istore_n 1, 1) := by decide +kernel
theorem dX9_chain_2 : decode cX9_chain 2 = .ok (.iload_n 1, 1) := by decide +kernel
theorem dX9_chain_3 : decode cX9_chain 3 = .ok (.aload_n 0, 1) := by decide +kernel
theorem dX9_chain_4 : decode cX9_chain 4 = .ok (.getfield 18, 3) := by decide +kernel
theorem dX9_chain_7 : decode cX9_chain 7 = .ok (.if_icmp .ge 54, 3) := by decide +kernel
theorem dX9_chain_10 : decode cX9_chain 10 = .ok (.iconst 0, 1) := by decide +kernel
theorem dX9_chain_11 : decode cX9_chain 11 = .ok (.istore_n 2, 1) := by decide +kernel
theorem dX9_chain_12 : decode cX9_chain 12 = .ok (.iload_n 2, 1) := by decide +kernel
theorem dX9_chain_13 : decode cX9_chain 13 = .ok (.aload_n 0, 1) := by decide +kernel
theorem dX9_chain_14 : decode cX9_chain 14 = .ok (.getfield 18, 3) := by decide +kernel
theorem dX9_chain_17 : decode cX9_chain 17 = .ok (.if_icmp .ge 38, 3) := by decide +kernel
theorem dX9_chain_20 : decode cX9_chain 20 = .ok (.aload_n 0, 1) := by decide +kernel
theorem dX9_chain_21 : decode cX9_chain 21 = .ok (.getfield 15, 3) := by decide +kernel
theorem dX9_chain_24 : decode cX9_chain 24 = .ok (.iload_n 2, 1) := by decide +kernel
theorem dX9_chain_25 : decode cX9_chain 25 = .ok (.iaload, 1) := by decide +kernel
theorem dX9_chain_26 : decode cX9_chain 26 = .ok (.iload_n 1, 1) := by decide +kernel
theorem dX9_chain_27 : decode cX9_chain 27 = .ok (.ishr, 1) := by decide +kernel
theorem dX9_chain_28 : decode cX9_chain 28 = .ok (.iconst 1, 1) := by decide +kernel
theorem dX9_chain_29 : decode cX9_chain 29 = .ok (.iand, 1) := by decide +kernel
theorem dX9_chain_30 : decode cX9_chain 30 = .ok (.iconst 1, 1) := by decide +kernel
theorem dX9_chain_31 : decode cX9_chain 31 = .ok (.if_icmp .ne 18, 3) := by decide +kernel
theorem dX9_chain_34 : decode cX9_chain 34 = .ok (.aload_n 0, 1) := by decide +kernel
theorem dX9_chain_35 : decode cX9_chain 35 = .ok (.getfield 15, 3) := by decide +kernel
theorem dX9_chain_38 : decode cX9_chain 38 = .ok (.iload_n 2, 1) := by decide +kernel
theorem dX9_chain_39 : decode cX9_chain 39 = .ok (.dup2, 1) := by decide +kernel
theorem dX9_chain_40 : decode cX9_chain 40 = .ok (.iaload, 1) := by decide +kernel
theorem dX9_chain_41 : decode cX9_chain 41 = .ok (.aload_n 0, 1) := by decide +kernel
theorem dX9_chain_42 : decode cX9_chain 42 = .ok (.getfield 15, 3) := by decide +kernel
theorem dX9_chain_45 : decode cX9_chain 45 = .ok (.iload_n 1, 1) := by decide +kernel
theorem dX9_chain_46 : decode cX9_chain 46 = .ok (.iaload, 1) := by decide +kernel
theorem dX9_chain_47 : decode cX9_chain 47 = .ok (.ior, 1) := by decide +kernel
theorem dX9_chain_48 : decode cX9_chain 48 = .ok (.iastore, 1) := by decide +kernel
theorem dX9_chain_49 : decode cX9_chain 49 = .ok (.iinc 2 1, 3) := by decide +kernel
theorem dX9_chain_52 : decode cX9_chain 52 = .ok (.goto (-40), 3) := by decide +kernel
theorem dX9_chain_55 : decode cX9_chain 55 = .ok (.iinc 1 1, 3) := by decide +kernel
theorem dX9_chain_58 : decode cX9_chain 58 = .ok (.goto (-56), 3) := by decide +kernel
theorem dX9_chain_61 : decode cX9_chain 61 = .ok (.return_, 1) := by decide +kernel
theorem dX9_othersFrom_0 : decode cX9_othersFrom 0 = .ok (.iconst 0, 1) := by decide +kernel
theorem dX9_othersFrom_1 : decode cX9_othersFrom 1 = .ok (.istore_n 2, 1) := by decide +kernel
theorem dX9_othersFrom_2 : decode cX9_othersFrom 2 = .ok (.iconst 0, 1) := by decide +kernel
theorem dX9_othersFrom_3 : decode cX9_othersFrom 3 = .ok (.istore_n 3, 1) := by decide +kernel
theorem dX9_othersFrom_4 : decode cX9_othersFrom 4 = .ok (.iload_n 3, 1) := by decide +kernel
theorem dX9_othersFrom_5 : decode cX9_othersFrom 5 = .ok (.aload_n 0, 1) := by decide +kernel
theorem dX9_othersFrom_6 : decode cX9_othersFrom 6 = .ok (.getfield 18, 3) := by decide +kernel
theorem dX9_othersFrom_9 : decode cX9_othersFrom 9 = .ok (.if_icmp .ge 32, 3) := by decide +kernel
theorem dX9_othersFrom_12 : decode cX9_othersFrom 12 = .ok (.aload_n 0, 1) := by decide +kernel
theorem dX9_othersFrom_13 : decode cX9_othersFrom 13 = .ok (.getfield 15, 3) := by decide +kernel
theorem dX9_othersFrom_16 : decode cX9_othersFrom 16 = .ok (.iload_n 1, 1) := by decide +kernel
theorem dX9_othersFrom_17 : decode cX9_othersFrom 17 = .ok (.iaload, 1) := by decide +kernel
theorem dX9_othersFrom_18 : decode cX9_othersFrom 18 = .ok (.iload_n 3, 1) := by decide +kernel
theorem dX9_othersFrom_19 : decode cX9_othersFrom 19 = .ok (.ishr, 1) := by decide +kernel
theorem dX9_othersFrom_20 : decode cX9_othersFrom 20 = .ok (.iconst 1, 1) := by decide +kernel
theorem dX9_othersFrom_21 : decode cX9_othersFrom 21 = .ok (.iand, 1) := by decide +kernel
theorem dX9_othersFrom_22 : decode cX9_othersFrom 22 = .ok (.iconst 1, 1) := by decide +kernel
theorem dX9_othersFrom_23 : decode cX9_othersFrom 23 = .ok (.if_icmp .ne 12, 3) := by decide +kernel
theorem dX9_othersFrom_26 : decode cX9_othersFrom 26 = .ok (.iload_n 2, 1) := by decide +kernel
theorem dX9_othersFrom_27 : decode cX9_othersFrom 27 = .ok (.aload_n 0, 1) := by decide +kernel
theorem dX9_othersFrom_28 : decode cX9_othersFrom 28 = .ok (.getfield 9, 3) := by decide +kernel
theorem dX9_othersFrom_31 : decode cX9_othersFrom 31 = .ok (.iload_n 3, 1) := by decide +kernel
theorem dX9_othersFrom_32 : decode cX9_othersFrom 32 = .ok (.iaload, 1) := by decide +kernel
theorem dX9_othersFrom_33 : decode cX9_othersFrom 33 = .ok (.iadd, 1) := by decide +kernel
theorem dX9_othersFrom_34 : decode cX9_othersFrom 34 = .ok (.istore_n 2, 1) := by decide +kernel
theorem dX9_othersFrom_35 : decode cX9_othersFrom 35 = .ok (.iinc 3 1, 3) := by decide +kernel
theorem dX9_othersFrom_38 : decode cX9_othersFrom 38 = .ok (.goto (-34), 3) := by decide +kernel
theorem dX9_othersFrom_41 : decode cX9_othersFrom 41 = .ok (.iload_n 2, 1) := by decide +kernel
theorem dX9_othersFrom_42 : decode cX9_othersFrom 42 = .ok (.iconst 1, 1) := by decide +kernel
theorem dX9_othersFrom_43 : decode cX9_othersFrom 43 = .ok (.isub, 1) := by decide +kernel
theorem dX9_othersFrom_44 : decode cX9_othersFrom 44 = .ok (.ireturn, 1) := by decide +kernel
theorem dX9_widest_0 : decode cX9_widest 0 = .ok (.iconst (-1), 1) := by decide +kernel
theorem dX9_widest_1 : decode cX9_widest 1 = .ok (.istore_n 1, 1) := by decide +kernel
theorem dX9_widest_2 : decode cX9_widest 2 = .ok (.iconst 0, 1) := by decide +kernel
theorem dX9_widest_3 : decode cX9_widest 3 = .ok (.istore_n 2, 1) := by decide +kernel
theorem dX9_widest_4 : decode cX9_widest 4 = .ok (.iload_n 2, 1) := by decide +kernel
theorem dX9_widest_5 : decode cX9_widest 5 = .ok (.aload_n 0, 1) := by decide +kernel
theorem dX9_widest_6 : decode cX9_widest 6 = .ok (.getfield 18, 3) := by decide +kernel
theorem dX9_widest_9 : decode cX9_widest 9 = .ok (.if_icmp .ge 19, 3) := by decide +kernel
theorem dX9_widest_12 : decode cX9_widest 12 = .ok (.iload_n 1, 1) := by decide +kernel
theorem dX9_widest_13 : decode cX9_widest 13 = .ok (.aload_n 0, 1) := by decide +kernel
theorem dX9_widest_14 : decode cX9_widest 14 = .ok (.iload_n 2, 1) := by decide +kernel
theorem dX9_widest_15 : decode cX9_widest 15 = .ok (.invokevirtual 61, 3) := by decide +kernel
theorem dX9_widest_18 : decode cX9_widest 18 = .ok (.invokestatic 64, 3) := by decide +kernel
theorem dX9_widest_21 : decode cX9_widest 21 = .ok (.istore_n 1, 1) := by decide +kernel
theorem dX9_widest_22 : decode cX9_widest 22 = .ok (.iinc 2 1, 3) := by decide +kernel
theorem dX9_widest_25 : decode cX9_widest 25 = .ok (.goto (-21), 3) := by decide +kernel
theorem dX9_widest_28 : decode cX9_widest 28 = .ok (.iload_n 1, 1) := by decide +kernel
theorem dX9_widest_29 : decode cX9_widest 29 = .ok (.ireturn, 1) := by decide +kernel
theorem dX9_firstWith_0 : decode cX9_firstWith 0 = .ok (.iconst 0, 1) := by decide +kernel
theorem dX9_firstWith_1 : decode cX9_firstWith 1 = .ok (.istore_n 3, 1) := by decide +kernel
theorem dX9_firstWith_2 : decode cX9_firstWith 2 = .ok (.iload_n 3, 1) := by decide +kernel
theorem dX9_firstWith_3 : decode cX9_firstWith 3 = .ok (.bipush 8, 2) := by decide +kernel
theorem dX9_firstWith_5 : decode cX9_firstWith 5 = .ok (.if_icmp .ge 35, 3) := by decide +kernel
theorem dX9_firstWith_8 : decode cX9_firstWith 8 = .ok (.aload_n 2, 1) := by decide +kernel
theorem dX9_firstWith_9 : decode cX9_firstWith 9 = .ok (.getfield 51, 3) := by decide +kernel
theorem dX9_firstWith_12 : decode cX9_firstWith 12 = .ok (.iload_n 3, 1) := by decide +kernel
theorem dX9_firstWith_13 : decode cX9_firstWith 13 = .ok (.iaload, 1) := by decide +kernel
theorem dX9_firstWith_14 : decode cX9_firstWith 14 = .ok (.iconst (-1), 1) := by decide +kernel
theorem dX9_firstWith_15 : decode cX9_firstWith 15 = .ok (.if_icmp .eq 19, 3) := by decide +kernel
theorem dX9_firstWith_18 : decode cX9_firstWith 18 = .ok (.aload_n 0, 1) := by decide +kernel
theorem dX9_firstWith_19 : decode cX9_firstWith 19 = .ok (.aload_n 2, 1) := by decide +kernel
theorem dX9_firstWith_20 : decode cX9_firstWith 20 = .ok (.getfield 51, 3) := by decide +kernel
theorem dX9_firstWith_23 : decode cX9_firstWith 23 = .ok (.iload_n 3, 1) := by decide +kernel
theorem dX9_firstWith_24 : decode cX9_firstWith 24 = .ok (.iaload, 1) := by decide +kernel
theorem dX9_firstWith_25 : decode cX9_firstWith 25 = .ok (.invokevirtual 61, 3) := by decide +kernel
theorem dX9_firstWith_28 : decode cX9_firstWith 28 = .ok (.iload_n 1, 1) := by decide +kernel
theorem dX9_firstWith_29 : decode cX9_firstWith 29 = .ok (.if_icmp .ne 5, 3) := by decide +kernel
theorem dX9_firstWith_32 : decode cX9_firstWith 32 = .ok (.iload_n 3, 1) := by decide +kernel
theorem dX9_firstWith_33 : decode cX9_firstWith 33 = .ok (.ireturn, 1) := by decide +kernel
theorem dX9_firstWith_34 : decode cX9_firstWith 34 = .ok (.iinc 3 1, 3) := by decide +kernel
theorem dX9_firstWith_37 : decode cX9_firstWith 37 = .ok (.goto (-35), 3) := by decide +kernel
theorem dX9_firstWith_40 : decode cX9_firstWith 40 = .ok (.iconst (-1), 1) := by decide +kernel
theorem dX9_firstWith_41 : decode cX9_firstWith 41 = .ok (.ireturn, 1) := by decide +kernel
theorem dX10_init_0 : decode cX10_init 0 = .ok (.aload_n 0, 1) := by decide +kernel
theorem dX10_init_1 : decode cX10_init 1 = .ok (.invokespecial 1, 3) := by decide +kernel
theorem dX10_init_4 : decode cX10_init 4 = .ok (.aload_n 0, 1) := by decide +kernel
theorem dX10_init_5 : decode cX10_init 5 = .ok (.new 7, 3) := by decide +kernel
theorem dX10_init_8 : decode cX10_init 8 = .ok (.dup, 1) := by decide +kernel
theorem dX10_init_9 : decode cX10_init 9 = .ok (.invokespecial 9, 3) := by decide +kernel
theorem dX10_init_12 : decode cX10_init 12 = .ok (.putfield 10, 3) := by decide +kernel
theorem dX10_init_15 : decode cX10_init 15 = .ok (.aload_n 0, 1) := by decide +kernel
theorem dX10_init_16 : decode cX10_init 16 = .ok (.new 16, 3) := by decide +kernel
theorem dX10_init_19 : decode cX10_init 19 = .ok (.dup, 1) := by decide +kernel
theorem dX10_init_20 : decode cX10_init 20 = .ok (.invokespecial 18, 3) := by decide +kernel
theorem dX10_init_23 : decode cX10_init 23 = .ok (.putfield 19, 3) := by decide +kernel
theorem dX10_init_26 : decode cX10_init 26 = .ok (.aload_n 0, 1) := by decide +kernel
theorem dX10_init_27 : decode cX10_init 27 = .ok (.new 23, 3) := by decide +kernel
theorem dX10_init_30 : decode cX10_init 30 = .ok (.dup, 1) := by decide +kernel
theorem dX10_init_31 : decode cX10_init 31 = .ok (.invokespecial 25, 3) := by decide +kernel
theorem dX10_init_34 : decode cX10_init 34 = .ok (.putfield 26, 3) := by decide +kernel
theorem dX10_init_37 : decode cX10_init 37 = .ok (.aload_n 0, 1) := by decide +kernel
theorem dX10_init_38 : decode cX10_init 38 = .ok (.new 30, 3) := by decide +kernel
theorem dX10_init_41 : decode cX10_init 41 = .ok (.dup, 1) := by decide +kernel
theorem dX10_init_42 : decode cX10_init 42 = .ok (.invokespecial 32, 3) := by decide +kernel
theorem dX10_init_45 : decode cX10_init 45 = .ok (.putfield 33, 3) := by decide +kernel
theorem dX10_init_48 : decode cX10_init 48 = .ok (.aload_n 0, 1) := by decide +kernel
theorem dX10_init_49 : decode cX10_init 49 = .ok (.new 37, 3) := by decide +kernel
theorem dX10_init_52 : decode cX10_init 52 = .ok (.dup, 1) := by decide +kernel
theorem dX10_init_53 : decode cX10_init 53 = .ok (.invokespecial 39, 3) := by decide +kernel
theorem dX10_init_56 : decode cX10_init 56 = .ok (.putfield 40, 3) := by decide +kernel
theorem dX10_init_59 : decode cX10_init 59 = .ok (.aload_n 0, 1) := by decide +kernel
theorem dX10_init_60 : decode cX10_init 60 = .ok (.new 44, 3) := by decide +kernel
theorem dX10_init_63 : decode cX10_init 63 = .ok (.dup, 1) := by decide +kernel
theorem dX10_init_64 : decode cX10_init 64 = .ok (.invokespecial 46, 3) := by decide +kernel
theorem dX10_init_67 : decode cX10_init 67 = .ok (.putfield 47, 3) := by decide +kernel
theorem dX10_init_70 : decode cX10_init 70 = .ok (.aload_n 0, 1) := by decide +kernel
theorem dX10_init_71 : decode cX10_init 71 = .ok (.new 51, 3) := by decide +kernel
theorem dX10_init_74 : decode cX10_init 74 = .ok (.dup, 1) := by decide +kernel
theorem dX10_init_75 : decode cX10_init 75 = .ok (.invokespecial 53, 3) := by decide +kernel
theorem dX10_init_78 : decode cX10_init 78 = .ok (.putfield 54, 3) := by decide +kernel
theorem dX10_init_81 : decode cX10_init 81 = .ok (.aload_n 0, 1) := by decide +kernel
theorem dX10_init_82 : decode cX10_init 82 = .ok (.new 58, 3) := by decide +kernel
theorem dX10_init_85 : decode cX10_init 85 = .ok (.dup, 1) := by decide +kernel
theorem dX10_init_86 : decode cX10_init 86 = .ok (.invokespecial 60, 3) := by decide +kernel
theorem dX10_init_89 : decode cX10_init 89 = .ok (.putfield 61, 3) := by decide +kernel
theorem dX10_init_92 : decode cX10_init 92 = .ok (.aload_n 0, 1) := by decide +kernel
theorem dX10_init_93 : decode cX10_init 93 = .ok (.new 65, 3) := by decide +kernel
theorem dX10_init_96 : decode cX10_init 96 = .ok (.dup, 1) := by decide +kernel
theorem dX10_init_97 : decode cX10_init 97 = .ok (.invokespecial 67, 3) := by decide +kernel
theorem dX10_init_100 : decode cX10_init 100 = .ok (.putfield 68, 3) := by decide +kernel
theorem dX10_init_103 : decode cX10_init 103 = .ok (.return_, 1) := by decide +kernel
theorem dX10_host_0 : decode cX10_host 0 = .ok (.iload_n 1, 1) := by decide +kernel
theorem dX10_host_1 : decode cX10_host 1 = .ok (.iconst 0, 1) := by decide +kernel
theorem dX10_host_2 : decode cX10_host 2 = .ok (.iconst 3, 1) := by decide +kernel
theorem dX10_host_3 : decode cX10_host 3 = .ok (.invokestatic 72, 3) := by decide +kernel
theorem dX10_host_6 : decode cX10_host 6 = .ok (.ifCond .ne 5, 3) := by decide +kernel
theorem dX10_host_9 : decode cX10_host 9 = .ok (.iconst (-1), 1) := by decide +kernel
theorem dX10_host_10 : decode cX10_host 10 = .ok (.ireturn, 1) := by decide +kernel
theorem dX10_host_11 : decode cX10_host 11 = .ok (.aload_n 0, 1) := by decide +kernel
theorem dX10_host_12 : decode cX10_host 12 = .ok (.getfield 10, 3) := by decide +kernel
theorem dX10_host_15 : decode cX10_host 15 = .ok (.iload_n 1, 1) := by decide +kernel
theorem dX10_host_16 : decode cX10_host 16 = .ok (.invokevirtual 76, 3) := by decide +kernel
theorem dX10_host_19 : decode cX10_host 19 = .ok (.ireturn, 1) := by decide +kernel
theorem dX10_talk_0 : decode cX10_talk 0 = .ok (.aload_n 0, 1) := by decide +kernel
theorem dX10_talk_1 : decode cX10_talk 1 = .ok (.getfield 10, 3) := by decide +kernel
theorem dX10_talk_4 : decode cX10_talk 4 = .ok (.iload_n 1, 1) := by decide +kernel
theorem dX10_talk_5 : decode cX10_talk 5 = .ok (.iload_n 2, 1) := by decide +kernel
theorem dX10_talk_6 : decode cX10_talk 6 = .ok (.iload_n 3, 1) := by decide +kernel
theorem dX10_talk_7 : decode cX10_talk 7 = .ok (.invokevirtual 80, 3) := by decide +kernel
theorem dX10_talk_10 : decode cX10_talk 10 = .ok (.ifCond .eq 23, 3) := by decide +kernel
theorem dX10_talk_13 : decode cX10_talk 13 = .ok (.iload 4, 2) := by decide +kernel
theorem dX10_talk_15 : decode cX10_talk 15 = .ok (.invokestatic 83, 3) := by decide +kernel
theorem dX10_talk_18 : decode cX10_talk 18 = .ok (.ifCond .eq 15, 3) := by decide +kernel
theorem dX10_talk_21 : decode cX10_talk 21 = .ok (.iload 5, 2) := by decide +kernel
theorem dX10_talk_23 : decode cX10_talk 23 = .ok (.iconst 1, 1) := by decide +kernel
theorem dX10_talk_24 : decode cX10_talk 24 = .ok (.sipush 999, 3) := by decide +kernel
