theorem dX11_rule_25 : decode cX11_rule 25 = .ok (.istore 6, 2) := by decide +kernel
theorem dX11_rule_27 : decode cX11_rule 27 = .ok (.iload 6, 2) := by decide +kernel
theorem dX11_rule_29 : decode cX11_rule 29 = .ok (.sipush 256, 3) := by decide +kernel
theorem dX11_rule_32 : decode cX11_rule 32 = .ok (.if_icmp .ge 47, 3) := by decide +kernel
theorem dX11_rule_35 : decode cX11_rule 35 = .ok (.aload_n 0, 1) := by decide +kernel
theorem dX11_rule_36 : decode cX11_rule 36 = .ok (.getfield 51, 3) := by decide +kernel
theorem dX11_rule_39 : decode cX11_rule 39 = .ok (.iload 6, 2) := by decide +kernel
theorem dX11_rule_41 : decode cX11_rule 41 = .ok (.baload, 1) := by decide +kernel
theorem dX11_rule_42 : decode cX11_rule 42 = .ok (.ifCond .eq 31, 3) := by decide +kernel
theorem dX11_rule_45 : decode cX11_rule 45 = .ok (.aload_n 0, 1) := by decide +kernel
theorem dX11_rule_46 : decode cX11_rule 46 = .ok (.iload 6, 2) := by decide +kernel
theorem dX11_rule_48 : decode cX11_rule 48 = .ok (.iload_n 3, 1) := by decide +kernel
theorem dX11_rule_49 : decode cX11_rule 49 = .ok (.invokevirtual 167, 3) := by decide +kernel
theorem dX11_rule_52 : decode cX11_rule 52 = .ok (.ifCond .ne 6, 3) := by decide +kernel
theorem dX11_rule_55 : decode cX11_rule 55 = .ok (.goto 18, 3) := by decide +kernel
theorem dX11_rule_58 : decode cX11_rule 58 = .ok (.iinc 4 1, 3) := by decide +kernel
theorem dX11_rule_61 : decode cX11_rule 61 = .ok (.iload 5, 2) := by decide +kernel
theorem dX11_rule_63 : decode cX11_rule 63 = .ok (.aload_n 0, 1) := by decide +kernel
theorem dX11_rule_64 : decode cX11_rule 64 = .ok (.getfield 54, 3) := by decide +kernel
theorem dX11_rule_67 : decode cX11_rule 67 = .ok (.iload 6, 2) := by decide +kernel
theorem dX11_rule_69 : decode cX11_rule 69 = .ok (.iaload, 1) := by decide +kernel
theorem dX11_rule_70 : decode cX11_rule 70 = .ok (.iadd, 1) := by decide +kernel
theorem dX11_rule_71 : decode cX11_rule 71 = .ok (.istore 5, 2) := by decide +kernel
theorem dX11_rule_73 : decode cX11_rule 73 = .ok (.iinc 6 1, 3) := by decide +kernel
theorem dX11_rule_76 : decode cX11_rule 76 = .ok (.goto (-49), 3) := by decide +kernel
theorem dX11_rule_79 : decode cX11_rule 79 = .ok (.iload_n 2, 1) := by decide +kernel
theorem dX11_rule_80 : decode cX11_rule 80 = .ok (.tableswitch 76 0 5 #[40, 45, 52, 56, 59, 62], 40) := by decide +kernel
theorem dX11_rule_120 : decode cX11_rule 120 = .ok (.iload_n 3, 1) := by decide +kernel
theorem dX11_rule_121 : decode cX11_rule 121 = .ok (.bipush 32, 2) := by decide +kernel
theorem dX11_rule_123 : decode cX11_rule 123 = .ok (.idiv, 1) := by decide +kernel
theorem dX11_rule_124 : decode cX11_rule 124 = .ok (.ireturn, 1) := by decide +kernel
theorem dX11_rule_125 : decode cX11_rule 125 = .ok (.iload_n 3, 1) := by decide +kernel
theorem dX11_rule_126 : decode cX11_rule 126 = .ok (.iconst 4, 1) := by decide +kernel
theorem dX11_rule_127 : decode cX11_rule 127 = .ok (.idiv, 1) := by decide +kernel
theorem dX11_rule_128 : decode cX11_rule 128 = .ok (.bipush 8, 2) := by decide +kernel
theorem dX11_rule_130 : decode cX11_rule 130 = .ok (.irem, 1) := by decide +kernel
theorem dX11_rule_131 : decode cX11_rule 131 = .ok (.ireturn, 1) := by decide +kernel
theorem dX11_rule_132 : decode cX11_rule 132 = .ok (.iload_n 3, 1) := by decide +kernel
theorem dX11_rule_133 : decode cX11_rule 133 = .ok (.iconst 4, 1) := by decide +kernel
theorem dX11_rule_134 : decode cX11_rule 134 = .ok (.irem, 1) := by decide +kernel
theorem dX11_rule_135 : decode cX11_rule 135 = .ok (.ireturn, 1) := by decide +kernel
theorem dX11_rule_136 : decode cX11_rule 136 = .ok (.iload 4, 2) := by decide +kernel
theorem dX11_rule_138 : decode cX11_rule 138 = .ok (.ireturn, 1) := by decide +kernel
theorem dX11_rule_139 : decode cX11_rule 139 = .ok (.iload 5, 2) := by decide +kernel
theorem dX11_rule_141 : decode cX11_rule 141 = .ok (.ireturn, 1) := by decide +kernel
theorem dX11_rule_142 : decode cX11_rule 142 = .ok (.aload_n 0, 1) := by decide +kernel
theorem dX11_rule_143 : decode cX11_rule 143 = .ok (.iload_n 3, 1) := by decide +kernel
theorem dX11_rule_144 : decode cX11_rule 144 = .ok (.invokevirtual 173, 3) := by decide +kernel
theorem dX11_rule_147 : decode cX11_rule 147 = .ok (.ifCond .eq 7, 3) := by decide +kernel
theorem dX11_rule_150 : decode cX11_rule 150 = .ok (.iconst 1, 1) := by decide +kernel
theorem dX11_rule_151 : decode cX11_rule 151 = .ok (.goto 4, 3) := by decide +kernel
theorem dX11_rule_154 : decode cX11_rule 154 = .ok (.iconst 0, 1) := by decide +kernel
theorem dX11_rule_155 : decode cX11_rule 155 = .ok (.ireturn, 1) := by decide +kernel
theorem dX11_rule_156 : decode cX11_rule 156 = .ok (.iconst (-1), 1) := by decide +kernel
theorem dX11_rule_157 : decode cX11_rule 157 = .ok (.ireturn, 1) := by decide +kernel
theorem dX11_letsBy_0 : decode cX11_letsBy 0 = .ok (.aload_n 0, 1) := by decide +kernel
theorem dX11_letsBy_1 : decode cX11_letsBy 1 = .ok (.getfield 13, 3) := by decide +kernel
theorem dX11_letsBy_4 : decode cX11_letsBy 4 = .ok (.iload_n 1, 1) := by decide +kernel
theorem dX11_letsBy_5 : decode cX11_letsBy 5 = .ok (.bipush 32, 2) := by decide +kernel
theorem dX11_letsBy_7 : decode cX11_letsBy 7 = .ok (.idiv, 1) := by decide +kernel
theorem dX11_letsBy_8 : decode cX11_letsBy 8 = .ok (.iaload, 1) := by decide +kernel
theorem dX11_letsBy_9 : decode cX11_letsBy 9 = .ok (.istore_n 2, 1) := by decide +kernel
theorem dX11_letsBy_10 : decode cX11_letsBy 10 = .ok (.aload_n 0, 1) := by decide +kernel
theorem dX11_letsBy_11 : decode cX11_letsBy 11 = .ok (.getfield 13, 3) := by decide +kernel
theorem dX11_letsBy_14 : decode cX11_letsBy 14 = .ok (.iload_n 1, 1) := by decide +kernel
theorem dX11_letsBy_15 : decode cX11_letsBy 15 = .ok (.iconst 4, 1) := by decide +kernel
theorem dX11_letsBy_16 : decode cX11_letsBy 16 = .ok (.idiv, 1) := by decide +kernel
theorem dX11_letsBy_17 : decode cX11_letsBy 17 = .ok (.bipush 8, 2) := by decide +kernel
theorem dX11_letsBy_19 : decode cX11_letsBy 19 = .ok (.irem, 1) := by decide +kernel
theorem dX11_letsBy_20 : decode cX11_letsBy 20 = .ok (.iaload, 1) := by decide +kernel
theorem dX11_letsBy_21 : decode cX11_letsBy 21 = .ok (.istore_n 3, 1) := by decide +kernel
theorem dX11_letsBy_22 : decode cX11_letsBy 22 = .ok (.iload_n 2, 1) := by decide +kernel
theorem dX11_letsBy_23 : decode cX11_letsBy 23 = .ok (.iload_n 3, 1) := by decide +kernel
theorem dX11_letsBy_24 : decode cX11_letsBy 24 = .ok (.if_icmp .ne 7, 3) := by decide +kernel
theorem dX11_letsBy_27 : decode cX11_letsBy 27 = .ok (.iconst 1, 1) := by decide +kernel
theorem dX11_letsBy_28 : decode cX11_letsBy 28 = .ok (.goto 28, 3) := by decide +kernel
theorem dX11_letsBy_31 : decode cX11_letsBy 31 = .ok (.aload_n 0, 1) := by decide +kernel
theorem dX11_letsBy_32 : decode cX11_letsBy 32 = .ok (.getfield 66, 3) := by decide +kernel
theorem dX11_letsBy_35 : decode cX11_letsBy 35 = .ok (.bipush 32, 2) := by decide +kernel
theorem dX11_letsBy_37 : decode cX11_letsBy 37 = .ok (.iload_n 2, 1) := by decide +kernel
theorem dX11_letsBy_38 : decode cX11_letsBy 38 = .ok (.imul, 1) := by decide +kernel
theorem dX11_letsBy_39 : decode cX11_letsBy 39 = .ok (.iconst 4, 1) := by decide +kernel
theorem dX11_letsBy_40 : decode cX11_letsBy 40 = .ok (.iload_n 3, 1) := by decide +kernel
theorem dX11_letsBy_41 : decode cX11_letsBy 41 = .ok (.imul, 1) := by decide +kernel
theorem dX11_letsBy_42 : decode cX11_letsBy 42 = .ok (.iadd, 1) := by decide +kernel
theorem dX11_letsBy_43 : decode cX11_letsBy 43 = .ok (.iload_n 1, 1) := by decide +kernel
theorem dX11_letsBy_44 : decode cX11_letsBy 44 = .ok (.iconst 4, 1) := by decide +kernel
theorem dX11_letsBy_45 : decode cX11_letsBy 45 = .ok (.irem, 1) := by decide +kernel
theorem dX11_letsBy_46 : decode cX11_letsBy 46 = .ok (.iadd, 1) := by decide +kernel
theorem dX11_letsBy_47 : decode cX11_letsBy 47 = .ok (.baload, 1) := by decide +kernel
theorem dX11_letsBy_48 : decode cX11_letsBy 48 = .ok (.ifCond .eq 7, 3) := by decide +kernel
theorem dX11_letsBy_51 : decode cX11_letsBy 51 = .ok (.iconst 2, 1) := by decide +kernel
theorem dX11_letsBy_52 : decode cX11_letsBy 52 = .ok (.goto 4, 3) := by decide +kernel
theorem dX11_letsBy_55 : decode cX11_letsBy 55 = .ok (.iconst 0, 1) := by decide +kernel
theorem dX11_letsBy_56 : decode cX11_letsBy 56 = .ok (.ireturn, 1) := by decide +kernel
theorem dX11_lets_0 : decode cX11_lets 0 = .ok (.aload_n 0, 1) := by decide +kernel
theorem dX11_lets_1 : decode cX11_lets 1 = .ok (.iconst 0, 1) := by decide +kernel
theorem dX11_lets_2 : decode cX11_lets 2 = .ok (.putfield 93, 3) := by decide +kernel
theorem dX11_lets_5 : decode cX11_lets 5 = .ok (.aload_n 0, 1) := by decide +kernel
theorem dX11_lets_6 : decode cX11_lets 6 = .ok (.iload_n 1, 1) := by decide +kernel
theorem dX11_lets_7 : decode cX11_lets 7 = .ok (.iload_n 2, 1) := by decide +kernel
theorem dX11_lets_8 : decode cX11_lets 8 = .ok (.iload_n 3, 1) := by decide +kernel
theorem dX11_lets_9 : decode cX11_lets 9 = .ok (.invokevirtual 103, 3) := by decide +kernel
theorem dX11_lets_12 : decode cX11_lets 12 = .ok (.istore 4, 2) := by decide +kernel
theorem dX11_lets_14 : decode cX11_lets 14 = .ok (.iload 4, 2) := by decide +kernel
theorem dX11_lets_16 : decode cX11_lets 16 = .ok (.iconst (-1), 1) := by decide +kernel
theorem dX11_lets_17 : decode cX11_lets 17 = .ok (.if_icmp .eq 23, 3) := by decide +kernel
theorem dX11_lets_20 : decode cX11_lets 20 = .ok (.aload_n 0, 1) := by decide +kernel
theorem dX11_lets_21 : decode cX11_lets 21 = .ok (.getfield 13, 3) := by decide +kernel
theorem dX11_lets_24 : decode cX11_lets 24 = .ok (.iload_n 1, 1) := by decide +kernel
theorem dX11_lets_25 : decode cX11_lets 25 = .ok (.iaload, 1) := by decide +kernel
theorem dX11_lets_26 : decode cX11_lets 26 = .ok (.iconst (-1), 1) := by decide +kernel
theorem dX11_lets_27 : decode cX11_lets 27 = .ok (.if_icmp .eq 13, 3) := by decide +kernel
theorem dX11_lets_30 : decode cX11_lets 30 = .ok (.aload_n 0, 1) := by decide +kernel
theorem dX11_lets_31 : decode cX11_lets 31 = .ok (.getfield 13, 3) := by decide +kernel
theorem dX11_lets_34 : decode cX11_lets 34 = .ok (.iload_n 2, 1) := by decide +kernel
theorem dX11_lets_35 : decode cX11_lets 35 = .ok (.iaload, 1) := by decide +kernel
theorem dX11_lets_36 : decode cX11_lets 36 = .ok (.iconst (-1), 1) := by decide +kernel
theorem dX11_lets_37 : decode cX11_lets 37 = .ok (.if_icmp .ne 7, 3) := by decide +kernel
theorem dX11_lets_40 : decode cX11_lets 40 = .ok (.iconst (-1), 1) := by decide +kernel
theorem dX11_lets_41 : decode cX11_lets 41 = .ok (.goto 9, 3) := by decide +kernel
theorem dX11_lets_44 : decode cX11_lets 44 = .ok (.aload_n 0, 1) := by decide +kernel
theorem dX11_lets_45 : decode cX11_lets 45 = .ok (.iload 4, 2) := by decide +kernel
theorem dX11_lets_47 : decode cX11_lets 47 = .ok (.invokevirtual 176, 3) := by decide +kernel
theorem dX11_lets_50 : decode cX11_lets 50 = .ok (.ireturn, 1) := by decide +kernel
theorem dX11_reachOf_0 : decode cX11_reachOf 0 = .ok (.iconst 1, 1) := by decide +kernel
theorem dX11_reachOf_1 : decode cX11_reachOf 1 = .ok (.aload_n 0, 1) := by decide +kernel
theorem dX11_reachOf_2 : decode cX11_reachOf 2 = .ok (.getfield 13, 3) := by decide +kernel
theorem dX11_reachOf_5 : decode cX11_reachOf 5 = .ok (.iload_n 1, 1) := by decide +kernel
theorem dX11_reachOf_6 : decode cX11_reachOf 6 = .ok (.iaload, 1) := by decide +kernel
theorem dX11_reachOf_7 : decode cX11_reachOf 7 = .ok (.ishl, 1) := by decide +kernel
theorem dX11_reachOf_8 : decode cX11_reachOf 8 = .ok (.istore_n 2, 1) := by decide +kernel
theorem dX11_reachOf_9 : decode cX11_reachOf 9 = .ok (.iconst 1, 1) := by decide +kernel
theorem dX11_reachOf_10 : decode cX11_reachOf 10 = .ok (.istore_n 3, 1) := by decide +kernel
theorem dX11_reachOf_11 : decode cX11_reachOf 11 = .ok (.iload_n 3, 1) := by decide +kernel
theorem dX11_reachOf_12 : decode cX11_reachOf 12 = .ok (.ifCond .eq 83, 3) := by decide +kernel
theorem dX11_reachOf_15 : decode cX11_reachOf 15 = .ok (.iload_n 2, 1) := by decide +kernel
theorem dX11_reachOf_16 : decode cX11_reachOf 16 = .ok (.istore 4, 2) := by decide +kernel
theorem dX11_reachOf_18 : decode cX11_reachOf 18 = .ok (.iconst 0, 1) := by decide +kernel
theorem dX11_reachOf_19 : decode cX11_reachOf 19 = .ok (.istore 5, 2) := by decide +kernel
theorem dX11_reachOf_21 : decode cX11_reachOf 21 = .ok (.iload 5, 2) := by decide +kernel
theorem dX11_reachOf_23 : decode cX11_reachOf 23 = .ok (.sipush 256, 3) := by decide +kernel
theorem dX11_reachOf_26 : decode cX11_reachOf 26 = .ok (.if_icmp .ge 54, 3) := by decide +kernel
theorem dX11_reachOf_29 : decode cX11_reachOf 29 = .ok (.aload_n 0, 1) := by decide +kernel
theorem dX11_reachOf_30 : decode cX11_reachOf 30 = .ok (.getfield 66, 3) := by decide +kernel
theorem dX11_reachOf_33 : decode cX11_reachOf 33 = .ok (.iload 5, 2) := by decide +kernel
theorem dX11_reachOf_35 : decode cX11_reachOf 35 = .ok (.baload, 1) := by decide +kernel
theorem dX11_reachOf_36 : decode cX11_reachOf 36 = .ok (.ifCond .eq 38, 3) := by decide +kernel
theorem dX11_reachOf_39 : decode cX11_reachOf 39 = .ok (.aload_n 0, 1) := by decide +kernel
theorem dX11_reachOf_40 : decode cX11_reachOf 40 = .ok (.getfield 69, 3) := by decide +kernel
theorem dX11_reachOf_43 : decode cX11_reachOf 43 = .ok (.iload 5, 2) := by decide +kernel
theorem dX11_reachOf_45 : decode cX11_reachOf 45 = .ok (.baload, 1) := by decide +kernel
theorem dX11_reachOf_46 : decode cX11_reachOf 46 = .ok (.ifCond .ne 28, 3) := by decide +kernel
theorem dX11_reachOf_49 : decode cX11_reachOf 49 = .ok (.iload_n 2, 1) := by decide +kernel
theorem dX11_reachOf_50 : decode cX11_reachOf 50 = .ok (.iload 5, 2) := by decide +kernel
theorem dX11_reachOf_52 : decode cX11_reachOf 52 = .ok (.bipush 32, 2) := by decide +kernel
theorem dX11_reachOf_54 : decode cX11_reachOf 54 = .ok (.idiv, 1) := by decide +kernel
theorem dX11_reachOf_55 : decode cX11_reachOf 55 = .ok (.ishr, 1) := by decide +kernel
theorem dX11_reachOf_56 : decode cX11_reachOf 56 = .ok (.iconst 1, 1) := by decide +kernel
theorem dX11_reachOf_57 : decode cX11_reachOf 57 = .ok (.iand, 1) := by decide +kernel
theorem dX11_reachOf_58 : decode cX11_reachOf 58 = .ok (.iconst 1, 1) := by decide +kernel
theorem dX11_reachOf_59 : decode cX11_reachOf 59 = .ok (.if_icmp .ne 15, 3) := by decide +kernel
theorem dX11_reachOf_62 : decode cX11_reachOf 62 = .ok (.iload_n 2, 1) := by decide +kernel
theorem dX11_reachOf_63 : decode cX11_reachOf 63 = .ok (.iconst 1, 1) := by decide +kernel
theorem dX11_reachOf_64 : decode cX11_reachOf 64 = .ok (.iload 5, 2) := by decide +kernel
theorem dX11_reachOf_66 : decode cX11_reachOf 66 = .ok (.iconst 4, 1) := by decide +kernel
theorem dX11_reachOf_67 : decode cX11_reachOf 67 = .ok (.idiv, 1) := by decide +kernel
theorem dX11_reachOf_68 : decode cX11_reachOf 68 = .ok (.bipush 8, 2) := by decide +kernel
theorem dX11_reachOf_70 : decode cX11_reachOf 70 = .ok (.irem, 1) := by decide +kernel
theorem dX11_reachOf_71 : decode cX11_reachOf 71 = .ok (.ishl, 1) := by decide +kernel
theorem dX11_reachOf_72 : decode cX11_reachOf 72 = .ok (.ior, 1) := by decide +kernel
theorem dX11_reachOf_73 : decode cX11_reachOf 73 = .ok (.istore_n 2, 1) := by decide +kernel
theorem dX11_reachOf_74 : decode cX11_reachOf 74 = .ok (.iinc 5 1, 3) := by decide +kernel
theorem dX11_reachOf_77 : decode cX11_reachOf 77 = .ok (.goto (-56), 3) := by decide +kernel
theorem dX11_reachOf_80 : decode cX11_reachOf 80 = .ok (.iload_n 2, 1) := by decide +kernel
theorem dX11_reachOf_81 : decode cX11_reachOf 81 = .ok (.iload 4, 2) := by decide +kernel
theorem dX11_reachOf_83 : decode cX11_reachOf 83 = .ok (.if_icmp .eq 7, 3) := by decide +kernel
theorem dX11_reachOf_86 : decode cX11_reachOf 86 = .ok (.iconst 1, 1) := by decide +kernel
theorem dX11_reachOf_87 : decode cX11_reachOf 87 = .ok (.goto 4, 3) := by decide +kernel
theorem dX11_reachOf_90 : decode cX11_reachOf 90 = .ok (.iconst 0, 1) := by decide +kernel
theorem dX11_reachOf_91 : decode cX11_reachOf 91 = .ok (.istore_n 3, 1) := by decide +kernel
theorem dX11_reachOf_92 : decode cX11_reachOf 92 = .ok (.goto (-81), 3) := by decide +kernel
theorem dX11_reachOf_95 : decode cX11_reachOf 95 = .ok (.iconst 0, 1) := by decide +kernel
theorem dX11_reachOf_96 : decode cX11_reachOf 96 = .ok (.istore 4, 2) := by decide +kernel
theorem dX11_reachOf_98 : decode cX11_reachOf 98 = .ok (.iconst 0, 1) := by decide +kernel
theorem dX11_reachOf_99 : decode cX11_reachOf 99 = .ok (.istore 5, 2) := by decide +kernel
theorem dX11_reachOf_101 : decode cX11_reachOf 101 = .ok (.iload 5, 2) := by decide +kernel
theorem dX11_reachOf_103 : decode cX11_reachOf 103 = .ok (.aload_n 0, 1) := by decide +kernel
theorem dX11_reachOf_104 : decode cX11_reachOf 104 = .ok (.getfield 96, 3) := by decide +kernel
theorem dX11_reachOf_107 : decode cX11_reachOf 107 = .ok (.if_icmp .ge 51, 3) := by decide +kernel
theorem dX11_reachOf_110 : decode cX11_reachOf 110 = .ok (.iload 4, 2) := by decide +kernel
theorem dX11_reachOf_112 : decode cX11_reachOf 112 = .ok (.iload 5, 2) := by decide +kernel
theorem dX11_reachOf_114 : decode cX11_reachOf 114 = .ok (.iload_n 1, 1) := by decide +kernel
theorem dX11_reachOf_115 : decode cX11_reachOf 115 = .ok (.if_icmp .eq 33, 3) := by decide +kernel
theorem dX11_reachOf_118 : decode cX11_reachOf 118 = .ok (.aload_n 0, 1) := by decide +kernel
theorem dX11_reachOf_119 : decode cX11_reachOf 119 = .ok (.getfield 13, 3) := by decide +kernel
theorem dX11_reachOf_122 : decode cX11_reachOf 122 = .ok (.iload 5, 2) := by decide +kernel
theorem dX11_reachOf_124 : decode cX11_reachOf 124 = .ok (.iaload, 1) := by decide +kernel
theorem dX11_reachOf_125 : decode cX11_reachOf 125 = .ok (.iconst (-1), 1) := by decide +kernel
theorem dX11_reachOf_126 : decode cX11_reachOf 126 = .ok (.if_icmp .eq 22, 3) := by decide +kernel
theorem dX11_reachOf_129 : decode cX11_reachOf 129 = .ok (.iload_n 2, 1) := by decide +kernel
theorem dX11_reachOf_130 : decode cX11_reachOf 130 = .ok (.aload_n 0, 1) := by decide +kernel
theorem dX11_reachOf_131 : decode cX11_reachOf 131 = .ok (.getfield 13, 3) := by decide +kernel
theorem dX11_reachOf_134 : decode cX11_reachOf 134 = .ok (.iload 5, 2) := by decide +kernel
theorem dX11_reachOf_136 : decode cX11_reachOf 136 = .ok (.iaload, 1) := by decide +kernel
theorem dX11_reachOf_137 : decode cX11_reachOf 137 = .ok (.ishr, 1) := by decide +kernel
theorem dX11_reachOf_138 : decode cX11_reachOf 138 = .ok (.iconst 1, 1) := by decide +kernel
theorem dX11_reachOf_139 : decode cX11_reachOf 139 = .ok (.iand, 1) := by decide +kernel
theorem dX11_reachOf_140 : decode cX11_reachOf 140 = .ok (.iconst 1, 1) := by decide +kernel
theorem dX11_reachOf_141 : decode cX11_reachOf 141 = .ok (.if_icmp .ne 7, 3) := by decide +kernel
theorem dX11_reachOf_144 : decode cX11_reachOf 144 = .ok (.iconst 1, 1) := by decide +kernel
theorem dX11_reachOf_145 : decode cX11_reachOf 145 = .ok (.goto 4, 3) := by decide +kernel
theorem dX11_reachOf_148 : decode cX11_reachOf 148 = .ok (.iconst 0, 1) := by decide +kernel
theorem dX11_reachOf_149 : decode cX11_reachOf 149 = .ok (.iadd, 1) := by decide +kernel
theorem dX11_reachOf_150 : decode cX11_reachOf 150 = .ok (.istore 4, 2) := by decide +kernel
theorem dX11_reachOf_152 : decode cX11_reachOf 152 = .ok (.iinc 5 1, 3) := by decide +kernel
theorem dX11_reachOf_155 : decode cX11_reachOf 155 = .ok (.goto (-54), 3) := by decide +kernel
theorem dX11_reachOf_158 : decode cX11_reachOf 158 = .ok (.iload 4, 2) := by decide +kernel
theorem dX11_reachOf_160 : decode cX11_reachOf 160 = .ok (.ireturn, 1) := by decide +kernel
theorem dX11_opens_0 : decode cX11_opens 0 = .ok (.iconst 0, 1) := by decide +kernel
theorem dX11_opens_1 : decode cX11_opens 1 = .ok (.istore_n 1, 1) := by decide +kernel
theorem dX11_opens_2 : decode cX11_opens 2 = .ok (.iload_n 1, 1) := by decide +kernel
theorem dX11_opens_3 : decode cX11_opens 3 = .ok (.sipush 256, 3) := by decide +kernel
theorem dX11_opens_6 : decode cX11_opens 6 = .ok (.if_icmp .ge 16, 3) := by decide +kernel
theorem dX11_opens_9 : decode cX11_opens 9 = .ok (.aload_n 0, 1) := by decide +kernel
theorem dX11_opens_10 : decode cX11_opens 10 = .ok (.getfield 69, 3) := by decide +kernel
theorem dX11_opens_13 : decode cX11_opens 13 = .ok (.iload_n 1, 1) := by decide +kernel
theorem dX11_opens_14 : decode cX11_opens 14 = .ok (.iconst 0, 1) := by decide +kernel
theorem dX11_opens_15 : decode cX11_opens 15 = .ok (.bastore, 1) := by decide +kernel
theorem dX11_opens_16 : decode cX11_opens 16 = .ok (.iinc 1 1, 3) := by decide +kernel
theorem dX11_opens_19 : decode cX11_opens 19 = .ok (.goto (-17), 3) := by decide +kernel
theorem dX11_opens_22 : decode cX11_opens 22 = .ok (.return_, 1) := by decide +kernel
theorem dX11_reach_0 : decode cX11_reach 0 = .ok (.aload_n 0, 1) := by decide +kernel
theorem dX11_reach_1 : decode cX11_reach 1 = .ok (.iconst 0, 1) := by decide +kernel
theorem dX11_reach_2 : decode cX11_reach 2 = .ok (.putfield 93, 3) := by decide +kernel
theorem dX11_reach_5 : decode cX11_reach 5 = .ok (.aload_n 0, 1) := by decide +kernel
theorem dX11_reach_6 : decode cX11_reach 6 = .ok (.iload_n 1, 1) := by decide +kernel
theorem dX11_reach_7 : decode cX11_reach 7 = .ok (.invokevirtual 99, 3) := by decide +kernel
theorem dX11_reach_10 : decode cX11_reach 10 = .ok (.ifCond .eq 13, 3) := by decide +kernel
theorem dX11_reach_13 : decode cX11_reach 13 = .ok (.aload_n 0, 1) := by decide +kernel
theorem dX11_reach_14 : decode cX11_reach 14 = .ok (.getfield 13, 3) := by decide +kernel
theorem dX11_reach_17 : decode cX11_reach 17 = .ok (.iload_n 1, 1) := by decide +kernel
theorem dX11_reach_18 : decode cX11_reach 18 = .ok (.iaload, 1) := by decide +kernel
theorem dX11_reach_19 : decode cX11_reach 19 = .ok (.iconst (-1), 1) := by decide +kernel
theorem dX11_reach_20 : decode cX11_reach 20 = .ok (.if_icmp .ne 5, 3) := by decide +kernel
theorem dX11_reach_23 : decode cX11_reach 23 = .ok (.iconst (-1), 1) := by decide +kernel
theorem dX11_reach_24 : decode cX11_reach 24 = .ok (.ireturn, 1) := by decide +kernel
theorem dX11_reach_25 : decode cX11_reach 25 = .ok (.aload_n 0, 1) := by decide +kernel
theorem dX11_reach_26 : decode cX11_reach 26 = .ok (.invokevirtual 179, 3) := by decide +kernel
theorem dX11_reach_29 : decode cX11_reach 29 = .ok (.aload_n 0, 1) := by decide +kernel
theorem dX11_reach_30 : decode cX11_reach 30 = .ok (.iload_n 1, 1) := by decide +kernel
theorem dX11_reach_31 : decode cX11_reach 31 = .ok (.invokevirtual 182, 3) := by decide +kernel
theorem dX11_reach_34 : decode cX11_reach 34 = .ok (.ireturn, 1) := by decide +kernel
theorem dX11_spreads_0 : decode cX11_spreads 0 = .ok (.iconst (-1), 1) := by decide +kernel
theorem dX11_spreads_1 : decode cX11_spreads 1 = .ok (.istore_n 1, 1) := by decide +kernel
theorem dX11_spreads_2 : decode cX11_spreads 2 = .ok (.aload_n 0, 1) := by decide +kernel
theorem dX11_spreads_3 : decode cX11_spreads 3 = .ok (.iconst (-1), 1) := by decide +kernel
theorem dX11_spreads_4 : decode cX11_spreads 4 = .ok (.putfield 185, 3) := by decide +kernel
theorem dX11_spreads_7 : decode cX11_spreads 7 = .ok (.iconst 0, 1) := by decide +kernel
theorem dX11_spreads_8 : decode cX11_spreads 8 = .ok (.istore_n 2, 1) := by decide +kernel
theorem dX11_spreads_9 : decode cX11_spreads 9 = .ok (.iload_n 2, 1) := by decide +kernel
theorem dX11_spreads_10 : decode cX11_spreads 10 = .ok (.aload_n 0, 1) := by decide +kernel
theorem dX11_spreads_11 : decode cX11_spreads 11 = .ok (.getfield 96, 3) := by decide +kernel
theorem dX11_spreads_14 : decode cX11_spreads 14 = .ok (.if_icmp .ge 43, 3) := by decide +kernel
theorem dX11_spreads_17 : decode cX11_spreads 17 = .ok (.aload_n 0, 1) := by decide +kernel
theorem dX11_spreads_18 : decode cX11_spreads 18 = .ok (.getfield 13, 3) := by decide +kernel
theorem dX11_spreads_21 : decode cX11_spreads 21 = .ok (.iload_n 2, 1) := by decide +kernel
theorem dX11_spreads_22 : decode cX11_spreads 22 = .ok (.iaload, 1) := by decide +kernel
theorem dX11_spreads_23 : decode cX11_spreads 23 = .ok (.iconst (-1), 1) := by decide +kernel
theorem dX11_spreads_24 : decode cX11_spreads 24 = .ok (.if_icmp .ne 6, 3) := by decide +kernel
theorem dX11_spreads_27 : decode cX11_spreads 27 = .ok (.goto 24, 3) := by decide +kernel
theorem dX11_spreads_30 : decode cX11_spreads 30 = .ok (.aload_n 0, 1) := by decide +kernel
theorem dX11_spreads_31 : decode cX11_spreads 31 = .ok (.iload_n 2, 1) := by decide +kernel
theorem dX11_spreads_32 : decode cX11_spreads 32 = .ok (.invokevirtual 182, 3) := by decide +kernel
theorem dX11_spreads_35 : decode cX11_spreads 35 = .ok (.istore_n 3, 1) := by decide +kernel
theorem dX11_spreads_36 : decode cX11_spreads 36 = .ok (.iload_n 3, 1) := by decide +kernel
theorem dX11_spreads_37 : decode cX11_spreads 37 = .ok (.iload_n 1, 1) := by decide +kernel
theorem dX11_spreads_38 : decode cX11_spreads 38 = .ok (.if_icmp .gt 6, 3) := by decide +kernel
theorem dX11_spreads_41 : decode cX11_spreads 41 = .ok (.goto 10, 3) := by decide +kernel
theorem dX11_spreads_44 : decode cX11_spreads 44 = .ok (.iload_n 3, 1) := by decide +kernel
theorem dX11_spreads_45 : decode cX11_spreads 45 = .ok (.istore_n 1, 1) := by decide +kernel
theorem dX11_spreads_46 : decode cX11_spreads 46 = .ok (.aload_n 0, 1) := by decide +kernel
theorem dX11_spreads_47 : decode cX11_spreads 47 = .ok (.iload_n 2, 1) := by decide +kernel
theorem dX11_spreads_48 : decode cX11_spreads 48 = .ok (.putfield 185, 3) := by decide +kernel
theorem dX11_spreads_51 : decode cX11_spreads 51 = .ok (.iinc 2 1, 3) := by decide +kernel
theorem dX11_spreads_54 : decode cX11_spreads 54 = .ok (.goto (-45), 3) := by decide +kernel
theorem dX11_spreads_57 : decode cX11_spreads 57 = .ok (.iload_n 1, 1) := by decide +kernel
theorem dX11_spreads_58 : decode cX11_spreads 58 = .ok (.ireturn, 1) := by decide +kernel
theorem dX11_spread_0 : decode cX11_spread 0 = .ok (.aload_n 0, 1) := by decide +kernel
theorem dX11_spread_1 : decode cX11_spread 1 = .ok (.iconst 0, 1) := by decide +kernel
theorem dX11_spread_2 : decode cX11_spread 2 = .ok (.putfield 93, 3) := by decide +kernel
theorem dX11_spread_5 : decode cX11_spread 5 = .ok (.aload_n 0, 1) := by decide +kernel
theorem dX11_spread_6 : decode cX11_spread 6 = .ok (.invokevirtual 179, 3) := by decide +kernel
theorem dX11_spread_9 : decode cX11_spread 9 = .ok (.aload_n 0, 1) := by decide +kernel
theorem dX11_spread_10 : decode cX11_spread 10 = .ok (.invokevirtual 188, 3) := by decide +kernel
theorem dX11_spread_13 : decode cX11_spread 13 = .ok (.istore_n 2, 1) := by decide +kernel
theorem dX11_spread_14 : decode cX11_spread 14 = .ok (.iload_n 1, 1) := by decide +kernel
theorem dX11_spread_15 : decode cX11_spread 15 = .ok (.ifCond .ne 7, 3) := by decide +kernel
theorem dX11_spread_18 : decode cX11_spread 18 = .ok (.iload_n 2, 1) := by decide +kernel
theorem dX11_spread_19 : decode cX11_spread 19 = .ok (.goto 16, 3) := by decide +kernel
theorem dX11_spread_22 : decode cX11_spread 22 = .ok (.iload_n 1, 1) := by decide +kernel
theorem dX11_spread_23 : decode cX11_spread 23 = .ok (.iconst 1, 1) := by decide +kernel
theorem dX11_spread_24 : decode cX11_spread 24 = .ok (.if_icmp .ne 10, 3) := by decide +kernel
theorem dX11_spread_27 : decode cX11_spread 27 = .ok (.aload_n 0, 1) := by decide +kernel
theorem dX11_spread_28 : decode cX11_spread 28 = .ok (.getfield 185, 3) := by decide +kernel
theorem dX11_spread_31 : decode cX11_spread 31 = .ok (.goto 4, 3) := by decide +kernel
theorem dX11_spread_34 : decode cX11_spread 34 = .ok (.iconst (-1), 1) := by decide +kernel
theorem dX11_spread_35 : decode cX11_spread 35 = .ok (.ireturn, 1) := by decide +kernel
theorem dX11_shut_0 : decode cX11_shut 0 = .ok (.aload_n 0, 1) := by decide +kernel
theorem dX11_shut_1 : decode cX11_shut 1 = .ok (.iconst 0, 1) := by decide +kernel
theorem dX11_shut_2 : decode cX11_shut 2 = .ok (.putfield 93, 3) := by decide +kernel
theorem dX11_shut_5 : decode cX11_shut 5 = .ok (.iload_n 1, 1) := by decide +kernel
theorem dX11_shut_6 : decode cX11_shut 6 = .ok (.ifCond .lt 16, 3) := by decide +kernel
theorem dX11_shut_9 : decode cX11_shut 9 = .ok (.iload_n 1, 1) := by decide +kernel
theorem dX11_shut_10 : decode cX11_shut 10 = .ok (.bipush 8, 2) := by decide +kernel
theorem dX11_shut_12 : decode cX11_shut 12 = .ok (.if_icmp .gt 10, 3) := by decide +kernel
theorem dX11_shut_15 : decode cX11_shut 15 = .ok (.aload_n 0, 1) := by decide +kernel
theorem dX11_shut_16 : decode cX11_shut 16 = .ok (.getfield 140, 3) := by decide +kernel
theorem dX11_shut_19 : decode cX11_shut 19 = .ok (.ifCond .ne 5, 3) := by decide +kernel
theorem dX11_shut_22 : decode cX11_shut 22 = .ok (.iconst (-1), 1) := by decide +kernel
theorem dX11_shut_23 : decode cX11_shut 23 = .ok (.ireturn, 1) := by decide +kernel
theorem dX11_shut_24 : decode cX11_shut 24 = .ok (.iconst 0, 1) := by decide +kernel
theorem dX11_shut_25 : decode cX11_shut 25 = .ok (.istore_n 2, 1) := by decide +kernel
theorem dX11_shut_26 : decode cX11_shut 26 = .ok (.iconst 0, 1) := by decide +kernel
theorem dX11_shut_27 : decode cX11_shut 27 = .ok (.istore_n 3, 1) := by decide +kernel
theorem dX11_shut_28 : decode cX11_shut 28 = .ok (.iconst 0, 1) := by decide +kernel
theorem dX11_shut_29 : decode cX11_shut 29 = .ok (.istore 4, 2) := by decide +kernel
theorem dX11_shut_31 : decode cX11_shut 31 = .ok (.iload 4, 2) := by decide +kernel
theorem dX11_shut_33 : decode cX11_shut 33 = .ok (.sipush 256, 3) := by decide +kernel
theorem dX11_shut_36 : decode cX11_shut 36 = .ok (.if_icmp .ge 126, 3) := by decide +kernel
theorem dX11_shut_39 : decode cX11_shut 39 = .ok (.aload_n 0, 1) := by decide +kernel
theorem dX11_shut_40 : decode cX11_shut 40 = .ok (.getfield 66, 3) := by decide +kernel
theorem dX11_shut_43 : decode cX11_shut 43 = .ok (.iload 4, 2) := by decide +kernel
theorem dX11_shut_45 : decode cX11_shut 45 = .ok (.baload, 1) := by decide +kernel
theorem dX11_shut_46 : decode cX11_shut 46 = .ok (.ifCond .ne 6, 3) := by decide +kernel
theorem dX11_shut_49 : decode cX11_shut 49 = .ok (.goto 107, 3) := by decide +kernel
theorem dX11_shut_52 : decode cX11_shut 52 = .ok (.aload_n 0, 1) := by decide +kernel
theorem dX11_shut_53 : decode cX11_shut 53 = .ok (.iload 4, 2) := by decide +kernel
theorem dX11_shut_55 : decode cX11_shut 55 = .ok (.invokevirtual 173, 3) := by decide +kernel
theorem dX11_shut_58 : decode cX11_shut 58 = .ok (.ifCond .eq 95, 3) := by decide +kernel
theorem dX11_shut_61 : decode cX11_shut 61 = .ok (.iload_n 2, 1) := by decide +kernel
theorem dX11_shut_62 : decode cX11_shut 62 = .ok (.bipush 12, 2) := by decide +kernel
theorem dX11_shut_64 : decode cX11_shut 64 = .ok (.if_icmp .ne 6, 3) := by decide +kernel
theorem dX11_shut_67 : decode cX11_shut 67 = .ok (.bipush (-2), 2) := by decide +kernel
theorem dX11_shut_69 : decode cX11_shut 69 = .ok (.ireturn, 1) := by decide +kernel
theorem dX11_shut_70 : decode cX11_shut 70 = .ok (.aload_n 0, 1) := by decide +kernel
theorem dX11_shut_71 : decode cX11_shut 71 = .ok (.getfield 72, 3) := by decide +kernel
theorem dX11_shut_74 : decode cX11_shut 74 = .ok (.iload_n 2, 1) := by decide +kernel
theorem dX11_shut_75 : decode cX11_shut 75 = .ok (.iload 4, 2) := by decide +kernel
theorem dX11_shut_77 : decode cX11_shut 77 = .ok (.iastore, 1) := by decide +kernel
theorem dX11_shut_78 : decode cX11_shut 78 = .ok (.aload_n 0, 1) := by decide +kernel
theorem dX11_shut_79 : decode cX11_shut 79 = .ok (.getfield 78, 3) := by decide +kernel
theorem dX11_shut_82 : decode cX11_shut 82 = .ok (.iload_n 2, 1) := by decide +kernel
theorem dX11_shut_83 : decode cX11_shut 83 = .ok (.iload_n 3, 1) := by decide +kernel
theorem dX11_shut_84 : decode cX11_shut 84 = .ok (.iastore, 1) := by decide +kernel
theorem dX11_shut_85 : decode cX11_shut 85 = .ok (.aload_n 0, 1) := by decide +kernel
theorem dX11_shut_86 : decode cX11_shut 86 = .ok (.getfield 75, 3) := by decide +kernel
theorem dX11_shut_89 : decode cX11_shut 89 = .ok (.iload_n 2, 1) := by decide +kernel
theorem dX11_shut_90 : decode cX11_shut 90 = .ok (.iconst 0, 1) := by decide +kernel
theorem dX11_shut_91 : decode cX11_shut 91 = .ok (.iastore, 1) := by decide +kernel
theorem dX11_shut_92 : decode cX11_shut 92 = .ok (.iconst 0, 1) := by decide +kernel
theorem dX11_shut_93 : decode cX11_shut 93 = .ok (.istore 5, 2) := by decide +kernel
theorem dX11_shut_95 : decode cX11_shut 95 = .ok (.iload 5, 2) := by decide +kernel
theorem dX11_shut_97 : decode cX11_shut 97 = .ok (.sipush 256, 3) := by decide +kernel
theorem dX11_shut_100 : decode cX11_shut 100 = .ok (.if_icmp .ge 50, 3) := by decide +kernel
theorem dX11_shut_103 : decode cX11_shut 103 = .ok (.aload_n 0, 1) := by decide +kernel
theorem dX11_shut_104 : decode cX11_shut 104 = .ok (.getfield 51, 3) := by decide +kernel
theorem dX11_shut_107 : decode cX11_shut 107 = .ok (.iload 5, 2) := by decide +kernel
theorem dX11_shut_109 : decode cX11_shut 109 = .ok (.baload, 1) := by decide +kernel
theorem dX11_shut_110 : decode cX11_shut 110 = .ok (.ifCond .eq 34, 3) := by decide +kernel
theorem dX11_shut_113 : decode cX11_shut 113 = .ok (.aload_n 0, 1) := by decide +kernel
theorem dX11_shut_114 : decode cX11_shut 114 = .ok (.iload 5, 2) := by decide +kernel
theorem dX11_shut_116 : decode cX11_shut 116 = .ok (.iload 4, 2) := by decide +kernel
theorem dX11_shut_118 : decode cX11_shut 118 = .ok (.invokevirtual 167, 3) := by decide +kernel
theorem dX11_shut_121 : decode cX11_shut 121 = .ok (.ifCond .eq 23, 3) := by decide +kernel
theorem dX11_shut_124 : decode cX11_shut 124 = .ok (.aload_n 0, 1) := by decide +kernel
theorem dX11_shut_125 : decode cX11_shut 125 = .ok (.getfield 75, 3) := by decide +kernel
theorem dX11_shut_128 : decode cX11_shut 128 = .ok (.iload_n 2, 1) := by decide +kernel
theorem dX11_shut_129 : decode cX11_shut 129 = .ok (.dup2, 1) := by decide +kernel
theorem dX11_shut_130 : decode cX11_shut 130 = .ok (.iaload, 1) := by decide +kernel
theorem dX11_shut_131 : decode cX11_shut 131 = .ok (.iconst 1, 1) := by decide +kernel
theorem dX11_shut_132 : decode cX11_shut 132 = .ok (.aload_n 0, 1) := by decide +kernel
theorem dX11_shut_133 : decode cX11_shut 133 = .ok (.getfield 54, 3) := by decide +kernel
theorem dX11_shut_136 : decode cX11_shut 136 = .ok (.iload 5, 2) := by decide +kernel
theorem dX11_shut_138 : decode cX11_shut 138 = .ok (.iaload, 1) := by decide +kernel
theorem dX11_shut_139 : decode cX11_shut 139 = .ok (.invokestatic 135, 3) := by decide +kernel
theorem dX11_shut_142 : decode cX11_shut 142 = .ok (.iadd, 1) := by decide +kernel
theorem dX11_shut_143 : decode cX11_shut 143 = .ok (.iastore, 1) := by decide +kernel
theorem dX11_shut_144 : decode cX11_shut 144 = .ok (.iinc 5 1, 3) := by decide +kernel
theorem dX11_shut_147 : decode cX11_shut 147 = .ok (.goto (-52), 3) := by decide +kernel
theorem dX11_shut_150 : decode cX11_shut 150 = .ok (.iinc 2 1, 3) := by decide +kernel
theorem dX11_shut_153 : decode cX11_shut 153 = .ok (.iinc 3 1, 3) := by decide +kernel
theorem dX11_shut_156 : decode cX11_shut 156 = .ok (.iinc 4 1, 3) := by decide +kernel
theorem dX11_shut_159 : decode cX11_shut 159 = .ok (.goto (-128), 3) := by decide +kernel
theorem dX11_shut_162 : decode cX11_shut 162 = .ok (.iconst (-1), 1) := by decide +kernel
theorem dX11_shut_163 : decode cX11_shut 163 = .ok (.istore 4, 2) := by decide +kernel
theorem dX11_shut_165 : decode cX11_shut 165 = .ok (.iconst 0, 1) := by decide +kernel
theorem dX11_shut_166 : decode cX11_shut 166 = .ok (.istore 5, 2) := by decide +kernel
theorem dX11_shut_168 : decode cX11_shut 168 = .ok (.iload 5, 2) := by decide +kernel
theorem dX11_shut_170 : decode cX11_shut 170 = .ok (.iconst 1, 1) := by decide +kernel
theorem dX11_shut_171 : decode cX11_shut 171 = .ok (.iload_n 2, 1) := by decide +kernel
theorem dX11_shut_172 : decode cX11_shut 172 = .ok (.ishl, 1) := by decide +kernel
theorem dX11_shut_173 : decode cX11_shut 173 = .ok (.if_icmp .ge 103, 3) := by decide +kernel
theorem dX11_shut_176 : decode cX11_shut 176 = .ok (.aload_n 0, 1) := by decide +kernel
theorem dX11_shut_177 : decode cX11_shut 177 = .ok (.invokevirtual 179, 3) := by decide +kernel
theorem dX11_shut_180 : decode cX11_shut 180 = .ok (.iconst 0, 1) := by decide +kernel
theorem dX11_shut_181 : decode cX11_shut 181 = .ok (.istore 6, 2) := by decide +kernel
theorem dX11_shut_183 : decode cX11_shut 183 = .ok (.iconst 0, 1) := by decide +kernel
theorem dX11_shut_184 : decode cX11_shut 184 = .ok (.istore 7, 2) := by decide +kernel
theorem dX11_shut_186 : decode cX11_shut 186 = .ok (.iload 7, 2) := by decide +kernel
theorem dX11_shut_188 : decode cX11_shut 188 = .ok (.iload_n 2, 1) := by decide +kernel
theorem dX11_shut_189 : decode cX11_shut 189 = .ok (.if_icmp .ge 47, 3) := by decide +kernel
theorem dX11_shut_192 : decode cX11_shut 192 = .ok (.iload 5, 2) := by decide +kernel
theorem dX11_shut_194 : decode cX11_shut 194 = .ok (.iload 7, 2) := by decide +kernel
theorem dX11_shut_196 : decode cX11_shut 196 = .ok (.ishr, 1) := by decide +kernel
theorem dX11_shut_197 : decode cX11_shut 197 = .ok (.iconst 1, 1) := by decide +kernel
theorem dX11_shut_198 : decode cX11_shut 198 = .ok (.iand, 1) := by decide +kernel
theorem dX11_shut_199 : decode cX11_shut 199 = .ok (.ifCond .ne 6, 3) := by decide +kernel
theorem dX11_shut_202 : decode cX11_shut 202 = .ok (.goto 28, 3) := by decide +kernel
theorem dX11_shut_205 : decode cX11_shut 205 = .ok (.aload_n 0, 1) := by decide +kernel
theorem dX11_shut_206 : decode cX11_shut 206 = .ok (.getfield 69, 3) := by decide +kernel
theorem dX11_shut_209 : decode cX11_shut 209 = .ok (.aload_n 0, 1) := by decide +kernel
theorem dX11_shut_210 : decode cX11_shut 210 = .ok (.getfield 72, 3) := by decide +kernel
theorem dX11_shut_213 : decode cX11_shut 213 = .ok (.iload 7, 2) := by decide +kernel
theorem dX11_shut_215 : decode cX11_shut 215 = .ok (.iaload, 1) := by decide +kernel
theorem dX11_shut_216 : decode cX11_shut 216 = .ok (.iconst 1, 1) := by decide +kernel
theorem dX11_shut_217 : decode cX11_shut 217 = .ok (.bastore, 1) := by decide +kernel
theorem dX11_shut_218 : decode cX11_shut 218 = .ok (.iload 6, 2) := by decide +kernel
theorem dX11_shut_220 : decode cX11_shut 220 = .ok (.aload_n 0, 1) := by decide +kernel
theorem dX11_shut_221 : decode cX11_shut 221 = .ok (.getfield 75, 3) := by decide +kernel
theorem dX11_shut_224 : decode cX11_shut 224 = .ok (.iload 7, 2) := by decide +kernel
theorem dX11_shut_226 : decode cX11_shut 226 = .ok (.iaload, 1) := by decide +kernel
theorem dX11_shut_227 : decode cX11_shut 227 = .ok (.iadd, 1) := by decide +kernel
theorem dX11_shut_228 : decode cX11_shut 228 = .ok (.istore 6, 2) := by decide +kernel
theorem dX11_shut_230 : decode cX11_shut 230 = .ok (.iinc 7 1, 3) := by decide +kernel
theorem dX11_shut_233 : decode cX11_shut 233 = .ok (.goto (-47), 3) := by decide +kernel
theorem dX11_shut_236 : decode cX11_shut 236 = .ok (.iload 4, 2) := by decide +kernel
theorem dX11_shut_238 : decode cX11_shut 238 = .ok (.iconst (-1), 1) := by decide +kernel
theorem dX11_shut_239 : decode cX11_shut 239 = .ok (.if_icmp .eq 10, 3) := by decide +kernel
theorem dX11_shut_242 : decode cX11_shut 242 = .ok (.iload 6, 2) := by decide +kernel
theorem dX11_shut_244 : decode cX11_shut 244 = .ok (.iload 4, 2) := by decide +kernel
theorem dX11_shut_246 : decode cX11_shut 246 = .ok (.if_icmp .ge 24, 3) := by decide +kernel
theorem dX11_shut_249 : decode cX11_shut 249 = .ok (.aload_n 0, 1) := by decide +kernel
theorem dX11_shut_250 : decode cX11_shut 250 = .ok (.invokevirtual 188, 3) := by decide +kernel
theorem dX11_shut_253 : decode cX11_shut 253 = .ok (.iload_n 1, 1) := by decide +kernel
theorem dX11_shut_254 : decode cX11_shut 254 = .ok (.if_icmp .le 6, 3) := by decide +kernel
theorem dX11_shut_257 : decode cX11_shut 257 = .ok (.goto 13, 3) := by decide +kernel
theorem dX11_shut_260 : decode cX11_shut 260 = .ok (.iload 6, 2) := by decide +kernel
theorem dX11_shut_262 : decode cX11_shut 262 = .ok (.istore 4, 2) := by decide +kernel
theorem dX11_shut_264 : decode cX11_shut 264 = .ok (.aload_n 0, 1) := by decide +kernel
theorem dX11_shut_265 : decode cX11_shut 265 = .ok (.iload 5, 2) := by decide +kernel
theorem dX11_shut_267 : decode cX11_shut 267 = .ok (.putfield 191, 3) := by decide +kernel
theorem dX11_shut_270 : decode cX11_shut 270 = .ok (.iinc 5 1, 3) := by decide +kernel
theorem dX11_shut_273 : decode cX11_shut 273 = .ok (.goto (-105), 3) := by decide +kernel
theorem dX11_shut_276 : decode cX11_shut 276 = .ok (.iload 4, 2) := by decide +kernel
theorem dX11_shut_278 : decode cX11_shut 278 = .ok (.iconst (-1), 1) := by decide +kernel
theorem dX11_shut_279 : decode cX11_shut 279 = .ok (.if_icmp .ne 5, 3) := by decide +kernel
theorem dX11_shut_282 : decode cX11_shut 282 = .ok (.iconst (-1), 1) := by decide +kernel
theorem dX11_shut_283 : decode cX11_shut 283 = .ok (.ireturn, 1) := by decide +kernel
theorem dX11_shut_284 : decode cX11_shut 284 = .ok (.aload_n 0, 1) := by decide +kernel
theorem dX11_shut_285 : decode cX11_shut 285 = .ok (.iconst 0, 1) := by decide +kernel
theorem dX11_shut_286 : decode cX11_shut 286 = .ok (.putfield 194, 3) := by decide +kernel
theorem dX11_shut_289 : decode cX11_shut 289 = .ok (.iconst 0, 1) := by decide +kernel
theorem dX11_shut_290 : decode cX11_shut 290 = .ok (.istore 5, 2) := by decide +kernel
theorem dX11_shut_292 : decode cX11_shut 292 = .ok (.iload 5, 2) := by decide +kernel
theorem dX11_shut_294 : decode cX11_shut 294 = .ok (.iload_n 2, 1) := by decide +kernel
theorem dX11_shut_295 : decode cX11_shut 295 = .ok (.if_icmp .ge 50, 3) := by decide +kernel
theorem dX11_shut_298 : decode cX11_shut 298 = .ok (.aload_n 0, 1) := by decide +kernel
theorem dX11_shut_299 : decode cX11_shut 299 = .ok (.getfield 191, 3) := by decide +kernel
theorem dX11_shut_302 : decode cX11_shut 302 = .ok (.iload 5, 2) := by decide +kernel
theorem dX11_shut_304 : decode cX11_shut 304 = .ok (.ishr, 1) := by decide +kernel
theorem dX11_shut_305 : decode cX11_shut 305 = .ok (.iconst 1, 1) := by decide +kernel
theorem dX11_shut_306 : decode cX11_shut 306 = .ok (.iand, 1) := by decide +kernel
theorem dX11_shut_307 : decode cX11_shut 307 = .ok (.ifCond .ne 6, 3) := by decide +kernel
theorem dX11_shut_310 : decode cX11_shut 310 = .ok (.goto 29, 3) := by decide +kernel
theorem dX11_shut_313 : decode cX11_shut 313 = .ok (.aload_n 0, 1) := by decide +kernel
theorem dX11_shut_314 : decode cX11_shut 314 = .ok (.getfield 81, 3) := by decide +kernel
theorem dX11_shut_317 : decode cX11_shut 317 = .ok (.aload_n 0, 1) := by decide +kernel
theorem dX11_shut_318 : decode cX11_shut 318 = .ok (.getfield 194, 3) := by decide +kernel
theorem dX11_shut_321 : decode cX11_shut 321 = .ok (.aload_n 0, 1) := by decide +kernel
theorem dX11_shut_322 : decode cX11_shut 322 = .ok (.getfield 78, 3) := by decide +kernel
theorem dX11_shut_325 : decode cX11_shut 325 = .ok (.iload 5, 2) := by decide +kernel
theorem dX11_shut_327 : decode cX11_shut 327 = .ok (.iaload, 1) := by decide +kernel
theorem dX11_shut_328 : decode cX11_shut 328 = .ok (.iastore, 1) := by decide +kernel
theorem dX11_shut_329 : decode cX11_shut 329 = .ok (.aload_n 0, 1) := by decide +kernel
theorem dX11_shut_330 : decode cX11_shut 330 = .ok (.dup, 1) := by decide +kernel
theorem dX11_shut_331 : decode cX11_shut 331 = .ok (.getfield 194, 3) := by decide +kernel
theorem dX11_shut_334 : decode cX11_shut 334 = .ok (.iconst 1, 1) := by decide +kernel
theorem dX11_shut_335 : decode cX11_shut 335 = .ok (.iadd, 1) := by decide +kernel
theorem dX11_shut_336 : decode cX11_shut 336 = .ok (.putfield 194, 3) := by decide +kernel
theorem dX11_shut_339 : decode cX11_shut 339 = .ok (.iinc 5 1, 3) := by decide +kernel
theorem dX11_shut_342 : decode cX11_shut 342 = .ok (.goto (-50), 3) := by decide +kernel
theorem dX11_shut_345 : decode cX11_shut 345 = .ok (.iload 4, 2) := by decide +kernel
theorem dX11_shut_347 : decode cX11_shut 347 = .ok (.ireturn, 1) := by decide +kernel
theorem dX11_shutting_0 : decode cX11_shutting 0 = .ok (.aload_n 0, 1) := by decide +kernel
theorem dX11_shutting_1 : decode cX11_shutting 1 = .ok (.iconst 0, 1) := by decide +kernel
theorem dX11_shutting_2 : decode cX11_shutting 2 = .ok (.putfield 93, 3) := by decide +kernel
theorem dX11_shutting_5 : decode cX11_shutting 5 = .ok (.iload_n 1, 1) := by decide +kernel
theorem dX11_shutting_6 : decode cX11_shutting 6 = .ok (.ifCond .lt 11, 3) := by decide +kernel
theorem dX11_shutting_9 : decode cX11_shutting 9 = .ok (.iload_n 1, 1) := by decide +kernel
theorem dX11_shutting_10 : decode cX11_shutting 10 = .ok (.aload_n 0, 1) := by decide +kernel
theorem dX11_shutting_11 : decode cX11_shutting 11 = .ok (.getfield 194, 3) := by decide +kernel
theorem dX11_shutting_14 : decode cX11_shutting 14 = .ok (.if_icmp .lt 7, 3) := by decide +kernel
theorem dX11_shutting_17 : decode cX11_shutting 17 = .ok (.iconst (-1), 1) := by decide +kernel
theorem dX11_shutting_18 : decode cX11_shutting 18 = .ok (.goto 9, 3) := by decide +kernel
theorem dX11_shutting_21 : decode cX11_shutting 21 = .ok (.aload_n 0, 1) := by decide +kernel
theorem dX11_shutting_22 : decode cX11_shutting 22 = .ok (.getfield 81, 3) := by decide +kernel
theorem dX11_shutting_25 : decode cX11_shutting 25 = .ok (.iload_n 1, 1) := by decide +kernel
theorem dX11_shutting_26 : decode cX11_shutting 26 = .ok (.iaload, 1) := by decide +kernel
theorem dX11_shutting_27 : decode cX11_shutting 27 = .ok (.ireturn, 1) := by decide +kernel
theorem dX11_odd_0 : decode cX11_odd 0 = .ok (.aload_n 0, 1) := by decide +kernel
theorem dX11_odd_1 : decode cX11_odd 1 = .ok (.iconst 0, 1) := by decide +kernel
theorem dX11_odd_2 : decode cX11_odd 2 = .ok (.putfield 93, 3) := by decide +kernel
theorem dX11_odd_5 : decode cX11_odd 5 = .ok (.iload_n 1, 1) := by decide +kernel
theorem dX11_odd_6 : decode cX11_odd 6 = .ok (.invokestatic 107, 3) := by decide +kernel
theorem dX11_odd_9 : decode cX11_odd 9 = .ok (.ifCond .eq 10, 3) := by decide +kernel
theorem dX11_odd_12 : decode cX11_odd 12 = .ok (.aload_n 0, 1) := by decide +kernel
theorem dX11_odd_13 : decode cX11_odd 13 = .ok (.getfield 140, 3) := by decide +kernel
theorem dX11_odd_16 : decode cX11_odd 16 = .ok (.ifCond .ne 5, 3) := by decide +kernel
theorem dX11_odd_19 : decode cX11_odd 19 = .ok (.iconst (-1), 1) := by decide +kernel
theorem dX11_odd_20 : decode cX11_odd 20 = .ok (.ireturn, 1) := by decide +kernel
theorem dX11_odd_21 : decode cX11_odd 21 = .ok (.aload_n 0, 1) := by decide +kernel
theorem dX11_odd_22 : decode cX11_odd 22 = .ok (.iconst 0, 1) := by decide +kernel
theorem dX11_odd_23 : decode cX11_odd 23 = .ok (.putfield 197, 3) := by decide +kernel
theorem dX11_odd_26 : decode cX11_odd 26 = .ok (.iconst 0, 1) := by decide +kernel
theorem dX11_odd_27 : decode cX11_odd 27 = .ok (.istore_n 2, 1) := by decide +kernel
theorem dX11_odd_28 : decode cX11_odd 28 = .ok (.iload_n 2, 1) := by decide +kernel
theorem dX11_odd_29 : decode cX11_odd 29 = .ok (.aload_n 0, 1) := by decide +kernel
theorem dX11_odd_30 : decode cX11_odd 30 = .ok (.getfield 110, 3) := by decide +kernel
theorem dX11_odd_33 : decode cX11_odd 33 = .ok (.if_icmp .ge 138, 3) := by decide +kernel
theorem dX11_odd_36 : decode cX11_odd 36 = .ok (.aload_n 0, 1) := by decide +kernel
theorem dX11_odd_37 : decode cX11_odd 37 = .ok (.getfield 19, 3) := by decide +kernel
theorem dX11_odd_40 : decode cX11_odd 40 = .ok (.iload_n 2, 1) := by decide +kernel
theorem dX11_odd_41 : decode cX11_odd 41 = .ok (.iaload, 1) := by decide +kernel
theorem dX11_odd_42 : decode cX11_odd 42 = .ok (.iload_n 1, 1) := by decide +kernel
theorem dX11_odd_43 : decode cX11_odd 43 = .ok (.if_icmp .eq 6, 3) := by decide +kernel
theorem dX11_odd_46 : decode cX11_odd 46 = .ok (.goto 119, 3) := by decide +kernel
theorem dX11_odd_49 : decode cX11_odd 49 = .ok (.aload_n 0, 1) := by decide +kernel
theorem dX11_odd_50 : decode cX11_odd 50 = .ok (.getfield 16, 3) := by decide +kernel
theorem dX11_odd_53 : decode cX11_odd 53 = .ok (.iload_n 2, 1) := by decide +kernel
theorem dX11_odd_54 : decode cX11_odd 54 = .ok (.iaload, 1) := by decide +kernel
theorem dX11_odd_55 : decode cX11_odd 55 = .ok (.istore_n 3, 1) := by decide +kernel
theorem dX11_odd_56 : decode cX11_odd 56 = .ok (.aload_n 0, 1) := by decide +kernel
theorem dX11_odd_57 : decode cX11_odd 57 = .ok (.getfield 13, 3) := by decide +kernel
theorem dX11_odd_60 : decode cX11_odd 60 = .ok (.iload_n 3, 1) := by decide +kernel
theorem dX11_odd_61 : decode cX11_odd 61 = .ok (.bipush 32, 2) := by decide +kernel
theorem dX11_odd_63 : decode cX11_odd 63 = .ok (.idiv, 1) := by decide +kernel
theorem dX11_odd_64 : decode cX11_odd 64 = .ok (.iaload, 1) := by decide +kernel
theorem dX11_odd_65 : decode cX11_odd 65 = .ok (.iconst (-1), 1) := by decide +kernel
theorem dX11_odd_66 : decode cX11_odd 66 = .ok (.if_icmp .eq 22, 3) := by decide +kernel
theorem dX11_odd_69 : decode cX11_odd 69 = .ok (.aload_n 0, 1) := by decide +kernel
theorem dX11_odd_70 : decode cX11_odd 70 = .ok (.getfield 13, 3) := by decide +kernel
theorem dX11_odd_73 : decode cX11_odd 73 = .ok (.iload_n 3, 1) := by decide +kernel
theorem dX11_odd_74 : decode cX11_odd 74 = .ok (.iconst 4, 1) := by decide +kernel
theorem dX11_odd_75 : decode cX11_odd 75 = .ok (.idiv, 1) := by decide +kernel
theorem dX11_odd_76 : decode cX11_odd 76 = .ok (.bipush 8, 2) := by decide +kernel
theorem dX11_odd_78 : decode cX11_odd 78 = .ok (.irem, 1) := by decide +kernel
theorem dX11_odd_79 : decode cX11_odd 79 = .ok (.iaload, 1) := by decide +kernel
theorem dX11_odd_80 : decode cX11_odd 80 = .ok (.iconst (-1), 1) := by decide +kernel
theorem dX11_odd_81 : decode cX11_odd 81 = .ok (.if_icmp .eq 7, 3) := by decide +kernel
theorem dX11_odd_84 : decode cX11_odd 84 = .ok (.iconst 1, 1) := by decide +kernel
theorem dX11_odd_85 : decode cX11_odd 85 = .ok (.goto 4, 3) := by decide +kernel
theorem dX11_odd_88 : decode cX11_odd 88 = .ok (.iconst 0, 1) := by decide +kernel
theorem dX11_odd_89 : decode cX11_odd 89 = .ok (.istore 4, 2) := by decide +kernel
theorem dX11_odd_91 : decode cX11_odd 91 = .ok (.iload 4, 2) := by decide +kernel
theorem dX11_odd_93 : decode cX11_odd 93 = .ok (.ifCond .eq 14, 3) := by decide +kernel
theorem dX11_odd_96 : decode cX11_odd 96 = .ok (.aload_n 0, 1) := by decide +kernel
theorem dX11_odd_97 : decode cX11_odd 97 = .ok (.iload_n 3, 1) := by decide +kernel
theorem dX11_odd_98 : decode cX11_odd 98 = .ok (.invokevirtual 176, 3) := by decide +kernel
theorem dX11_odd_101 : decode cX11_odd 101 = .ok (.ifCond .le 6, 3) := by decide +kernel
theorem dX11_odd_104 : decode cX11_odd 104 = .ok (.goto 61, 3) := by decide +kernel
theorem dX11_odd_107 : decode cX11_odd 107 = .ok (.aload_n 0, 1) := by decide +kernel
theorem dX11_odd_108 : decode cX11_odd 108 = .ok (.getfield 84, 3) := by decide +kernel
theorem dX11_odd_111 : decode cX11_odd 111 = .ok (.aload_n 0, 1) := by decide +kernel
theorem dX11_odd_112 : decode cX11_odd 112 = .ok (.getfield 197, 3) := by decide +kernel
theorem dX11_odd_115 : decode cX11_odd 115 = .ok (.iload_n 3, 1) := by decide +kernel
theorem dX11_odd_116 : decode cX11_odd 116 = .ok (.iastore, 1) := by decide +kernel
theorem dX11_odd_117 : decode cX11_odd 117 = .ok (.aload_n 0, 1) := by decide +kernel
theorem dX11_odd_118 : decode cX11_odd 118 = .ok (.getfield 87, 3) := by decide +kernel
theorem dX11_odd_121 : decode cX11_odd 121 = .ok (.aload_n 0, 1) := by decide +kernel
theorem dX11_odd_122 : decode cX11_odd 122 = .ok (.getfield 197, 3) := by decide +kernel
theorem dX11_odd_125 : decode cX11_odd 125 = .ok (.aload_n 0, 1) := by decide +kernel
theorem dX11_odd_126 : decode cX11_odd 126 = .ok (.getfield 22, 3) := by decide +kernel
theorem dX11_odd_129 : decode cX11_odd 129 = .ok (.iload_n 2, 1) := by decide +kernel
theorem dX11_odd_130 : decode cX11_odd 130 = .ok (.iaload, 1) := by decide +kernel
theorem dX11_odd_131 : decode cX11_odd 131 = .ok (.iastore, 1) := by decide +kernel
theorem dX11_odd_132 : decode cX11_odd 132 = .ok (.aload_n 0, 1) := by decide +kernel
theorem dX11_odd_133 : decode cX11_odd 133 = .ok (.getfield 90, 3) := by decide +kernel
theorem dX11_odd_136 : decode cX11_odd 136 = .ok (.aload_n 0, 1) := by decide +kernel
theorem dX11_odd_137 : decode cX11_odd 137 = .ok (.getfield 197, 3) := by decide +kernel
theorem dX11_odd_140 : decode cX11_odd 140 = .ok (.iload 4, 2) := by decide +kernel
theorem dX11_odd_142 : decode cX11_odd 142 = .ok (.ifCond .eq 11, 3) := by decide +kernel
theorem dX11_odd_145 : decode cX11_odd 145 = .ok (.aload_n 0, 1) := by decide +kernel
theorem dX11_odd_146 : decode cX11_odd 146 = .ok (.iload_n 3, 1) := by decide +kernel
theorem dX11_odd_147 : decode cX11_odd 147 = .ok (.invokevirtual 200, 3) := by decide +kernel
theorem dX11_odd_150 : decode cX11_odd 150 = .ok (.goto 4, 3) := by decide +kernel
theorem dX11_odd_153 : decode cX11_odd 153 = .ok (.iconst 0, 1) := by decide +kernel
theorem dX11_odd_154 : decode cX11_odd 154 = .ok (.iastore, 1) := by decide +kernel
theorem dX11_odd_155 : decode cX11_odd 155 = .ok (.aload_n 0, 1) := by decide +kernel
theorem dX11_odd_156 : decode cX11_odd 156 = .ok (.dup, 1) := by decide +kernel
theorem dX11_odd_157 : decode cX11_odd 157 = .ok (.getfield 197, 3) := by decide +kernel
theorem dX11_odd_160 : decode cX11_odd 160 = .ok (.iconst 1, 1) := by decide +kernel
theorem dX11_odd_161 : decode cX11_odd 161 = .ok (.iadd, 1) := by decide +kernel
theorem dX11_odd_162 : decode cX11_odd 162 = .ok (.putfield 197, 3) := by decide +kernel
theorem dX11_odd_165 : decode cX11_odd 165 = .ok (.iinc 2 1, 3) := by decide +kernel
theorem dX11_odd_168 : decode cX11_odd 168 = .ok (.goto (-140), 3) := by decide +kernel
theorem dX11_odd_171 : decode cX11_odd 171 = .ok (.aload_n 0, 1) := by decide +kernel
theorem dX11_odd_172 : decode cX11_odd 172 = .ok (.getfield 197, 3) := by decide +kernel
theorem dX11_odd_175 : decode cX11_odd 175 = .ok (.ireturn, 1) := by decide +kernel
theorem dX11_nearOf_0 : decode cX11_nearOf 0 = .ok (.aload_n 0, 1) := by decide +kernel
theorem dX11_nearOf_1 : decode cX11_nearOf 1 = .ok (.getfield 13, 3) := by decide +kernel
theorem dX11_nearOf_4 : decode cX11_nearOf 4 = .ok (.iload_n 1, 1) := by decide +kernel
theorem dX11_nearOf_5 : decode cX11_nearOf 5 = .ok (.bipush 32, 2) := by decide +kernel
theorem dX11_nearOf_7 : decode cX11_nearOf 7 = .ok (.idiv, 1) := by decide +kernel
theorem dX11_nearOf_8 : decode cX11_nearOf 8 = .ok (.iaload, 1) := by decide +kernel
theorem dX11_nearOf_9 : decode cX11_nearOf 9 = .ok (.istore_n 2, 1) := by decide +kernel
theorem dX11_nearOf_10 : decode cX11_nearOf 10 = .ok (.aload_n 0, 1) := by decide +kernel
theorem dX11_nearOf_11 : decode cX11_nearOf 11 = .ok (.getfield 13, 3) := by decide +kernel
theorem dX11_nearOf_14 : decode cX11_nearOf 14 = .ok (.iload_n 1, 1) := by decide +kernel
theorem dX11_nearOf_15 : decode cX11_nearOf 15 = .ok (.iconst 4, 1) := by decide +kernel
theorem dX11_nearOf_16 : decode cX11_nearOf 16 = .ok (.idiv, 1) := by decide +kernel
theorem dX11_nearOf_17 : decode cX11_nearOf 17 = .ok (.bipush 8, 2) := by decide +kernel
theorem dX11_nearOf_19 : decode cX11_nearOf 19 = .ok (.irem, 1) := by decide +kernel
theorem dX11_nearOf_20 : decode cX11_nearOf 20 = .ok (.iaload, 1) := by decide +kernel
theorem dX11_nearOf_21 : decode cX11_nearOf 21 = .ok (.istore_n 3, 1) := by decide +kernel
theorem dX11_nearOf_22 : decode cX11_nearOf 22 = .ok (.iconst 0, 1) := by decide +kernel
theorem dX11_nearOf_23 : decode cX11_nearOf 23 = .ok (.istore 4, 2) := by decide +kernel
theorem dX11_nearOf_25 : decode cX11_nearOf 25 = .ok (.iconst 0, 1) := by decide +kernel
theorem dX11_nearOf_26 : decode cX11_nearOf 26 = .ok (.istore 5, 2) := by decide +kernel
theorem dX11_nearOf_28 : decode cX11_nearOf 28 = .ok (.iload 5, 2) := by decide +kernel
theorem dX11_nearOf_30 : decode cX11_nearOf 30 = .ok (.iconst 4, 1) := by decide +kernel
theorem dX11_nearOf_31 : decode cX11_nearOf 31 = .ok (.if_icmp .ge 39, 3) := by decide +kernel
theorem dX11_nearOf_34 : decode cX11_nearOf 34 = .ok (.iload 5, 2) := by decide +kernel
theorem dX11_nearOf_36 : decode cX11_nearOf 36 = .ok (.iload_n 1, 1) := by decide +kernel
theorem dX11_nearOf_37 : decode cX11_nearOf 37 = .ok (.iconst 4, 1) := by decide +kernel
theorem dX11_nearOf_38 : decode cX11_nearOf 38 = .ok (.irem, 1) := by decide +kernel
theorem dX11_nearOf_39 : decode cX11_nearOf 39 = .ok (.if_icmp .eq 25, 3) := by decide +kernel
theorem dX11_nearOf_42 : decode cX11_nearOf 42 = .ok (.aload_n 0, 1) := by decide +kernel
theorem dX11_nearOf_43 : decode cX11_nearOf 43 = .ok (.getfield 66, 3) := by decide +kernel
theorem dX11_nearOf_46 : decode cX11_nearOf 46 = .ok (.bipush 32, 2) := by decide +kernel
theorem dX11_nearOf_48 : decode cX11_nearOf 48 = .ok (.iload_n 2, 1) := by decide +kernel
theorem dX11_nearOf_49 : decode cX11_nearOf 49 = .ok (.imul, 1) := by decide +kernel
theorem dX11_nearOf_50 : decode cX11_nearOf 50 = .ok (.iconst 4, 1) := by decide +kernel
theorem dX11_nearOf_51 : decode cX11_nearOf 51 = .ok (.iload_n 3, 1) := by decide +kernel
theorem dX11_nearOf_52 : decode cX11_nearOf 52 = .ok (.imul, 1) := by decide +kernel
theorem dX11_nearOf_53 : decode cX11_nearOf 53 = .ok (.iadd, 1) := by decide +kernel
theorem dX11_nearOf_54 : decode cX11_nearOf 54 = .ok (.iload 5, 2) := by decide +kernel
theorem dX11_nearOf_56 : decode cX11_nearOf 56 = .ok (.iadd, 1) := by decide +kernel
theorem dX11_nearOf_57 : decode cX11_nearOf 57 = .ok (.baload, 1) := by decide +kernel
theorem dX11_nearOf_58 : decode cX11_nearOf 58 = .ok (.ifCond .eq 6, 3) := by decide +kernel
theorem dX11_nearOf_61 : decode cX11_nearOf 61 = .ok (.iconst 1, 1) := by decide +kernel
theorem dX11_nearOf_62 : decode cX11_nearOf 62 = .ok (.istore 4, 2) := by decide +kernel
theorem dX11_nearOf_64 : decode cX11_nearOf 64 = .ok (.iinc 5 1, 3) := by decide +kernel
theorem dX11_nearOf_67 : decode cX11_nearOf 67 = .ok (.goto (-39), 3) := by decide +kernel
theorem dX11_nearOf_70 : decode cX11_nearOf 70 = .ok (.iload 4, 2) := by decide +kernel
theorem dX11_nearOf_72 : decode cX11_nearOf 72 = .ok (.aload_n 0, 1) := by decide +kernel
theorem dX11_nearOf_73 : decode cX11_nearOf 73 = .ok (.getfield 66, 3) := by decide +kernel
theorem dX11_nearOf_76 : decode cX11_nearOf 76 = .ok (.bipush 32, 2) := by decide +kernel
theorem dX11_nearOf_78 : decode cX11_nearOf 78 = .ok (.iload_n 3, 1) := by decide +kernel
theorem dX11_nearOf_79 : decode cX11_nearOf 79 = .ok (.imul, 1) := by decide +kernel
theorem dX11_nearOf_80 : decode cX11_nearOf 80 = .ok (.iconst 4, 1) := by decide +kernel
theorem dX11_nearOf_81 : decode cX11_nearOf 81 = .ok (.iload_n 2, 1) := by decide +kernel
theorem dX11_nearOf_82 : decode cX11_nearOf 82 = .ok (.imul, 1) := by decide +kernel
theorem dX11_nearOf_83 : decode cX11_nearOf 83 = .ok (.iadd, 1) := by decide +kernel
theorem dX11_nearOf_84 : decode cX11_nearOf 84 = .ok (.iload_n 1, 1) := by decide +kernel
theorem dX11_nearOf_85 : decode cX11_nearOf 85 = .ok (.iconst 4, 1) := by decide +kernel
theorem dX11_nearOf_86 : decode cX11_nearOf 86 = .ok (.irem, 1) := by decide +kernel
theorem dX11_nearOf_87 : decode cX11_nearOf 87 = .ok (.iadd, 1) := by decide +kernel
theorem dX11_nearOf_88 : decode cX11_nearOf 88 = .ok (.baload, 1) := by decide +kernel
theorem dX11_nearOf_89 : decode cX11_nearOf 89 = .ok (.ifCond .eq 7, 3) := by decide +kernel
theorem dX11_nearOf_92 : decode cX11_nearOf 92 = .ok (.iconst 2, 1) := by decide +kernel
theorem dX11_nearOf_93 : decode cX11_nearOf 93 = .ok (.goto 4, 3) := by decide +kernel
theorem dX11_nearOf_96 : decode cX11_nearOf 96 = .ok (.iconst 0, 1) := by decide +kernel
theorem dX11_nearOf_97 : decode cX11_nearOf 97 = .ok (.iadd, 1) := by decide +kernel
theorem dX11_nearOf_98 : decode cX11_nearOf 98 = .ok (.ireturn, 1) := by decide +kernel
theorem dX11_oddTalk_0 : decode cX11_oddTalk 0 = .ok (.aload_n 0, 1) := by decide +kernel
theorem dX11_oddTalk_1 : decode cX11_oddTalk 1 = .ok (.iconst 0, 1) := by decide +kernel
theorem dX11_oddTalk_2 : decode cX11_oddTalk 2 = .ok (.putfield 93, 3) := by decide +kernel
theorem dX11_oddTalk_5 : decode cX11_oddTalk 5 = .ok (.iload_n 1, 1) := by decide +kernel
theorem dX11_oddTalk_6 : decode cX11_oddTalk 6 = .ok (.ifCond .lt 11, 3) := by decide +kernel
theorem dX11_oddTalk_9 : decode cX11_oddTalk 9 = .ok (.iload_n 1, 1) := by decide +kernel
theorem dX11_oddTalk_10 : decode cX11_oddTalk 10 = .ok (.aload_n 0, 1) := by decide +kernel
theorem dX11_oddTalk_11 : decode cX11_oddTalk 11 = .ok (.getfield 197, 3) := by decide +kernel
theorem dX11_oddTalk_14 : decode cX11_oddTalk 14 = .ok (.if_icmp .lt 5, 3) := by decide +kernel
theorem dX11_oddTalk_17 : decode cX11_oddTalk 17 = .ok (.iconst (-1), 1) := by decide +kernel
theorem dX11_oddTalk_18 : decode cX11_oddTalk 18 = .ok (.ireturn, 1) := by decide +kernel
theorem dX11_oddTalk_19 : decode cX11_oddTalk 19 = .ok (.iload_n 2, 1) := by decide +kernel
theorem dX11_oddTalk_20 : decode cX11_oddTalk 20 = .ok (.tableswitch 81 0 4 #[36, 46, 58, 67, 74], 36) := by decide +kernel
theorem dX11_oddTalk_56 : decode cX11_oddTalk 56 = .ok (.aload_n 0, 1) := by decide +kernel
theorem dX11_oddTalk_57 : decode cX11_oddTalk 57 = .ok (.getfield 84, 3) := by decide +kernel
theorem dX11_oddTalk_60 : decode cX11_oddTalk 60 = .ok (.iload_n 1, 1) := by decide +kernel
theorem dX11_oddTalk_61 : decode cX11_oddTalk 61 = .ok (.iaload, 1) := by decide +kernel
theorem dX11_oddTalk_62 : decode cX11_oddTalk 62 = .ok (.bipush 32, 2) := by decide +kernel
theorem dX11_oddTalk_64 : decode cX11_oddTalk 64 = .ok (.idiv, 1) := by decide +kernel
theorem dX11_oddTalk_65 : decode cX11_oddTalk 65 = .ok (.ireturn, 1) := by decide +kernel
theorem dX11_oddTalk_66 : decode cX11_oddTalk 66 = .ok (.aload_n 0, 1) := by decide +kernel
theorem dX11_oddTalk_67 : decode cX11_oddTalk 67 = .ok (.getfield 84, 3) := by decide +kernel
theorem dX11_oddTalk_70 : decode cX11_oddTalk 70 = .ok (.iload_n 1, 1) := by decide +kernel
theorem dX11_oddTalk_71 : decode cX11_oddTalk 71 = .ok (.iaload, 1) := by decide +kernel
theorem dX11_oddTalk_72 : decode cX11_oddTalk 72 = .ok (.iconst 4, 1) := by decide +kernel
theorem dX11_oddTalk_73 : decode cX11_oddTalk 73 = .ok (.idiv, 1) := by decide +kernel
theorem dX11_oddTalk_74 : decode cX11_oddTalk 74 = .ok (.bipush 8, 2) := by decide +kernel
theorem dX11_oddTalk_76 : decode cX11_oddTalk 76 = .ok (.irem, 1) := by decide +kernel
theorem dX11_oddTalk_77 : decode cX11_oddTalk 77 = .ok (.ireturn, 1) := by decide +kernel
theorem dX11_oddTalk_78 : decode cX11_oddTalk 78 = .ok (.aload_n 0, 1) := by decide +kernel
theorem dX11_oddTalk_79 : decode cX11_oddTalk 79 = .ok (.getfield 84, 3) := by decide +kernel
theorem dX11_oddTalk_82 : decode cX11_oddTalk 82 = .ok (.iload_n 1, 1) := by decide +kernel
theorem dX11_oddTalk_83 : decode cX11_oddTalk 83 = .ok (.iaload, 1) := by decide +kernel
theorem dX11_oddTalk_84 : decode cX11_oddTalk 84 = .ok (.iconst 4, 1) := by decide +kernel
theorem dX11_oddTalk_85 : decode cX11_oddTalk 85 = .ok (.irem, 1) := by decide +kernel
theorem dX11_oddTalk_86 : decode cX11_oddTalk 86 = .ok (.ireturn, 1) := by decide +kernel
theorem dX11_oddTalk_87 : decode cX11_oddTalk 87 = .ok (.aload_n 0, 1) := by decide +kernel
theorem dX11_oddTalk_88 : decode cX11_oddTalk 88 = .ok (.getfield 87, 3) := by decide +kernel
theorem dX11_oddTalk_91 : decode cX11_oddTalk 91 = .ok (.iload_n 1, 1) := by decide +kernel
theorem dX11_oddTalk_92 : decode cX11_oddTalk 92 = .ok (.iaload, 1) := by decide +kernel
theorem dX11_oddTalk_93 : decode cX11_oddTalk 93 = .ok (.ireturn, 1) := by decide +kernel
theorem dX11_oddTalk_94 : decode cX11_oddTalk 94 = .ok (.aload_n 0, 1) := by decide +kernel
theorem dX11_oddTalk_95 : decode cX11_oddTalk 95 = .ok (.getfield 90, 3) := by decide +kernel
theorem dX11_oddTalk_98 : decode cX11_oddTalk 98 = .ok (.iload_n 1, 1) := by decide +kernel
theorem dX11_oddTalk_99 : decode cX11_oddTalk 99 = .ok (.iaload, 1) := by decide +kernel
theorem dX11_oddTalk_100 : decode cX11_oddTalk 100 = .ok (.ireturn, 1) := by decide +kernel
theorem dX11_oddTalk_101 : decode cX11_oddTalk 101 = .ok (.iconst (-1), 1) := by decide +kernel
theorem dX11_oddTalk_102 : decode cX11_oddTalk 102 = .ok (.ireturn, 1) := by decide +kernel
theorem dX11_place_0 : decode cX11_place 0 = .ok (.aload_n 0, 1) := by decide +kernel
theorem dX11_place_1 : decode cX11_place 1 = .ok (.iconst 0, 1) := by decide +kernel
theorem dX11_place_2 : decode cX11_place 2 = .ok (.putfield 93, 3) := by decide +kernel
theorem dX11_place_5 : decode cX11_place 5 = .ok (.aload_n 0, 1) := by decide +kernel
theorem dX11_place_6 : decode cX11_place 6 = .ok (.iload_n 1, 1) := by decide +kernel
theorem dX11_place_7 : decode cX11_place 7 = .ok (.invokevirtual 99, 3) := by decide +kernel
theorem dX11_place_10 : decode cX11_place 10 = .ok (.ifCond .eq 27, 3) := by decide +kernel
theorem dX11_place_13 : decode cX11_place 13 = .ok (.iload_n 2, 1) := by decide +kernel
theorem dX11_place_14 : decode cX11_place 14 = .ok (.invokestatic 107, 3) := by decide +kernel
theorem dX11_place_17 : decode cX11_place 17 = .ok (.ifCond .eq 20, 3) := by decide +kernel
theorem dX11_place_20 : decode cX11_place 20 = .ok (.aload_n 0, 1) := by decide +kernel
theorem dX11_place_21 : decode cX11_place 21 = .ok (.getfield 13, 3) := by decide +kernel
theorem dX11_place_24 : decode cX11_place 24 = .ok (.iload_n 1, 1) := by decide +kernel
theorem dX11_place_25 : decode cX11_place 25 = .ok (.iaload, 1) := by decide +kernel
theorem dX11_place_26 : decode cX11_place 26 = .ok (.iconst (-1), 1) := by decide +kernel
theorem dX11_place_27 : decode cX11_place 27 = .ok (.if_icmp .ne 10, 3) := by decide +kernel
theorem dX11_place_30 : decode cX11_place 30 = .ok (.aload_n 0, 1) := by decide +kernel
theorem dX11_place_31 : decode cX11_place 31 = .ok (.getfield 140, 3) := by decide +kernel
theorem dX11_place_34 : decode cX11_place 34 = .ok (.ifCond .ne 5, 3) := by decide +kernel
theorem dX11_place_37 : decode cX11_place 37 = .ok (.iconst (-1), 1) := by decide +kernel
theorem dX11_place_38 : decode cX11_place 38 = .ok (.ireturn, 1) := by decide +kernel
theorem dX11_place_39 : decode cX11_place 39 = .ok (.aload_n 0, 1) := by decide +kernel
theorem dX11_place_40 : decode cX11_place 40 = .ok (.iload_n 2, 1) := by decide +kernel
theorem dX11_place_41 : decode cX11_place 41 = .ok (.invokevirtual 149, 3) := by decide +kernel
theorem dX11_place_44 : decode cX11_place 44 = .ok (.aload_n 0, 1) := by decide +kernel
theorem dX11_place_45 : decode cX11_place 45 = .ok (.invokevirtual 203, 3) := by decide +kernel
theorem dX11_place_48 : decode cX11_place 48 = .ok (.istore_n 3, 1) := by decide +kernel
theorem dX11_place_49 : decode cX11_place 49 = .ok (.iconst (-1), 1) := by decide +kernel
theorem dX11_place_50 : decode cX11_place 50 = .ok (.istore 4, 2) := by decide +kernel
theorem dX11_place_52 : decode cX11_place 52 = .ok (.iconst (-1), 1) := by decide +kernel
theorem dX11_place_53 : decode cX11_place 53 = .ok (.istore 5, 2) := by decide +kernel
theorem dX11_place_55 : decode cX11_place 55 = .ok (.iconst 0, 1) := by decide +kernel
theorem dX11_place_56 : decode cX11_place 56 = .ok (.istore 6, 2) := by decide +kernel
theorem dX11_place_58 : decode cX11_place 58 = .ok (.iload 6, 2) := by decide +kernel
theorem dX11_place_60 : decode cX11_place 60 = .ok (.iload_n 3, 1) := by decide +kernel
theorem dX11_place_61 : decode cX11_place 61 = .ok (.if_icmp .gt 79, 3) := by decide +kernel
theorem dX11_place_64 : decode cX11_place 64 = .ok (.iload 6, 2) := by decide +kernel
theorem dX11_place_66 : decode cX11_place 66 = .ok (.bipush 8, 2) := by decide +kernel
theorem dX11_place_68 : decode cX11_place 68 = .ok (.if_icmp .ge 72, 3) := by decide +kernel
theorem dX11_place_71 : decode cX11_place 71 = .ok (.aload_n 0, 1) := by decide +kernel
theorem dX11_place_72 : decode cX11_place 72 = .ok (.iload_n 1, 1) := by decide +kernel
theorem dX11_place_73 : decode cX11_place 73 = .ok (.iload 6, 2) := by decide +kernel
theorem dX11_place_75 : decode cX11_place 75 = .ok (.invokevirtual 206, 3) := by decide +kernel
theorem dX11_place_78 : decode cX11_place 78 = .ok (.aload_n 0, 1) := by decide +kernel
theorem dX11_place_79 : decode cX11_place 79 = .ok (.getfield 113, 3) := by decide +kernel
theorem dX11_place_82 : decode cX11_place 82 = .ok (.ifCond .eq 16, 3) := by decide +kernel
theorem dX11_place_85 : decode cX11_place 85 = .ok (.aload_n 0, 1) := by decide +kernel
theorem dX11_place_86 : decode cX11_place 86 = .ok (.iload_n 1, 1) := by decide +kernel
theorem dX11_place_87 : decode cX11_place 87 = .ok (.iload 6, 2) := by decide +kernel
theorem dX11_place_89 : decode cX11_place 89 = .ok (.invokevirtual 210, 3) := by decide +kernel
theorem dX11_place_92 : decode cX11_place 92 = .ok (.ifCond .eq 6, 3) := by decide +kernel
theorem dX11_place_95 : decode cX11_place 95 = .ok (.goto 39, 3) := by decide +kernel
theorem dX11_place_98 : decode cX11_place 98 = .ok (.aload_n 0, 1) := by decide +kernel
theorem dX11_place_99 : decode cX11_place 99 = .ok (.invokevirtual 157, 3) := by decide +kernel
theorem dX11_place_102 : decode cX11_place 102 = .ok (.istore 7, 2) := by decide +kernel
theorem dX11_place_104 : decode cX11_place 104 = .ok (.iload 7, 2) := by decide +kernel
theorem dX11_place_106 : decode cX11_place 106 = .ok (.iconst (-1), 1) := by decide +kernel
theorem dX11_place_107 : decode cX11_place 107 = .ok (.if_icmp .eq 27, 3) := by decide +kernel
theorem dX11_place_110 : decode cX11_place 110 = .ok (.iload 4, 2) := by decide +kernel
theorem dX11_place_112 : decode cX11_place 112 = .ok (.iconst (-1), 1) := by decide +kernel
theorem dX11_place_113 : decode cX11_place 113 = .ok (.if_icmp .eq 13, 3) := by decide +kernel
theorem dX11_place_116 : decode cX11_place 116 = .ok (.iload 7, 2) := by decide +kernel
theorem dX11_place_118 : decode cX11_place 118 = .ok (.iload 4, 2) := by decide +kernel
theorem dX11_place_120 : decode cX11_place 120 = .ok (.if_icmp .lt 6, 3) := by decide +kernel
theorem dX11_place_123 : decode cX11_place 123 = .ok (.goto 11, 3) := by decide +kernel
theorem dX11_place_126 : decode cX11_place 126 = .ok (.iload 7, 2) := by decide +kernel
theorem dX11_place_128 : decode cX11_place 128 = .ok (.istore 4, 2) := by decide +kernel
theorem dX11_place_130 : decode cX11_place 130 = .ok (.iload 6, 2) := by decide +kernel
theorem dX11_place_132 : decode cX11_place 132 = .ok (.istore 5, 2) := by decide +kernel
theorem dX11_place_134 : decode cX11_place 134 = .ok (.iinc 6 1, 3) := by decide +kernel
theorem dX11_place_137 : decode cX11_place 137 = .ok (.goto (-79), 3) := by decide +kernel
theorem dX11_place_140 : decode cX11_place 140 = .ok (.iload 5, 2) := by decide +kernel
theorem dX11_place_142 : decode cX11_place 142 = .ok (.iconst (-1), 1) := by decide +kernel
theorem dX11_place_143 : decode cX11_place 143 = .ok (.if_icmp .ne 5, 3) := by decide +kernel
theorem dX11_place_146 : decode cX11_place 146 = .ok (.iconst (-1), 1) := by decide +kernel
theorem dX11_place_147 : decode cX11_place 147 = .ok (.ireturn, 1) := by decide +kernel
theorem dX11_place_148 : decode cX11_place 148 = .ok (.aload_n 0, 1) := by decide +kernel
theorem dX11_place_149 : decode cX11_place 149 = .ok (.iload_n 1, 1) := by decide +kernel
theorem dX11_place_150 : decode cX11_place 150 = .ok (.iload 5, 2) := by decide +kernel
theorem dX11_place_152 : decode cX11_place 152 = .ok (.invokevirtual 206, 3) := by decide +kernel
theorem dX11_place_155 : decode cX11_place 155 = .ok (.aload_n 0, 1) := by decide +kernel
theorem dX11_place_156 : decode cX11_place 156 = .ok (.aload_n 0, 1) := by decide +kernel
theorem dX11_place_157 : decode cX11_place 157 = .ok (.invokevirtual 157, 3) := by decide +kernel
theorem dX11_place_160 : decode cX11_place 160 = .ok (.invokevirtual 164, 3) := by decide +kernel
theorem dX11_place_163 : decode cX11_place 163 = .ok (.iload 5, 2) := by decide +kernel
theorem dX11_place_165 : decode cX11_place 165 = .ok (.ireturn, 1) := by decide +kernel
theorem dX11_putsIn_0 : decode cX11_putsIn 0 = .ok (.iconst 0, 1) := by decide +kernel
theorem dX11_putsIn_1 : decode cX11_putsIn 1 = .ok (.istore_n 3, 1) := by decide +kernel
theorem dX11_putsIn_2 : decode cX11_putsIn 2 = .ok (.iload_n 3, 1) := by decide +kernel
theorem dX11_putsIn_3 : decode cX11_putsIn 3 = .ok (.bipush 8, 2) := by decide +kernel
theorem dX11_putsIn_5 : decode cX11_putsIn 5 = .ok (.if_icmp .ge 30, 3) := by decide +kernel
theorem dX11_putsIn_8 : decode cX11_putsIn 8 = .ok (.aload_n 0, 1) := by decide +kernel
theorem dX11_putsIn_9 : decode cX11_putsIn 9 = .ok (.getfield 57, 3) := by decide +kernel
theorem dX11_putsIn_12 : decode cX11_putsIn 12 = .ok (.iload_n 3, 1) := by decide +kernel
theorem dX11_putsIn_13 : decode cX11_putsIn 13 = .ok (.iload_n 3, 1) := by decide +kernel
theorem dX11_putsIn_14 : decode cX11_putsIn 14 = .ok (.iload_n 1, 1) := by decide +kernel
theorem dX11_putsIn_15 : decode cX11_putsIn 15 = .ok (.if_icmp .ne 7, 3) := by decide +kernel
theorem dX11_putsIn_18 : decode cX11_putsIn 18 = .ok (.iload_n 2, 1) := by decide +kernel
theorem dX11_putsIn_19 : decode cX11_putsIn 19 = .ok (.goto 9, 3) := by decide +kernel
theorem dX11_putsIn_22 : decode cX11_putsIn 22 = .ok (.aload_n 0, 1) := by decide +kernel
theorem dX11_putsIn_23 : decode cX11_putsIn 23 = .ok (.getfield 13, 3) := by decide +kernel
theorem dX11_putsIn_26 : decode cX11_putsIn 26 = .ok (.iload_n 3, 1) := by decide +kernel
theorem dX11_putsIn_27 : decode cX11_putsIn 27 = .ok (.iaload, 1) := by decide +kernel
theorem dX11_putsIn_28 : decode cX11_putsIn 28 = .ok (.iastore, 1) := by decide +kernel
theorem dX11_putsIn_29 : decode cX11_putsIn 29 = .ok (.iinc 3 1, 3) := by decide +kernel
theorem dX11_putsIn_32 : decode cX11_putsIn 32 = .ok (.goto (-30), 3) := by decide +kernel
theorem dX11_putsIn_35 : decode cX11_putsIn 35 = .ok (.return_, 1) := by decide +kernel
theorem dX11_isUnlike_0 : decode cX11_isUnlike 0 = .ok (.iconst 0, 1) := by decide +kernel
theorem dX11_isUnlike_1 : decode cX11_isUnlike 1 = .ok (.istore_n 3, 1) := by decide +kernel
theorem dX11_isUnlike_2 : decode cX11_isUnlike 2 = .ok (.iload_n 3, 1) := by decide +kernel
theorem dX11_isUnlike_3 : decode cX11_isUnlike 3 = .ok (.aload_n 0, 1) := by decide +kernel
theorem dX11_isUnlike_4 : decode cX11_isUnlike 4 = .ok (.getfield 96, 3) := by decide +kernel
theorem dX11_isUnlike_7 : decode cX11_isUnlike 7 = .ok (.if_icmp .ge 41, 3) := by decide +kernel
theorem dX11_isUnlike_10 : decode cX11_isUnlike 10 = .ok (.iload_n 3, 1) := by decide +kernel
theorem dX11_isUnlike_11 : decode cX11_isUnlike 11 = .ok (.iload_n 1, 1) := by decide +kernel
theorem dX11_isUnlike_12 : decode cX11_isUnlike 12 = .ok (.if_icmp .eq 30, 3) := by decide +kernel
theorem dX11_isUnlike_15 : decode cX11_isUnlike 15 = .ok (.aload_n 0, 1) := by decide +kernel
theorem dX11_isUnlike_16 : decode cX11_isUnlike 16 = .ok (.getfield 13, 3) := by decide +kernel
theorem dX11_isUnlike_19 : decode cX11_isUnlike 19 = .ok (.iload_n 3, 1) := by decide +kernel
theorem dX11_isUnlike_20 : decode cX11_isUnlike 20 = .ok (.iaload, 1) := by decide +kernel
theorem dX11_isUnlike_21 : decode cX11_isUnlike 21 = .ok (.iload_n 2, 1) := by decide +kernel
theorem dX11_isUnlike_22 : decode cX11_isUnlike 22 = .ok (.if_icmp .ne 20, 3) := by decide +kernel
theorem dX11_isUnlike_25 : decode cX11_isUnlike 25 = .ok (.aload_n 0, 1) := by decide +kernel
theorem dX11_isUnlike_26 : decode cX11_isUnlike 26 = .ok (.getfield 7, 3) := by decide +kernel
theorem dX11_isUnlike_29 : decode cX11_isUnlike 29 = .ok (.iload_n 3, 1) := by decide +kernel
theorem dX11_isUnlike_30 : decode cX11_isUnlike 30 = .ok (.iaload, 1) := by decide +kernel
theorem dX11_isUnlike_31 : decode cX11_isUnlike 31 = .ok (.aload_n 0, 1) := by decide +kernel
theorem dX11_isUnlike_32 : decode cX11_isUnlike 32 = .ok (.getfield 7, 3) := by decide +kernel
theorem dX11_isUnlike_35 : decode cX11_isUnlike 35 = .ok (.iload_n 1, 1) := by decide +kernel
theorem dX11_isUnlike_36 : decode cX11_isUnlike 36 = .ok (.iaload, 1) := by decide +kernel
theorem dX11_isUnlike_37 : decode cX11_isUnlike 37 = .ok (.if_icmp .eq 5, 3) := by decide +kernel
theorem dX11_isUnlike_40 : decode cX11_isUnlike 40 = .ok (.iconst 1, 1) := by decide +kernel
theorem dX11_isUnlike_41 : decode cX11_isUnlike 41 = .ok (.ireturn, 1) := by decide +kernel
theorem dX11_isUnlike_42 : decode cX11_isUnlike 42 = .ok (.iinc 3 1, 3) := by decide +kernel
theorem dX11_isUnlike_45 : decode cX11_isUnlike 45 = .ok (.goto (-43), 3) := by decide +kernel
theorem dX11_isUnlike_48 : decode cX11_isUnlike 48 = .ok (.iconst 0, 1) := by decide +kernel
theorem dX11_isUnlike_49 : decode cX11_isUnlike 49 = .ok (.ireturn, 1) := by decide +kernel
theorem dX11_count_0 : decode cX11_count 0 = .ok (.aload_n 0, 1) := by decide +kernel
theorem dX11_count_1 : decode cX11_count 1 = .ok (.iconst 0, 1) := by decide +kernel
theorem dX11_count_2 : decode cX11_count 2 = .ok (.putfield 93, 3) := by decide +kernel
theorem dX11_count_5 : decode cX11_count 5 = .ok (.iconst 0, 1) := by decide +kernel
theorem dX11_count_6 : decode cX11_count 6 = .ok (.istore_n 2, 1) := by decide +kernel
theorem dX11_count_7 : decode cX11_count 7 = .ok (.iconst 0, 1) := by decide +kernel
theorem dX11_count_8 : decode cX11_count 8 = .ok (.istore_n 3, 1) := by decide +kernel
theorem dX11_count_9 : decode cX11_count 9 = .ok (.iload_n 3, 1) := by decide +kernel
theorem dX11_count_10 : decode cX11_count 10 = .ok (.sipush 256, 3) := by decide +kernel
theorem dX11_count_13 : decode cX11_count 13 = .ok (.if_icmp .ge 26, 3) := by decide +kernel
theorem dX11_count_16 : decode cX11_count 16 = .ok (.iload_n 2, 1) := by decide +kernel
theorem dX11_count_17 : decode cX11_count 17 = .ok (.aload_n 0, 1) := by decide +kernel
theorem dX11_count_18 : decode cX11_count 18 = .ok (.getfield 66, 3) := by decide +kernel
theorem dX11_count_21 : decode cX11_count 21 = .ok (.iload_n 3, 1) := by decide +kernel
theorem dX11_count_22 : decode cX11_count 22 = .ok (.baload, 1) := by decide +kernel
theorem dX11_count_23 : decode cX11_count 23 = .ok (.ifCond .eq 7, 3) := by decide +kernel
theorem dX11_count_26 : decode cX11_count 26 = .ok (.iconst 1, 1) := by decide +kernel
theorem dX11_count_27 : decode cX11_count 27 = .ok (.goto 4, 3) := by decide +kernel
theorem dX11_count_30 : decode cX11_count 30 = .ok (.iconst 0, 1) := by decide +kernel
theorem dX11_count_31 : decode cX11_count 31 = .ok (.iadd, 1) := by decide +kernel
theorem dX11_count_32 : decode cX11_count 32 = .ok (.istore_n 2, 1) := by decide +kernel
theorem dX11_count_33 : decode cX11_count 33 = .ok (.iinc 3 1, 3) := by decide +kernel
theorem dX11_count_36 : decode cX11_count 36 = .ok (.goto (-27), 3) := by decide +kernel
theorem dX11_count_39 : decode cX11_count 39 = .ok (.iload_n 1, 1) := by decide +kernel
theorem dX11_count_40 : decode cX11_count 40 = .ok (.tableswitch 78 0 5 #[40, 45, 50, 55, 57, 62], 40) := by decide +kernel
theorem dX11_count_80 : decode cX11_count 80 = .ok (.aload_n 0, 1) := by decide +kernel
theorem dX11_count_81 : decode cX11_count 81 = .ok (.getfield 96, 3) := by decide +kernel
theorem dX11_count_84 : decode cX11_count 84 = .ok (.ireturn, 1) := by decide +kernel
theorem dX11_count_85 : decode cX11_count 85 = .ok (.aload_n 0, 1) := by decide +kernel
theorem dX11_count_86 : decode cX11_count 86 = .ok (.getfield 110, 3) := by decide +kernel
theorem dX11_count_89 : decode cX11_count 89 = .ok (.ireturn, 1) := by decide +kernel
theorem dX11_count_90 : decode cX11_count 90 = .ok (.aload_n 0, 1) := by decide +kernel
theorem dX11_count_91 : decode cX11_count 91 = .ok (.invokevirtual 203, 3) := by decide +kernel
theorem dX11_count_94 : decode cX11_count 94 = .ok (.ireturn, 1) := by decide +kernel
theorem dX11_count_95 : decode cX11_count 95 = .ok (.iload_n 2, 1) := by decide +kernel
theorem dX11_count_96 : decode cX11_count 96 = .ok (.ireturn, 1) := by decide +kernel
theorem dX11_count_97 : decode cX11_count 97 = .ok (.aload_n 0, 1) := by decide +kernel
theorem dX11_count_98 : decode cX11_count 98 = .ok (.getfield 146, 3) := by decide +kernel
theorem dX11_count_101 : decode cX11_count 101 = .ok (.ireturn, 1) := by decide +kernel
theorem dX11_count_102 : decode cX11_count 102 = .ok (.aload_n 0, 1) := by decide +kernel
