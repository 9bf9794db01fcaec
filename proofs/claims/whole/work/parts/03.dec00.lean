theorem dX0_init_0 : decode cX0_init 0 = .ok (.aload_n 0, 1) := by decide +kernel
theorem dX0_init_1 : decode cX0_init 1 = .ok (.invokespecial 3, 3) := by decide +kernel
theorem dX0_init_4 : decode cX0_init 4 = .ok (.aload_n 0, 1) := by decide +kernel
theorem dX0_init_5 : decode cX0_init 5 = .ok (.sipush 300, 3) := by decide +kernel
theorem dX0_init_8 : decode cX0_init 8 = .ok (.newarray .int, 2) := by decide +kernel
theorem dX0_init_10 : decode cX0_init 10 = .ok (.putfield 9, 3) := by decide +kernel
theorem dX0_init_13 : decode cX0_init 13 = .ok (.aload_n 0, 1) := by decide +kernel
theorem dX0_init_14 : decode cX0_init 14 = .ok (.sipush 300, 3) := by decide +kernel
theorem dX0_init_17 : decode cX0_init 17 = .ok (.newarray .int, 2) := by decide +kernel
theorem dX0_init_19 : decode cX0_init 19 = .ok (.putfield 15, 3) := by decide +kernel
theorem dX0_init_22 : decode cX0_init 22 = .ok (.aload_n 0, 1) := by decide +kernel
theorem dX0_init_23 : decode cX0_init 23 = .ok (.sipush 300, 3) := by decide +kernel
theorem dX0_init_26 : decode cX0_init 26 = .ok (.newarray .int, 2) := by decide +kernel
theorem dX0_init_28 : decode cX0_init 28 = .ok (.putfield 18, 3) := by decide +kernel
theorem dX0_init_31 : decode cX0_init 31 = .ok (.aload_n 0, 1) := by decide +kernel
theorem dX0_init_32 : decode cX0_init 32 = .ok (.iconst 0, 1) := by decide +kernel
theorem dX0_init_33 : decode cX0_init 33 = .ok (.putfield 21, 3) := by decide +kernel
theorem dX0_init_36 : decode cX0_init 36 = .ok (.return_, 1) := by decide +kernel
theorem dX0_write_0 : decode cX0_write 0 = .ok (.aload_n 0, 1) := by decide +kernel
theorem dX0_write_1 : decode cX0_write 1 = .ok (.getfield 21, 3) := by decide +kernel
theorem dX0_write_4 : decode cX0_write 4 = .ok (.sipush 300, 3) := by decide +kernel
theorem dX0_write_7 : decode cX0_write 7 = .ok (.if_icmp .lt 5, 3) := by decide +kernel
theorem dX0_write_10 : decode cX0_write 10 = .ok (.iconst (-1), 1) := by decide +kernel
theorem dX0_write_11 : decode cX0_write 11 = .ok (.ireturn, 1) := by decide +kernel
theorem dX0_write_12 : decode cX0_write 12 = .ok (.aload_n 0, 1) := by decide +kernel
theorem dX0_write_13 : decode cX0_write 13 = .ok (.getfield 9, 3) := by decide +kernel
theorem dX0_write_16 : decode cX0_write 16 = .ok (.aload_n 0, 1) := by decide +kernel
theorem dX0_write_17 : decode cX0_write 17 = .ok (.getfield 21, 3) := by decide +kernel
theorem dX0_write_20 : decode cX0_write 20 = .ok (.iload_n 1, 1) := by decide +kernel
theorem dX0_write_21 : decode cX0_write 21 = .ok (.iastore, 1) := by decide +kernel
theorem dX0_write_22 : decode cX0_write 22 = .ok (.aload_n 0, 1) := by decide +kernel
theorem dX0_write_23 : decode cX0_write 23 = .ok (.getfield 15, 3) := by decide +kernel
theorem dX0_write_26 : decode cX0_write 26 = .ok (.aload_n 0, 1) := by decide +kernel
theorem dX0_write_27 : decode cX0_write 27 = .ok (.getfield 21, 3) := by decide +kernel
theorem dX0_write_30 : decode cX0_write 30 = .ok (.iload_n 2, 1) := by decide +kernel
theorem dX0_write_31 : decode cX0_write 31 = .ok (.iastore, 1) := by decide +kernel
theorem dX0_write_32 : decode cX0_write 32 = .ok (.aload_n 0, 1) := by decide +kernel
theorem dX0_write_33 : decode cX0_write 33 = .ok (.getfield 18, 3) := by decide +kernel
theorem dX0_write_36 : decode cX0_write 36 = .ok (.aload_n 0, 1) := by decide +kernel
theorem dX0_write_37 : decode cX0_write 37 = .ok (.getfield 21, 3) := by decide +kernel
theorem dX0_write_40 : decode cX0_write 40 = .ok (.iload_n 3, 1) := by decide +kernel
theorem dX0_write_41 : decode cX0_write 41 = .ok (.iastore, 1) := by decide +kernel
theorem dX0_write_42 : decode cX0_write 42 = .ok (.aload_n 0, 1) := by decide +kernel
theorem dX0_write_43 : decode cX0_write 43 = .ok (.dup, 1) := by decide +kernel
theorem dX0_write_44 : decode cX0_write 44 = .ok (.getfield 21, 3) := by decide +kernel
theorem dX0_write_47 : decode cX0_write 47 = .ok (.iconst 1, 1) := by decide +kernel
theorem dX0_write_48 : decode cX0_write 48 = .ok (.iadd, 1) := by decide +kernel
theorem dX0_write_49 : decode cX0_write 49 = .ok (.putfield 21, 3) := by decide +kernel
theorem dX0_write_52 : decode cX0_write 52 = .ok (.aload_n 0, 1) := by decide +kernel
theorem dX0_write_53 : decode cX0_write 53 = .ok (.getfield 21, 3) := by decide +kernel
theorem dX0_write_56 : decode cX0_write 56 = .ok (.ireturn, 1) := by decide +kernel
theorem dX0_isWithin_0 : decode cX0_isWithin 0 = .ok (.aload_n 0, 1) := by decide +kernel
theorem dX0_isWithin_1 : decode cX0_isWithin 1 = .ok (.getfield 15, 3) := by decide +kernel
theorem dX0_isWithin_4 : decode cX0_isWithin 4 = .ok (.iload_n 1, 1) := by decide +kernel
theorem dX0_isWithin_5 : decode cX0_isWithin 5 = .ok (.iaload, 1) := by decide +kernel
theorem dX0_isWithin_6 : decode cX0_isWithin 6 = .ok (.iload_n 2, 1) := by decide +kernel
theorem dX0_isWithin_7 : decode cX0_isWithin 7 = .ok (.if_icmp .gt 19, 3) := by decide +kernel
theorem dX0_isWithin_10 : decode cX0_isWithin 10 = .ok (.aload_n 0, 1) := by decide +kernel
theorem dX0_isWithin_11 : decode cX0_isWithin 11 = .ok (.getfield 15, 3) := by decide +kernel
theorem dX0_isWithin_14 : decode cX0_isWithin 14 = .ok (.iload_n 1, 1) := by decide +kernel
theorem dX0_isWithin_15 : decode cX0_isWithin 15 = .ok (.iaload, 1) := by decide +kernel
theorem dX0_isWithin_16 : decode cX0_isWithin 16 = .ok (.iload_n 2, 1) := by decide +kernel
theorem dX0_isWithin_17 : decode cX0_isWithin 17 = .ok (.iload_n 3, 1) := by decide +kernel
theorem dX0_isWithin_18 : decode cX0_isWithin 18 = .ok (.isub, 1) := by decide +kernel
theorem dX0_isWithin_19 : decode cX0_isWithin 19 = .ok (.if_icmp .le 7, 3) := by decide +kernel
theorem dX0_isWithin_22 : decode cX0_isWithin 22 = .ok (.iconst 1, 1) := by decide +kernel
theorem dX0_isWithin_23 : decode cX0_isWithin 23 = .ok (.goto 4, 3) := by decide +kernel
theorem dX0_isWithin_26 : decode cX0_isWithin 26 = .ok (.iconst 0, 1) := by decide +kernel
theorem dX0_isWithin_27 : decode cX0_isWithin 27 = .ok (.ireturn, 1) := by decide +kernel
theorem dX0_sumOf_0 : decode cX0_sumOf 0 = .ok (.iconst 0, 1) := by decide +kernel
theorem dX0_sumOf_1 : decode cX0_sumOf 1 = .ok (.istore 4, 2) := by decide +kernel
theorem dX0_sumOf_3 : decode cX0_sumOf 3 = .ok (.iconst 0, 1) := by decide +kernel
theorem dX0_sumOf_4 : decode cX0_sumOf 4 = .ok (.istore 5, 2) := by decide +kernel
theorem dX0_sumOf_6 : decode cX0_sumOf 6 = .ok (.iload 5, 2) := by decide +kernel
theorem dX0_sumOf_8 : decode cX0_sumOf 8 = .ok (.aload_n 0, 1) := by decide +kernel
theorem dX0_sumOf_9 : decode cX0_sumOf 9 = .ok (.getfield 21, 3) := by decide +kernel
theorem dX0_sumOf_12 : decode cX0_sumOf 12 = .ok (.if_icmp .ge 43, 3) := by decide +kernel
theorem dX0_sumOf_15 : decode cX0_sumOf 15 = .ok (.aload_n 0, 1) := by decide +kernel
theorem dX0_sumOf_16 : decode cX0_sumOf 16 = .ok (.getfield 9, 3) := by decide +kernel
theorem dX0_sumOf_19 : decode cX0_sumOf 19 = .ok (.iload 5, 2) := by decide +kernel
theorem dX0_sumOf_21 : decode cX0_sumOf 21 = .ok (.iaload, 1) := by decide +kernel
theorem dX0_sumOf_22 : decode cX0_sumOf 22 = .ok (.iload_n 1, 1) := by decide +kernel
theorem dX0_sumOf_23 : decode cX0_sumOf 23 = .ok (.if_icmp .ne 26, 3) := by decide +kernel
theorem dX0_sumOf_26 : decode cX0_sumOf 26 = .ok (.aload_n 0, 1) := by decide +kernel
theorem dX0_sumOf_27 : decode cX0_sumOf 27 = .ok (.iload 5, 2) := by decide +kernel
theorem dX0_sumOf_29 : decode cX0_sumOf 29 = .ok (.iload_n 2, 1) := by decide +kernel
theorem dX0_sumOf_30 : decode cX0_sumOf 30 = .ok (.iload_n 3, 1) := by decide +kernel
theorem dX0_sumOf_31 : decode cX0_sumOf 31 = .ok (.invokevirtual 25, 3) := by decide +kernel
theorem dX0_sumOf_34 : decode cX0_sumOf 34 = .ok (.ifCond .eq 15, 3) := by decide +kernel
theorem dX0_sumOf_37 : decode cX0_sumOf 37 = .ok (.iload 4, 2) := by decide +kernel
theorem dX0_sumOf_39 : decode cX0_sumOf 39 = .ok (.aload_n 0, 1) := by decide +kernel
theorem dX0_sumOf_40 : decode cX0_sumOf 40 = .ok (.getfield 18, 3) := by decide +kernel
theorem dX0_sumOf_43 : decode cX0_sumOf 43 = .ok (.iload 5, 2) := by decide +kernel
theorem dX0_sumOf_45 : decode cX0_sumOf 45 = .ok (.iaload, 1) := by decide +kernel
theorem dX0_sumOf_46 : decode cX0_sumOf 46 = .ok (.iadd, 1) := by decide +kernel
theorem dX0_sumOf_47 : decode cX0_sumOf 47 = .ok (.istore 4, 2) := by decide +kernel
theorem dX0_sumOf_49 : decode cX0_sumOf 49 = .ok (.iinc 5 1, 3) := by decide +kernel
theorem dX0_sumOf_52 : decode cX0_sumOf 52 = .ok (.goto (-46), 3) := by decide +kernel
theorem dX0_sumOf_55 : decode cX0_sumOf 55 = .ok (.iload 4, 2) := by decide +kernel
theorem dX0_sumOf_57 : decode cX0_sumOf 57 = .ok (.ireturn, 1) := by decide +kernel
theorem dX0_sumAll_0 : decode cX0_sumAll 0 = .ok (.aload_n 1, 1) := by decide +kernel
theorem dX0_sumAll_1 : decode cX0_sumAll 1 = .ok (.iconst 0, 1) := by decide +kernel
theorem dX0_sumAll_2 : decode cX0_sumAll 2 = .ok (.invokestatic 29, 3) := by decide +kernel
theorem dX0_sumAll_5 : decode cX0_sumAll 5 = .ok (.iconst 0, 1) := by decide +kernel
theorem dX0_sumAll_6 : decode cX0_sumAll 6 = .ok (.istore 4, 2) := by decide +kernel
theorem dX0_sumAll_8 : decode cX0_sumAll 8 = .ok (.iload 4, 2) := by decide +kernel
theorem dX0_sumAll_10 : decode cX0_sumAll 10 = .ok (.aload_n 0, 1) := by decide +kernel
theorem dX0_sumAll_11 : decode cX0_sumAll 11 = .ok (.getfield 21, 3) := by decide +kernel
theorem dX0_sumAll_14 : decode cX0_sumAll 14 = .ok (.if_icmp .ge 39, 3) := by decide +kernel
theorem dX0_sumAll_17 : decode cX0_sumAll 17 = .ok (.aload_n 0, 1) := by decide +kernel
theorem dX0_sumAll_18 : decode cX0_sumAll 18 = .ok (.iload 4, 2) := by decide +kernel
theorem dX0_sumAll_20 : decode cX0_sumAll 20 = .ok (.iload_n 2, 1) := by decide +kernel
theorem dX0_sumAll_21 : decode cX0_sumAll 21 = .ok (.iload_n 3, 1) := by decide +kernel
theorem dX0_sumAll_22 : decode cX0_sumAll 22 = .ok (.invokevirtual 25, 3) := by decide +kernel
theorem dX0_sumAll_25 : decode cX0_sumAll 25 = .ok (.ifCond .eq 22, 3) := by decide +kernel
theorem dX0_sumAll_28 : decode cX0_sumAll 28 = .ok (.aload_n 1, 1) := by decide +kernel
theorem dX0_sumAll_29 : decode cX0_sumAll 29 = .ok (.aload_n 0, 1) := by decide +kernel
theorem dX0_sumAll_30 : decode cX0_sumAll 30 = .ok (.getfield 9, 3) := by decide +kernel
theorem dX0_sumAll_33 : decode cX0_sumAll 33 = .ok (.iload 4, 2) := by decide +kernel
theorem dX0_sumAll_35 : decode cX0_sumAll 35 = .ok (.iaload, 1) := by decide +kernel
theorem dX0_sumAll_36 : decode cX0_sumAll 36 = .ok (.dup2, 1) := by decide +kernel
theorem dX0_sumAll_37 : decode cX0_sumAll 37 = .ok (.iaload, 1) := by decide +kernel
theorem dX0_sumAll_38 : decode cX0_sumAll 38 = .ok (.aload_n 0, 1) := by decide +kernel
theorem dX0_sumAll_39 : decode cX0_sumAll 39 = .ok (.getfield 18, 3) := by decide +kernel
theorem dX0_sumAll_42 : decode cX0_sumAll 42 = .ok (.iload 4, 2) := by decide +kernel
theorem dX0_sumAll_44 : decode cX0_sumAll 44 = .ok (.iaload, 1) := by decide +kernel
theorem dX0_sumAll_45 : decode cX0_sumAll 45 = .ok (.iadd, 1) := by decide +kernel
theorem dX0_sumAll_46 : decode cX0_sumAll 46 = .ok (.iastore, 1) := by decide +kernel
theorem dX0_sumAll_47 : decode cX0_sumAll 47 = .ok (.iinc 4 1, 3) := by decide +kernel
theorem dX0_sumAll_50 : decode cX0_sumAll 50 = .ok (.goto (-42), 3) := by decide +kernel
theorem dX0_sumAll_53 : decode cX0_sumAll 53 = .ok (.return_, 1) := by decide +kernel
theorem dX1_init_0 : decode cX1_init 0 = .ok (.aload_n 0, 1) := by decide +kernel
theorem dX1_init_1 : decode cX1_init 1 = .ok (.invokespecial 1, 3) := by decide +kernel
theorem dX1_init_4 : decode cX1_init 4 = .ok (.aload_n 0, 1) := by decide +kernel
theorem dX1_init_5 : decode cX1_init 5 = .ok (.bipush 7, 2) := by decide +kernel
theorem dX1_init_7 : decode cX1_init 7 = .ok (.putfield 7, 3) := by decide +kernel
theorem dX1_init_10 : decode cX1_init 10 = .ok (.aload_n 0, 1) := by decide +kernel
theorem dX1_init_11 : decode cX1_init 11 = .ok (.iconst 1, 1) := by decide +kernel
theorem dX1_init_12 : decode cX1_init 12 = .ok (.putfield 13, 3) := by decide +kernel
theorem dX1_init_15 : decode cX1_init 15 = .ok (.aload_n 0, 1) := by decide +kernel
theorem dX1_init_16 : decode cX1_init 16 = .ok (.iconst 0, 1) := by decide +kernel
theorem dX1_init_17 : decode cX1_init 17 = .ok (.putfield 16, 3) := by decide +kernel
theorem dX1_init_20 : decode cX1_init 20 = .ok (.aload_n 0, 1) := by decide +kernel
theorem dX1_init_21 : decode cX1_init 21 = .ok (.iconst 5, 1) := by decide +kernel
theorem dX1_init_22 : decode cX1_init 22 = .ok (.putfield 20, 3) := by decide +kernel
theorem dX1_init_25 : decode cX1_init 25 = .ok (.aload_n 0, 1) := by decide +kernel
theorem dX1_init_26 : decode cX1_init 26 = .ok (.iconst 1, 1) := by decide +kernel
theorem dX1_init_27 : decode cX1_init 27 = .ok (.putfield 23, 3) := by decide +kernel
theorem dX1_init_30 : decode cX1_init 30 = .ok (.return_, 1) := by decide +kernel
theorem dX1_costOf_0 : decode cX1_costOf 0 = .ok (.iload_n 1, 1) := by decide +kernel
theorem dX1_costOf_1 : decode cX1_costOf 1 = .ok (.aload_n 0, 1) := by decide +kernel
theorem dX1_costOf_2 : decode cX1_costOf 2 = .ok (.getfield 20, 3) := by decide +kernel
theorem dX1_costOf_5 : decode cX1_costOf 5 = .ok (.imul, 1) := by decide +kernel
theorem dX1_costOf_6 : decode cX1_costOf 6 = .ok (.iload_n 2, 1) := by decide +kernel
theorem dX1_costOf_7 : decode cX1_costOf 7 = .ok (.aload_n 0, 1) := by decide +kernel
theorem dX1_costOf_8 : decode cX1_costOf 8 = .ok (.getfield 23, 3) := by decide +kernel
theorem dX1_costOf_11 : decode cX1_costOf 11 = .ok (.imul, 1) := by decide +kernel
theorem dX1_costOf_12 : decode cX1_costOf 12 = .ok (.iadd, 1) := by decide +kernel
theorem dX1_costOf_13 : decode cX1_costOf 13 = .ok (.ireturn, 1) := by decide +kernel
theorem dX2_init_0 : decode cX2_init 0 = .ok (.aload_n 0, 1) := by decide +kernel
theorem dX2_init_1 : decode cX2_init 1 = .ok (.invokespecial 3, 3) := by decide +kernel
theorem dX2_init_4 : decode cX2_init 4 = .ok (.aload_n 0, 1) := by decide +kernel
theorem dX2_init_5 : decode cX2_init 5 = .ok (.bipush 8, 2) := by decide +kernel
theorem dX2_init_7 : decode cX2_init 7 = .ok (.newarray .int, 2) := by decide +kernel
theorem dX2_init_9 : decode cX2_init 9 = .ok (.putfield 9, 3) := by decide +kernel
theorem dX2_init_12 : decode cX2_init 12 = .ok (.aload_n 0, 1) := by decide +kernel
theorem dX2_init_13 : decode cX2_init 13 = .ok (.bipush 64, 2) := by decide +kernel
theorem dX2_init_15 : decode cX2_init 15 = .ok (.newarray .int, 2) := by decide +kernel
theorem dX2_init_17 : decode cX2_init 17 = .ok (.putfield 15, 3) := by decide +kernel
theorem dX2_init_20 : decode cX2_init 20 = .ok (.aload_n 0, 1) := by decide +kernel
theorem dX2_init_21 : decode cX2_init 21 = .ok (.iconst 0, 1) := by decide +kernel
theorem dX2_init_22 : decode cX2_init 22 = .ok (.putfield 18, 3) := by decide +kernel
theorem dX2_init_25 : decode cX2_init 25 = .ok (.aload_n 0, 1) := by decide +kernel
theorem dX2_init_26 : decode cX2_init 26 = .ok (.iconst 0, 1) := by decide +kernel
theorem dX2_init_27 : decode cX2_init 27 = .ok (.putfield 22, 3) := by decide +kernel
theorem dX2_init_30 : decode cX2_init 30 = .ok (.aload_n 0, 1) := by decide +kernel
theorem dX2_init_31 : decode cX2_init 31 = .ok (.iconst 0, 1) := by decide +kernel
theorem dX2_init_32 : decode cX2_init 32 = .ok (.putfield 25, 3) := by decide +kernel
theorem dX2_init_35 : decode cX2_init 35 = .ok (.aload_n 0, 1) := by decide +kernel
theorem dX2_init_36 : decode cX2_init 36 = .ok (.getfield 9, 3) := by decide +kernel
theorem dX2_init_39 : decode cX2_init 39 = .ok (.iconst (-1), 1) := by decide +kernel
theorem dX2_init_40 : decode cX2_init 40 = .ok (.invokestatic 29, 3) := by decide +kernel
theorem dX2_init_43 : decode cX2_init 43 = .ok (.return_, 1) := by decide +kernel
theorem dX2_areIn_0 : decode cX2_areIn 0 = .ok (.aload_n 0, 1) := by decide +kernel
theorem dX2_areIn_1 : decode cX2_areIn 1 = .ok (.getfield 9, 3) := by decide +kernel
theorem dX2_areIn_4 : decode cX2_areIn 4 = .ok (.iload_n 1, 1) := by decide +kernel
theorem dX2_areIn_5 : decode cX2_areIn 5 = .ok (.iaload, 1) := by decide +kernel
theorem dX2_areIn_6 : decode cX2_areIn 6 = .ok (.iconst (-1), 1) := by decide +kernel
theorem dX2_areIn_7 : decode cX2_areIn 7 = .ok (.if_icmp .eq 17, 3) := by decide +kernel
theorem dX2_areIn_10 : decode cX2_areIn 10 = .ok (.aload_n 0, 1) := by decide +kernel
theorem dX2_areIn_11 : decode cX2_areIn 11 = .ok (.getfield 9, 3) := by decide +kernel
theorem dX2_areIn_14 : decode cX2_areIn 14 = .ok (.iload_n 2, 1) := by decide +kernel
theorem dX2_areIn_15 : decode cX2_areIn 15 = .ok (.iaload, 1) := by decide +kernel
theorem dX2_areIn_16 : decode cX2_areIn 16 = .ok (.iconst (-1), 1) := by decide +kernel
theorem dX2_areIn_17 : decode cX2_areIn 17 = .ok (.if_icmp .eq 7, 3) := by decide +kernel
theorem dX2_areIn_20 : decode cX2_areIn 20 = .ok (.iconst 1, 1) := by decide +kernel
theorem dX2_areIn_21 : decode cX2_areIn 21 = .ok (.goto 4, 3) := by decide +kernel
theorem dX2_areIn_24 : decode cX2_areIn 24 = .ok (.iconst 0, 1) := by decide +kernel
theorem dX2_areIn_25 : decode cX2_areIn 25 = .ok (.ireturn, 1) := by decide +kernel
theorem dX2_doorsBetween_0 : decode cX2_doorsBetween 0 = .ok (.aload_n 0, 1) := by decide +kernel
theorem dX2_doorsBetween_1 : decode cX2_doorsBetween 1 = .ok (.getfield 15, 3) := by decide +kernel
theorem dX2_doorsBetween_4 : decode cX2_doorsBetween 4 = .ok (.aload_n 0, 1) := by decide +kernel
theorem dX2_doorsBetween_5 : decode cX2_doorsBetween 5 = .ok (.getfield 9, 3) := by decide +kernel
theorem dX2_doorsBetween_8 : decode cX2_doorsBetween 8 = .ok (.iload_n 1, 1) := by decide +kernel
theorem dX2_doorsBetween_9 : decode cX2_doorsBetween 9 = .ok (.iaload, 1) := by decide +kernel
theorem dX2_doorsBetween_10 : decode cX2_doorsBetween 10 = .ok (.aload_n 0, 1) := by decide +kernel
theorem dX2_doorsBetween_11 : decode cX2_doorsBetween 11 = .ok (.getfield 9, 3) := by decide +kernel
theorem dX2_doorsBetween_14 : decode cX2_doorsBetween 14 = .ok (.iload_n 2, 1) := by decide +kernel
theorem dX2_doorsBetween_15 : decode cX2_doorsBetween 15 = .ok (.iaload, 1) := by decide +kernel
theorem dX2_doorsBetween_16 : decode cX2_doorsBetween 16 = .ok (.invokestatic 35, 3) := by decide +kernel
theorem dX2_doorsBetween_19 : decode cX2_doorsBetween 19 = .ok (.iaload, 1) := by decide +kernel
theorem dX2_doorsBetween_20 : decode cX2_doorsBetween 20 = .ok (.ireturn, 1) := by decide +kernel
theorem dX2_isLet_0 : decode cX2_isLet 0 = .ok (.aload_n 0, 1) := by decide +kernel
theorem dX2_isLet_1 : decode cX2_isLet 1 = .ok (.iload_n 1, 1) := by decide +kernel
theorem dX2_isLet_2 : decode cX2_isLet 2 = .ok (.iload_n 2, 1) := by decide +kernel
theorem dX2_isLet_3 : decode cX2_isLet 3 = .ok (.invokevirtual 39, 3) := by decide +kernel
theorem dX2_isLet_6 : decode cX2_isLet 6 = .ok (.ifCond .eq 20, 3) := by decide +kernel
theorem dX2_isLet_9 : decode cX2_isLet 9 = .ok (.aload_n 0, 1) := by decide +kernel
theorem dX2_isLet_10 : decode cX2_isLet 10 = .ok (.iload_n 1, 1) := by decide +kernel
theorem dX2_isLet_11 : decode cX2_isLet 11 = .ok (.iload_n 2, 1) := by decide +kernel
theorem dX2_isLet_12 : decode cX2_isLet 12 = .ok (.invokevirtual 43, 3) := by decide +kernel
theorem dX2_isLet_15 : decode cX2_isLet 15 = .ok (.iload_n 3, 1) := by decide +kernel
theorem dX2_isLet_16 : decode cX2_isLet 16 = .ok (.invokestatic 46, 3) := by decide +kernel
theorem dX2_isLet_19 : decode cX2_isLet 19 = .ok (.ifCond .eq 7, 3) := by decide +kernel
theorem dX2_isLet_22 : decode cX2_isLet 22 = .ok (.iconst 1, 1) := by decide +kernel
theorem dX2_isLet_23 : decode cX2_isLet 23 = .ok (.goto 4, 3) := by decide +kernel
theorem dX2_isLet_26 : decode cX2_isLet 26 = .ok (.iconst 0, 1) := by decide +kernel
theorem dX2_isLet_27 : decode cX2_isLet 27 = .ok (.ireturn, 1) := by decide +kernel
theorem dX2_roomCount_0 : decode cX2_roomCount 0 = .ok (.iconst (-1), 1) := by decide +kernel
theorem dX2_roomCount_1 : decode cX2_roomCount 1 = .ok (.istore_n 1, 1) := by decide +kernel
theorem dX2_roomCount_2 : decode cX2_roomCount 2 = .ok (.iconst 0, 1) := by decide +kernel
theorem dX2_roomCount_3 : decode cX2_roomCount 3 = .ok (.istore_n 2, 1) := by decide +kernel
theorem dX2_roomCount_4 : decode cX2_roomCount 4 = .ok (.iload_n 2, 1) := by decide +kernel
theorem dX2_roomCount_5 : decode cX2_roomCount 5 = .ok (.bipush 8, 2) := by decide +kernel
theorem dX2_roomCount_7 : decode cX2_roomCount 7 = .ok (.if_icmp .ge 20, 3) := by decide +kernel
theorem dX2_roomCount_10 : decode cX2_roomCount 10 = .ok (.iload_n 1, 1) := by decide +kernel
theorem dX2_roomCount_11 : decode cX2_roomCount 11 = .ok (.aload_n 0, 1) := by decide +kernel
theorem dX2_roomCount_12 : decode cX2_roomCount 12 = .ok (.getfield 9, 3) := by decide +kernel
theorem dX2_roomCount_15 : decode cX2_roomCount 15 = .ok (.iload_n 2, 1) := by decide +kernel
theorem dX2_roomCount_16 : decode cX2_roomCount 16 = .ok (.iaload, 1) := by decide +kernel
theorem dX2_roomCount_17 : decode cX2_roomCount 17 = .ok (.invokestatic 49, 3) := by decide +kernel
theorem dX2_roomCount_20 : decode cX2_roomCount 20 = .ok (.istore_n 1, 1) := by decide +kernel
theorem dX2_roomCount_21 : decode cX2_roomCount 21 = .ok (.iinc 2 1, 3) := by decide +kernel
theorem dX2_roomCount_24 : decode cX2_roomCount 24 = .ok (.goto (-20), 3) := by decide +kernel
theorem dX2_roomCount_27 : decode cX2_roomCount 27 = .ok (.iload_n 1, 1) := by decide +kernel
theorem dX2_roomCount_28 : decode cX2_roomCount 28 = .ok (.iconst 1, 1) := by decide +kernel
theorem dX2_roomCount_29 : decode cX2_roomCount 29 = .ok (.iadd, 1) := by decide +kernel
theorem dX2_roomCount_30 : decode cX2_roomCount 30 = .ok (.ireturn, 1) := by decide +kernel
theorem dX2_copyRooms_0 : decode cX2_copyRooms 0 = .ok (.aload_n 1, 1) := by decide +kernel
theorem dX2_copyRooms_1 : decode cX2_copyRooms 1 = .ok (.iconst 0, 1) := by decide +kernel
theorem dX2_copyRooms_2 : decode cX2_copyRooms 2 = .ok (.aload_n 0, 1) := by decide +kernel
theorem dX2_copyRooms_3 : decode cX2_copyRooms 3 = .ok (.getfield 9, 3) := by decide +kernel
theorem dX2_copyRooms_6 : decode cX2_copyRooms 6 = .ok (.iconst 0, 1) := by decide +kernel
theorem dX2_copyRooms_7 : decode cX2_copyRooms 7 = .ok (.bipush 8, 2) := by decide +kernel
theorem dX2_copyRooms_9 : decode cX2_copyRooms 9 = .ok (.invokestatic 54, 3) := by decide +kernel
theorem dX2_copyRooms_12 : decode cX2_copyRooms 12 = .ok (.return_, 1) := by decide +kernel
theorem dX2_hasUnlike_0 : decode cX2_hasUnlike 0 = .ok (.iconst 0, 1) := by decide +kernel
theorem dX2_hasUnlike_1 : decode cX2_hasUnlike 1 = .ok (.istore_n 3, 1) := by decide +kernel
theorem dX2_hasUnlike_2 : decode cX2_hasUnlike 2 = .ok (.iload_n 3, 1) := by decide +kernel
theorem dX2_hasUnlike_3 : decode cX2_hasUnlike 3 = .ok (.bipush 8, 2) := by decide +kernel
theorem dX2_hasUnlike_5 : decode cX2_hasUnlike 5 = .ok (.if_icmp .ge 35, 3) := by decide +kernel
theorem dX2_hasUnlike_8 : decode cX2_hasUnlike 8 = .ok (.aload_n 0, 1) := by decide +kernel
theorem dX2_hasUnlike_9 : decode cX2_hasUnlike 9 = .ok (.getfield 9, 3) := by decide +kernel
theorem dX2_hasUnlike_12 : decode cX2_hasUnlike 12 = .ok (.iload_n 3, 1) := by decide +kernel
theorem dX2_hasUnlike_13 : decode cX2_hasUnlike 13 = .ok (.iaload, 1) := by decide +kernel
theorem dX2_hasUnlike_14 : decode cX2_hasUnlike 14 = .ok (.aload_n 0, 1) := by decide +kernel
theorem dX2_hasUnlike_15 : decode cX2_hasUnlike 15 = .ok (.getfield 9, 3) := by decide +kernel
theorem dX2_hasUnlike_18 : decode cX2_hasUnlike 18 = .ok (.iload_n 1, 1) := by decide +kernel
theorem dX2_hasUnlike_19 : decode cX2_hasUnlike 19 = .ok (.iaload, 1) := by decide +kernel
theorem dX2_hasUnlike_20 : decode cX2_hasUnlike 20 = .ok (.if_icmp .ne 14, 3) := by decide +kernel
theorem dX2_hasUnlike_23 : decode cX2_hasUnlike 23 = .ok (.aload_n 2, 1) := by decide +kernel
theorem dX2_hasUnlike_24 : decode cX2_hasUnlike 24 = .ok (.iload_n 3, 1) := by decide +kernel
theorem dX2_hasUnlike_25 : decode cX2_hasUnlike 25 = .ok (.iaload, 1) := by decide +kernel
theorem dX2_hasUnlike_26 : decode cX2_hasUnlike 26 = .ok (.aload_n 2, 1) := by decide +kernel
theorem dX2_hasUnlike_27 : decode cX2_hasUnlike 27 = .ok (.iload_n 1, 1) := by decide +kernel
theorem dX2_hasUnlike_28 : decode cX2_hasUnlike 28 = .ok (.iaload, 1) := by decide +kernel
theorem dX2_hasUnlike_29 : decode cX2_hasUnlike 29 = .ok (.if_icmp .eq 5, 3) := by decide +kernel
theorem dX2_hasUnlike_32 : decode cX2_hasUnlike 32 = .ok (.iconst 1, 1) := by decide +kernel
theorem dX2_hasUnlike_33 : decode cX2_hasUnlike 33 = .ok (.ireturn, 1) := by decide +kernel
theorem dX2_hasUnlike_34 : decode cX2_hasUnlike 34 = .ok (.iinc 3 1, 3) := by decide +kernel
theorem dX2_hasUnlike_37 : decode cX2_hasUnlike 37 = .ok (.goto (-35), 3) := by decide +kernel
theorem dX2_hasUnlike_40 : decode cX2_hasUnlike 40 = .ok (.iconst 0, 1) := by decide +kernel
theorem dX2_hasUnlike_41 : decode cX2_hasUnlike 41 = .ok (.ireturn, 1) := by decide +kernel
theorem dX2_draw_0 : decode cX2_draw 0 = .ok (.aload_n 0, 1) := by decide +kernel
theorem dX2_draw_1 : decode cX2_draw 1 = .ok (.invokevirtual 60, 3) := by decide +kernel
theorem dX2_draw_4 : decode cX2_draw 4 = .ok (.iconst 0, 1) := by decide +kernel
theorem dX2_draw_5 : decode cX2_draw 5 = .ok (.istore 4, 2) := by decide +kernel
theorem dX2_draw_7 : decode cX2_draw 7 = .ok (.iload 4, 2) := by decide +kernel
theorem dX2_draw_9 : decode cX2_draw 9 = .ok (.iload_n 3, 1) := by decide +kernel
theorem dX2_draw_10 : decode cX2_draw 10 = .ok (.if_icmp .ge 28, 3) := by decide +kernel
theorem dX2_draw_13 : decode cX2_draw 13 = .ok (.aload_n 0, 1) := by decide +kernel
theorem dX2_draw_14 : decode cX2_draw 14 = .ok (.getfield 9, 3) := by decide +kernel
theorem dX2_draw_17 : decode cX2_draw 17 = .ok (.iload 4, 2) := by decide +kernel
theorem dX2_draw_19 : decode cX2_draw 19 = .ok (.iaload, 1) := by decide +kernel
theorem dX2_draw_20 : decode cX2_draw 20 = .ok (.iconst (-1), 1) := by decide +kernel
theorem dX2_draw_21 : decode cX2_draw 21 = .ok (.if_icmp .eq 11, 3) := by decide +kernel
theorem dX2_draw_24 : decode cX2_draw 24 = .ok (.aload_n 0, 1) := by decide +kernel
theorem dX2_draw_25 : decode cX2_draw 25 = .ok (.iload 4, 2) := by decide +kernel
theorem dX2_draw_27 : decode cX2_draw 27 = .ok (.aload_n 1, 1) := by decide +kernel
theorem dX2_draw_28 : decode cX2_draw 28 = .ok (.iload_n 3, 1) := by decide +kernel
theorem dX2_draw_29 : decode cX2_draw 29 = .ok (.invokevirtual 63, 3) := by decide +kernel
theorem dX2_draw_32 : decode cX2_draw 32 = .ok (.iinc 4 1, 3) := by decide +kernel
theorem dX2_draw_35 : decode cX2_draw 35 = .ok (.goto (-28), 3) := by decide +kernel
theorem dX2_draw_38 : decode cX2_draw 38 = .ok (.aload_n 0, 1) := by decide +kernel
theorem dX2_draw_39 : decode cX2_draw 39 = .ok (.iconst 0, 1) := by decide +kernel
theorem dX2_draw_40 : decode cX2_draw 40 = .ok (.putfield 22, 3) := by decide +kernel
theorem dX2_draw_43 : decode cX2_draw 43 = .ok (.aload_n 0, 1) := by decide +kernel
theorem dX2_draw_44 : decode cX2_draw 44 = .ok (.iconst 0, 1) := by decide +kernel
theorem dX2_draw_45 : decode cX2_draw 45 = .ok (.putfield 25, 3) := by decide +kernel
theorem dX2_draw_48 : decode cX2_draw 48 = .ok (.iconst 0, 1) := by decide +kernel
theorem dX2_draw_49 : decode cX2_draw 49 = .ok (.istore 4, 2) := by decide +kernel
theorem dX2_draw_51 : decode cX2_draw 51 = .ok (.iload 4, 2) := by decide +kernel
theorem dX2_draw_53 : decode cX2_draw 53 = .ok (.iload_n 3, 1) := by decide +kernel
theorem dX2_draw_54 : decode cX2_draw 54 = .ok (.if_icmp .ge 29, 3) := by decide +kernel
theorem dX2_draw_57 : decode cX2_draw 57 = .ok (.aload_n 0, 1) := by decide +kernel
theorem dX2_draw_58 : decode cX2_draw 58 = .ok (.getfield 9, 3) := by decide +kernel
theorem dX2_draw_61 : decode cX2_draw 61 = .ok (.iload 4, 2) := by decide +kernel
theorem dX2_draw_63 : decode cX2_draw 63 = .ok (.iaload, 1) := by decide +kernel
theorem dX2_draw_64 : decode cX2_draw 64 = .ok (.iconst (-1), 1) := by decide +kernel
theorem dX2_draw_65 : decode cX2_draw 65 = .ok (.if_icmp .eq 12, 3) := by decide +kernel
theorem dX2_draw_68 : decode cX2_draw 68 = .ok (.aload_n 0, 1) := by decide +kernel
theorem dX2_draw_69 : decode cX2_draw 69 = .ok (.iload 4, 2) := by decide +kernel
theorem dX2_draw_71 : decode cX2_draw 71 = .ok (.aload_n 1, 1) := by decide +kernel
theorem dX2_draw_72 : decode cX2_draw 72 = .ok (.aload_n 2, 1) := by decide +kernel
theorem dX2_draw_73 : decode cX2_draw 73 = .ok (.iload_n 3, 1) := by decide +kernel
theorem dX2_draw_74 : decode cX2_draw 74 = .ok (.invokevirtual 67, 3) := by decide +kernel
theorem dX2_draw_77 : decode cX2_draw 77 = .ok (.iinc 4 1, 3) := by decide +kernel
theorem dX2_draw_80 : decode cX2_draw 80 = .ok (.goto (-29), 3) := by decide +kernel
theorem dX2_draw_83 : decode cX2_draw 83 = .ok (.return_, 1) := by decide +kernel
theorem dX2_openRooms_0 : decode cX2_openRooms 0 = .ok (.aload_n 0, 1) := by decide +kernel
theorem dX2_openRooms_1 : decode cX2_openRooms 1 = .ok (.iconst 0, 1) := by decide +kernel
theorem dX2_openRooms_2 : decode cX2_openRooms 2 = .ok (.putfield 18, 3) := by decide +kernel
theorem dX2_openRooms_5 : decode cX2_openRooms 5 = .ok (.aload_n 0, 1) := by decide +kernel
theorem dX2_openRooms_6 : decode cX2_openRooms 6 = .ok (.getfield 15, 3) := by decide +kernel
theorem dX2_openRooms_9 : decode cX2_openRooms 9 = .ok (.iconst 0, 1) := by decide +kernel
theorem dX2_openRooms_10 : decode cX2_openRooms 10 = .ok (.invokestatic 29, 3) := by decide +kernel
theorem dX2_openRooms_13 : decode cX2_openRooms 13 = .ok (.iconst 0, 1) := by decide +kernel
theorem dX2_openRooms_14 : decode cX2_openRooms 14 = .ok (.istore_n 1, 1) := by decide +kernel
theorem dX2_openRooms_15 : decode cX2_openRooms 15 = .ok (.iload_n 1, 1) := by decide +kernel
theorem dX2_openRooms_16 : decode cX2_openRooms 16 = .ok (.bipush 8, 2) := by decide +kernel
theorem dX2_openRooms_18 : decode cX2_openRooms 18 = .ok (.if_icmp .ge 21, 3) := by decide +kernel
theorem dX2_openRooms_21 : decode cX2_openRooms 21 = .ok (.aload_n 0, 1) := by decide +kernel
theorem dX2_openRooms_22 : decode cX2_openRooms 22 = .ok (.getfield 15, 3) := by decide +kernel
theorem dX2_openRooms_25 : decode cX2_openRooms 25 = .ok (.iload_n 1, 1) := by decide +kernel
theorem dX2_openRooms_26 : decode cX2_openRooms 26 = .ok (.iload_n 1, 1) := by decide +kernel
theorem dX2_openRooms_27 : decode cX2_openRooms 27 = .ok (.invokestatic 35, 3) := by decide +kernel
theorem dX2_openRooms_30 : decode cX2_openRooms 30 = .ok (.bipush 15, 2) := by decide +kernel
theorem dX2_openRooms_32 : decode cX2_openRooms 32 = .ok (.iastore, 1) := by decide +kernel
theorem dX2_openRooms_33 : decode cX2_openRooms 33 = .ok (.iinc 1 1, 3) := by decide +kernel
theorem dX2_openRooms_36 : decode cX2_openRooms 36 = .ok (.goto (-21), 3) := by decide +kernel
theorem dX2_openRooms_39 : decode cX2_openRooms 39 = .ok (.return_, 1) := by decide +kernel
theorem dX2_openDoorsFrom_0 : decode cX2_openDoorsFrom 0 = .ok (.aload_n 0, 1) := by decide +kernel
theorem dX2_openDoorsFrom_1 : decode cX2_openDoorsFrom 1 = .ok (.getfield 9, 3) := by decide +kernel
theorem dX2_openDoorsFrom_4 : decode cX2_openDoorsFrom 4 = .ok (.iload_n 1, 1) := by decide +kernel
theorem dX2_openDoorsFrom_5 : decode cX2_openDoorsFrom 5 = .ok (.iaload, 1) := by decide +kernel
theorem dX2_openDoorsFrom_6 : decode cX2_openDoorsFrom 6 = .ok (.istore 4, 2) := by decide +kernel
theorem dX2_openDoorsFrom_8 : decode cX2_openDoorsFrom 8 = .ok (.iconst 0, 1) := by decide +kernel
theorem dX2_openDoorsFrom_9 : decode cX2_openDoorsFrom 9 = .ok (.istore 5, 2) := by decide +kernel
theorem dX2_openDoorsFrom_11 : decode cX2_openDoorsFrom 11 = .ok (.iload 5, 2) := by decide +kernel
theorem dX2_openDoorsFrom_13 : decode cX2_openDoorsFrom 13 = .ok (.iload_n 3, 1) := by decide +kernel
theorem dX2_openDoorsFrom_14 : decode cX2_openDoorsFrom 14 = .ok (.if_icmp .ge 85, 3) := by decide +kernel
theorem dX2_openDoorsFrom_17 : decode cX2_openDoorsFrom 17 = .ok (.aload_n 2, 1) := by decide +kernel
theorem dX2_openDoorsFrom_18 : decode cX2_openDoorsFrom 18 = .ok (.iload_n 1, 1) := by decide +kernel
theorem dX2_openDoorsFrom_19 : decode cX2_openDoorsFrom 19 = .ok (.iload 5, 2) := by decide +kernel
theorem dX2_openDoorsFrom_21 : decode cX2_openDoorsFrom 21 = .ok (.invokestatic 35, 3) := by decide +kernel
theorem dX2_openDoorsFrom_24 : decode cX2_openDoorsFrom 24 = .ok (.iaload, 1) := by decide +kernel
theorem dX2_openDoorsFrom_25 : decode cX2_openDoorsFrom 25 = .ok (.istore 6, 2) := by decide +kernel
theorem dX2_openDoorsFrom_27 : decode cX2_openDoorsFrom 27 = .ok (.iload 6, 2) := by decide +kernel
theorem dX2_openDoorsFrom_29 : decode cX2_openDoorsFrom 29 = .ok (.ifCond .eq 64, 3) := by decide +kernel
theorem dX2_openDoorsFrom_32 : decode cX2_openDoorsFrom 32 = .ok (.aload_n 0, 1) := by decide +kernel
theorem dX2_openDoorsFrom_33 : decode cX2_openDoorsFrom 33 = .ok (.getfield 9, 3) := by decide +kernel
theorem dX2_openDoorsFrom_36 : decode cX2_openDoorsFrom 36 = .ok (.iload 5, 2) := by decide +kernel
theorem dX2_openDoorsFrom_38 : decode cX2_openDoorsFrom 38 = .ok (.iaload, 1) := by decide +kernel
theorem dX2_openDoorsFrom_39 : decode cX2_openDoorsFrom 39 = .ok (.iconst (-1), 1) := by decide +kernel
theorem dX2_openDoorsFrom_40 : decode cX2_openDoorsFrom 40 = .ok (.if_icmp .eq 53, 3) := by decide +kernel
theorem dX2_openDoorsFrom_43 : decode cX2_openDoorsFrom 43 = .ok (.iload 4, 2) := by decide +kernel
theorem dX2_openDoorsFrom_45 : decode cX2_openDoorsFrom 45 = .ok (.aload_n 0, 1) := by decide +kernel
theorem dX2_openDoorsFrom_46 : decode cX2_openDoorsFrom 46 = .ok (.getfield 9, 3) := by decide +kernel
theorem dX2_openDoorsFrom_49 : decode cX2_openDoorsFrom 49 = .ok (.iload 5, 2) := by decide +kernel
theorem dX2_openDoorsFrom_51 : decode cX2_openDoorsFrom 51 = .ok (.iaload, 1) := by decide +kernel
theorem dX2_openDoorsFrom_52 : decode cX2_openDoorsFrom 52 = .ok (.invokestatic 35, 3) := by decide +kernel
theorem dX2_openDoorsFrom_55 : decode cX2_openDoorsFrom 55 = .ok (.istore 7, 2) := by decide +kernel
theorem dX2_openDoorsFrom_57 : decode cX2_openDoorsFrom 57 = .ok (.aload_n 0, 1) := by decide +kernel
theorem dX2_openDoorsFrom_58 : decode cX2_openDoorsFrom 58 = .ok (.dup, 1) := by decide +kernel
theorem dX2_openDoorsFrom_59 : decode cX2_openDoorsFrom 59 = .ok (.getfield 18, 3) := by decide +kernel
theorem dX2_openDoorsFrom_62 : decode cX2_openDoorsFrom 62 = .ok (.iload 6, 2) := by decide +kernel
theorem dX2_openDoorsFrom_64 : decode cX2_openDoorsFrom 64 = .ok (.aload_n 0, 1) := by decide +kernel
theorem dX2_openDoorsFrom_65 : decode cX2_openDoorsFrom 65 = .ok (.getfield 15, 3) := by decide +kernel
theorem dX2_openDoorsFrom_68 : decode cX2_openDoorsFrom 68 = .ok (.iload 7, 2) := by decide +kernel
theorem dX2_openDoorsFrom_70 : decode cX2_openDoorsFrom 70 = .ok (.iaload, 1) := by decide +kernel
theorem dX2_openDoorsFrom_71 : decode cX2_openDoorsFrom 71 = .ok (.iconst (-1), 1) := by decide +kernel
theorem dX2_openDoorsFrom_72 : decode cX2_openDoorsFrom 72 = .ok (.ixor, 1) := by decide +kernel
theorem dX2_openDoorsFrom_73 : decode cX2_openDoorsFrom 73 = .ok (.iand, 1) := by decide +kernel
theorem dX2_openDoorsFrom_74 : decode cX2_openDoorsFrom 74 = .ok (.invokestatic 71, 3) := by decide +kernel
theorem dX2_openDoorsFrom_77 : decode cX2_openDoorsFrom 77 = .ok (.iadd, 1) := by decide +kernel
theorem dX2_openDoorsFrom_78 : decode cX2_openDoorsFrom 78 = .ok (.putfield 18, 3) := by decide +kernel
theorem dX2_openDoorsFrom_81 : decode cX2_openDoorsFrom 81 = .ok (.aload_n 0, 1) := by decide +kernel
theorem dX2_openDoorsFrom_82 : decode cX2_openDoorsFrom 82 = .ok (.getfield 15, 3) := by decide +kernel
theorem dX2_openDoorsFrom_85 : decode cX2_openDoorsFrom 85 = .ok (.iload 7, 2) := by decide +kernel
theorem dX2_openDoorsFrom_87 : decode cX2_openDoorsFrom 87 = .ok (.dup2, 1) := by decide +kernel
theorem dX2_openDoorsFrom_88 : decode cX2_openDoorsFrom 88 = .ok (.iaload, 1) := by decide +kernel
theorem dX2_openDoorsFrom_89 : decode cX2_openDoorsFrom 89 = .ok (.iload 6, 2) := by decide +kernel
theorem dX2_openDoorsFrom_91 : decode cX2_openDoorsFrom 91 = .ok (.ior, 1) := by decide +kernel
theorem dX2_openDoorsFrom_92 : decode cX2_openDoorsFrom 92 = .ok (.iastore, 1) := by decide +kernel
theorem dX2_openDoorsFrom_93 : decode cX2_openDoorsFrom 93 = .ok (.iinc 5 1, 3) := by decide +kernel
theorem dX2_openDoorsFrom_96 : decode cX2_openDoorsFrom 96 = .ok (.goto (-85), 3) := by decide +kernel
theorem dX2_openDoorsFrom_99 : decode cX2_openDoorsFrom 99 = .ok (.return_, 1) := by decide +kernel
theorem dX2_countStraysFrom_0 : decode cX2_countStraysFrom 0 = .ok (.aload_n 0, 1) := by decide +kernel
theorem dX2_countStraysFrom_1 : decode cX2_countStraysFrom 1 = .ok (.getfield 9, 3) := by decide +kernel
theorem dX2_countStraysFrom_4 : decode cX2_countStraysFrom 4 = .ok (.iload_n 1, 1) := by decide +kernel
theorem dX2_countStraysFrom_5 : decode cX2_countStraysFrom 5 = .ok (.iaload, 1) := by decide +kernel
theorem dX2_countStraysFrom_6 : decode cX2_countStraysFrom 6 = .ok (.istore 5, 2) := by decide +kernel
theorem dX2_countStraysFrom_8 : decode cX2_countStraysFrom 8 = .ok (.iconst 0, 1) := by decide +kernel
theorem dX2_countStraysFrom_9 : decode cX2_countStraysFrom 9 = .ok (.istore 6, 2) := by decide +kernel
theorem dX2_countStraysFrom_11 : decode cX2_countStraysFrom 11 = .ok (.iload 6, 2) := by decide +kernel
theorem dX2_countStraysFrom_13 : decode cX2_countStraysFrom 13 = .ok (.iload 4, 2) := by decide +kernel
theorem dX2_countStraysFrom_15 : decode cX2_countStraysFrom 15 = .ok (.if_icmp .ge 109, 3) := by decide +kernel
theorem dX2_countStraysFrom_18 : decode cX2_countStraysFrom 18 = .ok (.aload_n 0, 1) := by decide +kernel
theorem dX2_countStraysFrom_19 : decode cX2_countStraysFrom 19 = .ok (.getfield 9, 3) := by decide +kernel
theorem dX2_countStraysFrom_22 : decode cX2_countStraysFrom 22 = .ok (.iload 6, 2) := by decide +kernel
theorem dX2_countStraysFrom_24 : decode cX2_countStraysFrom 24 = .ok (.iaload, 1) := by decide +kernel
theorem dX2_countStraysFrom_25 : decode cX2_countStraysFrom 25 = .ok (.iconst (-1), 1) := by decide +kernel
theorem dX2_countStraysFrom_26 : decode cX2_countStraysFrom 26 = .ok (.if_icmp .eq 9, 3) := by decide +kernel
theorem dX2_countStraysFrom_29 : decode cX2_countStraysFrom 29 = .ok (.iload 6, 2) := by decide +kernel
theorem dX2_countStraysFrom_31 : decode cX2_countStraysFrom 31 = .ok (.iload_n 1, 1) := by decide +kernel
theorem dX2_countStraysFrom_32 : decode cX2_countStraysFrom 32 = .ok (.if_icmp .ne 7, 3) := by decide +kernel
theorem dX2_countStraysFrom_35 : decode cX2_countStraysFrom 35 = .ok (.iconst 0, 1) := by decide +kernel
theorem dX2_countStraysFrom_36 : decode cX2_countStraysFrom 36 = .ok (.goto 20, 3) := by decide +kernel
theorem dX2_countStraysFrom_39 : decode cX2_countStraysFrom 39 = .ok (.aload_n 0, 1) := by decide +kernel
theorem dX2_countStraysFrom_40 : decode cX2_countStraysFrom 40 = .ok (.getfield 15, 3) := by decide +kernel
theorem dX2_countStraysFrom_43 : decode cX2_countStraysFrom 43 = .ok (.iload 5, 2) := by decide +kernel
theorem dX2_countStraysFrom_45 : decode cX2_countStraysFrom 45 = .ok (.aload_n 0, 1) := by decide +kernel
theorem dX2_countStraysFrom_46 : decode cX2_countStraysFrom 46 = .ok (.getfield 9, 3) := by decide +kernel
theorem dX2_countStraysFrom_49 : decode cX2_countStraysFrom 49 = .ok (.iload 6, 2) := by decide +kernel
theorem dX2_countStraysFrom_51 : decode cX2_countStraysFrom 51 = .ok (.iaload, 1) := by decide +kernel
theorem dX2_countStraysFrom_52 : decode cX2_countStraysFrom 52 = .ok (.invokestatic 35, 3) := by decide +kernel
theorem dX2_countStraysFrom_55 : decode cX2_countStraysFrom 55 = .ok (.iaload, 1) := by decide +kernel
theorem dX2_countStraysFrom_56 : decode cX2_countStraysFrom 56 = .ok (.istore 7, 2) := by decide +kernel
theorem dX2_countStraysFrom_58 : decode cX2_countStraysFrom 58 = .ok (.iload 7, 2) := by decide +kernel
theorem dX2_countStraysFrom_60 : decode cX2_countStraysFrom 60 = .ok (.ifCond .eq 58, 3) := by decide +kernel
theorem dX2_countStraysFrom_63 : decode cX2_countStraysFrom 63 = .ok (.iload_n 1, 1) := by decide +kernel
theorem dX2_countStraysFrom_64 : decode cX2_countStraysFrom 64 = .ok (.iload 6, 2) := by decide +kernel
theorem dX2_countStraysFrom_66 : decode cX2_countStraysFrom 66 = .ok (.invokestatic 35, 3) := by decide +kernel
theorem dX2_countStraysFrom_69 : decode cX2_countStraysFrom 69 = .ok (.istore 8, 2) := by decide +kernel
theorem dX2_countStraysFrom_71 : decode cX2_countStraysFrom 71 = .ok (.aload_n 0, 1) := by decide +kernel
theorem dX2_countStraysFrom_72 : decode cX2_countStraysFrom 72 = .ok (.dup, 1) := by decide +kernel
theorem dX2_countStraysFrom_73 : decode cX2_countStraysFrom 73 = .ok (.getfield 22, 3) := by decide +kernel
theorem dX2_countStraysFrom_76 : decode cX2_countStraysFrom 76 = .ok (.iload 7, 2) := by decide +kernel
theorem dX2_countStraysFrom_78 : decode cX2_countStraysFrom 78 = .ok (.aload_n 2, 1) := by decide +kernel
theorem dX2_countStraysFrom_79 : decode cX2_countStraysFrom 79 = .ok (.iload 8, 2) := by decide +kernel
theorem dX2_countStraysFrom_81 : decode cX2_countStraysFrom 81 = .ok (.iaload, 1) := by decide +kernel
theorem dX2_countStraysFrom_82 : decode cX2_countStraysFrom 82 = .ok (.iconst (-1), 1) := by decide +kernel
theorem dX2_countStraysFrom_83 : decode cX2_countStraysFrom 83 = .ok (.ixor, 1) := by decide +kernel
theorem dX2_countStraysFrom_84 : decode cX2_countStraysFrom 84 = .ok (.iand, 1) := by decide +kernel
theorem dX2_countStraysFrom_85 : decode cX2_countStraysFrom 85 = .ok (.invokestatic 71, 3) := by decide +kernel
theorem dX2_countStraysFrom_88 : decode cX2_countStraysFrom 88 = .ok (.iadd, 1) := by decide +kernel
theorem dX2_countStraysFrom_89 : decode cX2_countStraysFrom 89 = .ok (.putfield 22, 3) := by decide +kernel
theorem dX2_countStraysFrom_92 : decode cX2_countStraysFrom 92 = .ok (.aload_n 0, 1) := by decide +kernel
theorem dX2_countStraysFrom_93 : decode cX2_countStraysFrom 93 = .ok (.aload_n 0, 1) := by decide +kernel
theorem dX2_countStraysFrom_94 : decode cX2_countStraysFrom 94 = .ok (.getfield 25, 3) := by decide +kernel
theorem dX2_countStraysFrom_97 : decode cX2_countStraysFrom 97 = .ok (.ifCond .ne 13, 3) := by decide +kernel
theorem dX2_countStraysFrom_100 : decode cX2_countStraysFrom 100 = .ok (.iload 7, 2) := by decide +kernel
theorem dX2_countStraysFrom_102 : decode cX2_countStraysFrom 102 = .ok (.aload_n 3, 1) := by decide +kernel
theorem dX2_countStraysFrom_103 : decode cX2_countStraysFrom 103 = .ok (.iload 8, 2) := by decide +kernel
theorem dX2_countStraysFrom_105 : decode cX2_countStraysFrom 105 = .ok (.iaload, 1) := by decide +kernel
theorem dX2_countStraysFrom_106 : decode cX2_countStraysFrom 106 = .ok (.iand, 1) := by decide +kernel
theorem dX2_countStraysFrom_107 : decode cX2_countStraysFrom 107 = .ok (.ifCond .eq 7, 3) := by decide +kernel
theorem dX2_countStraysFrom_110 : decode cX2_countStraysFrom 110 = .ok (.iconst 1, 1) := by decide +kernel
theorem dX2_countStraysFrom_111 : decode cX2_countStraysFrom 111 = .ok (.goto 4, 3) := by decide +kernel
theorem dX2_countStraysFrom_114 : decode cX2_countStraysFrom 114 = .ok (.iconst 0, 1) := by decide +kernel
theorem dX2_countStraysFrom_115 : decode cX2_countStraysFrom 115 = .ok (.putfield 25, 3) := by decide +kernel
theorem dX2_countStraysFrom_118 : decode cX2_countStraysFrom 118 = .ok (.iinc 6 1, 3) := by decide +kernel
theorem dX2_countStraysFrom_121 : decode cX2_countStraysFrom 121 = .ok (.goto (-110), 3) := by decide +kernel
theorem dX2_countStraysFrom_124 : decode cX2_countStraysFrom 124 = .ok (.return_, 1) := by decide +kernel
theorem dX3_init_0 : decode cX3_init 0 = .ok (.aload_n 0, 1) := by decide +kernel
theorem dX3_init_1 : decode cX3_init 1 = .ok (.invokespecial 3, 3) := by decide +kernel
theorem dX3_init_4 : decode cX3_init 4 = .ok (.aload_n 0, 1) := by decide +kernel
theorem dX3_init_5 : decode cX3_init 5 = .ok (.bipush 64, 2) := by decide +kernel
theorem dX3_init_7 : decode cX3_init 7 = .ok (.newarray .int, 2) := by decide +kernel
theorem dX3_init_9 : decode cX3_init 9 = .ok (.putfield 9, 3) := by decide +kernel
theorem dX3_init_12 : decode cX3_init 12 = .ok (.aload_n 0, 1) := by decide +kernel
theorem dX3_init_13 : decode cX3_init 13 = .ok (.sipush 256, 3) := by decide +kernel
theorem dX3_init_16 : decode cX3_init 16 = .ok (.newarray .int, 2) := by decide +kernel
theorem dX3_init_18 : decode cX3_init 18 = .ok (.putfield 15, 3) := by decide +kernel
theorem dX3_init_21 : decode cX3_init 21 = .ok (.return_, 1) := by decide +kernel
theorem dX3_take_0 : decode cX3_take 0 = .ok (.aload_n 3, 1) := by decide +kernel
theorem dX3_take_1 : decode cX3_take 1 = .ok (.aload_n 0, 1) := by decide +kernel
theorem dX3_take_2 : decode cX3_take 2 = .ok (.getfield 15, 3) := by decide +kernel
theorem dX3_take_5 : decode cX3_take 5 = .ok (.iload 4, 2) := by decide +kernel
theorem dX3_take_7 : decode cX3_take 7 = .ok (.aload_n 2, 1) := by decide +kernel
theorem dX3_take_8 : decode cX3_take 8 = .ok (.getfield 18, 3) := by decide +kernel
theorem dX3_take_11 : decode cX3_take 11 = .ok (.invokevirtual 24, 3) := by decide +kernel
theorem dX3_take_14 : decode cX3_take 14 = .ok (.iconst 0, 1) := by decide +kernel
theorem dX3_take_15 : decode cX3_take 15 = .ok (.istore 5, 2) := by decide +kernel
theorem dX3_take_17 : decode cX3_take 17 = .ok (.iload 5, 2) := by decide +kernel
theorem dX3_take_19 : decode cX3_take 19 = .ok (.bipush 64, 2) := by decide +kernel
theorem dX3_take_21 : decode cX3_take 21 = .ok (.if_icmp .ge 27, 3) := by decide +kernel
theorem dX3_take_24 : decode cX3_take 24 = .ok (.aload_n 0, 1) := by decide +kernel
theorem dX3_take_25 : decode cX3_take 25 = .ok (.getfield 9, 3) := by decide +kernel
theorem dX3_take_28 : decode cX3_take 28 = .ok (.iload 5, 2) := by decide +kernel
theorem dX3_take_30 : decode cX3_take 30 = .ok (.aload_n 0, 1) := by decide +kernel
theorem dX3_take_31 : decode cX3_take 31 = .ok (.iload 5, 2) := by decide +kernel
theorem dX3_take_33 : decode cX3_take 33 = .ok (.aload_n 1, 1) := by decide +kernel
theorem dX3_take_34 : decode cX3_take 34 = .ok (.aload_n 2, 1) := by decide +kernel
theorem dX3_take_35 : decode cX3_take 35 = .ok (.getfield 30, 3) := by decide +kernel
theorem dX3_take_38 : decode cX3_take 38 = .ok (.invokevirtual 33, 3) := by decide +kernel
theorem dX3_take_41 : decode cX3_take 41 = .ok (.iastore, 1) := by decide +kernel
theorem dX3_take_42 : decode cX3_take 42 = .ok (.iinc 5 1, 3) := by decide +kernel
theorem dX3_take_45 : decode cX3_take 45 = .ok (.goto (-28), 3) := by decide +kernel
theorem dX3_take_48 : decode cX3_take 48 = .ok (.return_, 1) := by decide +kernel
theorem dX3_doorsOf_0 : decode cX3_doorsOf 0 = .ok (.iconst 0, 1) := by decide +kernel
theorem dX3_doorsOf_1 : decode cX3_doorsOf 1 = .ok (.istore 4, 2) := by decide +kernel
theorem dX3_doorsOf_3 : decode cX3_doorsOf 3 = .ok (.iconst 0, 1) := by decide +kernel
theorem dX3_doorsOf_4 : decode cX3_doorsOf 4 = .ok (.istore 5, 2) := by decide +kernel
theorem dX3_doorsOf_6 : decode cX3_doorsOf 6 = .ok (.iload 5, 2) := by decide +kernel
theorem dX3_doorsOf_8 : decode cX3_doorsOf 8 = .ok (.iconst 4, 1) := by decide +kernel
theorem dX3_doorsOf_9 : decode cX3_doorsOf 9 = .ok (.if_icmp .ge 40, 3) := by decide +kernel
theorem dX3_doorsOf_12 : decode cX3_doorsOf 12 = .ok (.aload_n 2, 1) := by decide +kernel
theorem dX3_doorsOf_13 : decode cX3_doorsOf 13 = .ok (.iload_n 1, 1) := by decide +kernel
theorem dX3_doorsOf_14 : decode cX3_doorsOf 14 = .ok (.iload 5, 2) := by decide +kernel
theorem dX3_doorsOf_16 : decode cX3_doorsOf 16 = .ok (.aload_n 0, 1) := by decide +kernel
theorem dX3_doorsOf_17 : decode cX3_doorsOf 17 = .ok (.getfield 15, 3) := by decide +kernel
theorem dX3_doorsOf_20 : decode cX3_doorsOf 20 = .ok (.iload_n 1, 1) := by decide +kernel
theorem dX3_doorsOf_21 : decode cX3_doorsOf 21 = .ok (.iconst 4, 1) := by decide +kernel
theorem dX3_doorsOf_22 : decode cX3_doorsOf 22 = .ok (.imul, 1) := by decide +kernel
theorem dX3_doorsOf_23 : decode cX3_doorsOf 23 = .ok (.iload 5, 2) := by decide +kernel
theorem dX3_doorsOf_25 : decode cX3_doorsOf 25 = .ok (.iadd, 1) := by decide +kernel
theorem dX3_doorsOf_26 : decode cX3_doorsOf 26 = .ok (.iaload, 1) := by decide +kernel
theorem dX3_doorsOf_27 : decode cX3_doorsOf 27 = .ok (.iload_n 3, 1) := by decide +kernel
theorem dX3_doorsOf_28 : decode cX3_doorsOf 28 = .ok (.invokevirtual 37, 3) := by decide +kernel
theorem dX3_doorsOf_31 : decode cX3_doorsOf 31 = .ok (.ifCond .eq 12, 3) := by decide +kernel
theorem dX3_doorsOf_34 : decode cX3_doorsOf 34 = .ok (.iload 4, 2) := by decide +kernel
theorem dX3_doorsOf_36 : decode cX3_doorsOf 36 = .ok (.iconst 1, 1) := by decide +kernel
theorem dX3_doorsOf_37 : decode cX3_doorsOf 37 = .ok (.iload 5, 2) := by decide +kernel
theorem dX3_doorsOf_39 : decode cX3_doorsOf 39 = .ok (.ishl, 1) := by decide +kernel
theorem dX3_doorsOf_40 : decode cX3_doorsOf 40 = .ok (.ior, 1) := by decide +kernel
theorem dX3_doorsOf_41 : decode cX3_doorsOf 41 = .ok (.istore 4, 2) := by decide +kernel
theorem dX3_doorsOf_43 : decode cX3_doorsOf 43 = .ok (.iinc 5 1, 3) := by decide +kernel
theorem dX3_doorsOf_46 : decode cX3_doorsOf 46 = .ok (.goto (-40), 3) := by decide +kernel
theorem dX3_doorsOf_49 : decode cX3_doorsOf 49 = .ok (.iload 4, 2) := by decide +kernel
theorem dX3_doorsOf_51 : decode cX3_doorsOf 51 = .ok (.ireturn, 1) := by decide +kernel
theorem dX3_copyFrom_0 : decode cX3_copyFrom 0 = .ok (.aload_n 1, 1) := by decide +kernel
theorem dX3_copyFrom_1 : decode cX3_copyFrom 1 = .ok (.getfield 9, 3) := by decide +kernel
theorem dX3_copyFrom_4 : decode cX3_copyFrom 4 = .ok (.iconst 0, 1) := by decide +kernel
theorem dX3_copyFrom_5 : decode cX3_copyFrom 5 = .ok (.aload_n 0, 1) := by decide +kernel
theorem dX3_copyFrom_6 : decode cX3_copyFrom 6 = .ok (.getfield 9, 3) := by decide +kernel
theorem dX3_copyFrom_9 : decode cX3_copyFrom 9 = .ok (.iconst 0, 1) := by decide +kernel
theorem dX3_copyFrom_10 : decode cX3_copyFrom 10 = .ok (.bipush 64, 2) := by decide +kernel
theorem dX3_copyFrom_12 : decode cX3_copyFrom 12 = .ok (.invokestatic 43, 3) := by decide +kernel
theorem dX3_copyFrom_15 : decode cX3_copyFrom 15 = .ok (.aload_n 1, 1) := by decide +kernel
theorem dX3_copyFrom_16 : decode cX3_copyFrom 16 = .ok (.getfield 15, 3) := by decide +kernel
theorem dX3_copyFrom_19 : decode cX3_copyFrom 19 = .ok (.iconst 0, 1) := by decide +kernel
theorem dX3_copyFrom_20 : decode cX3_copyFrom 20 = .ok (.aload_n 0, 1) := by decide +kernel
theorem dX3_copyFrom_21 : decode cX3_copyFrom 21 = .ok (.getfield 15, 3) := by decide +kernel
theorem dX3_copyFrom_24 : decode cX3_copyFrom 24 = .ok (.iconst 0, 1) := by decide +kernel
theorem dX3_copyFrom_25 : decode cX3_copyFrom 25 = .ok (.sipush 256, 3) := by decide +kernel
theorem dX3_copyFrom_28 : decode cX3_copyFrom 28 = .ok (.invokestatic 43, 3) := by decide +kernel
theorem dX3_copyFrom_31 : decode cX3_copyFrom 31 = .ok (.return_, 1) := by decide +kernel
theorem dX3_total_0 : decode cX3_total 0 = .ok (.iconst 0, 1) := by decide +kernel
theorem dX3_total_1 : decode cX3_total 1 = .ok (.istore_n 1, 1) := by decide +kernel
theorem dX3_total_2 : decode cX3_total 2 = .ok (.iconst 0, 1) := by decide +kernel
theorem dX3_total_3 : decode cX3_total 3 = .ok (.istore_n 2, 1) := by decide +kernel
theorem dX3_total_4 : decode cX3_total 4 = .ok (.iload_n 2, 1) := by decide +kernel
theorem dX3_total_5 : decode cX3_total 5 = .ok (.bipush 64, 2) := by decide +kernel
theorem dX3_total_7 : decode cX3_total 7 = .ok (.if_icmp .ge 21, 3) := by decide +kernel
theorem dX3_total_10 : decode cX3_total 10 = .ok (.iload_n 1, 1) := by decide +kernel
theorem dX3_total_11 : decode cX3_total 11 = .ok (.aload_n 0, 1) := by decide +kernel
theorem dX3_total_12 : decode cX3_total 12 = .ok (.getfield 9, 3) := by decide +kernel
theorem dX3_total_15 : decode cX3_total 15 = .ok (.iload_n 2, 1) := by decide +kernel
theorem dX3_total_16 : decode cX3_total 16 = .ok (.iaload, 1) := by decide +kernel
theorem dX3_total_17 : decode cX3_total 17 = .ok (.invokestatic 49, 3) := by decide +kernel
theorem dX3_total_20 : decode cX3_total 20 = .ok (.iadd, 1) := by decide +kernel
theorem dX3_total_21 : decode cX3_total 21 = .ok (.istore_n 1, 1) := by decide +kernel
theorem dX3_total_22 : decode cX3_total 22 = .ok (.iinc 2 1, 3) := by decide +kernel
theorem dX3_total_25 : decode cX3_total 25 = .ok (.goto (-21), 3) := by decide +kernel
theorem dX3_total_28 : decode cX3_total 28 = .ok (.iload_n 1, 1) := by decide +kernel
theorem dX3_total_29 : decode cX3_total 29 = .ok (.ireturn, 1) := by decide +kernel
theorem dX4_init_0 : decode cX4_init 0 = .ok (.aload_n 0, 1) := by decide +kernel
theorem dX4_init_1 : decode cX4_init 1 = .ok (.invokespecial 3, 3) := by decide +kernel
theorem dX4_init_4 : decode cX4_init 4 = .ok (.aload_n 0, 1) := by decide +kernel
theorem dX4_init_5 : decode cX4_init 5 = .ok (.bipush 8, 2) := by decide +kernel
theorem dX4_init_7 : decode cX4_init 7 = .ok (.newarray .int, 2) := by decide +kernel
theorem dX4_init_9 : decode cX4_init 9 = .ok (.putfield 9, 3) := by decide +kernel
theorem dX4_init_12 : decode cX4_init 12 = .ok (.aload_n 0, 1) := by decide +kernel
theorem dX4_init_13 : decode cX4_init 13 = .ok (.bipush 64, 2) := by decide +kernel
theorem dX4_init_15 : decode cX4_init 15 = .ok (.newarray .int, 2) := by decide +kernel
theorem dX4_init_17 : decode cX4_init 17 = .ok (.putfield 15, 3) := by decide +kernel
theorem dX4_init_20 : decode cX4_init 20 = .ok (.aload_n 0, 1) := by decide +kernel
theorem dX4_init_21 : decode cX4_init 21 = .ok (.bipush 64, 2) := by decide +kernel
theorem dX4_init_23 : decode cX4_init 23 = .ok (.newarray .int, 2) := by decide +kernel
theorem dX4_init_25 : decode cX4_init 25 = .ok (.putfield 18, 3) := by decide +kernel
theorem dX4_init_28 : decode cX4_init 28 = .ok (.aload_n 0, 1) := by decide +kernel
theorem dX4_init_29 : decode cX4_init 29 = .ok (.iconst 0, 1) := by decide +kernel
theorem dX4_init_30 : decode cX4_init 30 = .ok (.putfield 21, 3) := by decide +kernel
theorem dX4_init_33 : decode cX4_init 33 = .ok (.return_, 1) := by decide +kernel
theorem dX4_addHost_0 : decode cX4_addHost 0 = .ok (.aload_n 0, 1) := by decide +kernel
theorem dX4_addHost_1 : decode cX4_addHost 1 = .ok (.getfield 21, 3) := by decide +kernel
theorem dX4_addHost_4 : decode cX4_addHost 4 = .ok (.bipush 8, 2) := by decide +kernel
theorem dX4_addHost_6 : decode cX4_addHost 6 = .ok (.if_icmp .lt 5, 3) := by decide +kernel
theorem dX4_addHost_9 : decode cX4_addHost 9 = .ok (.iconst (-1), 1) := by decide +kernel
theorem dX4_addHost_10 : decode cX4_addHost 10 = .ok (.ireturn, 1) := by decide +kernel
theorem dX4_addHost_11 : decode cX4_addHost 11 = .ok (.aload_n 0, 1) := by decide +kernel
theorem dX4_addHost_12 : decode cX4_addHost 12 = .ok (.getfield 9, 3) := by decide +kernel
theorem dX4_addHost_15 : decode cX4_addHost 15 = .ok (.aload_n 0, 1) := by decide +kernel
theorem dX4_addHost_16 : decode cX4_addHost 16 = .ok (.getfield 21, 3) := by decide +kernel
theorem dX4_addHost_19 : decode cX4_addHost 19 = .ok (.iload_n 1, 1) := by decide +kernel
theorem dX4_addHost_20 : decode cX4_addHost 20 = .ok (.iastore, 1) := by decide +kernel
theorem dX4_addHost_21 : decode cX4_addHost 21 = .ok (.aload_n 0, 1) := by decide +kernel
theorem dX4_addHost_22 : decode cX4_addHost 22 = .ok (.dup, 1) := by decide +kernel
theorem dX4_addHost_23 : decode cX4_addHost 23 = .ok (.getfield 21, 3) := by decide +kernel
theorem dX4_addHost_26 : decode cX4_addHost 26 = .ok (.iconst 1, 1) := by decide +kernel
theorem dX4_addHost_27 : decode cX4_addHost 27 = .ok (.iadd, 1) := by decide +kernel
theorem dX4_addHost_28 : decode cX4_addHost 28 = .ok (.putfield 21, 3) := by decide +kernel
theorem dX4_addHost_31 : decode cX4_addHost 31 = .ok (.aload_n 0, 1) := by decide +kernel
theorem dX4_addHost_32 : decode cX4_addHost 32 = .ok (.getfield 21, 3) := by decide +kernel
theorem dX4_addHost_35 : decode cX4_addHost 35 = .ok (.iconst 1, 1) := by decide +kernel
theorem dX4_addHost_36 : decode cX4_addHost 36 = .ok (.isub, 1) := by decide +kernel
theorem dX4_addHost_37 : decode cX4_addHost 37 = .ok (.ireturn, 1) := by decide +kernel
theorem dX4_isHost_0 : decode cX4_isHost 0 = .ok (.iload_n 1, 1) := by decide +kernel
theorem dX4_isHost_1 : decode cX4_isHost 1 = .ok (.iconst 0, 1) := by decide +kernel
theorem dX4_isHost_2 : decode cX4_isHost 2 = .ok (.aload_n 0, 1) := by decide +kernel
theorem dX4_isHost_3 : decode cX4_isHost 3 = .ok (.getfield 21, 3) := by decide +kernel
theorem dX4_isHost_6 : decode cX4_isHost 6 = .ok (.iconst 1, 1) := by decide +kernel
theorem dX4_isHost_7 : decode cX4_isHost 7 = .ok (.isub, 1) := by decide +kernel
theorem dX4_isHost_8 : decode cX4_isHost 8 = .ok (.invokestatic 25, 3) := by decide +kernel
theorem dX4_isHost_11 : decode cX4_isHost 11 = .ok (.ireturn, 1) := by decide +kernel
theorem dX4_isWay_0 : decode cX4_isWay 0 = .ok (.aload_n 0, 1) := by decide +kernel
theorem dX4_isWay_1 : decode cX4_isWay 1 = .ok (.iload_n 1, 1) := by decide +kernel
theorem dX4_isWay_2 : decode cX4_isWay 2 = .ok (.invokevirtual 29, 3) := by decide +kernel
theorem dX4_isWay_5 : decode cX4_isWay 5 = .ok (.ifCond .eq 29, 3) := by decide +kernel
theorem dX4_isWay_8 : decode cX4_isWay 8 = .ok (.aload_n 0, 1) := by decide +kernel
theorem dX4_isWay_9 : decode cX4_isWay 9 = .ok (.iload_n 2, 1) := by decide +kernel
theorem dX4_isWay_10 : decode cX4_isWay 10 = .ok (.invokevirtual 29, 3) := by decide +kernel
theorem dX4_isWay_13 : decode cX4_isWay 13 = .ok (.ifCond .eq 21, 3) := by decide +kernel
theorem dX4_isWay_16 : decode cX4_isWay 16 = .ok (.iload_n 1, 1) := by decide +kernel
theorem dX4_isWay_17 : decode cX4_isWay 17 = .ok (.iload_n 2, 1) := by decide +kernel
theorem dX4_isWay_18 : decode cX4_isWay 18 = .ok (.if_icmp .eq 16, 3) := by decide +kernel
theorem dX4_isWay_21 : decode cX4_isWay 21 = .ok (.iload_n 3, 1) := by decide +kernel
theorem dX4_isWay_22 : decode cX4_isWay 22 = .ok (.iconst 0, 1) := by decide +kernel
theorem dX4_isWay_23 : decode cX4_isWay 23 = .ok (.iconst 3, 1) := by decide +kernel
theorem dX4_isWay_24 : decode cX4_isWay 24 = .ok (.invokestatic 25, 3) := by decide +kernel
theorem dX4_isWay_27 : decode cX4_isWay 27 = .ok (.ifCond .eq 7, 3) := by decide +kernel
theorem dX4_isWay_30 : decode cX4_isWay 30 = .ok (.iconst 1, 1) := by decide +kernel
theorem dX4_isWay_31 : decode cX4_isWay 31 = .ok (.goto 4, 3) := by decide +kernel
theorem dX4_isWay_34 : decode cX4_isWay 34 = .ok (.iconst 0, 1) := by decide +kernel
theorem dX4_isWay_35 : decode cX4_isWay 35 = .ok (.ireturn, 1) := by decide +kernel
theorem dX4_isNeed_0 : decode cX4_isNeed 0 = .ok (.aload_n 0, 1) := by decide +kernel
theorem dX4_isNeed_1 : decode cX4_isNeed 1 = .ok (.getfield 15, 3) := by decide +kernel
theorem dX4_isNeed_4 : decode cX4_isNeed 4 = .ok (.iload_n 1, 1) := by decide +kernel
theorem dX4_isNeed_5 : decode cX4_isNeed 5 = .ok (.iaload, 1) := by decide +kernel
theorem dX4_isNeed_6 : decode cX4_isNeed 6 = .ok (.iload_n 2, 1) := by decide +kernel
theorem dX4_isNeed_7 : decode cX4_isNeed 7 = .ok (.invokestatic 33, 3) := by decide +kernel
theorem dX4_isNeed_10 : decode cX4_isNeed 10 = .ok (.ifCond .ne 22, 3) := by decide +kernel
theorem dX4_isNeed_13 : decode cX4_isNeed 13 = .ok (.aload_n 0, 1) := by decide +kernel
theorem dX4_isNeed_14 : decode cX4_isNeed 14 = .ok (.getfield 18, 3) := by decide +kernel
theorem dX4_isNeed_17 : decode cX4_isNeed 17 = .ok (.iload_n 1, 1) := by decide +kernel
theorem dX4_isNeed_18 : decode cX4_isNeed 18 = .ok (.iaload, 1) := by decide +kernel
theorem dX4_isNeed_19 : decode cX4_isNeed 19 = .ok (.iload_n 2, 1) := by decide +kernel
theorem dX4_isNeed_20 : decode cX4_isNeed 20 = .ok (.invokestatic 33, 3) := by decide +kernel
theorem dX4_isNeed_23 : decode cX4_isNeed 23 = .ok (.ifCond .ne 13, 3) := by decide +kernel
theorem dX4_isNeed_26 : decode cX4_isNeed 26 = .ok (.iload_n 3, 1) := by decide +kernel
theorem dX4_isNeed_27 : decode cX4_isNeed 27 = .ok (.iload 4, 2) := by decide +kernel
theorem dX4_isNeed_29 : decode cX4_isNeed 29 = .ok (.if_icmp .lt 7, 3) := by decide +kernel
theorem dX4_isNeed_32 : decode cX4_isNeed 32 = .ok (.iconst 1, 1) := by decide +kernel
theorem dX4_isNeed_33 : decode cX4_isNeed 33 = .ok (.goto 4, 3) := by decide +kernel
theorem dX4_isNeed_36 : decode cX4_isNeed 36 = .ok (.iconst 0, 1) := by decide +kernel
theorem dX4_isNeed_37 : decode cX4_isNeed 37 = .ok (.ireturn, 1) := by decide +kernel
theorem dX5_init_0 : decode cX5_init 0 = .ok (.aload_n 0, 1) := by decide +kernel
theorem dX5_init_1 : decode cX5_init 1 = .ok (.invokespecial 3, 3) := by decide +kernel
theorem dX5_init_4 : decode cX5_init 4 = .ok (.aload_n 0, 1) := by decide +kernel
theorem dX5_init_5 : decode cX5_init 5 = .ok (.sipush 300, 3) := by decide +kernel
theorem dX5_init_8 : decode cX5_init 8 = .ok (.newarray .int, 2) := by decide +kernel
theorem dX5_init_10 : decode cX5_init 10 = .ok (.putfield 9, 3) := by decide +kernel
theorem dX5_init_13 : decode cX5_init 13 = .ok (.aload_n 0, 1) := by decide +kernel
theorem dX5_init_14 : decode cX5_init 14 = .ok (.sipush 300, 3) := by decide +kernel
theorem dX5_init_17 : decode cX5_init 17 = .ok (.newarray .int, 2) := by decide +kernel
theorem dX5_init_19 : decode cX5_init 19 = .ok (.putfield 15, 3) := by decide +kernel
theorem dX5_init_22 : decode cX5_init 22 = .ok (.aload_n 0, 1) := by decide +kernel
theorem dX5_init_23 : decode cX5_init 23 = .ok (.iconst 0, 1) := by decide +kernel
theorem dX5_init_24 : decode cX5_init 24 = .ok (.putfield 18, 3) := by decide +kernel
theorem dX5_init_27 : decode cX5_init 27 = .ok (.return_, 1) := by decide +kernel
theorem dX5_gather_0 : decode cX5_gather 0 = .ok (.aload_n 0, 1) := by decide +kernel
theorem dX5_gather_1 : decode cX5_gather 1 = .ok (.iconst 0, 1) := by decide +kernel
theorem dX5_gather_2 : decode cX5_gather 2 = .ok (.putfield 18, 3) := by decide +kernel
theorem dX5_gather_5 : decode cX5_gather 5 = .ok (.iconst 0, 1) := by decide +kernel
theorem dX5_gather_6 : decode cX5_gather 6 = .ok (.istore 4, 2) := by decide +kernel
theorem dX5_gather_8 : decode cX5_gather 8 = .ok (.iload 4, 2) := by decide +kernel
theorem dX5_gather_10 : decode cX5_gather 10 = .ok (.aload_n 1, 1) := by decide +kernel
theorem dX5_gather_11 : decode cX5_gather 11 = .ok (.getfield 22, 3) := by decide +kernel
theorem dX5_gather_14 : decode cX5_gather 14 = .ok (.if_icmp .ge 87, 3) := by decide +kernel
theorem dX5_gather_17 : decode cX5_gather 17 = .ok (.aload_n 1, 1) := by decide +kernel
theorem dX5_gather_18 : decode cX5_gather 18 = .ok (.getfield 25, 3) := by decide +kernel
theorem dX5_gather_21 : decode cX5_gather 21 = .ok (.iload 4, 2) := by decide +kernel
theorem dX5_gather_23 : decode cX5_gather 23 = .ok (.iaload, 1) := by decide +kernel
theorem dX5_gather_24 : decode cX5_gather 24 = .ok (.istore 5, 2) := by decide +kernel
theorem dX5_gather_26 : decode cX5_gather 26 = .ok (.aload_n 1, 1) := by decide +kernel
theorem dX5_gather_27 : decode cX5_gather 27 = .ok (.getfield 28, 3) := by decide +kernel
theorem dX5_gather_30 : decode cX5_gather 30 = .ok (.iload 4, 2) := by decide +kernel
theorem dX5_gather_32 : decode cX5_gather 32 = .ok (.iaload, 1) := by decide +kernel
theorem dX5_gather_33 : decode cX5_gather 33 = .ok (.iload_n 3, 1) := by decide +kernel
theorem dX5_gather_34 : decode cX5_gather 34 = .ok (.if_icmp .ne 61, 3) := by decide +kernel
theorem dX5_gather_37 : decode cX5_gather 37 = .ok (.aload_n 2, 1) := by decide +kernel
theorem dX5_gather_38 : decode cX5_gather 38 = .ok (.iload 5, 2) := by decide +kernel
theorem dX5_gather_40 : decode cX5_gather 40 = .ok (.invokestatic 31, 3) := by decide +kernel
theorem dX5_gather_43 : decode cX5_gather 43 = .ok (.iload 5, 2) := by decide +kernel
theorem dX5_gather_45 : decode cX5_gather 45 = .ok (.invokestatic 35, 3) := by decide +kernel
theorem dX5_gather_48 : decode cX5_gather 48 = .ok (.iload 5, 2) := by decide +kernel
theorem dX5_gather_50 : decode cX5_gather 50 = .ok (.invokestatic 38, 3) := by decide +kernel
theorem dX5_gather_53 : decode cX5_gather 53 = .ok (.invokevirtual 41, 3) := by decide +kernel
theorem dX5_gather_56 : decode cX5_gather 56 = .ok (.ifCond .ne 39, 3) := by decide +kernel
theorem dX5_gather_59 : decode cX5_gather 59 = .ok (.aload_n 0, 1) := by decide +kernel
theorem dX5_gather_60 : decode cX5_gather 60 = .ok (.getfield 9, 3) := by decide +kernel
theorem dX5_gather_63 : decode cX5_gather 63 = .ok (.aload_n 0, 1) := by decide +kernel
theorem dX5_gather_64 : decode cX5_gather 64 = .ok (.getfield 18, 3) := by decide +kernel
theorem dX5_gather_67 : decode cX5_gather 67 = .ok (.iload 4, 2) := by decide +kernel
theorem dX5_gather_69 : decode cX5_gather 69 = .ok (.iastore, 1) := by decide +kernel
theorem dX5_gather_70 : decode cX5_gather 70 = .ok (.aload_n 0, 1) := by decide +kernel
theorem dX5_gather_71 : decode cX5_gather 71 = .ok (.getfield 15, 3) := by decide +kernel
theorem dX5_gather_74 : decode cX5_gather 74 = .ok (.aload_n 0, 1) := by decide +kernel
theorem dX5_gather_75 : decode cX5_gather 75 = .ok (.getfield 18, 3) := by decide +kernel
theorem dX5_gather_78 : decode cX5_gather 78 = .ok (.iload 5, 2) := by decide +kernel
theorem dX5_gather_80 : decode cX5_gather 80 = .ok (.aload_n 2, 1) := by decide +kernel
theorem dX5_gather_81 : decode cX5_gather 81 = .ok (.invokestatic 47, 3) := by decide +kernel
theorem dX5_gather_84 : decode cX5_gather 84 = .ok (.iastore, 1) := by decide +kernel
theorem dX5_gather_85 : decode cX5_gather 85 = .ok (.aload_n 0, 1) := by decide +kernel
theorem dX5_gather_86 : decode cX5_gather 86 = .ok (.dup, 1) := by decide +kernel
theorem dX5_gather_87 : decode cX5_gather 87 = .ok (.getfield 18, 3) := by decide +kernel
theorem dX5_gather_90 : decode cX5_gather 90 = .ok (.iconst 1, 1) := by decide +kernel
theorem dX5_gather_91 : decode cX5_gather 91 = .ok (.iadd, 1) := by decide +kernel
theorem dX5_gather_92 : decode cX5_gather 92 = .ok (.putfield 18, 3) := by decide +kernel
theorem dX5_gather_95 : decode cX5_gather 95 = .ok (.iinc 4 1, 3) := by decide +kernel
theorem dX5_gather_98 : decode cX5_gather 98 = .ok (.goto (-90), 3) := by decide +kernel
theorem dX5_gather_101 : decode cX5_gather 101 = .ok (.return_, 1) := by decide +kernel
theorem dX5_nearnessOf_0 : decode cX5_nearnessOf 0 = .ok (.iload_n 0, 1) := by decide +kernel
theorem dX5_nearnessOf_1 : decode cX5_nearnessOf 1 = .ok (.invokestatic 31, 3) := by decide +kernel
theorem dX5_nearnessOf_4 : decode cX5_nearnessOf 4 = .ok (.istore_n 2, 1) := by decide +kernel
theorem dX5_nearnessOf_5 : decode cX5_nearnessOf 5 = .ok (.iload_n 0, 1) := by decide +kernel
theorem dX5_nearnessOf_6 : decode cX5_nearnessOf 6 = .ok (.invokestatic 35, 3) := by decide +kernel
theorem dX5_nearnessOf_9 : decode cX5_nearnessOf 9 = .ok (.istore_n 3, 1) := by decide +kernel
theorem dX5_nearnessOf_10 : decode cX5_nearnessOf 10 = .ok (.aload_n 1, 1) := by decide +kernel
theorem dX5_nearnessOf_11 : decode cX5_nearnessOf 11 = .ok (.iload_n 2, 1) := by decide +kernel
theorem dX5_nearnessOf_12 : decode cX5_nearnessOf 12 = .ok (.iload_n 3, 1) := by decide +kernel
theorem dX5_nearnessOf_13 : decode cX5_nearnessOf 13 = .ok (.invokevirtual 51, 3) := by decide +kernel
theorem dX5_nearnessOf_16 : decode cX5_nearnessOf 16 = .ok (.ifCond .ne 5, 3) := by decide +kernel
theorem dX5_nearnessOf_19 : decode cX5_nearnessOf 19 = .ok (.iconst 0, 1) := by decide +kernel
theorem dX5_nearnessOf_20 : decode cX5_nearnessOf 20 = .ok (.ireturn, 1) := by decide +kernel
theorem dX5_nearnessOf_21 : decode cX5_nearnessOf 21 = .ok (.aload_n 1, 1) := by decide +kernel
theorem dX5_nearnessOf_22 : decode cX5_nearnessOf 22 = .ok (.iload_n 2, 1) := by decide +kernel
theorem dX5_nearnessOf_23 : decode cX5_nearnessOf 23 = .ok (.iload_n 3, 1) := by decide +kernel
theorem dX5_nearnessOf_24 : decode cX5_nearnessOf 24 = .ok (.invokevirtual 55, 3) := by decide +kernel
theorem dX5_nearnessOf_27 : decode cX5_nearnessOf 27 = .ok (.ifCond .eq 7, 3) := by decide +kernel
theorem dX5_nearnessOf_30 : decode cX5_nearnessOf 30 = .ok (.iconst 1, 1) := by decide +kernel
theorem dX5_nearnessOf_31 : decode cX5_nearnessOf 31 = .ok (.goto 4, 3) := by decide +kernel
theorem dX5_nearnessOf_34 : decode cX5_nearnessOf 34 = .ok (.iconst 0, 1) := by decide +kernel
theorem dX5_nearnessOf_35 : decode cX5_nearnessOf 35 = .ok (.istore 4, 2) := by decide +kernel
theorem dX5_nearnessOf_37 : decode cX5_nearnessOf 37 = .ok (.aload_n 1, 1) := by decide +kernel
theorem dX5_nearnessOf_38 : decode cX5_nearnessOf 38 = .ok (.iload_n 3, 1) := by decide +kernel
theorem dX5_nearnessOf_39 : decode cX5_nearnessOf 39 = .ok (.iload_n 2, 1) := by decide +kernel
theorem dX5_nearnessOf_40 : decode cX5_nearnessOf 40 = .ok (.invokevirtual 55, 3) := by decide +kernel
theorem dX5_nearnessOf_43 : decode cX5_nearnessOf 43 = .ok (.iload_n 0, 1) := by decide +kernel
theorem dX5_nearnessOf_44 : decode cX5_nearnessOf 44 = .ok (.invokestatic 38, 3) := by decide +kernel
theorem dX5_nearnessOf_47 : decode cX5_nearnessOf 47 = .ok (.invokestatic 59, 3) := by decide +kernel
theorem dX5_nearnessOf_50 : decode cX5_nearnessOf 50 = .ok (.ifCond .eq 7, 3) := by decide +kernel
theorem dX5_nearnessOf_53 : decode cX5_nearnessOf 53 = .ok (.iconst 2, 1) := by decide +kernel
theorem dX5_nearnessOf_54 : decode cX5_nearnessOf 54 = .ok (.goto 4, 3) := by decide +kernel
theorem dX5_nearnessOf_57 : decode cX5_nearnessOf 57 = .ok (.iconst 0, 1) := by decide +kernel
theorem dX5_nearnessOf_58 : decode cX5_nearnessOf 58 = .ok (.istore 5, 2) := by decide +kernel
theorem dX5_nearnessOf_60 : decode cX5_nearnessOf 60 = .ok (.iload 4, 2) := by decide +kernel
theorem dX5_nearnessOf_62 : decode cX5_nearnessOf 62 = .ok (.iload 5, 2) := by decide +kernel
theorem dX5_nearnessOf_64 : decode cX5_nearnessOf 64 = .ok (.iadd, 1) := by decide +kernel
theorem dX5_nearnessOf_65 : decode cX5_nearnessOf 65 = .ok (.ireturn, 1) := by decide +kernel
theorem dX6_init_0 : decode cX6_init 0 = .ok (.aload_n 0, 1) := by decide +kernel
theorem dX6_init_1 : decode cX6_init 1 = .ok (.invokespecial 3, 3) := by decide +kernel
theorem dX6_init_4 : decode cX6_init 4 = .ok (.aload_n 0, 1) := by decide +kernel
theorem dX6_init_5 : decode cX6_init 5 = .ok (.new 9, 3) := by decide +kernel
theorem dX6_init_8 : decode cX6_init 8 = .ok (.dup, 1) := by decide +kernel
theorem dX6_init_9 : decode cX6_init 9 = .ok (.invokespecial 11, 3) := by decide +kernel
theorem dX6_init_12 : decode cX6_init 12 = .ok (.putfield 12, 3) := by decide +kernel
theorem dX6_init_15 : decode cX6_init 15 = .ok (.aload_n 0, 1) := by decide +kernel
theorem dX6_init_16 : decode cX6_init 16 = .ok (.new 18, 3) := by decide +kernel
theorem dX6_init_19 : decode cX6_init 19 = .ok (.dup, 1) := by decide +kernel
theorem dX6_init_20 : decode cX6_init 20 = .ok (.invokespecial 20, 3) := by decide +kernel
theorem dX6_init_23 : decode cX6_init 23 = .ok (.putfield 21, 3) := by decide +kernel
theorem dX6_init_26 : decode cX6_init 26 = .ok (.aload_n 0, 1) := by decide +kernel
theorem dX6_init_27 : decode cX6_init 27 = .ok (.sipush 224, 3) := by decide +kernel
theorem dX6_init_30 : decode cX6_init 30 = .ok (.newarray .int, 2) := by decide +kernel
theorem dX6_init_32 : decode cX6_init 32 = .ok (.putfield 25, 3) := by decide +kernel
theorem dX6_init_35 : decode cX6_init 35 = .ok (.aload_n 0, 1) := by decide +kernel
theorem dX6_init_36 : decode cX6_init 36 = .ok (.iconst 0, 1) := by decide +kernel
theorem dX6_init_37 : decode cX6_init 37 = .ok (.putfield 29, 3) := by decide +kernel
theorem dX6_init_40 : decode cX6_init 40 = .ok (.aload_n 0, 1) := by decide +kernel
theorem dX6_init_41 : decode cX6_init 41 = .ok (.iconst 0, 1) := by decide +kernel
theorem dX6_init_42 : decode cX6_init 42 = .ok (.putfield 33, 3) := by decide +kernel
theorem dX6_init_45 : decode cX6_init 45 = .ok (.aload_n 0, 1) := by decide +kernel
theorem dX6_init_46 : decode cX6_init 46 = .ok (.iconst 0, 1) := by decide +kernel
theorem dX6_init_47 : decode cX6_init 47 = .ok (.putfield 36, 3) := by decide +kernel
theorem dX6_init_50 : decode cX6_init 50 = .ok (.return_, 1) := by decide +kernel
theorem dX6_settle_0 : decode cX6_settle 0 = .ok (.aload_n 0, 1) := by decide +kernel
theorem dX6_settle_1 : decode cX6_settle 1 = .ok (.getfield 12, 3) := by decide +kernel
theorem dX6_settle_4 : decode cX6_settle 4 = .ok (.aload_n 1, 1) := by decide +kernel
theorem dX6_settle_5 : decode cX6_settle 5 = .ok (.invokevirtual 40, 3) := by decide +kernel
theorem dX6_settle_8 : decode cX6_settle 8 = .ok (.aload_n 0, 1) := by decide +kernel
theorem dX6_settle_9 : decode cX6_settle 9 = .ok (.getfield 21, 3) := by decide +kernel
theorem dX6_settle_12 : decode cX6_settle 12 = .ok (.aload_n 2, 1) := by decide +kernel
theorem dX6_settle_13 : decode cX6_settle 13 = .ok (.invokevirtual 44, 3) := by decide +kernel
theorem dX6_settle_16 : decode cX6_settle 16 = .ok (.aload_n 0, 1) := by decide +kernel
theorem dX6_settle_17 : decode cX6_settle 17 = .ok (.getfield 12, 3) := by decide +kernel
theorem dX6_settle_20 : decode cX6_settle 20 = .ok (.aload_n 0, 1) := by decide +kernel
theorem dX6_settle_21 : decode cX6_settle 21 = .ok (.getfield 21, 3) := by decide +kernel
theorem dX6_settle_24 : decode cX6_settle 24 = .ok (.getfield 48, 3) := by decide +kernel
theorem dX6_settle_27 : decode cX6_settle 27 = .ok (.aload_n 3, 1) := by decide +kernel
theorem dX6_settle_28 : decode cX6_settle 28 = .ok (.getfield 51, 3) := by decide +kernel
theorem dX6_settle_31 : decode cX6_settle 31 = .ok (.aload_n 3, 1) := by decide +kernel
theorem dX6_settle_32 : decode cX6_settle 32 = .ok (.getfield 56, 3) := by decide +kernel
theorem dX6_settle_35 : decode cX6_settle 35 = .ok (.invokevirtual 59, 3) := by decide +kernel
theorem dX6_settle_38 : decode cX6_settle 38 = .ok (.aload_n 0, 1) := by decide +kernel
theorem dX6_settle_39 : decode cX6_settle 39 = .ok (.aload 4, 2) := by decide +kernel
theorem dX6_settle_41 : decode cX6_settle 41 = .ok (.aload_n 0, 1) := by decide +kernel
theorem dX6_settle_42 : decode cX6_settle 42 = .ok (.getfield 12, 3) := by decide +kernel
theorem dX6_settle_45 : decode cX6_settle 45 = .ok (.getfield 63, 3) := by decide +kernel
theorem dX6_settle_48 : decode cX6_settle 48 = .ok (.aload_n 0, 1) := by decide +kernel
theorem dX6_settle_49 : decode cX6_settle 49 = .ok (.getfield 12, 3) := by decide +kernel
theorem dX6_settle_52 : decode cX6_settle 52 = .ok (.getfield 64, 3) := by decide +kernel
theorem dX6_settle_55 : decode cX6_settle 55 = .ok (.invokevirtual 67, 3) := by decide +kernel
theorem dX6_settle_58 : decode cX6_settle 58 = .ok (.putfield 33, 3) := by decide +kernel
theorem dX6_settle_61 : decode cX6_settle 61 = .ok (.aload_n 0, 1) := by decide +kernel
theorem dX6_settle_62 : decode cX6_settle 62 = .ok (.iconst 1, 1) := by decide +kernel
theorem dX6_settle_63 : decode cX6_settle 63 = .ok (.putfield 36, 3) := by decide +kernel
theorem dX6_settle_66 : decode cX6_settle 66 = .ok (.aload_n 0, 1) := by decide +kernel
theorem dX6_settle_67 : decode cX6_settle 67 = .ok (.invokevirtual 73, 3) := by decide +kernel
theorem dX6_settle_70 : decode cX6_settle 70 = .ok (.return_, 1) := by decide +kernel
theorem dX6_listRules_0 : decode cX6_listRules 0 = .ok (.aload_n 0, 1) := by decide +kernel
theorem dX6_listRules_1 : decode cX6_listRules 1 = .ok (.iconst 0, 1) := by decide +kernel
theorem dX6_listRules_2 : decode cX6_listRules 2 = .ok (.putfield 29, 3) := by decide +kernel
theorem dX6_listRules_5 : decode cX6_listRules 5 = .ok (.iconst 0, 1) := by decide +kernel
theorem dX6_listRules_6 : decode cX6_listRules 6 = .ok (.istore_n 1, 1) := by decide +kernel
theorem dX6_listRules_7 : decode cX6_listRules 7 = .ok (.iload_n 1, 1) := by decide +kernel
theorem dX6_listRules_8 : decode cX6_listRules 8 = .ok (.sipush 256, 3) := by decide +kernel
theorem dX6_listRules_11 : decode cX6_listRules 11 = .ok (.if_icmp .ge 81, 3) := by decide +kernel
theorem dX6_listRules_14 : decode cX6_listRules 14 = .ok (.iload_n 1, 1) := by decide +kernel
theorem dX6_listRules_15 : decode cX6_listRules 15 = .ok (.invokestatic 76, 3) := by decide +kernel
theorem dX6_listRules_18 : decode cX6_listRules 18 = .ok (.iload_n 1, 1) := by decide +kernel
theorem dX6_listRules_19 : decode cX6_listRules 19 = .ok (.invokestatic 80, 3) := by decide +kernel
theorem dX6_listRules_22 : decode cX6_listRules 22 = .ok (.if_icmp .eq 7, 3) := by decide +kernel
theorem dX6_listRules_25 : decode cX6_listRules 25 = .ok (.iconst 1, 1) := by decide +kernel
theorem dX6_listRules_26 : decode cX6_listRules 26 = .ok (.goto 4, 3) := by decide +kernel
theorem dX6_listRules_29 : decode cX6_listRules 29 = .ok (.iconst 0, 1) := by decide +kernel
theorem dX6_listRules_30 : decode cX6_listRules 30 = .ok (.istore_n 2, 1) := by decide +kernel
theorem dX6_listRules_31 : decode cX6_listRules 31 = .ok (.iload_n 2, 1) := by decide +kernel
theorem dX6_listRules_32 : decode cX6_listRules 32 = .ok (.ifCond .eq 54, 3) := by decide +kernel
theorem dX6_listRules_35 : decode cX6_listRules 35 = .ok (.aload_n 0, 1) := by decide +kernel
theorem dX6_listRules_36 : decode cX6_listRules 36 = .ok (.getfield 12, 3) := by decide +kernel
theorem dX6_listRules_39 : decode cX6_listRules 39 = .ok (.getfield 83, 3) := by decide +kernel
theorem dX6_listRules_42 : decode cX6_listRules 42 = .ok (.iload_n 1, 1) := by decide +kernel
theorem dX6_listRules_43 : decode cX6_listRules 43 = .ok (.iconst 4, 1) := by decide +kernel
theorem dX6_listRules_44 : decode cX6_listRules 44 = .ok (.idiv, 1) := by decide +kernel
theorem dX6_listRules_45 : decode cX6_listRules 45 = .ok (.iaload, 1) := by decide +kernel
theorem dX6_listRules_46 : decode cX6_listRules 46 = .ok (.iload_n 1, 1) := by decide +kernel
theorem dX6_listRules_47 : decode cX6_listRules 47 = .ok (.invokestatic 84, 3) := by decide +kernel
theorem dX6_listRules_50 : decode cX6_listRules 50 = .ok (.invokestatic 87, 3) := by decide +kernel
theorem dX6_listRules_53 : decode cX6_listRules 53 = .ok (.ifCond .eq 33, 3) := by decide +kernel
theorem dX6_listRules_56 : decode cX6_listRules 56 = .ok (.aload_n 0, 1) := by decide +kernel
theorem dX6_listRules_57 : decode cX6_listRules 57 = .ok (.getfield 29, 3) := by decide +kernel
theorem dX6_listRules_60 : decode cX6_listRules 60 = .ok (.sipush 224, 3) := by decide +kernel
theorem dX6_listRules_63 : decode cX6_listRules 63 = .ok (.if_icmp .ge 23, 3) := by decide +kernel
theorem dX6_listRules_66 : decode cX6_listRules 66 = .ok (.aload_n 0, 1) := by decide +kernel
theorem dX6_listRules_67 : decode cX6_listRules 67 = .ok (.getfield 25, 3) := by decide +kernel
theorem dX6_listRules_70 : decode cX6_listRules 70 = .ok (.aload_n 0, 1) := by decide +kernel
theorem dX6_listRules_71 : decode cX6_listRules 71 = .ok (.getfield 29, 3) := by decide +kernel
theorem dX6_listRules_74 : decode cX6_listRules 74 = .ok (.iload_n 1, 1) := by decide +kernel
theorem dX6_listRules_75 : decode cX6_listRules 75 = .ok (.iastore, 1) := by decide +kernel
theorem dX6_listRules_76 : decode cX6_listRules 76 = .ok (.aload_n 0, 1) := by decide +kernel
theorem dX6_listRules_77 : decode cX6_listRules 77 = .ok (.dup, 1) := by decide +kernel
theorem dX6_listRules_78 : decode cX6_listRules 78 = .ok (.getfield 29, 3) := by decide +kernel
theorem dX6_listRules_81 : decode cX6_listRules 81 = .ok (.iconst 1, 1) := by decide +kernel
theorem dX6_listRules_82 : decode cX6_listRules 82 = .ok (.iadd, 1) := by decide +kernel
theorem dX6_listRules_83 : decode cX6_listRules 83 = .ok (.putfield 29, 3) := by decide +kernel
theorem dX6_listRules_86 : decode cX6_listRules 86 = .ok (.iinc 1 1, 3) := by decide +kernel
theorem dX6_listRules_89 : decode cX6_listRules 89 = .ok (.goto (-82), 3) := by decide +kernel
theorem dX6_listRules_92 : decode cX6_listRules 92 = .ok (.return_, 1) := by decide +kernel
theorem dX6_isBy_0 : decode cX6_isBy 0 = .ok (.aload_n 0, 1) := by decide +kernel
theorem dX6_isBy_1 : decode cX6_isBy 1 = .ok (.getfield 12, 3) := by decide +kernel
theorem dX6_isBy_4 : decode cX6_isBy 4 = .ok (.getfield 91, 3) := by decide +kernel
theorem dX6_isBy_7 : decode cX6_isBy 7 = .ok (.iload_n 2, 1) := by decide +kernel
theorem dX6_isBy_8 : decode cX6_isBy 8 = .ok (.iaload, 1) := by decide +kernel
theorem dX6_isBy_9 : decode cX6_isBy 9 = .ok (.iload_n 1, 1) := by decide +kernel
theorem dX6_isBy_10 : decode cX6_isBy 10 = .ok (.invokestatic 76, 3) := by decide +kernel
theorem dX6_isBy_13 : decode cX6_isBy 13 = .ok (.if_icmp .ne 23, 3) := by decide +kernel
theorem dX6_isBy_16 : decode cX6_isBy 16 = .ok (.aload_n 0, 1) := by decide +kernel
theorem dX6_isBy_17 : decode cX6_isBy 17 = .ok (.getfield 12, 3) := by decide +kernel
theorem dX6_isBy_20 : decode cX6_isBy 20 = .ok (.getfield 91, 3) := by decide +kernel
theorem dX6_isBy_23 : decode cX6_isBy 23 = .ok (.iload_n 3, 1) := by decide +kernel
theorem dX6_isBy_24 : decode cX6_isBy 24 = .ok (.iaload, 1) := by decide +kernel
theorem dX6_isBy_25 : decode cX6_isBy 25 = .ok (.iload_n 1, 1) := by decide +kernel
theorem dX6_isBy_26 : decode cX6_isBy 26 = .ok (.invokestatic 80, 3) := by decide +kernel
theorem dX6_isBy_29 : decode cX6_isBy 29 = .ok (.if_icmp .ne 7, 3) := by decide +kernel
theorem dX6_isBy_32 : decode cX6_isBy 32 = .ok (.iconst 1, 1) := by decide +kernel
theorem dX6_isBy_33 : decode cX6_isBy 33 = .ok (.goto 4, 3) := by decide +kernel
theorem dX6_isBy_36 : decode cX6_isBy 36 = .ok (.iconst 0, 1) := by decide +kernel
theorem dX6_isBy_37 : decode cX6_isBy 37 = .ok (.ireturn, 1) := by decide +kernel
