theorem dX0_init_0 : decode cX0_init 0 = .ok (.aload_n 0, 1) := by decide +kernel
theorem dX0_init_1 : decode cX0_init 1 = .ok (.invokespecial 3, 3) := by decide +kernel
theorem dX0_init_4 : decode cX0_init 4 = .ok (.aload_n 0, 1) := by decide +kernel
theorem dX0_init_5 : decode cX0_init 5 = .ok (.iconst 0, 1) := by decide +kernel
theorem dX0_init_6 : decode cX0_init 6 = .ok (.putfield 9, 3) := by decide +kernel
theorem dX0_init_9 : decode cX0_init 9 = .ok (.aload_n 0, 1) := by decide +kernel
theorem dX0_init_10 : decode cX0_init 10 = .ok (.bipush 24, 2) := by decide +kernel
theorem dX0_init_12 : decode cX0_init 12 = .ok (.newarray .int, 2) := by decide +kernel
theorem dX0_init_14 : decode cX0_init 14 = .ok (.putfield 15, 3) := by decide +kernel
theorem dX0_init_17 : decode cX0_init 17 = .ok (.aload_n 0, 1) := by decide +kernel
theorem dX0_init_18 : decode cX0_init 18 = .ok (.bipush 24, 2) := by decide +kernel
theorem dX0_init_20 : decode cX0_init 20 = .ok (.newarray .int, 2) := by decide +kernel
theorem dX0_init_22 : decode cX0_init 22 = .ok (.putfield 19, 3) := by decide +kernel
theorem dX0_init_25 : decode cX0_init 25 = .ok (.return_, 1) := by decide +kernel
theorem dX0_lay_0 : decode cX0_lay 0 = .ok (.aload_n 1, 1) := by decide +kernel
theorem dX0_lay_1 : decode cX0_lay 1 = .ok (.getfield 22, 3) := by decide +kernel
theorem dX0_lay_4 : decode cX0_lay 4 = .ok (.invokestatic 25, 3) := by decide +kernel
theorem dX0_lay_7 : decode cX0_lay 7 = .ok (.istore_n 3, 1) := by decide +kernel
theorem dX0_lay_8 : decode cX0_lay 8 = .ok (.aload_n 0, 1) := by decide +kernel
theorem dX0_lay_9 : decode cX0_lay 9 = .ok (.iconst 0, 1) := by decide +kernel
theorem dX0_lay_10 : decode cX0_lay 10 = .ok (.putfield 9, 3) := by decide +kernel
theorem dX0_lay_13 : decode cX0_lay 13 = .ok (.iconst 0, 1) := by decide +kernel
theorem dX0_lay_14 : decode cX0_lay 14 = .ok (.istore 4, 2) := by decide +kernel
theorem dX0_lay_16 : decode cX0_lay 16 = .ok (.iload 4, 2) := by decide +kernel
theorem dX0_lay_18 : decode cX0_lay 18 = .ok (.aload_n 1, 1) := by decide +kernel
theorem dX0_lay_19 : decode cX0_lay 19 = .ok (.getfield 22, 3) := by decide +kernel
theorem dX0_lay_22 : decode cX0_lay 22 = .ok (.if_icmp .ge 56, 3) := by decide +kernel
theorem dX0_lay_25 : decode cX0_lay 25 = .ok (.aload_n 1, 1) := by decide +kernel
theorem dX0_lay_26 : decode cX0_lay 26 = .ok (.iload_n 3, 1) := by decide +kernel
theorem dX0_lay_27 : decode cX0_lay 27 = .ok (.iload 4, 2) := by decide +kernel
theorem dX0_lay_29 : decode cX0_lay 29 = .ok (.invokevirtual 31, 3) := by decide +kernel
theorem dX0_lay_32 : decode cX0_lay 32 = .ok (.istore 5, 2) := by decide +kernel
theorem dX0_lay_34 : decode cX0_lay 34 = .ok (.iload 5, 2) := by decide +kernel
theorem dX0_lay_36 : decode cX0_lay 36 = .ok (.iconst (-1), 1) := by decide +kernel
theorem dX0_lay_37 : decode cX0_lay 37 = .ok (.if_icmp .eq 35, 3) := by decide +kernel
theorem dX0_lay_40 : decode cX0_lay 40 = .ok (.aload_n 0, 1) := by decide +kernel
theorem dX0_lay_41 : decode cX0_lay 41 = .ok (.aload_n 1, 1) := by decide +kernel
theorem dX0_lay_42 : decode cX0_lay 42 = .ok (.iload 5, 2) := by decide +kernel
theorem dX0_lay_44 : decode cX0_lay 44 = .ok (.iload_n 2, 1) := by decide +kernel
theorem dX0_lay_45 : decode cX0_lay 45 = .ok (.invokevirtual 35, 3) := by decide +kernel
theorem dX0_lay_48 : decode cX0_lay 48 = .ok (.ifCond .eq 24, 3) := by decide +kernel
theorem dX0_lay_51 : decode cX0_lay 51 = .ok (.aload_n 0, 1) := by decide +kernel
theorem dX0_lay_52 : decode cX0_lay 52 = .ok (.getfield 15, 3) := by decide +kernel
theorem dX0_lay_55 : decode cX0_lay 55 = .ok (.aload_n 0, 1) := by decide +kernel
theorem dX0_lay_56 : decode cX0_lay 56 = .ok (.getfield 9, 3) := by decide +kernel
theorem dX0_lay_59 : decode cX0_lay 59 = .ok (.iload 5, 2) := by decide +kernel
theorem dX0_lay_61 : decode cX0_lay 61 = .ok (.iastore, 1) := by decide +kernel
theorem dX0_lay_62 : decode cX0_lay 62 = .ok (.aload_n 0, 1) := by decide +kernel
theorem dX0_lay_63 : decode cX0_lay 63 = .ok (.dup, 1) := by decide +kernel
theorem dX0_lay_64 : decode cX0_lay 64 = .ok (.getfield 9, 3) := by decide +kernel
theorem dX0_lay_67 : decode cX0_lay 67 = .ok (.iconst 1, 1) := by decide +kernel
theorem dX0_lay_68 : decode cX0_lay 68 = .ok (.iadd, 1) := by decide +kernel
theorem dX0_lay_69 : decode cX0_lay 69 = .ok (.putfield 9, 3) := by decide +kernel
theorem dX0_lay_72 : decode cX0_lay 72 = .ok (.iinc 4 1, 3) := by decide +kernel
theorem dX0_lay_75 : decode cX0_lay 75 = .ok (.goto (-59), 3) := by decide +kernel
theorem dX0_lay_78 : decode cX0_lay 78 = .ok (.iconst 0, 1) := by decide +kernel
theorem dX0_lay_79 : decode cX0_lay 79 = .ok (.istore 4, 2) := by decide +kernel
theorem dX0_lay_81 : decode cX0_lay 81 = .ok (.iload 4, 2) := by decide +kernel
theorem dX0_lay_83 : decode cX0_lay 83 = .ok (.aload_n 1, 1) := by decide +kernel
theorem dX0_lay_84 : decode cX0_lay 84 = .ok (.getfield 22, 3) := by decide +kernel
theorem dX0_lay_87 : decode cX0_lay 87 = .ok (.if_icmp .ge 23, 3) := by decide +kernel
theorem dX0_lay_90 : decode cX0_lay 90 = .ok (.aload_n 0, 1) := by decide +kernel
theorem dX0_lay_91 : decode cX0_lay 91 = .ok (.getfield 19, 3) := by decide +kernel
theorem dX0_lay_94 : decode cX0_lay 94 = .ok (.iload 4, 2) := by decide +kernel
theorem dX0_lay_96 : decode cX0_lay 96 = .ok (.aload_n 0, 1) := by decide +kernel
theorem dX0_lay_97 : decode cX0_lay 97 = .ok (.aload_n 1, 1) := by decide +kernel
theorem dX0_lay_98 : decode cX0_lay 98 = .ok (.iload 4, 2) := by decide +kernel
theorem dX0_lay_100 : decode cX0_lay 100 = .ok (.invokevirtual 39, 3) := by decide +kernel
theorem dX0_lay_103 : decode cX0_lay 103 = .ok (.iastore, 1) := by decide +kernel
theorem dX0_lay_104 : decode cX0_lay 104 = .ok (.iinc 4 1, 3) := by decide +kernel
theorem dX0_lay_107 : decode cX0_lay 107 = .ok (.goto (-26), 3) := by decide +kernel
theorem dX0_lay_110 : decode cX0_lay 110 = .ok (.return_, 1) := by decide +kernel
theorem dX0_isClear_0 : decode cX0_isClear 0 = .ok (.aload_n 0, 1) := by decide +kernel
theorem dX0_isClear_1 : decode cX0_isClear 1 = .ok (.aload_n 1, 1) := by decide +kernel
theorem dX0_isClear_2 : decode cX0_isClear 2 = .ok (.iload_n 2, 1) := by decide +kernel
theorem dX0_isClear_3 : decode cX0_isClear 3 = .ok (.invokevirtual 39, 3) := by decide +kernel
theorem dX0_isClear_6 : decode cX0_isClear 6 = .ok (.istore 4, 2) := by decide +kernel
theorem dX0_isClear_8 : decode cX0_isClear 8 = .ok (.iload 4, 2) := by decide +kernel
theorem dX0_isClear_10 : decode cX0_isClear 10 = .ok (.iconst (-1), 1) := by decide +kernel
theorem dX0_isClear_11 : decode cX0_isClear 11 = .ok (.if_icmp .eq 19, 3) := by decide +kernel
theorem dX0_isClear_14 : decode cX0_isClear 14 = .ok (.aload_n 1, 1) := by decide +kernel
theorem dX0_isClear_15 : decode cX0_isClear 15 = .ok (.iload_n 2, 1) := by decide +kernel
theorem dX0_isClear_16 : decode cX0_isClear 16 = .ok (.aload_n 0, 1) := by decide +kernel
theorem dX0_isClear_17 : decode cX0_isClear 17 = .ok (.getfield 15, 3) := by decide +kernel
theorem dX0_isClear_20 : decode cX0_isClear 20 = .ok (.iload 4, 2) := by decide +kernel
theorem dX0_isClear_22 : decode cX0_isClear 22 = .ok (.iaload, 1) := by decide +kernel
theorem dX0_isClear_23 : decode cX0_isClear 23 = .ok (.invokevirtual 43, 3) := by decide +kernel
theorem dX0_isClear_26 : decode cX0_isClear 26 = .ok (.iload_n 3, 1) := by decide +kernel
theorem dX0_isClear_27 : decode cX0_isClear 27 = .ok (.if_icmp .le 7, 3) := by decide +kernel
theorem dX0_isClear_30 : decode cX0_isClear 30 = .ok (.iconst 1, 1) := by decide +kernel
theorem dX0_isClear_31 : decode cX0_isClear 31 = .ok (.goto 4, 3) := by decide +kernel
theorem dX0_isClear_34 : decode cX0_isClear 34 = .ok (.iconst 0, 1) := by decide +kernel
theorem dX0_isClear_35 : decode cX0_isClear 35 = .ok (.ireturn, 1) := by decide +kernel
theorem dX0_nearestTo_0 : decode cX0_nearestTo 0 = .ok (.iconst (-1), 1) := by decide +kernel
theorem dX0_nearestTo_1 : decode cX0_nearestTo 1 = .ok (.istore_n 3, 1) := by decide +kernel
theorem dX0_nearestTo_2 : decode cX0_nearestTo 2 = .ok (.iconst 0, 1) := by decide +kernel
theorem dX0_nearestTo_3 : decode cX0_nearestTo 3 = .ok (.istore 4, 2) := by decide +kernel
theorem dX0_nearestTo_5 : decode cX0_nearestTo 5 = .ok (.iconst 0, 1) := by decide +kernel
theorem dX0_nearestTo_6 : decode cX0_nearestTo 6 = .ok (.istore 5, 2) := by decide +kernel
theorem dX0_nearestTo_8 : decode cX0_nearestTo 8 = .ok (.iload 5, 2) := by decide +kernel
theorem dX0_nearestTo_10 : decode cX0_nearestTo 10 = .ok (.aload_n 0, 1) := by decide +kernel
theorem dX0_nearestTo_11 : decode cX0_nearestTo 11 = .ok (.getfield 9, 3) := by decide +kernel
theorem dX0_nearestTo_14 : decode cX0_nearestTo 14 = .ok (.if_icmp .ge 42, 3) := by decide +kernel
theorem dX0_nearestTo_17 : decode cX0_nearestTo 17 = .ok (.aload_n 1, 1) := by decide +kernel
theorem dX0_nearestTo_18 : decode cX0_nearestTo 18 = .ok (.iload_n 2, 1) := by decide +kernel
theorem dX0_nearestTo_19 : decode cX0_nearestTo 19 = .ok (.aload_n 0, 1) := by decide +kernel
theorem dX0_nearestTo_20 : decode cX0_nearestTo 20 = .ok (.getfield 15, 3) := by decide +kernel
theorem dX0_nearestTo_23 : decode cX0_nearestTo 23 = .ok (.iload 5, 2) := by decide +kernel
theorem dX0_nearestTo_25 : decode cX0_nearestTo 25 = .ok (.iaload, 1) := by decide +kernel
theorem dX0_nearestTo_26 : decode cX0_nearestTo 26 = .ok (.invokevirtual 43, 3) := by decide +kernel
theorem dX0_nearestTo_29 : decode cX0_nearestTo 29 = .ok (.istore 6, 2) := by decide +kernel
theorem dX0_nearestTo_31 : decode cX0_nearestTo 31 = .ok (.iload_n 3, 1) := by decide +kernel
theorem dX0_nearestTo_32 : decode cX0_nearestTo 32 = .ok (.iconst (-1), 1) := by decide +kernel
theorem dX0_nearestTo_33 : decode cX0_nearestTo 33 = .ok (.if_icmp .eq 10, 3) := by decide +kernel
theorem dX0_nearestTo_36 : decode cX0_nearestTo 36 = .ok (.iload 6, 2) := by decide +kernel
theorem dX0_nearestTo_38 : decode cX0_nearestTo 38 = .ok (.iload 4, 2) := by decide +kernel
theorem dX0_nearestTo_40 : decode cX0_nearestTo 40 = .ok (.if_icmp .ge 10, 3) := by decide +kernel
theorem dX0_nearestTo_43 : decode cX0_nearestTo 43 = .ok (.iload 5, 2) := by decide +kernel
theorem dX0_nearestTo_45 : decode cX0_nearestTo 45 = .ok (.istore_n 3, 1) := by decide +kernel
theorem dX0_nearestTo_46 : decode cX0_nearestTo 46 = .ok (.iload 6, 2) := by decide +kernel
theorem dX0_nearestTo_48 : decode cX0_nearestTo 48 = .ok (.istore 4, 2) := by decide +kernel
theorem dX0_nearestTo_50 : decode cX0_nearestTo 50 = .ok (.iinc 5 1, 3) := by decide +kernel
theorem dX0_nearestTo_53 : decode cX0_nearestTo 53 = .ok (.goto (-45), 3) := by decide +kernel
theorem dX0_nearestTo_56 : decode cX0_nearestTo 56 = .ok (.iload_n 3, 1) := by decide +kernel
theorem dX0_nearestTo_57 : decode cX0_nearestTo 57 = .ok (.ireturn, 1) := by decide +kernel
theorem dX0_countedWith_0 : decode cX0_countedWith 0 = .ok (.iconst 0, 1) := by decide +kernel
theorem dX0_countedWith_1 : decode cX0_countedWith 1 = .ok (.istore_n 3, 1) := by decide +kernel
theorem dX0_countedWith_2 : decode cX0_countedWith 2 = .ok (.iconst 0, 1) := by decide +kernel
theorem dX0_countedWith_3 : decode cX0_countedWith 3 = .ok (.istore 4, 2) := by decide +kernel
theorem dX0_countedWith_5 : decode cX0_countedWith 5 = .ok (.iload 4, 2) := by decide +kernel
theorem dX0_countedWith_7 : decode cX0_countedWith 7 = .ok (.iload_n 2, 1) := by decide +kernel
theorem dX0_countedWith_8 : decode cX0_countedWith 8 = .ok (.if_icmp .ge 27, 3) := by decide +kernel
theorem dX0_countedWith_11 : decode cX0_countedWith 11 = .ok (.aload_n 0, 1) := by decide +kernel
theorem dX0_countedWith_12 : decode cX0_countedWith 12 = .ok (.getfield 19, 3) := by decide +kernel
theorem dX0_countedWith_15 : decode cX0_countedWith 15 = .ok (.iload 4, 2) := by decide +kernel
theorem dX0_countedWith_17 : decode cX0_countedWith 17 = .ok (.iaload, 1) := by decide +kernel
theorem dX0_countedWith_18 : decode cX0_countedWith 18 = .ok (.iload_n 1, 1) := by decide +kernel
theorem dX0_countedWith_19 : decode cX0_countedWith 19 = .ok (.if_icmp .ne 10, 3) := by decide +kernel
theorem dX0_countedWith_22 : decode cX0_countedWith 22 = .ok (.iload_n 3, 1) := by decide +kernel
theorem dX0_countedWith_23 : decode cX0_countedWith 23 = .ok (.iconst 1, 1) := by decide +kernel
theorem dX0_countedWith_24 : decode cX0_countedWith 24 = .ok (.iload 4, 2) := by decide +kernel
theorem dX0_countedWith_26 : decode cX0_countedWith 26 = .ok (.ishl, 1) := by decide +kernel
theorem dX0_countedWith_27 : decode cX0_countedWith 27 = .ok (.ior, 1) := by decide +kernel
theorem dX0_countedWith_28 : decode cX0_countedWith 28 = .ok (.istore_n 3, 1) := by decide +kernel
theorem dX0_countedWith_29 : decode cX0_countedWith 29 = .ok (.iinc 4 1, 3) := by decide +kernel
theorem dX0_countedWith_32 : decode cX0_countedWith 32 = .ok (.goto (-27), 3) := by decide +kernel
theorem dX0_countedWith_35 : decode cX0_countedWith 35 = .ok (.iload_n 3, 1) := by decide +kernel
theorem dX0_countedWith_36 : decode cX0_countedWith 36 = .ok (.ireturn, 1) := by decide +kernel
theorem dX1_init_0 : decode cX1_init 0 = .ok (.aload_n 0, 1) := by decide +kernel
theorem dX1_init_1 : decode cX1_init 1 = .ok (.invokespecial 3, 3) := by decide +kernel
theorem dX1_init_4 : decode cX1_init 4 = .ok (.aload_n 0, 1) := by decide +kernel
theorem dX1_init_5 : decode cX1_init 5 = .ok (.iconst 0, 1) := by decide +kernel
theorem dX1_init_6 : decode cX1_init 6 = .ok (.putfield 9, 3) := by decide +kernel
theorem dX1_init_9 : decode cX1_init 9 = .ok (.aload_n 0, 1) := by decide +kernel
theorem dX1_init_10 : decode cX1_init 10 = .ok (.iconst 0, 1) := by decide +kernel
theorem dX1_init_11 : decode cX1_init 11 = .ok (.putfield 15, 3) := by decide +kernel
theorem dX1_init_14 : decode cX1_init 14 = .ok (.aload_n 0, 1) := by decide +kernel
theorem dX1_init_15 : decode cX1_init 15 = .ok (.bipush 24, 2) := by decide +kernel
theorem dX1_init_17 : decode cX1_init 17 = .ok (.newarray .int, 2) := by decide +kernel
theorem dX1_init_19 : decode cX1_init 19 = .ok (.putfield 18, 3) := by decide +kernel
theorem dX1_init_22 : decode cX1_init 22 = .ok (.aload_n 0, 1) := by decide +kernel
theorem dX1_init_23 : decode cX1_init 23 = .ok (.bipush 24, 2) := by decide +kernel
theorem dX1_init_25 : decode cX1_init 25 = .ok (.newarray .boolean, 2) := by decide +kernel
theorem dX1_init_27 : decode cX1_init 27 = .ok (.putfield 22, 3) := by decide +kernel
theorem dX1_init_30 : decode cX1_init 30 = .ok (.aload_n 0, 1) := by decide +kernel
theorem dX1_init_31 : decode cX1_init 31 = .ok (.bipush 24, 2) := by decide +kernel
theorem dX1_init_33 : decode cX1_init 33 = .ok (.newarray .boolean, 2) := by decide +kernel
theorem dX1_init_35 : decode cX1_init 35 = .ok (.putfield 26, 3) := by decide +kernel
theorem dX1_init_38 : decode cX1_init 38 = .ok (.aload_n 0, 1) := by decide +kernel
theorem dX1_init_39 : decode cX1_init 39 = .ok (.bipush 24, 2) := by decide +kernel
theorem dX1_init_41 : decode cX1_init 41 = .ok (.newarray .int, 2) := by decide +kernel
theorem dX1_init_43 : decode cX1_init 43 = .ok (.putfield 29, 3) := by decide +kernel
theorem dX1_init_46 : decode cX1_init 46 = .ok (.return_, 1) := by decide +kernel
theorem dX1_choose_0 : decode cX1_choose 0 = .ok (.aload_n 0, 1) := by decide +kernel
theorem dX1_choose_1 : decode cX1_choose 1 = .ok (.iconst 0, 1) := by decide +kernel
theorem dX1_choose_2 : decode cX1_choose 2 = .ok (.putfield 9, 3) := by decide +kernel
theorem dX1_choose_5 : decode cX1_choose 5 = .ok (.aload_n 0, 1) := by decide +kernel
theorem dX1_choose_6 : decode cX1_choose 6 = .ok (.iconst 0, 1) := by decide +kernel
theorem dX1_choose_7 : decode cX1_choose 7 = .ok (.putfield 15, 3) := by decide +kernel
theorem dX1_choose_10 : decode cX1_choose 10 = .ok (.iconst 0, 1) := by decide +kernel
theorem dX1_choose_11 : decode cX1_choose 11 = .ok (.istore_n 2, 1) := by decide +kernel
theorem dX1_choose_12 : decode cX1_choose 12 = .ok (.iload_n 2, 1) := by decide +kernel
theorem dX1_choose_13 : decode cX1_choose 13 = .ok (.aload_n 1, 1) := by decide +kernel
theorem dX1_choose_14 : decode cX1_choose 14 = .ok (.getfield 32, 3) := by decide +kernel
theorem dX1_choose_17 : decode cX1_choose 17 = .ok (.getfield 38, 3) := by decide +kernel
theorem dX1_choose_20 : decode cX1_choose 20 = .ok (.if_icmp .ge 16, 3) := by decide +kernel
theorem dX1_choose_23 : decode cX1_choose 23 = .ok (.aload_n 0, 1) := by decide +kernel
theorem dX1_choose_24 : decode cX1_choose 24 = .ok (.getfield 29, 3) := by decide +kernel
theorem dX1_choose_27 : decode cX1_choose 27 = .ok (.iload_n 2, 1) := by decide +kernel
theorem dX1_choose_28 : decode cX1_choose 28 = .ok (.iconst (-1), 1) := by decide +kernel
theorem dX1_choose_29 : decode cX1_choose 29 = .ok (.iastore, 1) := by decide +kernel
theorem dX1_choose_30 : decode cX1_choose 30 = .ok (.iinc 2 1, 3) := by decide +kernel
theorem dX1_choose_33 : decode cX1_choose 33 = .ok (.goto (-21), 3) := by decide +kernel
theorem dX1_choose_36 : decode cX1_choose 36 = .ok (.iconst 0, 1) := by decide +kernel
theorem dX1_choose_37 : decode cX1_choose 37 = .ok (.istore_n 2, 1) := by decide +kernel
theorem dX1_choose_38 : decode cX1_choose 38 = .ok (.iload_n 2, 1) := by decide +kernel
theorem dX1_choose_39 : decode cX1_choose 39 = .ok (.aload_n 1, 1) := by decide +kernel
theorem dX1_choose_40 : decode cX1_choose 40 = .ok (.getfield 41, 3) := by decide +kernel
theorem dX1_choose_43 : decode cX1_choose 43 = .ok (.if_icmp .ge 76, 3) := by decide +kernel
theorem dX1_choose_46 : decode cX1_choose 46 = .ok (.aload_n 1, 1) := by decide +kernel
theorem dX1_choose_47 : decode cX1_choose 47 = .ok (.bipush 100, 2) := by decide +kernel
theorem dX1_choose_49 : decode cX1_choose 49 = .ok (.iload_n 2, 1) := by decide +kernel
theorem dX1_choose_50 : decode cX1_choose 50 = .ok (.iadd, 1) := by decide +kernel
theorem dX1_choose_51 : decode cX1_choose 51 = .ok (.invokevirtual 42, 3) := by decide +kernel
theorem dX1_choose_54 : decode cX1_choose 54 = .ok (.istore_n 3, 1) := by decide +kernel
theorem dX1_choose_55 : decode cX1_choose 55 = .ok (.aload_n 0, 1) := by decide +kernel
theorem dX1_choose_56 : decode cX1_choose 56 = .ok (.aload_n 1, 1) := by decide +kernel
theorem dX1_choose_57 : decode cX1_choose 57 = .ok (.iload_n 2, 1) := by decide +kernel
theorem dX1_choose_58 : decode cX1_choose 58 = .ok (.invokevirtual 46, 3) := by decide +kernel
theorem dX1_choose_61 : decode cX1_choose 61 = .ok (.istore 4, 2) := by decide +kernel
theorem dX1_choose_63 : decode cX1_choose 63 = .ok (.aload_n 0, 1) := by decide +kernel
theorem dX1_choose_64 : decode cX1_choose 64 = .ok (.getfield 18, 3) := by decide +kernel
theorem dX1_choose_67 : decode cX1_choose 67 = .ok (.iload_n 2, 1) := by decide +kernel
theorem dX1_choose_68 : decode cX1_choose 68 = .ok (.iload_n 3, 1) := by decide +kernel
theorem dX1_choose_69 : decode cX1_choose 69 = .ok (.iload 4, 2) := by decide +kernel
theorem dX1_choose_71 : decode cX1_choose 71 = .ok (.invokestatic 50, 3) := by decide +kernel
theorem dX1_choose_74 : decode cX1_choose 74 = .ok (.iastore, 1) := by decide +kernel
theorem dX1_choose_75 : decode cX1_choose 75 = .ok (.aload_n 0, 1) := by decide +kernel
theorem dX1_choose_76 : decode cX1_choose 76 = .ok (.getfield 22, 3) := by decide +kernel
theorem dX1_choose_79 : decode cX1_choose 79 = .ok (.iload_n 2, 1) := by decide +kernel
theorem dX1_choose_80 : decode cX1_choose 80 = .ok (.iload_n 3, 1) := by decide +kernel
theorem dX1_choose_81 : decode cX1_choose 81 = .ok (.iload 4, 2) := by decide +kernel
theorem dX1_choose_83 : decode cX1_choose 83 = .ok (.if_icmp .lt 7, 3) := by decide +kernel
theorem dX1_choose_86 : decode cX1_choose 86 = .ok (.iconst 1, 1) := by decide +kernel
theorem dX1_choose_87 : decode cX1_choose 87 = .ok (.goto 4, 3) := by decide +kernel
theorem dX1_choose_90 : decode cX1_choose 90 = .ok (.iconst 0, 1) := by decide +kernel
theorem dX1_choose_91 : decode cX1_choose 91 = .ok (.bastore, 1) := by decide +kernel
theorem dX1_choose_92 : decode cX1_choose 92 = .ok (.aload_n 0, 1) := by decide +kernel
theorem dX1_choose_93 : decode cX1_choose 93 = .ok (.getfield 26, 3) := by decide +kernel
theorem dX1_choose_96 : decode cX1_choose 96 = .ok (.iload_n 2, 1) := by decide +kernel
theorem dX1_choose_97 : decode cX1_choose 97 = .ok (.iload_n 2, 1) := by decide +kernel
theorem dX1_choose_98 : decode cX1_choose 98 = .ok (.aload_n 1, 1) := by decide +kernel
theorem dX1_choose_99 : decode cX1_choose 99 = .ok (.getfield 41, 3) := by decide +kernel
theorem dX1_choose_102 : decode cX1_choose 102 = .ok (.iconst 1, 1) := by decide +kernel
theorem dX1_choose_103 : decode cX1_choose 103 = .ok (.isub, 1) := by decide +kernel
theorem dX1_choose_104 : decode cX1_choose 104 = .ok (.if_icmp .ne 7, 3) := by decide +kernel
theorem dX1_choose_107 : decode cX1_choose 107 = .ok (.iconst 1, 1) := by decide +kernel
theorem dX1_choose_108 : decode cX1_choose 108 = .ok (.goto 4, 3) := by decide +kernel
theorem dX1_choose_111 : decode cX1_choose 111 = .ok (.iconst 0, 1) := by decide +kernel
theorem dX1_choose_112 : decode cX1_choose 112 = .ok (.bastore, 1) := by decide +kernel
theorem dX1_choose_113 : decode cX1_choose 113 = .ok (.iinc 2 1, 3) := by decide +kernel
theorem dX1_choose_116 : decode cX1_choose 116 = .ok (.goto (-78), 3) := by decide +kernel
theorem dX1_choose_119 : decode cX1_choose 119 = .ok (.aload_n 1, 1) := by decide +kernel
theorem dX1_choose_120 : decode cX1_choose 120 = .ok (.getfield 41, 3) := by decide +kernel
theorem dX1_choose_123 : decode cX1_choose 123 = .ok (.ifCond .le 26, 3) := by decide +kernel
theorem dX1_choose_126 : decode cX1_choose 126 = .ok (.aload_n 0, 1) := by decide +kernel
theorem dX1_choose_127 : decode cX1_choose 127 = .ok (.aload_n 0, 1) := by decide +kernel
theorem dX1_choose_128 : decode cX1_choose 128 = .ok (.getfield 18, 3) := by decide +kernel
theorem dX1_choose_131 : decode cX1_choose 131 = .ok (.aload_n 1, 1) := by decide +kernel
theorem dX1_choose_132 : decode cX1_choose 132 = .ok (.getfield 41, 3) := by decide +kernel
theorem dX1_choose_135 : decode cX1_choose 135 = .ok (.iconst 1, 1) := by decide +kernel
theorem dX1_choose_136 : decode cX1_choose 136 = .ok (.isub, 1) := by decide +kernel
theorem dX1_choose_137 : decode cX1_choose 137 = .ok (.iaload, 1) := by decide +kernel
theorem dX1_choose_138 : decode cX1_choose 138 = .ok (.putfield 9, 3) := by decide +kernel
theorem dX1_choose_141 : decode cX1_choose 141 = .ok (.aload_n 0, 1) := by decide +kernel
theorem dX1_choose_142 : decode cX1_choose 142 = .ok (.aload_n 1, 1) := by decide +kernel
theorem dX1_choose_143 : decode cX1_choose 143 = .ok (.invokevirtual 56, 3) := by decide +kernel
theorem dX1_choose_146 : decode cX1_choose 146 = .ok (.goto 19, 3) := by decide +kernel
theorem dX1_choose_149 : decode cX1_choose 149 = .ok (.aload_n 1, 1) := by decide +kernel
theorem dX1_choose_150 : decode cX1_choose 150 = .ok (.getfield 32, 3) := by decide +kernel
theorem dX1_choose_153 : decode cX1_choose 153 = .ok (.getfield 38, 3) := by decide +kernel
theorem dX1_choose_156 : decode cX1_choose 156 = .ok (.ifCond .le 9, 3) := by decide +kernel
theorem dX1_choose_159 : decode cX1_choose 159 = .ok (.aload_n 0, 1) := by decide +kernel
theorem dX1_choose_160 : decode cX1_choose 160 = .ok (.aload_n 1, 1) := by decide +kernel
theorem dX1_choose_161 : decode cX1_choose 161 = .ok (.iconst 0, 1) := by decide +kernel
theorem dX1_choose_162 : decode cX1_choose 162 = .ok (.invokevirtual 60, 3) := by decide +kernel
theorem dX1_choose_165 : decode cX1_choose 165 = .ok (.return_, 1) := by decide +kernel
theorem dX1_sidesTotal_0 : decode cX1_sidesTotal 0 = .ok (.aload_n 0, 1) := by decide +kernel
theorem dX1_sidesTotal_1 : decode cX1_sidesTotal 1 = .ok (.aload_n 1, 1) := by decide +kernel
theorem dX1_sidesTotal_2 : decode cX1_sidesTotal 2 = .ok (.aload_n 1, 1) := by decide +kernel
theorem dX1_sidesTotal_3 : decode cX1_sidesTotal 3 = .ok (.getfield 64, 3) := by decide +kernel
theorem dX1_sidesTotal_6 : decode cX1_sidesTotal 6 = .ok (.iload_n 2, 1) := by decide +kernel
theorem dX1_sidesTotal_7 : decode cX1_sidesTotal 7 = .ok (.iaload, 1) := by decide +kernel
theorem dX1_sidesTotal_8 : decode cX1_sidesTotal 8 = .ok (.invokevirtual 67, 3) := by decide +kernel
theorem dX1_sidesTotal_11 : decode cX1_sidesTotal 11 = .ok (.aload_n 0, 1) := by decide +kernel
theorem dX1_sidesTotal_12 : decode cX1_sidesTotal 12 = .ok (.aload_n 1, 1) := by decide +kernel
theorem dX1_sidesTotal_13 : decode cX1_sidesTotal 13 = .ok (.aload_n 1, 1) := by decide +kernel
theorem dX1_sidesTotal_14 : decode cX1_sidesTotal 14 = .ok (.getfield 70, 3) := by decide +kernel
theorem dX1_sidesTotal_17 : decode cX1_sidesTotal 17 = .ok (.iload_n 2, 1) := by decide +kernel
theorem dX1_sidesTotal_18 : decode cX1_sidesTotal 18 = .ok (.iaload, 1) := by decide +kernel
theorem dX1_sidesTotal_19 : decode cX1_sidesTotal 19 = .ok (.invokevirtual 67, 3) := by decide +kernel
theorem dX1_sidesTotal_22 : decode cX1_sidesTotal 22 = .ok (.iadd, 1) := by decide +kernel
theorem dX1_sidesTotal_23 : decode cX1_sidesTotal 23 = .ok (.ireturn, 1) := by decide +kernel
theorem dX1_totalOf_0 : decode cX1_totalOf 0 = .ok (.iload_n 2, 1) := by decide +kernel
theorem dX1_totalOf_1 : decode cX1_totalOf 1 = .ok (.invokestatic 73, 3) := by decide +kernel
theorem dX1_totalOf_4 : decode cX1_totalOf 4 = .ok (.istore_n 3, 1) := by decide +kernel
theorem dX1_totalOf_5 : decode cX1_totalOf 5 = .ok (.iload_n 3, 1) := by decide +kernel
theorem dX1_totalOf_6 : decode cX1_totalOf 6 = .ok (.iconst (-1), 1) := by decide +kernel
theorem dX1_totalOf_7 : decode cX1_totalOf 7 = .ok (.if_icmp .eq 12, 3) := by decide +kernel
theorem dX1_totalOf_10 : decode cX1_totalOf 10 = .ok (.aload_n 0, 1) := by decide +kernel
theorem dX1_totalOf_11 : decode cX1_totalOf 11 = .ok (.getfield 18, 3) := by decide +kernel
theorem dX1_totalOf_14 : decode cX1_totalOf 14 = .ok (.iload_n 3, 1) := by decide +kernel
theorem dX1_totalOf_15 : decode cX1_totalOf 15 = .ok (.iaload, 1) := by decide +kernel
theorem dX1_totalOf_16 : decode cX1_totalOf 16 = .ok (.goto 8, 3) := by decide +kernel
theorem dX1_totalOf_19 : decode cX1_totalOf 19 = .ok (.aload_n 1, 1) := by decide +kernel
theorem dX1_totalOf_20 : decode cX1_totalOf 20 = .ok (.iload_n 2, 1) := by decide +kernel
theorem dX1_totalOf_21 : decode cX1_totalOf 21 = .ok (.invokevirtual 42, 3) := by decide +kernel
theorem dX1_totalOf_24 : decode cX1_totalOf 24 = .ok (.ireturn, 1) := by decide +kernel
theorem dX1_chooseJoins_0 : decode cX1_chooseJoins 0 = .ok (.aload_n 1, 1) := by decide +kernel
theorem dX1_chooseJoins_1 : decode cX1_chooseJoins 1 = .ok (.getfield 41, 3) := by decide +kernel
theorem dX1_chooseJoins_4 : decode cX1_chooseJoins 4 = .ok (.iconst 1, 1) := by decide +kernel
theorem dX1_chooseJoins_5 : decode cX1_chooseJoins 5 = .ok (.isub, 1) := by decide +kernel
theorem dX1_chooseJoins_6 : decode cX1_chooseJoins 6 = .ok (.istore_n 2, 1) := by decide +kernel
theorem dX1_chooseJoins_7 : decode cX1_chooseJoins 7 = .ok (.iload_n 2, 1) := by decide +kernel
theorem dX1_chooseJoins_8 : decode cX1_chooseJoins 8 = .ok (.ifCond .lt 61, 3) := by decide +kernel
theorem dX1_chooseJoins_11 : decode cX1_chooseJoins 11 = .ok (.aload_n 0, 1) := by decide +kernel
theorem dX1_chooseJoins_12 : decode cX1_chooseJoins 12 = .ok (.getfield 26, 3) := by decide +kernel
theorem dX1_chooseJoins_15 : decode cX1_chooseJoins 15 = .ok (.iload_n 2, 1) := by decide +kernel
theorem dX1_chooseJoins_16 : decode cX1_chooseJoins 16 = .ok (.baload, 1) := by decide +kernel
theorem dX1_chooseJoins_17 : decode cX1_chooseJoins 17 = .ok (.ifCond .eq 46, 3) := by decide +kernel
theorem dX1_chooseJoins_20 : decode cX1_chooseJoins 20 = .ok (.aload_n 0, 1) := by decide +kernel
theorem dX1_chooseJoins_21 : decode cX1_chooseJoins 21 = .ok (.getfield 22, 3) := by decide +kernel
theorem dX1_chooseJoins_24 : decode cX1_chooseJoins 24 = .ok (.iload_n 2, 1) := by decide +kernel
theorem dX1_chooseJoins_25 : decode cX1_chooseJoins 25 = .ok (.baload, 1) := by decide +kernel
theorem dX1_chooseJoins_26 : decode cX1_chooseJoins 26 = .ok (.ifCond .eq 15, 3) := by decide +kernel
theorem dX1_chooseJoins_29 : decode cX1_chooseJoins 29 = .ok (.aload_n 0, 1) := by decide +kernel
theorem dX1_chooseJoins_30 : decode cX1_chooseJoins 30 = .ok (.aload_n 1, 1) := by decide +kernel
theorem dX1_chooseJoins_31 : decode cX1_chooseJoins 31 = .ok (.bipush 100, 2) := by decide +kernel
theorem dX1_chooseJoins_33 : decode cX1_chooseJoins 33 = .ok (.iload_n 2, 1) := by decide +kernel
theorem dX1_chooseJoins_34 : decode cX1_chooseJoins 34 = .ok (.iadd, 1) := by decide +kernel
theorem dX1_chooseJoins_35 : decode cX1_chooseJoins 35 = .ok (.invokevirtual 60, 3) := by decide +kernel
theorem dX1_chooseJoins_38 : decode cX1_chooseJoins 38 = .ok (.goto 25, 3) := by decide +kernel
theorem dX1_chooseJoins_41 : decode cX1_chooseJoins 41 = .ok (.aload_n 0, 1) := by decide +kernel
theorem dX1_chooseJoins_42 : decode cX1_chooseJoins 42 = .ok (.aload_n 1, 1) := by decide +kernel
theorem dX1_chooseJoins_43 : decode cX1_chooseJoins 43 = .ok (.aload_n 1, 1) := by decide +kernel
theorem dX1_chooseJoins_44 : decode cX1_chooseJoins 44 = .ok (.getfield 64, 3) := by decide +kernel
theorem dX1_chooseJoins_47 : decode cX1_chooseJoins 47 = .ok (.iload_n 2, 1) := by decide +kernel
theorem dX1_chooseJoins_48 : decode cX1_chooseJoins 48 = .ok (.iaload, 1) := by decide +kernel
theorem dX1_chooseJoins_49 : decode cX1_chooseJoins 49 = .ok (.invokevirtual 76, 3) := by decide +kernel
theorem dX1_chooseJoins_52 : decode cX1_chooseJoins 52 = .ok (.aload_n 0, 1) := by decide +kernel
theorem dX1_chooseJoins_53 : decode cX1_chooseJoins 53 = .ok (.aload_n 1, 1) := by decide +kernel
theorem dX1_chooseJoins_54 : decode cX1_chooseJoins 54 = .ok (.aload_n 1, 1) := by decide +kernel
theorem dX1_chooseJoins_55 : decode cX1_chooseJoins 55 = .ok (.getfield 70, 3) := by decide +kernel
theorem dX1_chooseJoins_58 : decode cX1_chooseJoins 58 = .ok (.iload_n 2, 1) := by decide +kernel
theorem dX1_chooseJoins_59 : decode cX1_chooseJoins 59 = .ok (.iaload, 1) := by decide +kernel
theorem dX1_chooseJoins_60 : decode cX1_chooseJoins 60 = .ok (.invokevirtual 76, 3) := by decide +kernel
theorem dX1_chooseJoins_63 : decode cX1_chooseJoins 63 = .ok (.iinc 2 (-1), 3) := by decide +kernel
theorem dX1_chooseJoins_66 : decode cX1_chooseJoins 66 = .ok (.goto (-59), 3) := by decide +kernel
theorem dX1_chooseJoins_69 : decode cX1_chooseJoins 69 = .ok (.return_, 1) := by decide +kernel
theorem dX1_openNode_0 : decode cX1_openNode 0 = .ok (.iload_n 2, 1) := by decide +kernel
theorem dX1_openNode_1 : decode cX1_openNode 1 = .ok (.invokestatic 73, 3) := by decide +kernel
theorem dX1_openNode_4 : decode cX1_openNode 4 = .ok (.istore_n 3, 1) := by decide +kernel
theorem dX1_openNode_5 : decode cX1_openNode 5 = .ok (.iload_n 3, 1) := by decide +kernel
theorem dX1_openNode_6 : decode cX1_openNode 6 = .ok (.iconst (-1), 1) := by decide +kernel
theorem dX1_openNode_7 : decode cX1_openNode 7 = .ok (.if_icmp .eq 13, 3) := by decide +kernel
theorem dX1_openNode_10 : decode cX1_openNode 10 = .ok (.aload_n 0, 1) := by decide +kernel
theorem dX1_openNode_11 : decode cX1_openNode 11 = .ok (.getfield 26, 3) := by decide +kernel
theorem dX1_openNode_14 : decode cX1_openNode 14 = .ok (.iload_n 3, 1) := by decide +kernel
theorem dX1_openNode_15 : decode cX1_openNode 15 = .ok (.iconst 1, 1) := by decide +kernel
theorem dX1_openNode_16 : decode cX1_openNode 16 = .ok (.bastore, 1) := by decide +kernel
theorem dX1_openNode_17 : decode cX1_openNode 17 = .ok (.goto 9, 3) := by decide +kernel
theorem dX1_openNode_20 : decode cX1_openNode 20 = .ok (.aload_n 0, 1) := by decide +kernel
theorem dX1_openNode_21 : decode cX1_openNode 21 = .ok (.aload_n 1, 1) := by decide +kernel
theorem dX1_openNode_22 : decode cX1_openNode 22 = .ok (.iload_n 2, 1) := by decide +kernel
theorem dX1_openNode_23 : decode cX1_openNode 23 = .ok (.invokevirtual 60, 3) := by decide +kernel
theorem dX1_openNode_26 : decode cX1_openNode 26 = .ok (.return_, 1) := by decide +kernel
theorem dX1_put_0 : decode cX1_put 0 = .ok (.aload_n 1, 1) := by decide +kernel
theorem dX1_put_1 : decode cX1_put 1 = .ok (.iload_n 2, 1) := by decide +kernel
theorem dX1_put_2 : decode cX1_put 2 = .ok (.invokevirtual 79, 3) := by decide +kernel
theorem dX1_put_5 : decode cX1_put 5 = .ok (.invokestatic 82, 3) := by decide +kernel
theorem dX1_put_8 : decode cX1_put 8 = .ok (.istore_n 3, 1) := by decide +kernel
theorem dX1_put_9 : decode cX1_put 9 = .ok (.iload_n 3, 1) := by decide +kernel
theorem dX1_put_10 : decode cX1_put 10 = .ok (.ifCond .lt 26, 3) := by decide +kernel
theorem dX1_put_13 : decode cX1_put 13 = .ok (.iload_n 3, 1) := by decide +kernel
theorem dX1_put_14 : decode cX1_put 14 = .ok (.bipush 24, 2) := by decide +kernel
theorem dX1_put_16 : decode cX1_put 16 = .ok (.if_icmp .ge 20, 3) := by decide +kernel
theorem dX1_put_19 : decode cX1_put 19 = .ok (.aload_n 0, 1) := by decide +kernel
theorem dX1_put_20 : decode cX1_put 20 = .ok (.getfield 29, 3) := by decide +kernel
theorem dX1_put_23 : decode cX1_put 23 = .ok (.iload_n 3, 1) := by decide +kernel
theorem dX1_put_24 : decode cX1_put 24 = .ok (.iload_n 2, 1) := by decide +kernel
theorem dX1_put_25 : decode cX1_put 25 = .ok (.iastore, 1) := by decide +kernel
theorem dX1_put_26 : decode cX1_put 26 = .ok (.aload_n 0, 1) := by decide +kernel
theorem dX1_put_27 : decode cX1_put 27 = .ok (.dup, 1) := by decide +kernel
theorem dX1_put_28 : decode cX1_put 28 = .ok (.getfield 15, 3) := by decide +kernel
theorem dX1_put_31 : decode cX1_put 31 = .ok (.iconst 1, 1) := by decide +kernel
theorem dX1_put_32 : decode cX1_put 32 = .ok (.iadd, 1) := by decide +kernel
theorem dX1_put_33 : decode cX1_put 33 = .ok (.putfield 15, 3) := by decide +kernel
theorem dX1_put_36 : decode cX1_put 36 = .ok (.return_, 1) := by decide +kernel
theorem dX1_nth_0 : decode cX1_nth 0 = .ok (.iconst 0, 1) := by decide +kernel
theorem dX1_nth_1 : decode cX1_nth 1 = .ok (.istore_n 3, 1) := by decide +kernel
theorem dX1_nth_2 : decode cX1_nth 2 = .ok (.iconst 0, 1) := by decide +kernel
theorem dX1_nth_3 : decode cX1_nth 3 = .ok (.istore 4, 2) := by decide +kernel
theorem dX1_nth_5 : decode cX1_nth 5 = .ok (.iload 4, 2) := by decide +kernel
theorem dX1_nth_7 : decode cX1_nth 7 = .ok (.iload_n 2, 1) := by decide +kernel
theorem dX1_nth_8 : decode cX1_nth 8 = .ok (.if_icmp .ge 36, 3) := by decide +kernel
theorem dX1_nth_11 : decode cX1_nth 11 = .ok (.aload_n 0, 1) := by decide +kernel
theorem dX1_nth_12 : decode cX1_nth 12 = .ok (.getfield 29, 3) := by decide +kernel
theorem dX1_nth_15 : decode cX1_nth 15 = .ok (.iload 4, 2) := by decide +kernel
theorem dX1_nth_17 : decode cX1_nth 17 = .ok (.iaload, 1) := by decide +kernel
theorem dX1_nth_18 : decode cX1_nth 18 = .ok (.iconst (-1), 1) := by decide +kernel
theorem dX1_nth_19 : decode cX1_nth 19 = .ok (.if_icmp .eq 19, 3) := by decide +kernel
theorem dX1_nth_22 : decode cX1_nth 22 = .ok (.iload_n 3, 1) := by decide +kernel
theorem dX1_nth_23 : decode cX1_nth 23 = .ok (.iload_n 1, 1) := by decide +kernel
theorem dX1_nth_24 : decode cX1_nth 24 = .ok (.if_icmp .ne 11, 3) := by decide +kernel
theorem dX1_nth_27 : decode cX1_nth 27 = .ok (.aload_n 0, 1) := by decide +kernel
theorem dX1_nth_28 : decode cX1_nth 28 = .ok (.getfield 29, 3) := by decide +kernel
theorem dX1_nth_31 : decode cX1_nth 31 = .ok (.iload 4, 2) := by decide +kernel
theorem dX1_nth_33 : decode cX1_nth 33 = .ok (.iaload, 1) := by decide +kernel
theorem dX1_nth_34 : decode cX1_nth 34 = .ok (.ireturn, 1) := by decide +kernel
theorem dX1_nth_35 : decode cX1_nth 35 = .ok (.iinc 3 1, 3) := by decide +kernel
theorem dX1_nth_38 : decode cX1_nth 38 = .ok (.iinc 4 1, 3) := by decide +kernel
theorem dX1_nth_41 : decode cX1_nth 41 = .ok (.goto (-36), 3) := by decide +kernel
theorem dX1_nth_44 : decode cX1_nth 44 = .ok (.iconst (-1), 1) := by decide +kernel
theorem dX1_nth_45 : decode cX1_nth 45 = .ok (.ireturn, 1) := by decide +kernel
theorem dX2_init_0 : decode cX2_init 0 = .ok (.aload_n 0, 1) := by decide +kernel
theorem dX2_init_1 : decode cX2_init 1 = .ok (.invokespecial 3, 3) := by decide +kernel
theorem dX2_init_4 : decode cX2_init 4 = .ok (.aload_n 0, 1) := by decide +kernel
theorem dX2_init_5 : decode cX2_init 5 = .ok (.new 9, 3) := by decide +kernel
theorem dX2_init_8 : decode cX2_init 8 = .ok (.dup, 1) := by decide +kernel
theorem dX2_init_9 : decode cX2_init 9 = .ok (.invokespecial 11, 3) := by decide +kernel
theorem dX2_init_12 : decode cX2_init 12 = .ok (.putfield 12, 3) := by decide +kernel
theorem dX2_init_15 : decode cX2_init 15 = .ok (.aload_n 0, 1) := by decide +kernel
theorem dX2_init_16 : decode cX2_init 16 = .ok (.iconst 0, 1) := by decide +kernel
theorem dX2_init_17 : decode cX2_init 17 = .ok (.putfield 18, 3) := by decide +kernel
theorem dX2_init_20 : decode cX2_init 20 = .ok (.aload_n 0, 1) := by decide +kernel
theorem dX2_init_21 : decode cX2_init 21 = .ok (.bipush 24, 2) := by decide +kernel
theorem dX2_init_23 : decode cX2_init 23 = .ok (.newarray .long, 2) := by decide +kernel
theorem dX2_init_25 : decode cX2_init 25 = .ok (.putfield 22, 3) := by decide +kernel
theorem dX2_init_28 : decode cX2_init 28 = .ok (.aload_n 0, 1) := by decide +kernel
theorem dX2_init_29 : decode cX2_init 29 = .ok (.bipush 24, 2) := by decide +kernel
theorem dX2_init_31 : decode cX2_init 31 = .ok (.newarray .int, 2) := by decide +kernel
theorem dX2_init_33 : decode cX2_init 33 = .ok (.putfield 26, 3) := by decide +kernel
theorem dX2_init_36 : decode cX2_init 36 = .ok (.aload_n 0, 1) := by decide +kernel
theorem dX2_init_37 : decode cX2_init 37 = .ok (.bipush 24, 2) := by decide +kernel
theorem dX2_init_39 : decode cX2_init 39 = .ok (.newarray .int, 2) := by decide +kernel
theorem dX2_init_41 : decode cX2_init 41 = .ok (.putfield 30, 3) := by decide +kernel
theorem dX2_init_44 : decode cX2_init 44 = .ok (.aload_n 0, 1) := by decide +kernel
theorem dX2_init_45 : decode cX2_init 45 = .ok (.bipush 24, 2) := by decide +kernel
theorem dX2_init_47 : decode cX2_init 47 = .ok (.newarray .int, 2) := by decide +kernel
theorem dX2_init_49 : decode cX2_init 49 = .ok (.putfield 33, 3) := by decide +kernel
theorem dX2_init_52 : decode cX2_init 52 = .ok (.aload_n 0, 1) := by decide +kernel
theorem dX2_init_53 : decode cX2_init 53 = .ok (.bipush 24, 2) := by decide +kernel
theorem dX2_init_55 : decode cX2_init 55 = .ok (.newarray .int, 2) := by decide +kernel
theorem dX2_init_57 : decode cX2_init 57 = .ok (.putfield 36, 3) := by decide +kernel
theorem dX2_init_60 : decode cX2_init 60 = .ok (.aload_n 0, 1) := by decide +kernel
theorem dX2_init_61 : decode cX2_init 61 = .ok (.bipush 24, 2) := by decide +kernel
theorem dX2_init_63 : decode cX2_init 63 = .ok (.newarray .int, 2) := by decide +kernel
theorem dX2_init_65 : decode cX2_init 65 = .ok (.putfield 39, 3) := by decide +kernel
theorem dX2_init_68 : decode cX2_init 68 = .ok (.aload_n 0, 1) := by decide +kernel
theorem dX2_init_69 : decode cX2_init 69 = .ok (.bipush 24, 2) := by decide +kernel
theorem dX2_init_71 : decode cX2_init 71 = .ok (.newarray .int, 2) := by decide +kernel
theorem dX2_init_73 : decode cX2_init 73 = .ok (.putfield 42, 3) := by decide +kernel
theorem dX2_init_76 : decode cX2_init 76 = .ok (.aload_n 0, 1) := by decide +kernel
theorem dX2_init_77 : decode cX2_init 77 = .ok (.bipush 24, 2) := by decide +kernel
theorem dX2_init_79 : decode cX2_init 79 = .ok (.newarray .int, 2) := by decide +kernel
theorem dX2_init_81 : decode cX2_init 81 = .ok (.putfield 45, 3) := by decide +kernel
theorem dX2_init_84 : decode cX2_init 84 = .ok (.aload_n 0, 1) := by decide +kernel
theorem dX2_init_85 : decode cX2_init 85 = .ok (.bipush 24, 2) := by decide +kernel
theorem dX2_init_87 : decode cX2_init 87 = .ok (.newarray .int, 2) := by decide +kernel
theorem dX2_init_89 : decode cX2_init 89 = .ok (.putfield 48, 3) := by decide +kernel
theorem dX2_init_92 : decode cX2_init 92 = .ok (.aload_n 0, 1) := by decide +kernel
theorem dX2_init_93 : decode cX2_init 93 = .ok (.bipush 24, 2) := by decide +kernel
theorem dX2_init_95 : decode cX2_init 95 = .ok (.newarray .int, 2) := by decide +kernel
theorem dX2_init_97 : decode cX2_init 97 = .ok (.putfield 51, 3) := by decide +kernel
theorem dX2_init_100 : decode cX2_init 100 = .ok (.aload_n 0, 1) := by decide +kernel
theorem dX2_init_101 : decode cX2_init 101 = .ok (.bipush 24, 2) := by decide +kernel
theorem dX2_init_103 : decode cX2_init 103 = .ok (.newarray .long, 2) := by decide +kernel
theorem dX2_init_105 : decode cX2_init 105 = .ok (.putfield 54, 3) := by decide +kernel
theorem dX2_init_108 : decode cX2_init 108 = .ok (.aload_n 0, 1) := by decide +kernel
theorem dX2_init_109 : decode cX2_init 109 = .ok (.bipush 24, 2) := by decide +kernel
theorem dX2_init_111 : decode cX2_init 111 = .ok (.newarray .long, 2) := by decide +kernel
theorem dX2_init_113 : decode cX2_init 113 = .ok (.putfield 57, 3) := by decide +kernel
theorem dX2_init_116 : decode cX2_init 116 = .ok (.aload_n 0, 1) := by decide +kernel
theorem dX2_init_117 : decode cX2_init 117 = .ok (.bipush 24, 2) := by decide +kernel
theorem dX2_init_119 : decode cX2_init 119 = .ok (.newarray .int, 2) := by decide +kernel
theorem dX2_init_121 : decode cX2_init 121 = .ok (.putfield 60, 3) := by decide +kernel
theorem dX2_init_124 : decode cX2_init 124 = .ok (.return_, 1) := by decide +kernel
theorem dX2_rebuild_0 : decode cX2_rebuild 0 = .ok (.aload_n 0, 1) := by decide +kernel
theorem dX2_rebuild_1 : decode cX2_rebuild 1 = .ok (.invokevirtual 63, 3) := by decide +kernel
theorem dX2_rebuild_4 : decode cX2_rebuild 4 = .ok (.iconst 0, 1) := by decide +kernel
theorem dX2_rebuild_5 : decode cX2_rebuild 5 = .ok (.istore_n 1, 1) := by decide +kernel
theorem dX2_rebuild_6 : decode cX2_rebuild 6 = .ok (.iload_n 1, 1) := by decide +kernel
theorem dX2_rebuild_7 : decode cX2_rebuild 7 = .ok (.aload_n 0, 1) := by decide +kernel
theorem dX2_rebuild_8 : decode cX2_rebuild 8 = .ok (.getfield 12, 3) := by decide +kernel
theorem dX2_rebuild_11 : decode cX2_rebuild 11 = .ok (.getfield 66, 3) := by decide +kernel
theorem dX2_rebuild_14 : decode cX2_rebuild 14 = .ok (.if_icmp .ge 23, 3) := by decide +kernel
theorem dX2_rebuild_17 : decode cX2_rebuild 17 = .ok (.aload_n 0, 1) := by decide +kernel
theorem dX2_rebuild_18 : decode cX2_rebuild 18 = .ok (.getfield 60, 3) := by decide +kernel
theorem dX2_rebuild_21 : decode cX2_rebuild 21 = .ok (.iload_n 1, 1) := by decide +kernel
theorem dX2_rebuild_22 : decode cX2_rebuild 22 = .ok (.iload_n 1, 1) := by decide +kernel
theorem dX2_rebuild_23 : decode cX2_rebuild 23 = .ok (.iastore, 1) := by decide +kernel
theorem dX2_rebuild_24 : decode cX2_rebuild 24 = .ok (.aload_n 0, 1) := by decide +kernel
theorem dX2_rebuild_25 : decode cX2_rebuild 25 = .ok (.getfield 51, 3) := by decide +kernel
theorem dX2_rebuild_28 : decode cX2_rebuild 28 = .ok (.iload_n 1, 1) := by decide +kernel
theorem dX2_rebuild_29 : decode cX2_rebuild 29 = .ok (.iconst (-1), 1) := by decide +kernel
theorem dX2_rebuild_30 : decode cX2_rebuild 30 = .ok (.iastore, 1) := by decide +kernel
theorem dX2_rebuild_31 : decode cX2_rebuild 31 = .ok (.iinc 1 1, 3) := by decide +kernel
theorem dX2_rebuild_34 : decode cX2_rebuild 34 = .ok (.goto (-28), 3) := by decide +kernel
theorem dX2_rebuild_37 : decode cX2_rebuild 37 = .ok (.iconst 0, 1) := by decide +kernel
theorem dX2_rebuild_38 : decode cX2_rebuild 38 = .ok (.istore_n 1, 1) := by decide +kernel
theorem dX2_rebuild_39 : decode cX2_rebuild 39 = .ok (.iload_n 1, 1) := by decide +kernel
theorem dX2_rebuild_40 : decode cX2_rebuild 40 = .ok (.aload_n 0, 1) := by decide +kernel
theorem dX2_rebuild_41 : decode cX2_rebuild 41 = .ok (.getfield 18, 3) := by decide +kernel
theorem dX2_rebuild_44 : decode cX2_rebuild 44 = .ok (.if_icmp .ge 14, 3) := by decide +kernel
theorem dX2_rebuild_47 : decode cX2_rebuild 47 = .ok (.aload_n 0, 1) := by decide +kernel
theorem dX2_rebuild_48 : decode cX2_rebuild 48 = .ok (.iload_n 1, 1) := by decide +kernel
theorem dX2_rebuild_49 : decode cX2_rebuild 49 = .ok (.invokevirtual 67, 3) := by decide +kernel
theorem dX2_rebuild_52 : decode cX2_rebuild 52 = .ok (.iinc 1 1, 3) := by decide +kernel
theorem dX2_rebuild_55 : decode cX2_rebuild 55 = .ok (.goto (-16), 3) := by decide +kernel
theorem dX2_rebuild_58 : decode cX2_rebuild 58 = .ok (.return_, 1) := by decide +kernel
theorem dX2_growTree_0 : decode cX2_growTree 0 = .ok (.aload_n 0, 1) := by decide +kernel
theorem dX2_growTree_1 : decode cX2_growTree 1 = .ok (.iconst 0, 1) := by decide +kernel
theorem dX2_growTree_2 : decode cX2_growTree 2 = .ok (.putfield 18, 3) := by decide +kernel
theorem dX2_growTree_5 : decode cX2_growTree 5 = .ok (.iconst 1, 1) := by decide +kernel
theorem dX2_growTree_6 : decode cX2_growTree 6 = .ok (.istore_n 1, 1) := by decide +kernel
theorem dX2_growTree_7 : decode cX2_growTree 7 = .ok (.iconst 1, 1) := by decide +kernel
theorem dX2_growTree_8 : decode cX2_growTree 8 = .ok (.istore_n 2, 1) := by decide +kernel
theorem dX2_growTree_9 : decode cX2_growTree 9 = .ok (.iload_n 2, 1) := by decide +kernel
theorem dX2_growTree_10 : decode cX2_growTree 10 = .ok (.aload_n 0, 1) := by decide +kernel
theorem dX2_growTree_11 : decode cX2_growTree 11 = .ok (.getfield 12, 3) := by decide +kernel
theorem dX2_growTree_14 : decode cX2_growTree 14 = .ok (.getfield 66, 3) := by decide +kernel
theorem dX2_growTree_17 : decode cX2_growTree 17 = .ok (.if_icmp .ge 21, 3) := by decide +kernel
theorem dX2_growTree_20 : decode cX2_growTree 20 = .ok (.aload_n 0, 1) := by decide +kernel
theorem dX2_growTree_21 : decode cX2_growTree 21 = .ok (.getfield 57, 3) := by decide +kernel
theorem dX2_growTree_24 : decode cX2_growTree 24 = .ok (.iload_n 2, 1) := by decide +kernel
theorem dX2_growTree_25 : decode cX2_growTree 25 = .ok (.aload_n 0, 1) := by decide +kernel
theorem dX2_growTree_26 : decode cX2_growTree 26 = .ok (.iconst 0, 1) := by decide +kernel
theorem dX2_growTree_27 : decode cX2_growTree 27 = .ok (.iload_n 2, 1) := by decide +kernel
theorem dX2_growTree_28 : decode cX2_growTree 28 = .ok (.invokevirtual 71, 3) := by decide +kernel
theorem dX2_growTree_31 : decode cX2_growTree 31 = .ok (.lastore, 1) := by decide +kernel
theorem dX2_growTree_32 : decode cX2_growTree 32 = .ok (.iinc 2 1, 3) := by decide +kernel
theorem dX2_growTree_35 : decode cX2_growTree 35 = .ok (.goto (-26), 3) := by decide +kernel
theorem dX2_growTree_38 : decode cX2_growTree 38 = .ok (.iconst 1, 1) := by decide +kernel
theorem dX2_growTree_39 : decode cX2_growTree 39 = .ok (.istore_n 2, 1) := by decide +kernel
theorem dX2_growTree_40 : decode cX2_growTree 40 = .ok (.iload_n 2, 1) := by decide +kernel
theorem dX2_growTree_41 : decode cX2_growTree 41 = .ok (.aload_n 0, 1) := by decide +kernel
theorem dX2_growTree_42 : decode cX2_growTree 42 = .ok (.getfield 12, 3) := by decide +kernel
theorem dX2_growTree_45 : decode cX2_growTree 45 = .ok (.getfield 66, 3) := by decide +kernel
theorem dX2_growTree_48 : decode cX2_growTree 48 = .ok (.if_icmp .ge 91, 3) := by decide +kernel
theorem dX2_growTree_51 : decode cX2_growTree 51 = .ok (.aload_n 0, 1) := by decide +kernel
theorem dX2_growTree_52 : decode cX2_growTree 52 = .ok (.iload_n 1, 1) := by decide +kernel
theorem dX2_growTree_53 : decode cX2_growTree 53 = .ok (.invokevirtual 75, 3) := by decide +kernel
theorem dX2_growTree_56 : decode cX2_growTree 56 = .ok (.istore_n 3, 1) := by decide +kernel
theorem dX2_growTree_57 : decode cX2_growTree 57 = .ok (.iload_n 3, 1) := by decide +kernel
theorem dX2_growTree_58 : decode cX2_growTree 58 = .ok (.iconst (-1), 1) := by decide +kernel
theorem dX2_growTree_59 : decode cX2_growTree 59 = .ok (.if_icmp .ne 4, 3) := by decide +kernel
theorem dX2_growTree_62 : decode cX2_growTree 62 = .ok (.return_, 1) := by decide +kernel
theorem dX2_growTree_63 : decode cX2_growTree 63 = .ok (.aload_n 0, 1) := by decide +kernel
theorem dX2_growTree_64 : decode cX2_growTree 64 = .ok (.aload_n 0, 1) := by decide +kernel
theorem dX2_growTree_65 : decode cX2_growTree 65 = .ok (.getfield 57, 3) := by decide +kernel
theorem dX2_growTree_68 : decode cX2_growTree 68 = .ok (.iload_n 3, 1) := by decide +kernel
theorem dX2_growTree_69 : decode cX2_growTree 69 = .ok (.laload, 1) := by decide +kernel
theorem dX2_growTree_70 : decode cX2_growTree 70 = .ok (.invokevirtual 79, 3) := by decide +kernel
theorem dX2_growTree_73 : decode cX2_growTree 73 = .ok (.iload_n 1, 1) := by decide +kernel
theorem dX2_growTree_74 : decode cX2_growTree 74 = .ok (.iconst 1, 1) := by decide +kernel
theorem dX2_growTree_75 : decode cX2_growTree 75 = .ok (.iload_n 3, 1) := by decide +kernel
theorem dX2_growTree_76 : decode cX2_growTree 76 = .ok (.ishl, 1) := by decide +kernel
theorem dX2_growTree_77 : decode cX2_growTree 77 = .ok (.ior, 1) := by decide +kernel
theorem dX2_growTree_78 : decode cX2_growTree 78 = .ok (.istore_n 1, 1) := by decide +kernel
theorem dX2_growTree_79 : decode cX2_growTree 79 = .ok (.iconst 1, 1) := by decide +kernel
theorem dX2_growTree_80 : decode cX2_growTree 80 = .ok (.istore 4, 2) := by decide +kernel
theorem dX2_growTree_82 : decode cX2_growTree 82 = .ok (.iload 4, 2) := by decide +kernel
theorem dX2_growTree_84 : decode cX2_growTree 84 = .ok (.aload_n 0, 1) := by decide +kernel
theorem dX2_growTree_85 : decode cX2_growTree 85 = .ok (.getfield 12, 3) := by decide +kernel
theorem dX2_growTree_88 : decode cX2_growTree 88 = .ok (.getfield 66, 3) := by decide +kernel
theorem dX2_growTree_91 : decode cX2_growTree 91 = .ok (.if_icmp .ge 42, 3) := by decide +kernel
theorem dX2_growTree_94 : decode cX2_growTree 94 = .ok (.iload_n 1, 1) := by decide +kernel
theorem dX2_growTree_95 : decode cX2_growTree 95 = .ok (.iload 4, 2) := by decide +kernel
theorem dX2_growTree_97 : decode cX2_growTree 97 = .ok (.invokestatic 83, 3) := by decide +kernel
theorem dX2_growTree_100 : decode cX2_growTree 100 = .ok (.ifCond .ne 27, 3) := by decide +kernel
theorem dX2_growTree_103 : decode cX2_growTree 103 = .ok (.aload_n 0, 1) := by decide +kernel
theorem dX2_growTree_104 : decode cX2_growTree 104 = .ok (.getfield 57, 3) := by decide +kernel
theorem dX2_growTree_107 : decode cX2_growTree 107 = .ok (.iload 4, 2) := by decide +kernel
theorem dX2_growTree_109 : decode cX2_growTree 109 = .ok (.aload_n 0, 1) := by decide +kernel
theorem dX2_growTree_110 : decode cX2_growTree 110 = .ok (.getfield 57, 3) := by decide +kernel
theorem dX2_growTree_113 : decode cX2_growTree 113 = .ok (.iload 4, 2) := by decide +kernel
theorem dX2_growTree_115 : decode cX2_growTree 115 = .ok (.laload, 1) := by decide +kernel
theorem dX2_growTree_116 : decode cX2_growTree 116 = .ok (.aload_n 0, 1) := by decide +kernel
theorem dX2_growTree_117 : decode cX2_growTree 117 = .ok (.iload_n 3, 1) := by decide +kernel
theorem dX2_growTree_118 : decode cX2_growTree 118 = .ok (.iload 4, 2) := by decide +kernel
theorem dX2_growTree_120 : decode cX2_growTree 120 = .ok (.invokevirtual 71, 3) := by decide +kernel
theorem dX2_growTree_123 : decode cX2_growTree 123 = .ok (.invokestatic 89, 3) := by decide +kernel
theorem dX2_growTree_126 : decode cX2_growTree 126 = .ok (.lastore, 1) := by decide +kernel
theorem dX2_growTree_127 : decode cX2_growTree 127 = .ok (.iinc 4 1, 3) := by decide +kernel
theorem dX2_growTree_130 : decode cX2_growTree 130 = .ok (.goto (-48), 3) := by decide +kernel
theorem dX2_growTree_133 : decode cX2_growTree 133 = .ok (.iinc 2 1, 3) := by decide +kernel
theorem dX2_growTree_136 : decode cX2_growTree 136 = .ok (.goto (-96), 3) := by decide +kernel
theorem dX2_growTree_139 : decode cX2_growTree 139 = .ok (.return_, 1) := by decide +kernel
theorem dX2_nextToGrow_0 : decode cX2_nextToGrow 0 = .ok (.iconst (-1), 1) := by decide +kernel
theorem dX2_nextToGrow_1 : decode cX2_nextToGrow 1 = .ok (.istore_n 2, 1) := by decide +kernel
theorem dX2_nextToGrow_2 : decode cX2_nextToGrow 2 = .ok (.iconst 1, 1) := by decide +kernel
theorem dX2_nextToGrow_3 : decode cX2_nextToGrow 3 = .ok (.istore_n 3, 1) := by decide +kernel
theorem dX2_nextToGrow_4 : decode cX2_nextToGrow 4 = .ok (.iload_n 3, 1) := by decide +kernel
theorem dX2_nextToGrow_5 : decode cX2_nextToGrow 5 = .ok (.aload_n 0, 1) := by decide +kernel
theorem dX2_nextToGrow_6 : decode cX2_nextToGrow 6 = .ok (.getfield 12, 3) := by decide +kernel
theorem dX2_nextToGrow_9 : decode cX2_nextToGrow 9 = .ok (.getfield 66, 3) := by decide +kernel
theorem dX2_nextToGrow_12 : decode cX2_nextToGrow 12 = .ok (.if_icmp .ge 40, 3) := by decide +kernel
theorem dX2_nextToGrow_15 : decode cX2_nextToGrow 15 = .ok (.iload_n 1, 1) := by decide +kernel
theorem dX2_nextToGrow_16 : decode cX2_nextToGrow 16 = .ok (.iload_n 3, 1) := by decide +kernel
theorem dX2_nextToGrow_17 : decode cX2_nextToGrow 17 = .ok (.invokestatic 83, 3) := by decide +kernel
theorem dX2_nextToGrow_20 : decode cX2_nextToGrow 20 = .ok (.ifCond .ne 26, 3) := by decide +kernel
theorem dX2_nextToGrow_23 : decode cX2_nextToGrow 23 = .ok (.iload_n 2, 1) := by decide +kernel
theorem dX2_nextToGrow_24 : decode cX2_nextToGrow 24 = .ok (.iconst (-1), 1) := by decide +kernel
theorem dX2_nextToGrow_25 : decode cX2_nextToGrow 25 = .ok (.if_icmp .eq 19, 3) := by decide +kernel
theorem dX2_nextToGrow_28 : decode cX2_nextToGrow 28 = .ok (.aload_n 0, 1) := by decide +kernel
theorem dX2_nextToGrow_29 : decode cX2_nextToGrow 29 = .ok (.getfield 57, 3) := by decide +kernel
theorem dX2_nextToGrow_32 : decode cX2_nextToGrow 32 = .ok (.iload_n 3, 1) := by decide +kernel
theorem dX2_nextToGrow_33 : decode cX2_nextToGrow 33 = .ok (.laload, 1) := by decide +kernel
theorem dX2_nextToGrow_34 : decode cX2_nextToGrow 34 = .ok (.aload_n 0, 1) := by decide +kernel
theorem dX2_nextToGrow_35 : decode cX2_nextToGrow 35 = .ok (.getfield 57, 3) := by decide +kernel
theorem dX2_nextToGrow_38 : decode cX2_nextToGrow 38 = .ok (.iload_n 2, 1) := by decide +kernel
theorem dX2_nextToGrow_39 : decode cX2_nextToGrow 39 = .ok (.laload, 1) := by decide +kernel
theorem dX2_nextToGrow_40 : decode cX2_nextToGrow 40 = .ok (.lcmp, 1) := by decide +kernel
theorem dX2_nextToGrow_41 : decode cX2_nextToGrow 41 = .ok (.ifCond .ge 5, 3) := by decide +kernel
theorem dX2_nextToGrow_44 : decode cX2_nextToGrow 44 = .ok (.iload_n 3, 1) := by decide +kernel
theorem dX2_nextToGrow_45 : decode cX2_nextToGrow 45 = .ok (.istore_n 2, 1) := by decide +kernel
theorem dX2_nextToGrow_46 : decode cX2_nextToGrow 46 = .ok (.iinc 3 1, 3) := by decide +kernel
theorem dX2_nextToGrow_49 : decode cX2_nextToGrow 49 = .ok (.goto (-45), 3) := by decide +kernel
theorem dX2_nextToGrow_52 : decode cX2_nextToGrow 52 = .ok (.iload_n 2, 1) := by decide +kernel
theorem dX2_nextToGrow_53 : decode cX2_nextToGrow 53 = .ok (.ireturn, 1) := by decide +kernel
theorem dX2_keyOf_0 : decode cX2_keyOf 0 = .ok (.aload_n 0, 1) := by decide +kernel
theorem dX2_keyOf_1 : decode cX2_keyOf 1 = .ok (.getfield 12, 3) := by decide +kernel
theorem dX2_keyOf_4 : decode cX2_keyOf 4 = .ok (.iload_n 1, 1) := by decide +kernel
theorem dX2_keyOf_5 : decode cX2_keyOf 5 = .ok (.iload_n 2, 1) := by decide +kernel
theorem dX2_keyOf_6 : decode cX2_keyOf 6 = .ok (.invokevirtual 95, 3) := by decide +kernel
theorem dX2_keyOf_9 : decode cX2_keyOf 9 = .ok (.i2l, 1) := by decide +kernel
theorem dX2_keyOf_10 : decode cX2_keyOf 10 = .ok (.bipush 10, 2) := by decide +kernel
theorem dX2_keyOf_12 : decode cX2_keyOf 12 = .ok (.lshl, 1) := by decide +kernel
theorem dX2_keyOf_13 : decode cX2_keyOf 13 = .ok (.iload_n 1, 1) := by decide +kernel
theorem dX2_keyOf_14 : decode cX2_keyOf 14 = .ok (.iload_n 2, 1) := by decide +kernel
theorem dX2_keyOf_15 : decode cX2_keyOf 15 = .ok (.invokestatic 99, 3) := by decide +kernel
theorem dX2_keyOf_18 : decode cX2_keyOf 18 = .ok (.iconst 5, 1) := by decide +kernel
theorem dX2_keyOf_19 : decode cX2_keyOf 19 = .ok (.ishl, 1) := by decide +kernel
theorem dX2_keyOf_20 : decode cX2_keyOf 20 = .ok (.i2l, 1) := by decide +kernel
theorem dX2_keyOf_21 : decode cX2_keyOf 21 = .ok (.lor, 1) := by decide +kernel
theorem dX2_keyOf_22 : decode cX2_keyOf 22 = .ok (.iload_n 1, 1) := by decide +kernel
theorem dX2_keyOf_23 : decode cX2_keyOf 23 = .ok (.iload_n 2, 1) := by decide +kernel
theorem dX2_keyOf_24 : decode cX2_keyOf 24 = .ok (.invokestatic 101, 3) := by decide +kernel
theorem dX2_keyOf_27 : decode cX2_keyOf 27 = .ok (.i2l, 1) := by decide +kernel
theorem dX2_keyOf_28 : decode cX2_keyOf 28 = .ok (.lor, 1) := by decide +kernel
theorem dX2_keyOf_29 : decode cX2_keyOf 29 = .ok (.lreturn, 1) := by decide +kernel
theorem dX2_putKey_0 : decode cX2_putKey 0 = .ok (.aload_n 0, 1) := by decide +kernel
theorem dX2_putKey_1 : decode cX2_putKey 1 = .ok (.getfield 18, 3) := by decide +kernel
theorem dX2_putKey_4 : decode cX2_putKey 4 = .ok (.bipush 24, 2) := by decide +kernel
theorem dX2_putKey_6 : decode cX2_putKey 6 = .ok (.if_icmp .lt 4, 3) := by decide +kernel
theorem dX2_putKey_9 : decode cX2_putKey 9 = .ok (.return_, 1) := by decide +kernel
theorem dX2_putKey_10 : decode cX2_putKey 10 = .ok (.aload_n 0, 1) := by decide +kernel
theorem dX2_putKey_11 : decode cX2_putKey 11 = .ok (.getfield 18, 3) := by decide +kernel
theorem dX2_putKey_14 : decode cX2_putKey 14 = .ok (.istore_n 3, 1) := by decide +kernel
theorem dX2_putKey_15 : decode cX2_putKey 15 = .ok (.iload_n 3, 1) := by decide +kernel
theorem dX2_putKey_16 : decode cX2_putKey 16 = .ok (.ifCond .le 36, 3) := by decide +kernel
theorem dX2_putKey_19 : decode cX2_putKey 19 = .ok (.aload_n 0, 1) := by decide +kernel
theorem dX2_putKey_20 : decode cX2_putKey 20 = .ok (.getfield 22, 3) := by decide +kernel
theorem dX2_putKey_23 : decode cX2_putKey 23 = .ok (.iload_n 3, 1) := by decide +kernel
theorem dX2_putKey_24 : decode cX2_putKey 24 = .ok (.iconst 1, 1) := by decide +kernel
theorem dX2_putKey_25 : decode cX2_putKey 25 = .ok (.isub, 1) := by decide +kernel
theorem dX2_putKey_26 : decode cX2_putKey 26 = .ok (.laload, 1) := by decide +kernel
theorem dX2_putKey_27 : decode cX2_putKey 27 = .ok (.lload_n 1, 1) := by decide +kernel
theorem dX2_putKey_28 : decode cX2_putKey 28 = .ok (.lcmp, 1) := by decide +kernel
theorem dX2_putKey_29 : decode cX2_putKey 29 = .ok (.ifCond .le 23, 3) := by decide +kernel
theorem dX2_putKey_32 : decode cX2_putKey 32 = .ok (.aload_n 0, 1) := by decide +kernel
theorem dX2_putKey_33 : decode cX2_putKey 33 = .ok (.getfield 22, 3) := by decide +kernel
theorem dX2_putKey_36 : decode cX2_putKey 36 = .ok (.iload_n 3, 1) := by decide +kernel
theorem dX2_putKey_37 : decode cX2_putKey 37 = .ok (.aload_n 0, 1) := by decide +kernel
theorem dX2_putKey_38 : decode cX2_putKey 38 = .ok (.getfield 22, 3) := by decide +kernel
theorem dX2_putKey_41 : decode cX2_putKey 41 = .ok (.iload_n 3, 1) := by decide +kernel
theorem dX2_putKey_42 : decode cX2_putKey 42 = .ok (.iconst 1, 1) := by decide +kernel
theorem dX2_putKey_43 : decode cX2_putKey 43 = .ok (.isub, 1) := by decide +kernel
theorem dX2_putKey_44 : decode cX2_putKey 44 = .ok (.laload, 1) := by decide +kernel
theorem dX2_putKey_45 : decode cX2_putKey 45 = .ok (.lastore, 1) := by decide +kernel
theorem dX2_putKey_46 : decode cX2_putKey 46 = .ok (.iinc 3 (-1), 3) := by decide +kernel
theorem dX2_putKey_49 : decode cX2_putKey 49 = .ok (.goto (-34), 3) := by decide +kernel
theorem dX2_putKey_52 : decode cX2_putKey 52 = .ok (.aload_n 0, 1) := by decide +kernel
theorem dX2_putKey_53 : decode cX2_putKey 53 = .ok (.getfield 22, 3) := by decide +kernel
theorem dX2_putKey_56 : decode cX2_putKey 56 = .ok (.iload_n 3, 1) := by decide +kernel
theorem dX2_putKey_57 : decode cX2_putKey 57 = .ok (.lload_n 1, 1) := by decide +kernel
theorem dX2_putKey_58 : decode cX2_putKey 58 = .ok (.lastore, 1) := by decide +kernel
theorem dX2_putKey_59 : decode cX2_putKey 59 = .ok (.aload_n 0, 1) := by decide +kernel
theorem dX2_putKey_60 : decode cX2_putKey 60 = .ok (.dup, 1) := by decide +kernel
theorem dX2_putKey_61 : decode cX2_putKey 61 = .ok (.getfield 18, 3) := by decide +kernel
theorem dX2_putKey_64 : decode cX2_putKey 64 = .ok (.iconst 1, 1) := by decide +kernel
theorem dX2_putKey_65 : decode cX2_putKey 65 = .ok (.iadd, 1) := by decide +kernel
theorem dX2_putKey_66 : decode cX2_putKey 66 = .ok (.putfield 18, 3) := by decide +kernel
theorem dX2_putKey_69 : decode cX2_putKey 69 = .ok (.return_, 1) := by decide +kernel
theorem dX2_makeJoin_0 : decode cX2_makeJoin 0 = .ok (.aload_n 0, 1) := by decide +kernel
theorem dX2_makeJoin_1 : decode cX2_makeJoin 1 = .ok (.getfield 22, 3) := by decide +kernel
theorem dX2_makeJoin_4 : decode cX2_makeJoin 4 = .ok (.iload_n 1, 1) := by decide +kernel
theorem dX2_makeJoin_5 : decode cX2_makeJoin 5 = .ok (.laload, 1) := by decide +kernel
theorem dX2_makeJoin_6 : decode cX2_makeJoin 6 = .ok (.iconst 5, 1) := by decide +kernel
theorem dX2_makeJoin_7 : decode cX2_makeJoin 7 = .ok (.lshr, 1) := by decide +kernel
theorem dX2_makeJoin_8 : decode cX2_makeJoin 8 = .ok (.ldc2_w 104, 3) := by decide +kernel
theorem dX2_makeJoin_11 : decode cX2_makeJoin 11 = .ok (.land, 1) := by decide +kernel
theorem dX2_makeJoin_12 : decode cX2_makeJoin 12 = .ok (.l2i, 1) := by decide +kernel
theorem dX2_makeJoin_13 : decode cX2_makeJoin 13 = .ok (.istore_n 2, 1) := by decide +kernel
theorem dX2_makeJoin_14 : decode cX2_makeJoin 14 = .ok (.aload_n 0, 1) := by decide +kernel
theorem dX2_makeJoin_15 : decode cX2_makeJoin 15 = .ok (.getfield 22, 3) := by decide +kernel
theorem dX2_makeJoin_18 : decode cX2_makeJoin 18 = .ok (.iload_n 1, 1) := by decide +kernel
theorem dX2_makeJoin_19 : decode cX2_makeJoin 19 = .ok (.laload, 1) := by decide +kernel
theorem dX2_makeJoin_20 : decode cX2_makeJoin 20 = .ok (.ldc2_w 104, 3) := by decide +kernel
theorem dX2_makeJoin_23 : decode cX2_makeJoin 23 = .ok (.land, 1) := by decide +kernel
theorem dX2_makeJoin_24 : decode cX2_makeJoin 24 = .ok (.l2i, 1) := by decide +kernel
theorem dX2_makeJoin_25 : decode cX2_makeJoin 25 = .ok (.istore_n 3, 1) := by decide +kernel
theorem dX2_makeJoin_26 : decode cX2_makeJoin 26 = .ok (.iload_n 2, 1) := by decide +kernel
theorem dX2_makeJoin_27 : decode cX2_makeJoin 27 = .ok (.aload_n 0, 1) := by decide +kernel
theorem dX2_makeJoin_28 : decode cX2_makeJoin 28 = .ok (.getfield 12, 3) := by decide +kernel
theorem dX2_makeJoin_31 : decode cX2_makeJoin 31 = .ok (.getfield 66, 3) := by decide +kernel
theorem dX2_makeJoin_34 : decode cX2_makeJoin 34 = .ok (.if_icmp .ge 14, 3) := by decide +kernel
theorem dX2_makeJoin_37 : decode cX2_makeJoin 37 = .ok (.iload_n 3, 1) := by decide +kernel
theorem dX2_makeJoin_38 : decode cX2_makeJoin 38 = .ok (.aload_n 0, 1) := by decide +kernel
theorem dX2_makeJoin_39 : decode cX2_makeJoin 39 = .ok (.getfield 12, 3) := by decide +kernel
theorem dX2_makeJoin_42 : decode cX2_makeJoin 42 = .ok (.getfield 66, 3) := by decide +kernel
theorem dX2_makeJoin_45 : decode cX2_makeJoin 45 = .ok (.if_icmp .lt 4, 3) := by decide +kernel
theorem dX2_makeJoin_48 : decode cX2_makeJoin 48 = .ok (.return_, 1) := by decide +kernel
theorem dX2_makeJoin_49 : decode cX2_makeJoin 49 = .ok (.aload_n 0, 1) := by decide +kernel
theorem dX2_makeJoin_50 : decode cX2_makeJoin 50 = .ok (.getfield 26, 3) := by decide +kernel
theorem dX2_makeJoin_53 : decode cX2_makeJoin 53 = .ok (.iload_n 1, 1) := by decide +kernel
theorem dX2_makeJoin_54 : decode cX2_makeJoin 54 = .ok (.aload_n 0, 1) := by decide +kernel
theorem dX2_makeJoin_55 : decode cX2_makeJoin 55 = .ok (.getfield 22, 3) := by decide +kernel
theorem dX2_makeJoin_58 : decode cX2_makeJoin 58 = .ok (.iload_n 1, 1) := by decide +kernel
theorem dX2_makeJoin_59 : decode cX2_makeJoin 59 = .ok (.laload, 1) := by decide +kernel
theorem dX2_makeJoin_60 : decode cX2_makeJoin 60 = .ok (.bipush 10, 2) := by decide +kernel
theorem dX2_makeJoin_62 : decode cX2_makeJoin 62 = .ok (.lshr, 1) := by decide +kernel
theorem dX2_makeJoin_63 : decode cX2_makeJoin 63 = .ok (.l2i, 1) := by decide +kernel
theorem dX2_makeJoin_64 : decode cX2_makeJoin 64 = .ok (.iastore, 1) := by decide +kernel
theorem dX2_makeJoin_65 : decode cX2_makeJoin 65 = .ok (.aload_n 0, 1) := by decide +kernel
theorem dX2_makeJoin_66 : decode cX2_makeJoin 66 = .ok (.getfield 30, 3) := by decide +kernel
theorem dX2_makeJoin_69 : decode cX2_makeJoin 69 = .ok (.iload_n 1, 1) := by decide +kernel
theorem dX2_makeJoin_70 : decode cX2_makeJoin 70 = .ok (.aload_n 0, 1) := by decide +kernel
theorem dX2_makeJoin_71 : decode cX2_makeJoin 71 = .ok (.getfield 26, 3) := by decide +kernel
theorem dX2_makeJoin_74 : decode cX2_makeJoin 74 = .ok (.iload_n 1, 1) := by decide +kernel
theorem dX2_makeJoin_75 : decode cX2_makeJoin 75 = .ok (.iaload, 1) := by decide +kernel
theorem dX2_makeJoin_76 : decode cX2_makeJoin 76 = .ok (.invokestatic 106, 3) := by decide +kernel
theorem dX2_makeJoin_79 : decode cX2_makeJoin 79 = .ok (.iastore, 1) := by decide +kernel
theorem dX2_makeJoin_80 : decode cX2_makeJoin 80 = .ok (.aload_n 0, 1) := by decide +kernel
theorem dX2_makeJoin_81 : decode cX2_makeJoin 81 = .ok (.getfield 33, 3) := by decide +kernel
theorem dX2_makeJoin_84 : decode cX2_makeJoin 84 = .ok (.iload_n 1, 1) := by decide +kernel
theorem dX2_makeJoin_85 : decode cX2_makeJoin 85 = .ok (.iload_n 2, 1) := by decide +kernel
theorem dX2_makeJoin_86 : decode cX2_makeJoin 86 = .ok (.iastore, 1) := by decide +kernel
theorem dX2_makeJoin_87 : decode cX2_makeJoin 87 = .ok (.aload_n 0, 1) := by decide +kernel
theorem dX2_makeJoin_88 : decode cX2_makeJoin 88 = .ok (.getfield 36, 3) := by decide +kernel
theorem dX2_makeJoin_91 : decode cX2_makeJoin 91 = .ok (.iload_n 1, 1) := by decide +kernel
theorem dX2_makeJoin_92 : decode cX2_makeJoin 92 = .ok (.iload_n 3, 1) := by decide +kernel
theorem dX2_makeJoin_93 : decode cX2_makeJoin 93 = .ok (.iastore, 1) := by decide +kernel
theorem dX2_makeJoin_94 : decode cX2_makeJoin 94 = .ok (.aload_n 0, 1) := by decide +kernel
theorem dX2_makeJoin_95 : decode cX2_makeJoin 95 = .ok (.getfield 54, 3) := by decide +kernel
theorem dX2_makeJoin_98 : decode cX2_makeJoin 98 = .ok (.iload_n 1, 1) := by decide +kernel
theorem dX2_makeJoin_99 : decode cX2_makeJoin 99 = .ok (.aload_n 0, 1) := by decide +kernel
theorem dX2_makeJoin_100 : decode cX2_makeJoin 100 = .ok (.iload_n 2, 1) := by decide +kernel
theorem dX2_makeJoin_101 : decode cX2_makeJoin 101 = .ok (.invokevirtual 109, 3) := by decide +kernel
theorem dX2_makeJoin_104 : decode cX2_makeJoin 104 = .ok (.bipush 20, 2) := by decide +kernel
theorem dX2_makeJoin_106 : decode cX2_makeJoin 106 = .ok (.lshl, 1) := by decide +kernel
theorem dX2_makeJoin_107 : decode cX2_makeJoin 107 = .ok (.aload_n 0, 1) := by decide +kernel
theorem dX2_makeJoin_108 : decode cX2_makeJoin 108 = .ok (.iload_n 3, 1) := by decide +kernel
theorem dX2_makeJoin_109 : decode cX2_makeJoin 109 = .ok (.invokevirtual 109, 3) := by decide +kernel
theorem dX2_makeJoin_112 : decode cX2_makeJoin 112 = .ok (.lor, 1) := by decide +kernel
theorem dX2_makeJoin_113 : decode cX2_makeJoin 113 = .ok (.lastore, 1) := by decide +kernel
theorem dX2_makeJoin_114 : decode cX2_makeJoin 114 = .ok (.aload_n 0, 1) := by decide +kernel
theorem dX2_makeJoin_115 : decode cX2_makeJoin 115 = .ok (.getfield 42, 3) := by decide +kernel
theorem dX2_makeJoin_118 : decode cX2_makeJoin 118 = .ok (.iload_n 1, 1) := by decide +kernel
theorem dX2_makeJoin_119 : decode cX2_makeJoin 119 = .ok (.aload_n 0, 1) := by decide +kernel
theorem dX2_makeJoin_120 : decode cX2_makeJoin 120 = .ok (.getfield 60, 3) := by decide +kernel
theorem dX2_makeJoin_123 : decode cX2_makeJoin 123 = .ok (.iload_n 2, 1) := by decide +kernel
theorem dX2_makeJoin_124 : decode cX2_makeJoin 124 = .ok (.iaload, 1) := by decide +kernel
theorem dX2_makeJoin_125 : decode cX2_makeJoin 125 = .ok (.iastore, 1) := by decide +kernel
theorem dX2_makeJoin_126 : decode cX2_makeJoin 126 = .ok (.aload_n 0, 1) := by decide +kernel
theorem dX2_makeJoin_127 : decode cX2_makeJoin 127 = .ok (.getfield 45, 3) := by decide +kernel
theorem dX2_makeJoin_130 : decode cX2_makeJoin 130 = .ok (.iload_n 1, 1) := by decide +kernel
theorem dX2_makeJoin_131 : decode cX2_makeJoin 131 = .ok (.aload_n 0, 1) := by decide +kernel
theorem dX2_makeJoin_132 : decode cX2_makeJoin 132 = .ok (.getfield 60, 3) := by decide +kernel
theorem dX2_makeJoin_135 : decode cX2_makeJoin 135 = .ok (.iload_n 3, 1) := by decide +kernel
theorem dX2_makeJoin_136 : decode cX2_makeJoin 136 = .ok (.iaload, 1) := by decide +kernel
theorem dX2_makeJoin_137 : decode cX2_makeJoin 137 = .ok (.iastore, 1) := by decide +kernel
theorem dX2_makeJoin_138 : decode cX2_makeJoin 138 = .ok (.aload_n 0, 1) := by decide +kernel
theorem dX2_makeJoin_139 : decode cX2_makeJoin 139 = .ok (.getfield 39, 3) := by decide +kernel
theorem dX2_makeJoin_142 : decode cX2_makeJoin 142 = .ok (.iload_n 1, 1) := by decide +kernel
theorem dX2_makeJoin_143 : decode cX2_makeJoin 143 = .ok (.aload_n 0, 1) := by decide +kernel
theorem dX2_makeJoin_144 : decode cX2_makeJoin 144 = .ok (.aload_n 0, 1) := by decide +kernel
theorem dX2_makeJoin_145 : decode cX2_makeJoin 145 = .ok (.getfield 60, 3) := by decide +kernel
theorem dX2_makeJoin_148 : decode cX2_makeJoin 148 = .ok (.iload_n 2, 1) := by decide +kernel
theorem dX2_makeJoin_149 : decode cX2_makeJoin 149 = .ok (.iaload, 1) := by decide +kernel
theorem dX2_makeJoin_150 : decode cX2_makeJoin 150 = .ok (.invokevirtual 113, 3) := by decide +kernel
theorem dX2_makeJoin_153 : decode cX2_makeJoin 153 = .ok (.aload_n 0, 1) := by decide +kernel
theorem dX2_makeJoin_154 : decode cX2_makeJoin 154 = .ok (.aload_n 0, 1) := by decide +kernel
theorem dX2_makeJoin_155 : decode cX2_makeJoin 155 = .ok (.getfield 60, 3) := by decide +kernel
theorem dX2_makeJoin_158 : decode cX2_makeJoin 158 = .ok (.iload_n 3, 1) := by decide +kernel
theorem dX2_makeJoin_159 : decode cX2_makeJoin 159 = .ok (.iaload, 1) := by decide +kernel
theorem dX2_makeJoin_160 : decode cX2_makeJoin 160 = .ok (.invokevirtual 113, 3) := by decide +kernel
theorem dX2_makeJoin_163 : decode cX2_makeJoin 163 = .ok (.ior, 1) := by decide +kernel
theorem dX2_makeJoin_164 : decode cX2_makeJoin 164 = .ok (.iastore, 1) := by decide +kernel
theorem dX2_makeJoin_165 : decode cX2_makeJoin 165 = .ok (.aload_n 0, 1) := by decide +kernel
theorem dX2_makeJoin_166 : decode cX2_makeJoin 166 = .ok (.getfield 48, 3) := by decide +kernel
theorem dX2_makeJoin_169 : decode cX2_makeJoin 169 = .ok (.iload_n 1, 1) := by decide +kernel
theorem dX2_makeJoin_170 : decode cX2_makeJoin 170 = .ok (.iconst (-1), 1) := by decide +kernel
theorem dX2_makeJoin_171 : decode cX2_makeJoin 171 = .ok (.iastore, 1) := by decide +kernel
theorem dX2_makeJoin_172 : decode cX2_makeJoin 172 = .ok (.aload_n 0, 1) := by decide +kernel
theorem dX2_makeJoin_173 : decode cX2_makeJoin 173 = .ok (.aload_n 0, 1) := by decide +kernel
theorem dX2_makeJoin_174 : decode cX2_makeJoin 174 = .ok (.getfield 42, 3) := by decide +kernel
theorem dX2_makeJoin_177 : decode cX2_makeJoin 177 = .ok (.iload_n 1, 1) := by decide +kernel
theorem dX2_makeJoin_178 : decode cX2_makeJoin 178 = .ok (.iaload, 1) := by decide +kernel
theorem dX2_makeJoin_179 : decode cX2_makeJoin 179 = .ok (.iload_n 1, 1) := by decide +kernel
theorem dX2_makeJoin_180 : decode cX2_makeJoin 180 = .ok (.invokevirtual 116, 3) := by decide +kernel
theorem dX2_makeJoin_183 : decode cX2_makeJoin 183 = .ok (.aload_n 0, 1) := by decide +kernel
theorem dX2_makeJoin_184 : decode cX2_makeJoin 184 = .ok (.aload_n 0, 1) := by decide +kernel
theorem dX2_makeJoin_185 : decode cX2_makeJoin 185 = .ok (.getfield 45, 3) := by decide +kernel
theorem dX2_makeJoin_188 : decode cX2_makeJoin 188 = .ok (.iload_n 1, 1) := by decide +kernel
theorem dX2_makeJoin_189 : decode cX2_makeJoin 189 = .ok (.iaload, 1) := by decide +kernel
theorem dX2_makeJoin_190 : decode cX2_makeJoin 190 = .ok (.iload_n 1, 1) := by decide +kernel
theorem dX2_makeJoin_191 : decode cX2_makeJoin 191 = .ok (.invokevirtual 116, 3) := by decide +kernel
theorem dX2_makeJoin_194 : decode cX2_makeJoin 194 = .ok (.iconst 0, 1) := by decide +kernel
theorem dX2_makeJoin_195 : decode cX2_makeJoin 195 = .ok (.istore 4, 2) := by decide +kernel
theorem dX2_makeJoin_197 : decode cX2_makeJoin 197 = .ok (.iload 4, 2) := by decide +kernel
theorem dX2_makeJoin_199 : decode cX2_makeJoin 199 = .ok (.aload_n 0, 1) := by decide +kernel
theorem dX2_makeJoin_200 : decode cX2_makeJoin 200 = .ok (.getfield 12, 3) := by decide +kernel
theorem dX2_makeJoin_203 : decode cX2_makeJoin 203 = .ok (.getfield 66, 3) := by decide +kernel
theorem dX2_makeJoin_206 : decode cX2_makeJoin 206 = .ok (.if_icmp .ge 34, 3) := by decide +kernel
theorem dX2_makeJoin_209 : decode cX2_makeJoin 209 = .ok (.aload_n 0, 1) := by decide +kernel
theorem dX2_makeJoin_210 : decode cX2_makeJoin 210 = .ok (.getfield 39, 3) := by decide +kernel
theorem dX2_makeJoin_213 : decode cX2_makeJoin 213 = .ok (.iload_n 1, 1) := by decide +kernel
theorem dX2_makeJoin_214 : decode cX2_makeJoin 214 = .ok (.iaload, 1) := by decide +kernel
theorem dX2_makeJoin_215 : decode cX2_makeJoin 215 = .ok (.iload 4, 2) := by decide +kernel
theorem dX2_makeJoin_217 : decode cX2_makeJoin 217 = .ok (.invokestatic 83, 3) := by decide +kernel
theorem dX2_makeJoin_220 : decode cX2_makeJoin 220 = .ok (.ifCond .eq 14, 3) := by decide +kernel
theorem dX2_makeJoin_223 : decode cX2_makeJoin 223 = .ok (.aload_n 0, 1) := by decide +kernel
theorem dX2_makeJoin_224 : decode cX2_makeJoin 224 = .ok (.getfield 60, 3) := by decide +kernel
theorem dX2_makeJoin_227 : decode cX2_makeJoin 227 = .ok (.iload 4, 2) := by decide +kernel
theorem dX2_makeJoin_229 : decode cX2_makeJoin 229 = .ok (.bipush 100, 2) := by decide +kernel
theorem dX2_makeJoin_231 : decode cX2_makeJoin 231 = .ok (.iload_n 1, 1) := by decide +kernel
theorem dX2_makeJoin_232 : decode cX2_makeJoin 232 = .ok (.iadd, 1) := by decide +kernel
theorem dX2_makeJoin_233 : decode cX2_makeJoin 233 = .ok (.iastore, 1) := by decide +kernel
theorem dX2_makeJoin_234 : decode cX2_makeJoin 234 = .ok (.iinc 4 1, 3) := by decide +kernel
theorem dX2_makeJoin_237 : decode cX2_makeJoin 237 = .ok (.goto (-40), 3) := by decide +kernel
theorem dX2_makeJoin_240 : decode cX2_makeJoin 240 = .ok (.return_, 1) := by decide +kernel
theorem dX2_placeOf_0 : decode cX2_placeOf 0 = .ok (.aload_n 0, 1) := by decide +kernel
theorem dX2_placeOf_1 : decode cX2_placeOf 1 = .ok (.getfield 12, 3) := by decide +kernel
theorem dX2_placeOf_4 : decode cX2_placeOf 4 = .ok (.getfield 120, 3) := by decide +kernel
theorem dX2_placeOf_7 : decode cX2_placeOf 7 = .ok (.iload_n 1, 1) := by decide +kernel
theorem dX2_placeOf_8 : decode cX2_placeOf 8 = .ok (.iaload, 1) := by decide +kernel
theorem dX2_placeOf_9 : decode cX2_placeOf 9 = .ok (.i2l, 1) := by decide +kernel
theorem dX2_placeOf_10 : decode cX2_placeOf 10 = .ok (.bipush 10, 2) := by decide +kernel
theorem dX2_placeOf_12 : decode cX2_placeOf 12 = .ok (.lshl, 1) := by decide +kernel
theorem dX2_placeOf_13 : decode cX2_placeOf 13 = .ok (.aload_n 0, 1) := by decide +kernel
theorem dX2_placeOf_14 : decode cX2_placeOf 14 = .ok (.getfield 12, 3) := by decide +kernel
theorem dX2_placeOf_17 : decode cX2_placeOf 17 = .ok (.getfield 123, 3) := by decide +kernel
theorem dX2_placeOf_20 : decode cX2_placeOf 20 = .ok (.iload_n 1, 1) := by decide +kernel
theorem dX2_placeOf_21 : decode cX2_placeOf 21 = .ok (.iaload, 1) := by decide +kernel
theorem dX2_placeOf_22 : decode cX2_placeOf 22 = .ok (.i2l, 1) := by decide +kernel
theorem dX2_placeOf_23 : decode cX2_placeOf 23 = .ok (.lor, 1) := by decide +kernel
theorem dX2_placeOf_24 : decode cX2_placeOf 24 = .ok (.lreturn, 1) := by decide +kernel
theorem dX2_putBelow_0 : decode cX2_putBelow 0 = .ok (.iload_n 1, 1) := by decide +kernel
theorem dX2_putBelow_1 : decode cX2_putBelow 1 = .ok (.invokestatic 126, 3) := by decide +kernel
theorem dX2_putBelow_4 : decode cX2_putBelow 4 = .ok (.istore_n 3, 1) := by decide +kernel
theorem dX2_putBelow_5 : decode cX2_putBelow 5 = .ok (.iload_n 3, 1) := by decide +kernel
theorem dX2_putBelow_6 : decode cX2_putBelow 6 = .ok (.iconst (-1), 1) := by decide +kernel
theorem dX2_putBelow_7 : decode cX2_putBelow 7 = .ok (.if_icmp .eq 13, 3) := by decide +kernel
theorem dX2_putBelow_10 : decode cX2_putBelow 10 = .ok (.aload_n 0, 1) := by decide +kernel
theorem dX2_putBelow_11 : decode cX2_putBelow 11 = .ok (.getfield 48, 3) := by decide +kernel
theorem dX2_putBelow_14 : decode cX2_putBelow 14 = .ok (.iload_n 3, 1) := by decide +kernel
theorem dX2_putBelow_15 : decode cX2_putBelow 15 = .ok (.iload_n 2, 1) := by decide +kernel
theorem dX2_putBelow_16 : decode cX2_putBelow 16 = .ok (.iastore, 1) := by decide +kernel
theorem dX2_putBelow_17 : decode cX2_putBelow 17 = .ok (.goto 20, 3) := by decide +kernel
theorem dX2_putBelow_20 : decode cX2_putBelow 20 = .ok (.iload_n 1, 1) := by decide +kernel
theorem dX2_putBelow_21 : decode cX2_putBelow 21 = .ok (.ifCond .lt 16, 3) := by decide +kernel
theorem dX2_putBelow_24 : decode cX2_putBelow 24 = .ok (.iload_n 1, 1) := by decide +kernel
theorem dX2_putBelow_25 : decode cX2_putBelow 25 = .ok (.bipush 24, 2) := by decide +kernel
theorem dX2_putBelow_27 : decode cX2_putBelow 27 = .ok (.if_icmp .ge 10, 3) := by decide +kernel
theorem dX2_putBelow_30 : decode cX2_putBelow 30 = .ok (.aload_n 0, 1) := by decide +kernel
theorem dX2_putBelow_31 : decode cX2_putBelow 31 = .ok (.getfield 51, 3) := by decide +kernel
theorem dX2_putBelow_34 : decode cX2_putBelow 34 = .ok (.iload_n 1, 1) := by decide +kernel
theorem dX2_putBelow_35 : decode cX2_putBelow 35 = .ok (.iload_n 2, 1) := by decide +kernel
theorem dX2_putBelow_36 : decode cX2_putBelow 36 = .ok (.iastore, 1) := by decide +kernel
theorem dX2_putBelow_37 : decode cX2_putBelow 37 = .ok (.return_, 1) := by decide +kernel
theorem dX2_joinOf_0 : decode cX2_joinOf 0 = .ok (.iload_n 0, 1) := by decide +kernel
theorem dX2_joinOf_1 : decode cX2_joinOf 1 = .ok (.bipush 100, 2) := by decide +kernel
theorem dX2_joinOf_3 : decode cX2_joinOf 3 = .ok (.if_icmp .lt 16, 3) := by decide +kernel
theorem dX2_joinOf_6 : decode cX2_joinOf 6 = .ok (.iload_n 0, 1) := by decide +kernel
theorem dX2_joinOf_7 : decode cX2_joinOf 7 = .ok (.bipush 124, 2) := by decide +kernel
theorem dX2_joinOf_9 : decode cX2_joinOf 9 = .ok (.if_icmp .ge 10, 3) := by decide +kernel
theorem dX2_joinOf_12 : decode cX2_joinOf 12 = .ok (.iload_n 0, 1) := by decide +kernel
theorem dX2_joinOf_13 : decode cX2_joinOf 13 = .ok (.bipush 100, 2) := by decide +kernel
theorem dX2_joinOf_15 : decode cX2_joinOf 15 = .ok (.isub, 1) := by decide +kernel
theorem dX2_joinOf_16 : decode cX2_joinOf 16 = .ok (.goto 4, 3) := by decide +kernel
theorem dX2_joinOf_19 : decode cX2_joinOf 19 = .ok (.iconst (-1), 1) := by decide +kernel
theorem dX2_joinOf_20 : decode cX2_joinOf 20 = .ok (.ireturn, 1) := by decide +kernel
theorem dX2_setOf_0 : decode cX2_setOf 0 = .ok (.iload_n 1, 1) := by decide +kernel
theorem dX2_setOf_1 : decode cX2_setOf 1 = .ok (.invokestatic 126, 3) := by decide +kernel
theorem dX2_setOf_4 : decode cX2_setOf 4 = .ok (.istore_n 2, 1) := by decide +kernel
theorem dX2_setOf_5 : decode cX2_setOf 5 = .ok (.iload_n 2, 1) := by decide +kernel
theorem dX2_setOf_6 : decode cX2_setOf 6 = .ok (.iconst (-1), 1) := by decide +kernel
theorem dX2_setOf_7 : decode cX2_setOf 7 = .ok (.if_icmp .eq 12, 3) := by decide +kernel
theorem dX2_setOf_10 : decode cX2_setOf 10 = .ok (.aload_n 0, 1) := by decide +kernel
theorem dX2_setOf_11 : decode cX2_setOf 11 = .ok (.getfield 39, 3) := by decide +kernel
theorem dX2_setOf_14 : decode cX2_setOf 14 = .ok (.iload_n 2, 1) := by decide +kernel
theorem dX2_setOf_15 : decode cX2_setOf 15 = .ok (.iaload, 1) := by decide +kernel
theorem dX2_setOf_16 : decode cX2_setOf 16 = .ok (.goto 6, 3) := by decide +kernel
theorem dX2_setOf_19 : decode cX2_setOf 19 = .ok (.iconst 1, 1) := by decide +kernel
theorem dX2_setOf_20 : decode cX2_setOf 20 = .ok (.iload_n 1, 1) := by decide +kernel
theorem dX2_setOf_21 : decode cX2_setOf 21 = .ok (.ishl, 1) := by decide +kernel
theorem dX2_setOf_22 : decode cX2_setOf 22 = .ok (.ireturn, 1) := by decide +kernel
theorem dX2_lastsOf_0 : decode cX2_lastsOf 0 = .ok (.iload_n 1, 1) := by decide +kernel
theorem dX2_lastsOf_1 : decode cX2_lastsOf 1 = .ok (.invokestatic 126, 3) := by decide +kernel
theorem dX2_lastsOf_4 : decode cX2_lastsOf 4 = .ok (.istore_n 2, 1) := by decide +kernel
theorem dX2_lastsOf_5 : decode cX2_lastsOf 5 = .ok (.aload_n 0, 1) := by decide +kernel
theorem dX2_lastsOf_6 : decode cX2_lastsOf 6 = .ok (.iload_n 1, 1) := by decide +kernel
theorem dX2_lastsOf_7 : decode cX2_lastsOf 7 = .ok (.invokevirtual 129, 3) := by decide +kernel
theorem dX2_lastsOf_10 : decode cX2_lastsOf 10 = .ok (.istore_n 3, 1) := by decide +kernel
theorem dX2_lastsOf_11 : decode cX2_lastsOf 11 = .ok (.iload_n 3, 1) := by decide +kernel
theorem dX2_lastsOf_12 : decode cX2_lastsOf 12 = .ok (.ifCond .lt 11, 3) := by decide +kernel
theorem dX2_lastsOf_15 : decode cX2_lastsOf 15 = .ok (.iload_n 3, 1) := by decide +kernel
theorem dX2_lastsOf_16 : decode cX2_lastsOf 16 = .ok (.aload_n 0, 1) := by decide +kernel
theorem dX2_lastsOf_17 : decode cX2_lastsOf 17 = .ok (.getfield 18, 3) := by decide +kernel
theorem dX2_lastsOf_20 : decode cX2_lastsOf 20 = .ok (.if_icmp .lt 5, 3) := by decide +kernel
theorem dX2_lastsOf_23 : decode cX2_lastsOf 23 = .ok (.iconst 0, 1) := by decide +kernel
theorem dX2_lastsOf_24 : decode cX2_lastsOf 24 = .ok (.ireturn, 1) := by decide +kernel
theorem dX2_lastsOf_25 : decode cX2_lastsOf 25 = .ok (.iload_n 2, 1) := by decide +kernel
theorem dX2_lastsOf_26 : decode cX2_lastsOf 26 = .ok (.iconst (-1), 1) := by decide +kernel
theorem dX2_lastsOf_27 : decode cX2_lastsOf 27 = .ok (.if_icmp .eq 12, 3) := by decide +kernel
theorem dX2_lastsOf_30 : decode cX2_lastsOf 30 = .ok (.aload_n 0, 1) := by decide +kernel
theorem dX2_lastsOf_31 : decode cX2_lastsOf 31 = .ok (.getfield 30, 3) := by decide +kernel
theorem dX2_lastsOf_34 : decode cX2_lastsOf 34 = .ok (.iload_n 2, 1) := by decide +kernel
theorem dX2_lastsOf_35 : decode cX2_lastsOf 35 = .ok (.iaload, 1) := by decide +kernel
theorem dX2_lastsOf_36 : decode cX2_lastsOf 36 = .ok (.goto 4, 3) := by decide +kernel
theorem dX2_lastsOf_39 : decode cX2_lastsOf 39 = .ok (.iconst 0, 1) := by decide +kernel
theorem dX2_lastsOf_40 : decode cX2_lastsOf 40 = .ok (.istore 4, 2) := by decide +kernel
theorem dX2_lastsOf_42 : decode cX2_lastsOf 42 = .ok (.aload_n 0, 1) := by decide +kernel
theorem dX2_lastsOf_43 : decode cX2_lastsOf 43 = .ok (.getfield 12, 3) := by decide +kernel
theorem dX2_lastsOf_46 : decode cX2_lastsOf 46 = .ok (.aload_n 0, 1) := by decide +kernel
theorem dX2_lastsOf_47 : decode cX2_lastsOf 47 = .ok (.iload_n 1, 1) := by decide +kernel
theorem dX2_lastsOf_48 : decode cX2_lastsOf 48 = .ok (.invokevirtual 113, 3) := by decide +kernel
theorem dX2_lastsOf_51 : decode cX2_lastsOf 51 = .ok (.invokevirtual 132, 3) := by decide +kernel
theorem dX2_lastsOf_54 : decode cX2_lastsOf 54 = .ok (.aload_n 0, 1) := by decide +kernel
theorem dX2_lastsOf_55 : decode cX2_lastsOf 55 = .ok (.getfield 30, 3) := by decide +kernel
theorem dX2_lastsOf_58 : decode cX2_lastsOf 58 = .ok (.iload_n 3, 1) := by decide +kernel
theorem dX2_lastsOf_59 : decode cX2_lastsOf 59 = .ok (.iaload, 1) := by decide +kernel
theorem dX2_lastsOf_60 : decode cX2_lastsOf 60 = .ok (.iload 4, 2) := by decide +kernel
theorem dX2_lastsOf_62 : decode cX2_lastsOf 62 = .ok (.isub, 1) := by decide +kernel
theorem dX2_lastsOf_63 : decode cX2_lastsOf 63 = .ok (.imul, 1) := by decide +kernel
theorem dX2_lastsOf_64 : decode cX2_lastsOf 64 = .ok (.ireturn, 1) := by decide +kernel
theorem dX2_joinAbove_0 : decode cX2_joinAbove 0 = .ok (.iload_n 1, 1) := by decide +kernel
theorem dX2_joinAbove_1 : decode cX2_joinAbove 1 = .ok (.invokestatic 126, 3) := by decide +kernel
theorem dX2_joinAbove_4 : decode cX2_joinAbove 4 = .ok (.istore_n 2, 1) := by decide +kernel
theorem dX2_joinAbove_5 : decode cX2_joinAbove 5 = .ok (.iload_n 2, 1) := by decide +kernel
theorem dX2_joinAbove_6 : decode cX2_joinAbove 6 = .ok (.iconst (-1), 1) := by decide +kernel
theorem dX2_joinAbove_7 : decode cX2_joinAbove 7 = .ok (.if_icmp .eq 10, 3) := by decide +kernel
theorem dX2_joinAbove_10 : decode cX2_joinAbove 10 = .ok (.aload_n 0, 1) := by decide +kernel
theorem dX2_joinAbove_11 : decode cX2_joinAbove 11 = .ok (.getfield 48, 3) := by decide +kernel
theorem dX2_joinAbove_14 : decode cX2_joinAbove 14 = .ok (.iload_n 2, 1) := by decide +kernel
theorem dX2_joinAbove_15 : decode cX2_joinAbove 15 = .ok (.iaload, 1) := by decide +kernel
theorem dX2_joinAbove_16 : decode cX2_joinAbove 16 = .ok (.ireturn, 1) := by decide +kernel
theorem dX2_joinAbove_17 : decode cX2_joinAbove 17 = .ok (.iload_n 1, 1) := by decide +kernel
theorem dX2_joinAbove_18 : decode cX2_joinAbove 18 = .ok (.ifCond .lt 18, 3) := by decide +kernel
theorem dX2_joinAbove_21 : decode cX2_joinAbove 21 = .ok (.iload_n 1, 1) := by decide +kernel
theorem dX2_joinAbove_22 : decode cX2_joinAbove 22 = .ok (.bipush 24, 2) := by decide +kernel
theorem dX2_joinAbove_24 : decode cX2_joinAbove 24 = .ok (.if_icmp .ge 12, 3) := by decide +kernel
theorem dX2_joinAbove_27 : decode cX2_joinAbove 27 = .ok (.aload_n 0, 1) := by decide +kernel
theorem dX2_joinAbove_28 : decode cX2_joinAbove 28 = .ok (.getfield 51, 3) := by decide +kernel
theorem dX2_joinAbove_31 : decode cX2_joinAbove 31 = .ok (.iload_n 1, 1) := by decide +kernel
theorem dX2_joinAbove_32 : decode cX2_joinAbove 32 = .ok (.iaload, 1) := by decide +kernel
theorem dX2_joinAbove_33 : decode cX2_joinAbove 33 = .ok (.goto 4, 3) := by decide +kernel
theorem dX2_joinAbove_36 : decode cX2_joinAbove 36 = .ok (.iconst (-1), 1) := by decide +kernel
theorem dX2_joinAbove_37 : decode cX2_joinAbove 37 = .ok (.ireturn, 1) := by decide +kernel
theorem dX2_partOf_0 : decode cX2_partOf 0 = .ok (.iload_n 2, 1) := by decide +kernel
theorem dX2_partOf_1 : decode cX2_partOf 1 = .ok (.aload_n 0, 1) := by decide +kernel
theorem dX2_partOf_2 : decode cX2_partOf 2 = .ok (.getfield 18, 3) := by decide +kernel
theorem dX2_partOf_5 : decode cX2_partOf 5 = .ok (.invokestatic 99, 3) := by decide +kernel
theorem dX2_partOf_8 : decode cX2_partOf 8 = .ok (.iconst 1, 1) := by decide +kernel
theorem dX2_partOf_9 : decode cX2_partOf 9 = .ok (.isub, 1) := by decide +kernel
theorem dX2_partOf_10 : decode cX2_partOf 10 = .ok (.istore_n 3, 1) := by decide +kernel
theorem dX2_partOf_11 : decode cX2_partOf 11 = .ok (.iload_n 3, 1) := by decide +kernel
theorem dX2_partOf_12 : decode cX2_partOf 12 = .ok (.ifCond .lt 29, 3) := by decide +kernel
theorem dX2_partOf_15 : decode cX2_partOf 15 = .ok (.aload_n 0, 1) := by decide +kernel
theorem dX2_partOf_16 : decode cX2_partOf 16 = .ok (.getfield 39, 3) := by decide +kernel
theorem dX2_partOf_19 : decode cX2_partOf 19 = .ok (.iload_n 3, 1) := by decide +kernel
theorem dX2_partOf_20 : decode cX2_partOf 20 = .ok (.iaload, 1) := by decide +kernel
theorem dX2_partOf_21 : decode cX2_partOf 21 = .ok (.iload_n 1, 1) := by decide +kernel
theorem dX2_partOf_22 : decode cX2_partOf 22 = .ok (.invokestatic 83, 3) := by decide +kernel
theorem dX2_partOf_25 : decode cX2_partOf 25 = .ok (.ifCond .eq 10, 3) := by decide +kernel
theorem dX2_partOf_28 : decode cX2_partOf 28 = .ok (.aload_n 0, 1) := by decide +kernel
theorem dX2_partOf_29 : decode cX2_partOf 29 = .ok (.getfield 39, 3) := by decide +kernel
theorem dX2_partOf_32 : decode cX2_partOf 32 = .ok (.iload_n 3, 1) := by decide +kernel
theorem dX2_partOf_33 : decode cX2_partOf 33 = .ok (.iaload, 1) := by decide +kernel
theorem dX2_partOf_34 : decode cX2_partOf 34 = .ok (.ireturn, 1) := by decide +kernel
theorem dX2_partOf_35 : decode cX2_partOf 35 = .ok (.iinc 3 (-1), 3) := by decide +kernel
theorem dX2_partOf_38 : decode cX2_partOf 38 = .ok (.goto (-27), 3) := by decide +kernel
theorem dX2_partOf_41 : decode cX2_partOf 41 = .ok (.iconst 1, 1) := by decide +kernel
theorem dX2_partOf_42 : decode cX2_partOf 42 = .ok (.iload_n 1, 1) := by decide +kernel
theorem dX2_partOf_43 : decode cX2_partOf 43 = .ok (.ishl, 1) := by decide +kernel
theorem dX2_partOf_44 : decode cX2_partOf 44 = .ok (.ireturn, 1) := by decide +kernel
theorem dX2_joinsWithin_0 : decode cX2_joinsWithin 0 = .ok (.sipush 1024, 3) := by decide +kernel
theorem dX2_joinsWithin_3 : decode cX2_joinsWithin 3 = .ok (.iload_n 1, 1) := by decide +kernel
theorem dX2_joinsWithin_4 : decode cX2_joinsWithin 4 = .ok (.ishr, 1) := by decide +kernel
theorem dX2_joinsWithin_5 : decode cX2_joinsWithin 5 = .ok (.istore_n 2, 1) := by decide +kernel
theorem dX2_joinsWithin_6 : decode cX2_joinsWithin 6 = .ok (.iconst 0, 1) := by decide +kernel
theorem dX2_joinsWithin_7 : decode cX2_joinsWithin 7 = .ok (.istore_n 3, 1) := by decide +kernel
theorem dX2_joinsWithin_8 : decode cX2_joinsWithin 8 = .ok (.iload_n 3, 1) := by decide +kernel
theorem dX2_joinsWithin_9 : decode cX2_joinsWithin 9 = .ok (.aload_n 0, 1) := by decide +kernel
theorem dX2_joinsWithin_10 : decode cX2_joinsWithin 10 = .ok (.getfield 18, 3) := by decide +kernel
theorem dX2_joinsWithin_13 : decode cX2_joinsWithin 13 = .ok (.if_icmp .ge 21, 3) := by decide +kernel
theorem dX2_joinsWithin_16 : decode cX2_joinsWithin 16 = .ok (.aload_n 0, 1) := by decide +kernel
theorem dX2_joinsWithin_17 : decode cX2_joinsWithin 17 = .ok (.getfield 26, 3) := by decide +kernel
theorem dX2_joinsWithin_20 : decode cX2_joinsWithin 20 = .ok (.iload_n 3, 1) := by decide +kernel
theorem dX2_joinsWithin_21 : decode cX2_joinsWithin 21 = .ok (.iaload, 1) := by decide +kernel
theorem dX2_joinsWithin_22 : decode cX2_joinsWithin 22 = .ok (.iload_n 2, 1) := by decide +kernel
theorem dX2_joinsWithin_23 : decode cX2_joinsWithin 23 = .ok (.iload_n 2, 1) := by decide +kernel
theorem dX2_joinsWithin_24 : decode cX2_joinsWithin 24 = .ok (.imul, 1) := by decide +kernel
theorem dX2_joinsWithin_25 : decode cX2_joinsWithin 25 = .ok (.if_icmp .gt 9, 3) := by decide +kernel
theorem dX2_joinsWithin_28 : decode cX2_joinsWithin 28 = .ok (.iinc 3 1, 3) := by decide +kernel
theorem dX2_joinsWithin_31 : decode cX2_joinsWithin 31 = .ok (.goto (-23), 3) := by decide +kernel
theorem dX2_joinsWithin_34 : decode cX2_joinsWithin 34 = .ok (.iload_n 3, 1) := by decide +kernel
theorem dX2_joinsWithin_35 : decode cX2_joinsWithin 35 = .ok (.ireturn, 1) := by decide +kernel
theorem dX2_meeting_0 : decode cX2_meeting 0 = .ok (.iconst 0, 1) := by decide +kernel
theorem dX2_meeting_1 : decode cX2_meeting 1 = .ok (.istore_n 3, 1) := by decide +kernel
theorem dX2_meeting_2 : decode cX2_meeting 2 = .ok (.iload_n 3, 1) := by decide +kernel
theorem dX2_meeting_3 : decode cX2_meeting 3 = .ok (.aload_n 0, 1) := by decide +kernel
theorem dX2_meeting_4 : decode cX2_meeting 4 = .ok (.getfield 18, 3) := by decide +kernel
theorem dX2_meeting_7 : decode cX2_meeting 7 = .ok (.if_icmp .ge 42, 3) := by decide +kernel
theorem dX2_meeting_10 : decode cX2_meeting 10 = .ok (.iload_n 1, 1) := by decide +kernel
theorem dX2_meeting_11 : decode cX2_meeting 11 = .ok (.iload_n 2, 1) := by decide +kernel
theorem dX2_meeting_12 : decode cX2_meeting 12 = .ok (.if_icmp .eq 37, 3) := by decide +kernel
theorem dX2_meeting_15 : decode cX2_meeting 15 = .ok (.aload_n 0, 1) := by decide +kernel
theorem dX2_meeting_16 : decode cX2_meeting 16 = .ok (.getfield 39, 3) := by decide +kernel
theorem dX2_meeting_19 : decode cX2_meeting 19 = .ok (.iload_n 3, 1) := by decide +kernel
theorem dX2_meeting_20 : decode cX2_meeting 20 = .ok (.iaload, 1) := by decide +kernel
theorem dX2_meeting_21 : decode cX2_meeting 21 = .ok (.iload_n 1, 1) := by decide +kernel
theorem dX2_meeting_22 : decode cX2_meeting 22 = .ok (.invokestatic 83, 3) := by decide +kernel
theorem dX2_meeting_25 : decode cX2_meeting 25 = .ok (.ifCond .eq 18, 3) := by decide +kernel
theorem dX2_meeting_28 : decode cX2_meeting 28 = .ok (.aload_n 0, 1) := by decide +kernel
theorem dX2_meeting_29 : decode cX2_meeting 29 = .ok (.getfield 39, 3) := by decide +kernel
theorem dX2_meeting_32 : decode cX2_meeting 32 = .ok (.iload_n 3, 1) := by decide +kernel
theorem dX2_meeting_33 : decode cX2_meeting 33 = .ok (.iaload, 1) := by decide +kernel
theorem dX2_meeting_34 : decode cX2_meeting 34 = .ok (.iload_n 2, 1) := by decide +kernel
theorem dX2_meeting_35 : decode cX2_meeting 35 = .ok (.invokestatic 83, 3) := by decide +kernel
theorem dX2_meeting_38 : decode cX2_meeting 38 = .ok (.ifCond .eq 5, 3) := by decide +kernel
theorem dX2_meeting_41 : decode cX2_meeting 41 = .ok (.iload_n 3, 1) := by decide +kernel
theorem dX2_meeting_42 : decode cX2_meeting 42 = .ok (.ireturn, 1) := by decide +kernel
theorem dX2_meeting_43 : decode cX2_meeting 43 = .ok (.iinc 3 1, 3) := by decide +kernel
theorem dX2_meeting_46 : decode cX2_meeting 46 = .ok (.goto (-44), 3) := by decide +kernel
theorem dX2_meeting_49 : decode cX2_meeting 49 = .ok (.iconst (-1), 1) := by decide +kernel
theorem dX2_meeting_50 : decode cX2_meeting 50 = .ok (.ireturn, 1) := by decide +kernel
theorem dX2_makerOf_0 : decode cX2_makerOf 0 = .ok (.iconst 0, 1) := by decide +kernel
theorem dX2_makerOf_1 : decode cX2_makerOf 1 = .ok (.istore_n 2, 1) := by decide +kernel
theorem dX2_makerOf_2 : decode cX2_makerOf 2 = .ok (.iload_n 2, 1) := by decide +kernel
theorem dX2_makerOf_3 : decode cX2_makerOf 3 = .ok (.aload_n 0, 1) := by decide +kernel
theorem dX2_makerOf_4 : decode cX2_makerOf 4 = .ok (.getfield 18, 3) := by decide +kernel
theorem dX2_makerOf_7 : decode cX2_makerOf 7 = .ok (.if_icmp .ge 21, 3) := by decide +kernel
theorem dX2_makerOf_10 : decode cX2_makerOf 10 = .ok (.aload_n 0, 1) := by decide +kernel
theorem dX2_makerOf_11 : decode cX2_makerOf 11 = .ok (.getfield 39, 3) := by decide +kernel
theorem dX2_makerOf_14 : decode cX2_makerOf 14 = .ok (.iload_n 2, 1) := by decide +kernel
theorem dX2_makerOf_15 : decode cX2_makerOf 15 = .ok (.iaload, 1) := by decide +kernel
theorem dX2_makerOf_16 : decode cX2_makerOf 16 = .ok (.iload_n 1, 1) := by decide +kernel
theorem dX2_makerOf_17 : decode cX2_makerOf 17 = .ok (.if_icmp .ne 5, 3) := by decide +kernel
theorem dX2_makerOf_20 : decode cX2_makerOf 20 = .ok (.iload_n 2, 1) := by decide +kernel
theorem dX2_makerOf_21 : decode cX2_makerOf 21 = .ok (.ireturn, 1) := by decide +kernel
theorem dX2_makerOf_22 : decode cX2_makerOf 22 = .ok (.iinc 2 1, 3) := by decide +kernel
theorem dX2_makerOf_25 : decode cX2_makerOf 25 = .ok (.goto (-23), 3) := by decide +kernel
theorem dX2_makerOf_28 : decode cX2_makerOf 28 = .ok (.iconst (-1), 1) := by decide +kernel
theorem dX2_makerOf_29 : decode cX2_makerOf 29 = .ok (.ireturn, 1) := by decide +kernel
theorem dX2_linksOf_0 : decode cX2_linksOf 0 = .ok (.iconst 0, 1) := by decide +kernel
theorem dX2_linksOf_1 : decode cX2_linksOf 1 = .ok (.istore_n 2, 1) := by decide +kernel
theorem dX2_linksOf_2 : decode cX2_linksOf 2 = .ok (.iconst 0, 1) := by decide +kernel
theorem dX2_linksOf_3 : decode cX2_linksOf 3 = .ok (.istore_n 3, 1) := by decide +kernel
theorem dX2_linksOf_4 : decode cX2_linksOf 4 = .ok (.iload_n 3, 1) := by decide +kernel
theorem dX2_linksOf_5 : decode cX2_linksOf 5 = .ok (.aload_n 0, 1) := by decide +kernel
theorem dX2_linksOf_6 : decode cX2_linksOf 6 = .ok (.getfield 18, 3) := by decide +kernel
theorem dX2_linksOf_9 : decode cX2_linksOf 9 = .ok (.if_icmp .ge 32, 3) := by decide +kernel
theorem dX2_linksOf_12 : decode cX2_linksOf 12 = .ok (.aload_n 0, 1) := by decide +kernel
theorem dX2_linksOf_13 : decode cX2_linksOf 13 = .ok (.getfield 33, 3) := by decide +kernel
theorem dX2_linksOf_16 : decode cX2_linksOf 16 = .ok (.iload_n 3, 1) := by decide +kernel
theorem dX2_linksOf_17 : decode cX2_linksOf 17 = .ok (.iaload, 1) := by decide +kernel
theorem dX2_linksOf_18 : decode cX2_linksOf 18 = .ok (.iload_n 1, 1) := by decide +kernel
theorem dX2_linksOf_19 : decode cX2_linksOf 19 = .ok (.if_icmp .eq 13, 3) := by decide +kernel
theorem dX2_linksOf_22 : decode cX2_linksOf 22 = .ok (.aload_n 0, 1) := by decide +kernel
theorem dX2_linksOf_23 : decode cX2_linksOf 23 = .ok (.getfield 36, 3) := by decide +kernel
theorem dX2_linksOf_26 : decode cX2_linksOf 26 = .ok (.iload_n 3, 1) := by decide +kernel
theorem dX2_linksOf_27 : decode cX2_linksOf 27 = .ok (.iaload, 1) := by decide +kernel
theorem dX2_linksOf_28 : decode cX2_linksOf 28 = .ok (.iload_n 1, 1) := by decide +kernel
theorem dX2_linksOf_29 : decode cX2_linksOf 29 = .ok (.if_icmp .ne 6, 3) := by decide +kernel
theorem dX2_linksOf_32 : decode cX2_linksOf 32 = .ok (.iinc 2 1, 3) := by decide +kernel
theorem dX2_linksOf_35 : decode cX2_linksOf 35 = .ok (.iinc 3 1, 3) := by decide +kernel
theorem dX2_linksOf_38 : decode cX2_linksOf 38 = .ok (.goto (-34), 3) := by decide +kernel
theorem dX2_linksOf_41 : decode cX2_linksOf 41 = .ok (.iload_n 2, 1) := by decide +kernel
theorem dX2_linksOf_42 : decode cX2_linksOf 42 = .ok (.ireturn, 1) := by decide +kernel
theorem dX2_mostLinks_0 : decode cX2_mostLinks 0 = .ok (.iconst 0, 1) := by decide +kernel
theorem dX2_mostLinks_1 : decode cX2_mostLinks 1 = .ok (.istore_n 1, 1) := by decide +kernel
theorem dX2_mostLinks_2 : decode cX2_mostLinks 2 = .ok (.iconst 0, 1) := by decide +kernel
theorem dX2_mostLinks_3 : decode cX2_mostLinks 3 = .ok (.istore_n 2, 1) := by decide +kernel
theorem dX2_mostLinks_4 : decode cX2_mostLinks 4 = .ok (.iload_n 2, 1) := by decide +kernel
theorem dX2_mostLinks_5 : decode cX2_mostLinks 5 = .ok (.aload_n 0, 1) := by decide +kernel
theorem dX2_mostLinks_6 : decode cX2_mostLinks 6 = .ok (.getfield 12, 3) := by decide +kernel
theorem dX2_mostLinks_9 : decode cX2_mostLinks 9 = .ok (.getfield 66, 3) := by decide +kernel
theorem dX2_mostLinks_12 : decode cX2_mostLinks 12 = .ok (.if_icmp .ge 19, 3) := by decide +kernel
theorem dX2_mostLinks_15 : decode cX2_mostLinks 15 = .ok (.iload_n 1, 1) := by decide +kernel
theorem dX2_mostLinks_16 : decode cX2_mostLinks 16 = .ok (.aload_n 0, 1) := by decide +kernel
theorem dX2_mostLinks_17 : decode cX2_mostLinks 17 = .ok (.iload_n 2, 1) := by decide +kernel
theorem dX2_mostLinks_18 : decode cX2_mostLinks 18 = .ok (.invokevirtual 135, 3) := by decide +kernel
theorem dX2_mostLinks_21 : decode cX2_mostLinks 21 = .ok (.invokestatic 101, 3) := by decide +kernel
theorem dX2_mostLinks_24 : decode cX2_mostLinks 24 = .ok (.istore_n 1, 1) := by decide +kernel
theorem dX2_mostLinks_25 : decode cX2_mostLinks 25 = .ok (.iinc 2 1, 3) := by decide +kernel
theorem dX2_mostLinks_28 : decode cX2_mostLinks 28 = .ok (.goto (-24), 3) := by decide +kernel
theorem dX2_mostLinks_31 : decode cX2_mostLinks 31 = .ok (.iload_n 1, 1) := by decide +kernel
theorem dX2_mostLinks_32 : decode cX2_mostLinks 32 = .ok (.ireturn, 1) := by decide +kernel
theorem dX2_sumAparts_0 : decode cX2_sumAparts 0 = .ok (.iconst 0, 1) := by decide +kernel
theorem dX2_sumAparts_1 : decode cX2_sumAparts 1 = .ok (.istore_n 1, 1) := by decide +kernel
theorem dX2_sumAparts_2 : decode cX2_sumAparts 2 = .ok (.iconst 0, 1) := by decide +kernel
theorem dX2_sumAparts_3 : decode cX2_sumAparts 3 = .ok (.istore_n 2, 1) := by decide +kernel
theorem dX2_sumAparts_4 : decode cX2_sumAparts 4 = .ok (.iload_n 2, 1) := by decide +kernel
theorem dX2_sumAparts_5 : decode cX2_sumAparts 5 = .ok (.aload_n 0, 1) := by decide +kernel
theorem dX2_sumAparts_6 : decode cX2_sumAparts 6 = .ok (.getfield 18, 3) := by decide +kernel
theorem dX2_sumAparts_9 : decode cX2_sumAparts 9 = .ok (.if_icmp .ge 18, 3) := by decide +kernel
theorem dX2_sumAparts_12 : decode cX2_sumAparts 12 = .ok (.iload_n 1, 1) := by decide +kernel
theorem dX2_sumAparts_13 : decode cX2_sumAparts 13 = .ok (.aload_n 0, 1) := by decide +kernel
theorem dX2_sumAparts_14 : decode cX2_sumAparts 14 = .ok (.getfield 26, 3) := by decide +kernel
theorem dX2_sumAparts_17 : decode cX2_sumAparts 17 = .ok (.iload_n 2, 1) := by decide +kernel
theorem dX2_sumAparts_18 : decode cX2_sumAparts 18 = .ok (.iaload, 1) := by decide +kernel
theorem dX2_sumAparts_19 : decode cX2_sumAparts 19 = .ok (.iadd, 1) := by decide +kernel
theorem dX2_sumAparts_20 : decode cX2_sumAparts 20 = .ok (.istore_n 1, 1) := by decide +kernel
theorem dX2_sumAparts_21 : decode cX2_sumAparts 21 = .ok (.iinc 2 1, 3) := by decide +kernel
theorem dX2_sumAparts_24 : decode cX2_sumAparts 24 = .ok (.goto (-20), 3) := by decide +kernel
theorem dX2_sumAparts_27 : decode cX2_sumAparts 27 = .ok (.iload_n 1, 1) := by decide +kernel
theorem dX2_sumAparts_28 : decode cX2_sumAparts 28 = .ok (.ireturn, 1) := by decide +kernel
theorem dX2_sumRoots_0 : decode cX2_sumRoots 0 = .ok (.iconst 0, 1) := by decide +kernel
theorem dX2_sumRoots_1 : decode cX2_sumRoots 1 = .ok (.istore_n 1, 1) := by decide +kernel
theorem dX2_sumRoots_2 : decode cX2_sumRoots 2 = .ok (.iconst 0, 1) := by decide +kernel
theorem dX2_sumRoots_3 : decode cX2_sumRoots 3 = .ok (.istore_n 2, 1) := by decide +kernel
theorem dX2_sumRoots_4 : decode cX2_sumRoots 4 = .ok (.iload_n 2, 1) := by decide +kernel
theorem dX2_sumRoots_5 : decode cX2_sumRoots 5 = .ok (.aload_n 0, 1) := by decide +kernel
theorem dX2_sumRoots_6 : decode cX2_sumRoots 6 = .ok (.getfield 18, 3) := by decide +kernel
theorem dX2_sumRoots_9 : decode cX2_sumRoots 9 = .ok (.if_icmp .ge 18, 3) := by decide +kernel
theorem dX2_sumRoots_12 : decode cX2_sumRoots 12 = .ok (.iload_n 1, 1) := by decide +kernel
theorem dX2_sumRoots_13 : decode cX2_sumRoots 13 = .ok (.aload_n 0, 1) := by decide +kernel
theorem dX2_sumRoots_14 : decode cX2_sumRoots 14 = .ok (.getfield 30, 3) := by decide +kernel
theorem dX2_sumRoots_17 : decode cX2_sumRoots 17 = .ok (.iload_n 2, 1) := by decide +kernel
theorem dX2_sumRoots_18 : decode cX2_sumRoots 18 = .ok (.iaload, 1) := by decide +kernel
theorem dX2_sumRoots_19 : decode cX2_sumRoots 19 = .ok (.iadd, 1) := by decide +kernel
theorem dX2_sumRoots_20 : decode cX2_sumRoots 20 = .ok (.istore_n 1, 1) := by decide +kernel
theorem dX2_sumRoots_21 : decode cX2_sumRoots 21 = .ok (.iinc 2 1, 3) := by decide +kernel
theorem dX2_sumRoots_24 : decode cX2_sumRoots 24 = .ok (.goto (-20), 3) := by decide +kernel
theorem dX2_sumRoots_27 : decode cX2_sumRoots 27 = .ok (.iload_n 1, 1) := by decide +kernel
theorem dX2_sumRoots_28 : decode cX2_sumRoots 28 = .ok (.ireturn, 1) := by decide +kernel
theorem dX2_hasPair_0 : decode cX2_hasPair 0 = .ok (.iconst 0, 1) := by decide +kernel
theorem dX2_hasPair_1 : decode cX2_hasPair 1 = .ok (.istore_n 3, 1) := by decide +kernel
theorem dX2_hasPair_2 : decode cX2_hasPair 2 = .ok (.iload_n 3, 1) := by decide +kernel
theorem dX2_hasPair_3 : decode cX2_hasPair 3 = .ok (.aload_n 0, 1) := by decide +kernel
theorem dX2_hasPair_4 : decode cX2_hasPair 4 = .ok (.getfield 18, 3) := by decide +kernel
theorem dX2_hasPair_7 : decode cX2_hasPair 7 = .ok (.if_icmp .ge 22, 3) := by decide +kernel
theorem dX2_hasPair_10 : decode cX2_hasPair 10 = .ok (.aload_n 0, 1) := by decide +kernel
theorem dX2_hasPair_11 : decode cX2_hasPair 11 = .ok (.getfield 54, 3) := by decide +kernel
theorem dX2_hasPair_14 : decode cX2_hasPair 14 = .ok (.iload_n 3, 1) := by decide +kernel
theorem dX2_hasPair_15 : decode cX2_hasPair 15 = .ok (.laload, 1) := by decide +kernel
theorem dX2_hasPair_16 : decode cX2_hasPair 16 = .ok (.lload_n 1, 1) := by decide +kernel
theorem dX2_hasPair_17 : decode cX2_hasPair 17 = .ok (.lcmp, 1) := by decide +kernel
theorem dX2_hasPair_18 : decode cX2_hasPair 18 = .ok (.ifCond .ne 5, 3) := by decide +kernel
theorem dX2_hasPair_21 : decode cX2_hasPair 21 = .ok (.iconst 1, 1) := by decide +kernel
theorem dX2_hasPair_22 : decode cX2_hasPair 22 = .ok (.ireturn, 1) := by decide +kernel
theorem dX2_hasPair_23 : decode cX2_hasPair 23 = .ok (.iinc 3 1, 3) := by decide +kernel
theorem dX2_hasPair_26 : decode cX2_hasPair 26 = .ok (.goto (-24), 3) := by decide +kernel
theorem dX2_hasPair_29 : decode cX2_hasPair 29 = .ok (.iconst 0, 1) := by decide +kernel
theorem dX2_hasPair_30 : decode cX2_hasPair 30 = .ok (.ireturn, 1) := by decide +kernel
theorem dX2_countUnlike_0 : decode cX2_countUnlike 0 = .ok (.iconst 0, 1) := by decide +kernel
theorem dX2_countUnlike_1 : decode cX2_countUnlike 1 = .ok (.istore_n 2, 1) := by decide +kernel
theorem dX2_countUnlike_2 : decode cX2_countUnlike 2 = .ok (.iconst 0, 1) := by decide +kernel
theorem dX2_countUnlike_3 : decode cX2_countUnlike 3 = .ok (.istore_n 3, 1) := by decide +kernel
theorem dX2_countUnlike_4 : decode cX2_countUnlike 4 = .ok (.iload_n 3, 1) := by decide +kernel
theorem dX2_countUnlike_5 : decode cX2_countUnlike 5 = .ok (.aload_n 0, 1) := by decide +kernel
theorem dX2_countUnlike_6 : decode cX2_countUnlike 6 = .ok (.getfield 18, 3) := by decide +kernel
theorem dX2_countUnlike_9 : decode cX2_countUnlike 9 = .ok (.if_icmp .ge 25, 3) := by decide +kernel
theorem dX2_countUnlike_12 : decode cX2_countUnlike 12 = .ok (.aload_n 1, 1) := by decide +kernel
theorem dX2_countUnlike_13 : decode cX2_countUnlike 13 = .ok (.aload_n 0, 1) := by decide +kernel
theorem dX2_countUnlike_14 : decode cX2_countUnlike 14 = .ok (.getfield 54, 3) := by decide +kernel
theorem dX2_countUnlike_17 : decode cX2_countUnlike 17 = .ok (.iload_n 3, 1) := by decide +kernel
theorem dX2_countUnlike_18 : decode cX2_countUnlike 18 = .ok (.laload, 1) := by decide +kernel
theorem dX2_countUnlike_19 : decode cX2_countUnlike 19 = .ok (.invokevirtual 138, 3) := by decide +kernel
theorem dX2_countUnlike_22 : decode cX2_countUnlike 22 = .ok (.ifCond .ne 6, 3) := by decide +kernel
theorem dX2_countUnlike_25 : decode cX2_countUnlike 25 = .ok (.iinc 2 1, 3) := by decide +kernel
theorem dX2_countUnlike_28 : decode cX2_countUnlike 28 = .ok (.iinc 3 1, 3) := by decide +kernel
theorem dX2_countUnlike_31 : decode cX2_countUnlike 31 = .ok (.goto (-27), 3) := by decide +kernel
theorem dX2_countUnlike_34 : decode cX2_countUnlike 34 = .ok (.iload_n 2, 1) := by decide +kernel
theorem dX2_countUnlike_35 : decode cX2_countUnlike 35 = .ok (.ireturn, 1) := by decide +kernel
theorem dX2_sameFromFirst_0 : decode cX2_sameFromFirst 0 = .ok (.iconst 0, 1) := by decide +kernel
theorem dX2_sameFromFirst_1 : decode cX2_sameFromFirst 1 = .ok (.istore_n 2, 1) := by decide +kernel
theorem dX2_sameFromFirst_2 : decode cX2_sameFromFirst 2 = .ok (.iload_n 2, 1) := by decide +kernel
theorem dX2_sameFromFirst_3 : decode cX2_sameFromFirst 3 = .ok (.aload_n 0, 1) := by decide +kernel
theorem dX2_sameFromFirst_4 : decode cX2_sameFromFirst 4 = .ok (.getfield 18, 3) := by decide +kernel
theorem dX2_sameFromFirst_7 : decode cX2_sameFromFirst 7 = .ok (.if_icmp .ge 33, 3) := by decide +kernel
theorem dX2_sameFromFirst_10 : decode cX2_sameFromFirst 10 = .ok (.iload_n 2, 1) := by decide +kernel
theorem dX2_sameFromFirst_11 : decode cX2_sameFromFirst 11 = .ok (.aload_n 1, 1) := by decide +kernel
theorem dX2_sameFromFirst_12 : decode cX2_sameFromFirst 12 = .ok (.getfield 18, 3) := by decide +kernel
theorem dX2_sameFromFirst_15 : decode cX2_sameFromFirst 15 = .ok (.if_icmp .ge 25, 3) := by decide +kernel
theorem dX2_sameFromFirst_18 : decode cX2_sameFromFirst 18 = .ok (.aload_n 0, 1) := by decide +kernel
theorem dX2_sameFromFirst_19 : decode cX2_sameFromFirst 19 = .ok (.getfield 54, 3) := by decide +kernel
theorem dX2_sameFromFirst_22 : decode cX2_sameFromFirst 22 = .ok (.iload_n 2, 1) := by decide +kernel
theorem dX2_sameFromFirst_23 : decode cX2_sameFromFirst 23 = .ok (.laload, 1) := by decide +kernel
theorem dX2_sameFromFirst_24 : decode cX2_sameFromFirst 24 = .ok (.aload_n 1, 1) := by decide +kernel
theorem dX2_sameFromFirst_25 : decode cX2_sameFromFirst 25 = .ok (.getfield 54, 3) := by decide +kernel
theorem dX2_sameFromFirst_28 : decode cX2_sameFromFirst 28 = .ok (.iload_n 2, 1) := by decide +kernel
theorem dX2_sameFromFirst_29 : decode cX2_sameFromFirst 29 = .ok (.laload, 1) := by decide +kernel
theorem dX2_sameFromFirst_30 : decode cX2_sameFromFirst 30 = .ok (.lcmp, 1) := by decide +kernel
theorem dX2_sameFromFirst_31 : decode cX2_sameFromFirst 31 = .ok (.ifCond .ne 9, 3) := by decide +kernel
theorem dX2_sameFromFirst_34 : decode cX2_sameFromFirst 34 = .ok (.iinc 2 1, 3) := by decide +kernel
theorem dX2_sameFromFirst_37 : decode cX2_sameFromFirst 37 = .ok (.goto (-35), 3) := by decide +kernel
theorem dX2_sameFromFirst_40 : decode cX2_sameFromFirst 40 = .ok (.iload_n 2, 1) := by decide +kernel
theorem dX2_sameFromFirst_41 : decode cX2_sameFromFirst 41 = .ok (.ireturn, 1) := by decide +kernel
theorem dX3_init_0 : decode cX3_init 0 = .ok (.aload_n 0, 1) := by decide +kernel
theorem dX3_init_1 : decode cX3_init 1 = .ok (.invokespecial 3, 3) := by decide +kernel
theorem dX3_init_4 : decode cX3_init 4 = .ok (.aload_n 0, 1) := by decide +kernel
theorem dX3_init_5 : decode cX3_init 5 = .ok (.iconst 0, 1) := by decide +kernel
theorem dX3_init_6 : decode cX3_init 6 = .ok (.putfield 9, 3) := by decide +kernel
theorem dX3_init_9 : decode cX3_init 9 = .ok (.aload_n 0, 1) := by decide +kernel
theorem dX3_init_10 : decode cX3_init 10 = .ok (.bipush 49, 2) := by decide +kernel
theorem dX3_init_12 : decode cX3_init 12 = .ok (.newarray .int, 2) := by decide +kernel
theorem dX3_init_14 : decode cX3_init 14 = .ok (.putfield 15, 3) := by decide +kernel
theorem dX3_init_17 : decode cX3_init 17 = .ok (.return_, 1) := by decide +kernel
theorem dX3_draw_0 : decode cX3_draw 0 = .ok (.aload_n 0, 1) := by decide +kernel
theorem dX3_draw_1 : decode cX3_draw 1 = .ok (.iconst 0, 1) := by decide +kernel
theorem dX3_draw_2 : decode cX3_draw 2 = .ok (.putfield 9, 3) := by decide +kernel
theorem dX3_draw_5 : decode cX3_draw 5 = .ok (.iconst 0, 1) := by decide +kernel
theorem dX3_draw_6 : decode cX3_draw 6 = .ok (.istore_n 3, 1) := by decide +kernel
theorem dX3_draw_7 : decode cX3_draw 7 = .ok (.iload_n 3, 1) := by decide +kernel
theorem dX3_draw_8 : decode cX3_draw 8 = .ok (.aload_n 1, 1) := by decide +kernel
theorem dX3_draw_9 : decode cX3_draw 9 = .ok (.getfield 19, 3) := by decide +kernel
theorem dX3_draw_12 : decode cX3_draw 12 = .ok (.if_icmp .ge 24, 3) := by decide +kernel
theorem dX3_draw_15 : decode cX3_draw 15 = .ok (.iload_n 2, 1) := by decide +kernel
theorem dX3_draw_16 : decode cX3_draw 16 = .ok (.iload_n 3, 1) := by decide +kernel
theorem dX3_draw_17 : decode cX3_draw 17 = .ok (.invokestatic 22, 3) := by decide +kernel
theorem dX3_draw_20 : decode cX3_draw 20 = .ok (.ifCond .eq 10, 3) := by decide +kernel
theorem dX3_draw_23 : decode cX3_draw 23 = .ok (.aload_n 0, 1) := by decide +kernel
theorem dX3_draw_24 : decode cX3_draw 24 = .ok (.aload_n 1, 1) := by decide +kernel
theorem dX3_draw_25 : decode cX3_draw 25 = .ok (.iload_n 3, 1) := by decide +kernel
theorem dX3_draw_26 : decode cX3_draw 26 = .ok (.iconst 2, 1) := by decide +kernel
theorem dX3_draw_27 : decode cX3_draw 27 = .ok (.invokevirtual 28, 3) := by decide +kernel
theorem dX3_draw_30 : decode cX3_draw 30 = .ok (.iinc 3 1, 3) := by decide +kernel
theorem dX3_draw_33 : decode cX3_draw 33 = .ok (.goto (-26), 3) := by decide +kernel
theorem dX3_draw_36 : decode cX3_draw 36 = .ok (.aload_n 0, 1) := by decide +kernel
theorem dX3_draw_37 : decode cX3_draw 37 = .ok (.getfield 9, 3) := by decide +kernel
theorem dX3_draw_40 : decode cX3_draw 40 = .ok (.istore_n 3, 1) := by decide +kernel
theorem dX3_draw_41 : decode cX3_draw 41 = .ok (.aload_n 1, 1) := by decide +kernel
theorem dX3_draw_42 : decode cX3_draw 42 = .ok (.getfield 19, 3) := by decide +kernel
theorem dX3_draw_45 : decode cX3_draw 45 = .ok (.iconst 1, 1) := by decide +kernel
theorem dX3_draw_46 : decode cX3_draw 46 = .ok (.isub, 1) := by decide +kernel
theorem dX3_draw_47 : decode cX3_draw 47 = .ok (.istore 4, 2) := by decide +kernel
theorem dX3_draw_49 : decode cX3_draw 49 = .ok (.iload 4, 2) := by decide +kernel
theorem dX3_draw_51 : decode cX3_draw 51 = .ok (.ifCond .lt 46, 3) := by decide +kernel
theorem dX3_draw_54 : decode cX3_draw 54 = .ok (.iload_n 3, 1) := by decide +kernel
theorem dX3_draw_55 : decode cX3_draw 55 = .ok (.iconst 1, 1) := by decide +kernel
theorem dX3_draw_56 : decode cX3_draw 56 = .ok (.if_icmp .le 41, 3) := by decide +kernel
theorem dX3_draw_59 : decode cX3_draw 59 = .ok (.iload_n 2, 1) := by decide +kernel
theorem dX3_draw_60 : decode cX3_draw 60 = .ok (.iload 4, 2) := by decide +kernel
theorem dX3_draw_62 : decode cX3_draw 62 = .ok (.invokestatic 22, 3) := by decide +kernel
theorem dX3_draw_65 : decode cX3_draw 65 = .ok (.ifCond .eq 26, 3) := by decide +kernel
theorem dX3_draw_68 : decode cX3_draw 68 = .ok (.iload 4, 2) := by decide +kernel
theorem dX3_draw_70 : decode cX3_draw 70 = .ok (.aload_n 0, 1) := by decide +kernel
theorem dX3_draw_71 : decode cX3_draw 71 = .ok (.getfield 15, 3) := by decide +kernel
theorem dX3_draw_74 : decode cX3_draw 74 = .ok (.iload_n 3, 1) := by decide +kernel
theorem dX3_draw_75 : decode cX3_draw 75 = .ok (.iconst 1, 1) := by decide +kernel
theorem dX3_draw_76 : decode cX3_draw 76 = .ok (.isub, 1) := by decide +kernel
theorem dX3_draw_77 : decode cX3_draw 77 = .ok (.iaload, 1) := by decide +kernel
theorem dX3_draw_78 : decode cX3_draw 78 = .ok (.if_icmp .eq 13, 3) := by decide +kernel
theorem dX3_draw_81 : decode cX3_draw 81 = .ok (.aload_n 0, 1) := by decide +kernel
theorem dX3_draw_82 : decode cX3_draw 82 = .ok (.aload_n 1, 1) := by decide +kernel
theorem dX3_draw_83 : decode cX3_draw 83 = .ok (.iload 4, 2) := by decide +kernel
theorem dX3_draw_85 : decode cX3_draw 85 = .ok (.iload_n 3, 1) := by decide +kernel
theorem dX3_draw_86 : decode cX3_draw 86 = .ok (.iconst 1, 1) := by decide +kernel
theorem dX3_draw_87 : decode cX3_draw 87 = .ok (.iadd, 1) := by decide +kernel
theorem dX3_draw_88 : decode cX3_draw 88 = .ok (.invokevirtual 28, 3) := by decide +kernel
theorem dX3_draw_91 : decode cX3_draw 91 = .ok (.iinc 4 (-1), 3) := by decide +kernel
theorem dX3_draw_94 : decode cX3_draw 94 = .ok (.goto (-45), 3) := by decide +kernel
theorem dX3_draw_97 : decode cX3_draw 97 = .ok (.iload_n 3, 1) := by decide +kernel
theorem dX3_draw_98 : decode cX3_draw 98 = .ok (.iconst 1, 1) := by decide +kernel
theorem dX3_draw_99 : decode cX3_draw 99 = .ok (.if_icmp .le 13, 3) := by decide +kernel
theorem dX3_draw_102 : decode cX3_draw 102 = .ok (.aload_n 0, 1) := by decide +kernel
theorem dX3_draw_103 : decode cX3_draw 103 = .ok (.dup, 1) := by decide +kernel
theorem dX3_draw_104 : decode cX3_draw 104 = .ok (.getfield 9, 3) := by decide +kernel
theorem dX3_draw_107 : decode cX3_draw 107 = .ok (.iconst 1, 1) := by decide +kernel
theorem dX3_draw_108 : decode cX3_draw 108 = .ok (.isub, 1) := by decide +kernel
theorem dX3_draw_109 : decode cX3_draw 109 = .ok (.putfield 9, 3) := by decide +kernel
theorem dX3_draw_112 : decode cX3_draw 112 = .ok (.return_, 1) := by decide +kernel
theorem dX3_turnTo_0 : decode cX3_turnTo 0 = .ok (.aload_n 0, 1) := by decide +kernel
theorem dX3_turnTo_1 : decode cX3_turnTo 1 = .ok (.getfield 9, 3) := by decide +kernel
theorem dX3_turnTo_4 : decode cX3_turnTo 4 = .ok (.iload_n 3, 1) := by decide +kernel
theorem dX3_turnTo_5 : decode cX3_turnTo 5 = .ok (.if_icmp .lt 54, 3) := by decide +kernel
theorem dX3_turnTo_8 : decode cX3_turnTo 8 = .ok (.aload_n 0, 1) := by decide +kernel
theorem dX3_turnTo_9 : decode cX3_turnTo 9 = .ok (.getfield 9, 3) := by decide +kernel
theorem dX3_turnTo_12 : decode cX3_turnTo 12 = .ok (.iconst 2, 1) := by decide +kernel
theorem dX3_turnTo_13 : decode cX3_turnTo 13 = .ok (.if_icmp .lt 46, 3) := by decide +kernel
theorem dX3_turnTo_16 : decode cX3_turnTo 16 = .ok (.aload_n 1, 1) := by decide +kernel
theorem dX3_turnTo_17 : decode cX3_turnTo 17 = .ok (.aload_n 0, 1) := by decide +kernel
theorem dX3_turnTo_18 : decode cX3_turnTo 18 = .ok (.getfield 15, 3) := by decide +kernel
theorem dX3_turnTo_21 : decode cX3_turnTo 21 = .ok (.aload_n 0, 1) := by decide +kernel
theorem dX3_turnTo_22 : decode cX3_turnTo 22 = .ok (.getfield 9, 3) := by decide +kernel
theorem dX3_turnTo_25 : decode cX3_turnTo 25 = .ok (.iconst 2, 1) := by decide +kernel
theorem dX3_turnTo_26 : decode cX3_turnTo 26 = .ok (.isub, 1) := by decide +kernel
theorem dX3_turnTo_27 : decode cX3_turnTo 27 = .ok (.iaload, 1) := by decide +kernel
theorem dX3_turnTo_28 : decode cX3_turnTo 28 = .ok (.aload_n 0, 1) := by decide +kernel
theorem dX3_turnTo_29 : decode cX3_turnTo 29 = .ok (.getfield 15, 3) := by decide +kernel
theorem dX3_turnTo_32 : decode cX3_turnTo 32 = .ok (.aload_n 0, 1) := by decide +kernel
theorem dX3_turnTo_33 : decode cX3_turnTo 33 = .ok (.getfield 9, 3) := by decide +kernel
theorem dX3_turnTo_36 : decode cX3_turnTo 36 = .ok (.iconst 1, 1) := by decide +kernel
theorem dX3_turnTo_37 : decode cX3_turnTo 37 = .ok (.isub, 1) := by decide +kernel
theorem dX3_turnTo_38 : decode cX3_turnTo 38 = .ok (.iaload, 1) := by decide +kernel
theorem dX3_turnTo_39 : decode cX3_turnTo 39 = .ok (.iload_n 2, 1) := by decide +kernel
theorem dX3_turnTo_40 : decode cX3_turnTo 40 = .ok (.invokestatic 32, 3) := by decide +kernel
theorem dX3_turnTo_43 : decode cX3_turnTo 43 = .ok (.ifCond .gt 16, 3) := by decide +kernel
theorem dX3_turnTo_46 : decode cX3_turnTo 46 = .ok (.aload_n 0, 1) := by decide +kernel
theorem dX3_turnTo_47 : decode cX3_turnTo 47 = .ok (.dup, 1) := by decide +kernel
theorem dX3_turnTo_48 : decode cX3_turnTo 48 = .ok (.getfield 9, 3) := by decide +kernel
theorem dX3_turnTo_51 : decode cX3_turnTo 51 = .ok (.iconst 1, 1) := by decide +kernel
theorem dX3_turnTo_52 : decode cX3_turnTo 52 = .ok (.isub, 1) := by decide +kernel
theorem dX3_turnTo_53 : decode cX3_turnTo 53 = .ok (.putfield 9, 3) := by decide +kernel
theorem dX3_turnTo_56 : decode cX3_turnTo 56 = .ok (.goto (-56), 3) := by decide +kernel
theorem dX3_turnTo_59 : decode cX3_turnTo 59 = .ok (.aload_n 0, 1) := by decide +kernel
theorem dX3_turnTo_60 : decode cX3_turnTo 60 = .ok (.getfield 9, 3) := by decide +kernel
theorem dX3_turnTo_63 : decode cX3_turnTo 63 = .ok (.aload_n 0, 1) := by decide +kernel
theorem dX3_turnTo_64 : decode cX3_turnTo 64 = .ok (.getfield 15, 3) := by decide +kernel
theorem dX3_turnTo_67 : decode cX3_turnTo 67 = .ok (.arraylength, 1) := by decide +kernel
theorem dX3_turnTo_68 : decode cX3_turnTo 68 = .ok (.if_icmp .ge 23, 3) := by decide +kernel
theorem dX3_turnTo_71 : decode cX3_turnTo 71 = .ok (.aload_n 0, 1) := by decide +kernel
theorem dX3_turnTo_72 : decode cX3_turnTo 72 = .ok (.getfield 15, 3) := by decide +kernel
theorem dX3_turnTo_75 : decode cX3_turnTo 75 = .ok (.aload_n 0, 1) := by decide +kernel
theorem dX3_turnTo_76 : decode cX3_turnTo 76 = .ok (.getfield 9, 3) := by decide +kernel
theorem dX3_turnTo_79 : decode cX3_turnTo 79 = .ok (.iload_n 2, 1) := by decide +kernel
theorem dX3_turnTo_80 : decode cX3_turnTo 80 = .ok (.iastore, 1) := by decide +kernel
theorem dX3_turnTo_81 : decode cX3_turnTo 81 = .ok (.aload_n 0, 1) := by decide +kernel
theorem dX3_turnTo_82 : decode cX3_turnTo 82 = .ok (.dup, 1) := by decide +kernel
theorem dX3_turnTo_83 : decode cX3_turnTo 83 = .ok (.getfield 9, 3) := by decide +kernel
theorem dX3_turnTo_86 : decode cX3_turnTo 86 = .ok (.iconst 1, 1) := by decide +kernel
theorem dX3_turnTo_87 : decode cX3_turnTo 87 = .ok (.iadd, 1) := by decide +kernel
theorem dX3_turnTo_88 : decode cX3_turnTo 88 = .ok (.putfield 9, 3) := by decide +kernel
theorem dX3_turnTo_91 : decode cX3_turnTo 91 = .ok (.return_, 1) := by decide +kernel
theorem dX3_cross_0 : decode cX3_cross 0 = .ok (.aload_n 0, 1) := by decide +kernel
theorem dX3_cross_1 : decode cX3_cross 1 = .ok (.getfield 36, 3) := by decide +kernel
theorem dX3_cross_4 : decode cX3_cross 4 = .ok (.iload_n 2, 1) := by decide +kernel
theorem dX3_cross_5 : decode cX3_cross 5 = .ok (.iaload, 1) := by decide +kernel
theorem dX3_cross_6 : decode cX3_cross 6 = .ok (.aload_n 0, 1) := by decide +kernel
theorem dX3_cross_7 : decode cX3_cross 7 = .ok (.getfield 36, 3) := by decide +kernel
theorem dX3_cross_10 : decode cX3_cross 10 = .ok (.iload_n 1, 1) := by decide +kernel
theorem dX3_cross_11 : decode cX3_cross 11 = .ok (.iaload, 1) := by decide +kernel
theorem dX3_cross_12 : decode cX3_cross 12 = .ok (.isub, 1) := by decide +kernel
theorem dX3_cross_13 : decode cX3_cross 13 = .ok (.aload_n 0, 1) := by decide +kernel
theorem dX3_cross_14 : decode cX3_cross 14 = .ok (.getfield 39, 3) := by decide +kernel
theorem dX3_cross_17 : decode cX3_cross 17 = .ok (.iload_n 3, 1) := by decide +kernel
theorem dX3_cross_18 : decode cX3_cross 18 = .ok (.iaload, 1) := by decide +kernel
theorem dX3_cross_19 : decode cX3_cross 19 = .ok (.aload_n 0, 1) := by decide +kernel
theorem dX3_cross_20 : decode cX3_cross 20 = .ok (.getfield 39, 3) := by decide +kernel
theorem dX3_cross_23 : decode cX3_cross 23 = .ok (.iload_n 2, 1) := by decide +kernel
theorem dX3_cross_24 : decode cX3_cross 24 = .ok (.iaload, 1) := by decide +kernel
theorem dX3_cross_25 : decode cX3_cross 25 = .ok (.isub, 1) := by decide +kernel
theorem dX3_cross_26 : decode cX3_cross 26 = .ok (.imul, 1) := by decide +kernel
theorem dX3_cross_27 : decode cX3_cross 27 = .ok (.aload_n 0, 1) := by decide +kernel
theorem dX3_cross_28 : decode cX3_cross 28 = .ok (.getfield 39, 3) := by decide +kernel
theorem dX3_cross_31 : decode cX3_cross 31 = .ok (.iload_n 2, 1) := by decide +kernel
theorem dX3_cross_32 : decode cX3_cross 32 = .ok (.iaload, 1) := by decide +kernel
theorem dX3_cross_33 : decode cX3_cross 33 = .ok (.aload_n 0, 1) := by decide +kernel
theorem dX3_cross_34 : decode cX3_cross 34 = .ok (.getfield 39, 3) := by decide +kernel
theorem dX3_cross_37 : decode cX3_cross 37 = .ok (.iload_n 1, 1) := by decide +kernel
theorem dX3_cross_38 : decode cX3_cross 38 = .ok (.iaload, 1) := by decide +kernel
theorem dX3_cross_39 : decode cX3_cross 39 = .ok (.isub, 1) := by decide +kernel
theorem dX3_cross_40 : decode cX3_cross 40 = .ok (.aload_n 0, 1) := by decide +kernel
theorem dX3_cross_41 : decode cX3_cross 41 = .ok (.getfield 36, 3) := by decide +kernel
theorem dX3_cross_44 : decode cX3_cross 44 = .ok (.iload_n 3, 1) := by decide +kernel
theorem dX3_cross_45 : decode cX3_cross 45 = .ok (.iaload, 1) := by decide +kernel
theorem dX3_cross_46 : decode cX3_cross 46 = .ok (.aload_n 0, 1) := by decide +kernel
theorem dX3_cross_47 : decode cX3_cross 47 = .ok (.getfield 36, 3) := by decide +kernel
theorem dX3_cross_50 : decode cX3_cross 50 = .ok (.iload_n 2, 1) := by decide +kernel
theorem dX3_cross_51 : decode cX3_cross 51 = .ok (.iaload, 1) := by decide +kernel
theorem dX3_cross_52 : decode cX3_cross 52 = .ok (.isub, 1) := by decide +kernel
theorem dX3_cross_53 : decode cX3_cross 53 = .ok (.imul, 1) := by decide +kernel
theorem dX3_cross_54 : decode cX3_cross 54 = .ok (.isub, 1) := by decide +kernel
theorem dX3_cross_55 : decode cX3_cross 55 = .ok (.ireturn, 1) := by decide +kernel
theorem dX3_twiceArea_0 : decode cX3_twiceArea 0 = .ok (.iconst 0, 1) := by decide +kernel
theorem dX3_twiceArea_1 : decode cX3_twiceArea 1 = .ok (.istore_n 2, 1) := by decide +kernel
theorem dX3_twiceArea_2 : decode cX3_twiceArea 2 = .ok (.iconst 0, 1) := by decide +kernel
theorem dX3_twiceArea_3 : decode cX3_twiceArea 3 = .ok (.istore_n 3, 1) := by decide +kernel
theorem dX3_twiceArea_4 : decode cX3_twiceArea 4 = .ok (.iload_n 3, 1) := by decide +kernel
theorem dX3_twiceArea_5 : decode cX3_twiceArea 5 = .ok (.aload_n 0, 1) := by decide +kernel
theorem dX3_twiceArea_6 : decode cX3_twiceArea 6 = .ok (.getfield 9, 3) := by decide +kernel
theorem dX3_twiceArea_9 : decode cX3_twiceArea 9 = .ok (.if_icmp .ge 75, 3) := by decide +kernel
theorem dX3_twiceArea_12 : decode cX3_twiceArea 12 = .ok (.aload_n 0, 1) := by decide +kernel
theorem dX3_twiceArea_13 : decode cX3_twiceArea 13 = .ok (.getfield 15, 3) := by decide +kernel
theorem dX3_twiceArea_16 : decode cX3_twiceArea 16 = .ok (.iload_n 3, 1) := by decide +kernel
theorem dX3_twiceArea_17 : decode cX3_twiceArea 17 = .ok (.iaload, 1) := by decide +kernel
theorem dX3_twiceArea_18 : decode cX3_twiceArea 18 = .ok (.istore 4, 2) := by decide +kernel
theorem dX3_twiceArea_20 : decode cX3_twiceArea 20 = .ok (.aload_n 0, 1) := by decide +kernel
theorem dX3_twiceArea_21 : decode cX3_twiceArea 21 = .ok (.getfield 15, 3) := by decide +kernel
theorem dX3_twiceArea_24 : decode cX3_twiceArea 24 = .ok (.iload_n 3, 1) := by decide +kernel
theorem dX3_twiceArea_25 : decode cX3_twiceArea 25 = .ok (.iconst 1, 1) := by decide +kernel
theorem dX3_twiceArea_26 : decode cX3_twiceArea 26 = .ok (.iadd, 1) := by decide +kernel
theorem dX3_twiceArea_27 : decode cX3_twiceArea 27 = .ok (.aload_n 0, 1) := by decide +kernel
theorem dX3_twiceArea_28 : decode cX3_twiceArea 28 = .ok (.getfield 9, 3) := by decide +kernel
theorem dX3_twiceArea_31 : decode cX3_twiceArea 31 = .ok (.if_icmp .ge 9, 3) := by decide +kernel
theorem dX3_twiceArea_34 : decode cX3_twiceArea 34 = .ok (.iload_n 3, 1) := by decide +kernel
theorem dX3_twiceArea_35 : decode cX3_twiceArea 35 = .ok (.iconst 1, 1) := by decide +kernel
theorem dX3_twiceArea_36 : decode cX3_twiceArea 36 = .ok (.iadd, 1) := by decide +kernel
theorem dX3_twiceArea_37 : decode cX3_twiceArea 37 = .ok (.goto 4, 3) := by decide +kernel
theorem dX3_twiceArea_40 : decode cX3_twiceArea 40 = .ok (.iconst 0, 1) := by decide +kernel
theorem dX3_twiceArea_41 : decode cX3_twiceArea 41 = .ok (.iaload, 1) := by decide +kernel
theorem dX3_twiceArea_42 : decode cX3_twiceArea 42 = .ok (.istore 5, 2) := by decide +kernel
theorem dX3_twiceArea_44 : decode cX3_twiceArea 44 = .ok (.iload_n 2, 1) := by decide +kernel
theorem dX3_twiceArea_45 : decode cX3_twiceArea 45 = .ok (.aload_n 1, 1) := by decide +kernel
theorem dX3_twiceArea_46 : decode cX3_twiceArea 46 = .ok (.getfield 36, 3) := by decide +kernel
theorem dX3_twiceArea_49 : decode cX3_twiceArea 49 = .ok (.iload 4, 2) := by decide +kernel
theorem dX3_twiceArea_51 : decode cX3_twiceArea 51 = .ok (.iaload, 1) := by decide +kernel
theorem dX3_twiceArea_52 : decode cX3_twiceArea 52 = .ok (.aload_n 1, 1) := by decide +kernel
theorem dX3_twiceArea_53 : decode cX3_twiceArea 53 = .ok (.getfield 39, 3) := by decide +kernel
theorem dX3_twiceArea_56 : decode cX3_twiceArea 56 = .ok (.iload 5, 2) := by decide +kernel
theorem dX3_twiceArea_58 : decode cX3_twiceArea 58 = .ok (.iaload, 1) := by decide +kernel
theorem dX3_twiceArea_59 : decode cX3_twiceArea 59 = .ok (.imul, 1) := by decide +kernel
theorem dX3_twiceArea_60 : decode cX3_twiceArea 60 = .ok (.aload_n 1, 1) := by decide +kernel
theorem dX3_twiceArea_61 : decode cX3_twiceArea 61 = .ok (.getfield 36, 3) := by decide +kernel
theorem dX3_twiceArea_64 : decode cX3_twiceArea 64 = .ok (.iload 5, 2) := by decide +kernel
theorem dX3_twiceArea_66 : decode cX3_twiceArea 66 = .ok (.iaload, 1) := by decide +kernel
theorem dX3_twiceArea_67 : decode cX3_twiceArea 67 = .ok (.aload_n 1, 1) := by decide +kernel
theorem dX3_twiceArea_68 : decode cX3_twiceArea 68 = .ok (.getfield 39, 3) := by decide +kernel
theorem dX3_twiceArea_71 : decode cX3_twiceArea 71 = .ok (.iload 4, 2) := by decide +kernel
theorem dX3_twiceArea_73 : decode cX3_twiceArea 73 = .ok (.iaload, 1) := by decide +kernel
theorem dX3_twiceArea_74 : decode cX3_twiceArea 74 = .ok (.imul, 1) := by decide +kernel
theorem dX3_twiceArea_75 : decode cX3_twiceArea 75 = .ok (.isub, 1) := by decide +kernel
theorem dX3_twiceArea_76 : decode cX3_twiceArea 76 = .ok (.iadd, 1) := by decide +kernel
theorem dX3_twiceArea_77 : decode cX3_twiceArea 77 = .ok (.istore_n 2, 1) := by decide +kernel
theorem dX3_twiceArea_78 : decode cX3_twiceArea 78 = .ok (.iinc 3 1, 3) := by decide +kernel
theorem dX3_twiceArea_81 : decode cX3_twiceArea 81 = .ok (.goto (-77), 3) := by decide +kernel
theorem dX3_twiceArea_84 : decode cX3_twiceArea 84 = .ok (.iload_n 2, 1) := by decide +kernel
theorem dX3_twiceArea_85 : decode cX3_twiceArea 85 = .ok (.ireturn, 1) := by decide +kernel
theorem dX4_init_0 : decode cX4_init 0 = .ok (.aload_n 0, 1) := by decide +kernel
theorem dX4_init_1 : decode cX4_init 1 = .ok (.invokespecial 3, 3) := by decide +kernel
theorem dX4_init_4 : decode cX4_init 4 = .ok (.aload_n 0, 1) := by decide +kernel
theorem dX4_init_5 : decode cX4_init 5 = .ok (.iconst 0, 1) := by decide +kernel
theorem dX4_init_6 : decode cX4_init 6 = .ok (.putfield 9, 3) := by decide +kernel
theorem dX4_init_9 : decode cX4_init 9 = .ok (.aload_n 0, 1) := by decide +kernel
theorem dX4_init_10 : decode cX4_init 10 = .ok (.bipush 24, 2) := by decide +kernel
theorem dX4_init_12 : decode cX4_init 12 = .ok (.newarray .int, 2) := by decide +kernel
theorem dX4_init_14 : decode cX4_init 14 = .ok (.putfield 15, 3) := by decide +kernel
theorem dX4_init_17 : decode cX4_init 17 = .ok (.aload_n 0, 1) := by decide +kernel
theorem dX4_init_18 : decode cX4_init 18 = .ok (.bipush 24, 2) := by decide +kernel
theorem dX4_init_20 : decode cX4_init 20 = .ok (.newarray .int, 2) := by decide +kernel
theorem dX4_init_22 : decode cX4_init 22 = .ok (.putfield 19, 3) := by decide +kernel
theorem dX4_init_25 : decode cX4_init 25 = .ok (.aload_n 0, 1) := by decide +kernel
theorem dX4_init_26 : decode cX4_init 26 = .ok (.bipush 24, 2) := by decide +kernel
theorem dX4_init_28 : decode cX4_init 28 = .ok (.newarray .int, 2) := by decide +kernel
theorem dX4_init_30 : decode cX4_init 30 = .ok (.putfield 22, 3) := by decide +kernel
theorem dX4_init_33 : decode cX4_init 33 = .ok (.return_, 1) := by decide +kernel
theorem dX4_canCome_0 : decode cX4_canCome 0 = .ok (.iload_n 1, 1) := by decide +kernel
theorem dX4_canCome_1 : decode cX4_canCome 1 = .ok (.ifCond .lt 44, 3) := by decide +kernel
theorem dX4_canCome_4 : decode cX4_canCome 4 = .ok (.iload_n 1, 1) := by decide +kernel
theorem dX4_canCome_5 : decode cX4_canCome 5 = .ok (.sipush 1024, 3) := by decide +kernel
theorem dX4_canCome_8 : decode cX4_canCome 8 = .ok (.if_icmp .ge 37, 3) := by decide +kernel
theorem dX4_canCome_11 : decode cX4_canCome 11 = .ok (.iload_n 2, 1) := by decide +kernel
theorem dX4_canCome_12 : decode cX4_canCome 12 = .ok (.ifCond .lt 33, 3) := by decide +kernel
theorem dX4_canCome_15 : decode cX4_canCome 15 = .ok (.iload_n 2, 1) := by decide +kernel
theorem dX4_canCome_16 : decode cX4_canCome 16 = .ok (.sipush 1024, 3) := by decide +kernel
theorem dX4_canCome_19 : decode cX4_canCome 19 = .ok (.if_icmp .ge 26, 3) := by decide +kernel
theorem dX4_canCome_22 : decode cX4_canCome 22 = .ok (.aload_n 0, 1) := by decide +kernel
theorem dX4_canCome_23 : decode cX4_canCome 23 = .ok (.getfield 9, 3) := by decide +kernel
theorem dX4_canCome_26 : decode cX4_canCome 26 = .ok (.bipush 24, 2) := by decide +kernel
theorem dX4_canCome_28 : decode cX4_canCome 28 = .ok (.if_icmp .ge 17, 3) := by decide +kernel
theorem dX4_canCome_31 : decode cX4_canCome 31 = .ok (.aload_n 0, 1) := by decide +kernel
theorem dX4_canCome_32 : decode cX4_canCome 32 = .ok (.iload_n 1, 1) := by decide +kernel
theorem dX4_canCome_33 : decode cX4_canCome 33 = .ok (.iload_n 2, 1) := by decide +kernel
theorem dX4_canCome_34 : decode cX4_canCome 34 = .ok (.invokevirtual 25, 3) := by decide +kernel
theorem dX4_canCome_37 : decode cX4_canCome 37 = .ok (.iconst (-1), 1) := by decide +kernel
theorem dX4_canCome_38 : decode cX4_canCome 38 = .ok (.if_icmp .ne 7, 3) := by decide +kernel
theorem dX4_canCome_41 : decode cX4_canCome 41 = .ok (.iconst 1, 1) := by decide +kernel
theorem dX4_canCome_42 : decode cX4_canCome 42 = .ok (.goto 4, 3) := by decide +kernel
theorem dX4_canCome_45 : decode cX4_canCome 45 = .ok (.iconst 0, 1) := by decide +kernel
theorem dX4_canCome_46 : decode cX4_canCome 46 = .ok (.ireturn, 1) := by decide +kernel
theorem dX4_find_0 : decode cX4_find 0 = .ok (.iconst 0, 1) := by decide +kernel
theorem dX4_find_1 : decode cX4_find 1 = .ok (.istore_n 3, 1) := by decide +kernel
theorem dX4_find_2 : decode cX4_find 2 = .ok (.iload_n 3, 1) := by decide +kernel
theorem dX4_find_3 : decode cX4_find 3 = .ok (.aload_n 0, 1) := by decide +kernel
theorem dX4_find_4 : decode cX4_find 4 = .ok (.getfield 9, 3) := by decide +kernel
theorem dX4_find_7 : decode cX4_find 7 = .ok (.if_icmp .ge 31, 3) := by decide +kernel
theorem dX4_find_10 : decode cX4_find 10 = .ok (.aload_n 0, 1) := by decide +kernel
theorem dX4_find_11 : decode cX4_find 11 = .ok (.getfield 15, 3) := by decide +kernel
theorem dX4_find_14 : decode cX4_find 14 = .ok (.iload_n 3, 1) := by decide +kernel
theorem dX4_find_15 : decode cX4_find 15 = .ok (.iaload, 1) := by decide +kernel
theorem dX4_find_16 : decode cX4_find 16 = .ok (.iload_n 1, 1) := by decide +kernel
theorem dX4_find_17 : decode cX4_find 17 = .ok (.if_icmp .ne 15, 3) := by decide +kernel
theorem dX4_find_20 : decode cX4_find 20 = .ok (.aload_n 0, 1) := by decide +kernel
theorem dX4_find_21 : decode cX4_find 21 = .ok (.getfield 19, 3) := by decide +kernel
theorem dX4_find_24 : decode cX4_find 24 = .ok (.iload_n 3, 1) := by decide +kernel
theorem dX4_find_25 : decode cX4_find 25 = .ok (.iaload, 1) := by decide +kernel
theorem dX4_find_26 : decode cX4_find 26 = .ok (.iload_n 2, 1) := by decide +kernel
theorem dX4_find_27 : decode cX4_find 27 = .ok (.if_icmp .ne 5, 3) := by decide +kernel
theorem dX4_find_30 : decode cX4_find 30 = .ok (.iload_n 3, 1) := by decide +kernel
theorem dX4_find_31 : decode cX4_find 31 = .ok (.ireturn, 1) := by decide +kernel
theorem dX4_find_32 : decode cX4_find 32 = .ok (.iinc 3 1, 3) := by decide +kernel
theorem dX4_find_35 : decode cX4_find 35 = .ok (.goto (-33), 3) := by decide +kernel
theorem dX4_find_38 : decode cX4_find 38 = .ok (.iconst (-1), 1) := by decide +kernel
theorem dX4_find_39 : decode cX4_find 39 = .ok (.ireturn, 1) := by decide +kernel
theorem dX4_put_0 : decode cX4_put 0 = .ok (.aload_n 0, 1) := by decide +kernel
theorem dX4_put_1 : decode cX4_put 1 = .ok (.getfield 9, 3) := by decide +kernel
theorem dX4_put_4 : decode cX4_put 4 = .ok (.bipush 24, 2) := by decide +kernel
theorem dX4_put_6 : decode cX4_put 6 = .ok (.if_icmp .lt 4, 3) := by decide +kernel
theorem dX4_put_9 : decode cX4_put 9 = .ok (.return_, 1) := by decide +kernel
theorem dX4_put_10 : decode cX4_put 10 = .ok (.aload_n 0, 1) := by decide +kernel
theorem dX4_put_11 : decode cX4_put 11 = .ok (.getfield 9, 3) := by decide +kernel
theorem dX4_put_14 : decode cX4_put 14 = .ok (.istore 4, 2) := by decide +kernel
theorem dX4_put_16 : decode cX4_put 16 = .ok (.iload 4, 2) := by decide +kernel
theorem dX4_put_18 : decode cX4_put 18 = .ok (.ifCond .le 58, 3) := by decide +kernel
theorem dX4_put_21 : decode cX4_put 21 = .ok (.aload_n 0, 1) := by decide +kernel
theorem dX4_put_22 : decode cX4_put 22 = .ok (.getfield 15, 3) := by decide +kernel
theorem dX4_put_25 : decode cX4_put 25 = .ok (.iload 4, 2) := by decide +kernel
theorem dX4_put_27 : decode cX4_put 27 = .ok (.iconst 1, 1) := by decide +kernel
theorem dX4_put_28 : decode cX4_put 28 = .ok (.isub, 1) := by decide +kernel
theorem dX4_put_29 : decode cX4_put 29 = .ok (.iaload, 1) := by decide +kernel
theorem dX4_put_30 : decode cX4_put 30 = .ok (.iload_n 1, 1) := by decide +kernel
theorem dX4_put_31 : decode cX4_put 31 = .ok (.if_icmp .gt 29, 3) := by decide +kernel
theorem dX4_put_34 : decode cX4_put 34 = .ok (.aload_n 0, 1) := by decide +kernel
theorem dX4_put_35 : decode cX4_put 35 = .ok (.getfield 15, 3) := by decide +kernel
theorem dX4_put_38 : decode cX4_put 38 = .ok (.iload 4, 2) := by decide +kernel
theorem dX4_put_40 : decode cX4_put 40 = .ok (.iconst 1, 1) := by decide +kernel
theorem dX4_put_41 : decode cX4_put 41 = .ok (.isub, 1) := by decide +kernel
theorem dX4_put_42 : decode cX4_put 42 = .ok (.iaload, 1) := by decide +kernel
theorem dX4_put_43 : decode cX4_put 43 = .ok (.iload_n 1, 1) := by decide +kernel
theorem dX4_put_44 : decode cX4_put 44 = .ok (.if_icmp .ne 32, 3) := by decide +kernel
theorem dX4_put_47 : decode cX4_put 47 = .ok (.aload_n 0, 1) := by decide +kernel
theorem dX4_put_48 : decode cX4_put 48 = .ok (.getfield 19, 3) := by decide +kernel
theorem dX4_put_51 : decode cX4_put 51 = .ok (.iload 4, 2) := by decide +kernel
theorem dX4_put_53 : decode cX4_put 53 = .ok (.iconst 1, 1) := by decide +kernel
theorem dX4_put_54 : decode cX4_put 54 = .ok (.isub, 1) := by decide +kernel
theorem dX4_put_55 : decode cX4_put 55 = .ok (.iaload, 1) := by decide +kernel
theorem dX4_put_56 : decode cX4_put 56 = .ok (.iload_n 2, 1) := by decide +kernel
theorem dX4_put_57 : decode cX4_put 57 = .ok (.if_icmp .le 19, 3) := by decide +kernel
theorem dX4_put_60 : decode cX4_put 60 = .ok (.aload_n 0, 1) := by decide +kernel
theorem dX4_put_61 : decode cX4_put 61 = .ok (.iload 4, 2) := by decide +kernel
theorem dX4_put_63 : decode cX4_put 63 = .ok (.iconst 1, 1) := by decide +kernel
theorem dX4_put_64 : decode cX4_put 64 = .ok (.isub, 1) := by decide +kernel
theorem dX4_put_65 : decode cX4_put 65 = .ok (.iload 4, 2) := by decide +kernel
theorem dX4_put_67 : decode cX4_put 67 = .ok (.invokevirtual 29, 3) := by decide +kernel
theorem dX4_put_70 : decode cX4_put 70 = .ok (.iinc 4 (-1), 3) := by decide +kernel
theorem dX4_put_73 : decode cX4_put 73 = .ok (.goto (-57), 3) := by decide +kernel
theorem dX4_put_76 : decode cX4_put 76 = .ok (.aload_n 0, 1) := by decide +kernel
theorem dX4_put_77 : decode cX4_put 77 = .ok (.getfield 15, 3) := by decide +kernel
theorem dX4_put_80 : decode cX4_put 80 = .ok (.iload 4, 2) := by decide +kernel
theorem dX4_put_82 : decode cX4_put 82 = .ok (.iload_n 1, 1) := by decide +kernel
theorem dX4_put_83 : decode cX4_put 83 = .ok (.iastore, 1) := by decide +kernel
theorem dX4_put_84 : decode cX4_put 84 = .ok (.aload_n 0, 1) := by decide +kernel
theorem dX4_put_85 : decode cX4_put 85 = .ok (.getfield 19, 3) := by decide +kernel
theorem dX4_put_88 : decode cX4_put 88 = .ok (.iload 4, 2) := by decide +kernel
theorem dX4_put_90 : decode cX4_put 90 = .ok (.iload_n 2, 1) := by decide +kernel
theorem dX4_put_91 : decode cX4_put 91 = .ok (.iastore, 1) := by decide +kernel
theorem dX4_put_92 : decode cX4_put 92 = .ok (.aload_n 0, 1) := by decide +kernel
theorem dX4_put_93 : decode cX4_put 93 = .ok (.getfield 22, 3) := by decide +kernel
theorem dX4_put_96 : decode cX4_put 96 = .ok (.iload 4, 2) := by decide +kernel
theorem dX4_put_98 : decode cX4_put 98 = .ok (.iload_n 3, 1) := by decide +kernel
theorem dX4_put_99 : decode cX4_put 99 = .ok (.iastore, 1) := by decide +kernel
theorem dX4_put_100 : decode cX4_put 100 = .ok (.aload_n 0, 1) := by decide +kernel
theorem dX4_put_101 : decode cX4_put 101 = .ok (.dup, 1) := by decide +kernel
theorem dX4_put_102 : decode cX4_put 102 = .ok (.getfield 9, 3) := by decide +kernel
theorem dX4_put_105 : decode cX4_put 105 = .ok (.iconst 1, 1) := by decide +kernel
theorem dX4_put_106 : decode cX4_put 106 = .ok (.iadd, 1) := by decide +kernel
theorem dX4_put_107 : decode cX4_put 107 = .ok (.putfield 9, 3) := by decide +kernel
theorem dX4_put_110 : decode cX4_put 110 = .ok (.return_, 1) := by decide +kernel
theorem dX4_drop_0 : decode cX4_drop 0 = .ok (.iload_n 1, 1) := by decide +kernel
theorem dX4_drop_1 : decode cX4_drop 1 = .ok (.ifCond .lt 11, 3) := by decide +kernel
theorem dX4_drop_4 : decode cX4_drop 4 = .ok (.iload_n 1, 1) := by decide +kernel
theorem dX4_drop_5 : decode cX4_drop 5 = .ok (.aload_n 0, 1) := by decide +kernel
theorem dX4_drop_6 : decode cX4_drop 6 = .ok (.getfield 9, 3) := by decide +kernel
theorem dX4_drop_9 : decode cX4_drop 9 = .ok (.if_icmp .lt 4, 3) := by decide +kernel
theorem dX4_drop_12 : decode cX4_drop 12 = .ok (.return_, 1) := by decide +kernel
theorem dX4_drop_13 : decode cX4_drop 13 = .ok (.iload_n 1, 1) := by decide +kernel
theorem dX4_drop_14 : decode cX4_drop 14 = .ok (.iconst 1, 1) := by decide +kernel
theorem dX4_drop_15 : decode cX4_drop 15 = .ok (.iadd, 1) := by decide +kernel
theorem dX4_drop_16 : decode cX4_drop 16 = .ok (.istore_n 2, 1) := by decide +kernel
theorem dX4_drop_17 : decode cX4_drop 17 = .ok (.iload_n 2, 1) := by decide +kernel
theorem dX4_drop_18 : decode cX4_drop 18 = .ok (.aload_n 0, 1) := by decide +kernel
theorem dX4_drop_19 : decode cX4_drop 19 = .ok (.getfield 9, 3) := by decide +kernel
theorem dX4_drop_22 : decode cX4_drop 22 = .ok (.if_icmp .ge 17, 3) := by decide +kernel
theorem dX4_drop_25 : decode cX4_drop 25 = .ok (.aload_n 0, 1) := by decide +kernel
theorem dX4_drop_26 : decode cX4_drop 26 = .ok (.iload_n 2, 1) := by decide +kernel
theorem dX4_drop_27 : decode cX4_drop 27 = .ok (.iload_n 2, 1) := by decide +kernel
theorem dX4_drop_28 : decode cX4_drop 28 = .ok (.iconst 1, 1) := by decide +kernel
theorem dX4_drop_29 : decode cX4_drop 29 = .ok (.isub, 1) := by decide +kernel
theorem dX4_drop_30 : decode cX4_drop 30 = .ok (.invokevirtual 29, 3) := by decide +kernel
theorem dX4_drop_33 : decode cX4_drop 33 = .ok (.iinc 2 1, 3) := by decide +kernel
theorem dX4_drop_36 : decode cX4_drop 36 = .ok (.goto (-19), 3) := by decide +kernel
theorem dX4_drop_39 : decode cX4_drop 39 = .ok (.aload_n 0, 1) := by decide +kernel
theorem dX4_drop_40 : decode cX4_drop 40 = .ok (.dup, 1) := by decide +kernel
theorem dX4_drop_41 : decode cX4_drop 41 = .ok (.getfield 9, 3) := by decide +kernel
theorem dX4_drop_44 : decode cX4_drop 44 = .ok (.iconst 1, 1) := by decide +kernel
theorem dX4_drop_45 : decode cX4_drop 45 = .ok (.isub, 1) := by decide +kernel
theorem dX4_drop_46 : decode cX4_drop 46 = .ok (.putfield 9, 3) := by decide +kernel
theorem dX4_drop_49 : decode cX4_drop 49 = .ok (.return_, 1) := by decide +kernel
theorem dX4_move_0 : decode cX4_move 0 = .ok (.aload_n 0, 1) := by decide +kernel
theorem dX4_move_1 : decode cX4_move 1 = .ok (.getfield 15, 3) := by decide +kernel
theorem dX4_move_4 : decode cX4_move 4 = .ok (.iload_n 2, 1) := by decide +kernel
theorem dX4_move_5 : decode cX4_move 5 = .ok (.aload_n 0, 1) := by decide +kernel
theorem dX4_move_6 : decode cX4_move 6 = .ok (.getfield 15, 3) := by decide +kernel
theorem dX4_move_9 : decode cX4_move 9 = .ok (.iload_n 1, 1) := by decide +kernel
theorem dX4_move_10 : decode cX4_move 10 = .ok (.iaload, 1) := by decide +kernel
theorem dX4_move_11 : decode cX4_move 11 = .ok (.iastore, 1) := by decide +kernel
theorem dX4_move_12 : decode cX4_move 12 = .ok (.aload_n 0, 1) := by decide +kernel
theorem dX4_move_13 : decode cX4_move 13 = .ok (.getfield 19, 3) := by decide +kernel
theorem dX4_move_16 : decode cX4_move 16 = .ok (.iload_n 2, 1) := by decide +kernel
theorem dX4_move_17 : decode cX4_move 17 = .ok (.aload_n 0, 1) := by decide +kernel
theorem dX4_move_18 : decode cX4_move 18 = .ok (.getfield 19, 3) := by decide +kernel
theorem dX4_move_21 : decode cX4_move 21 = .ok (.iload_n 1, 1) := by decide +kernel
theorem dX4_move_22 : decode cX4_move 22 = .ok (.iaload, 1) := by decide +kernel
theorem dX4_move_23 : decode cX4_move 23 = .ok (.iastore, 1) := by decide +kernel
theorem dX4_move_24 : decode cX4_move 24 = .ok (.aload_n 0, 1) := by decide +kernel
theorem dX4_move_25 : decode cX4_move 25 = .ok (.getfield 22, 3) := by decide +kernel
theorem dX4_move_28 : decode cX4_move 28 = .ok (.iload_n 2, 1) := by decide +kernel
theorem dX4_move_29 : decode cX4_move 29 = .ok (.aload_n 0, 1) := by decide +kernel
theorem dX4_move_30 : decode cX4_move 30 = .ok (.getfield 22, 3) := by decide +kernel
theorem dX4_move_33 : decode cX4_move 33 = .ok (.iload_n 1, 1) := by decide +kernel
theorem dX4_move_34 : decode cX4_move 34 = .ok (.iaload, 1) := by decide +kernel
theorem dX4_move_35 : decode cX4_move 35 = .ok (.iastore, 1) := by decide +kernel
theorem dX4_move_36 : decode cX4_move 36 = .ok (.return_, 1) := by decide +kernel
theorem dX4_copy_0 : decode cX4_copy 0 = .ok (.aload_n 0, 1) := by decide +kernel
theorem dX4_copy_1 : decode cX4_copy 1 = .ok (.aload_n 1, 1) := by decide +kernel
theorem dX4_copy_2 : decode cX4_copy 2 = .ok (.getfield 9, 3) := by decide +kernel
theorem dX4_copy_5 : decode cX4_copy 5 = .ok (.putfield 9, 3) := by decide +kernel
theorem dX4_copy_8 : decode cX4_copy 8 = .ok (.iconst 0, 1) := by decide +kernel
theorem dX4_copy_9 : decode cX4_copy 9 = .ok (.istore_n 2, 1) := by decide +kernel
theorem dX4_copy_10 : decode cX4_copy 10 = .ok (.iload_n 2, 1) := by decide +kernel
theorem dX4_copy_11 : decode cX4_copy 11 = .ok (.aload_n 0, 1) := by decide +kernel
theorem dX4_copy_12 : decode cX4_copy 12 = .ok (.getfield 9, 3) := by decide +kernel
theorem dX4_copy_15 : decode cX4_copy 15 = .ok (.if_icmp .ge 45, 3) := by decide +kernel
theorem dX4_copy_18 : decode cX4_copy 18 = .ok (.aload_n 0, 1) := by decide +kernel
theorem dX4_copy_19 : decode cX4_copy 19 = .ok (.getfield 15, 3) := by decide +kernel
theorem dX4_copy_22 : decode cX4_copy 22 = .ok (.iload_n 2, 1) := by decide +kernel
theorem dX4_copy_23 : decode cX4_copy 23 = .ok (.aload_n 1, 1) := by decide +kernel
theorem dX4_copy_24 : decode cX4_copy 24 = .ok (.getfield 15, 3) := by decide +kernel
theorem dX4_copy_27 : decode cX4_copy 27 = .ok (.iload_n 2, 1) := by decide +kernel
theorem dX4_copy_28 : decode cX4_copy 28 = .ok (.iaload, 1) := by decide +kernel
theorem dX4_copy_29 : decode cX4_copy 29 = .ok (.iastore, 1) := by decide +kernel
theorem dX4_copy_30 : decode cX4_copy 30 = .ok (.aload_n 0, 1) := by decide +kernel
theorem dX4_copy_31 : decode cX4_copy 31 = .ok (.getfield 19, 3) := by decide +kernel
theorem dX4_copy_34 : decode cX4_copy 34 = .ok (.iload_n 2, 1) := by decide +kernel
theorem dX4_copy_35 : decode cX4_copy 35 = .ok (.aload_n 1, 1) := by decide +kernel
theorem dX4_copy_36 : decode cX4_copy 36 = .ok (.getfield 19, 3) := by decide +kernel
theorem dX4_copy_39 : decode cX4_copy 39 = .ok (.iload_n 2, 1) := by decide +kernel
theorem dX4_copy_40 : decode cX4_copy 40 = .ok (.iaload, 1) := by decide +kernel
theorem dX4_copy_41 : decode cX4_copy 41 = .ok (.iastore, 1) := by decide +kernel
theorem dX4_copy_42 : decode cX4_copy 42 = .ok (.aload_n 0, 1) := by decide +kernel
theorem dX4_copy_43 : decode cX4_copy 43 = .ok (.getfield 22, 3) := by decide +kernel
theorem dX4_copy_46 : decode cX4_copy 46 = .ok (.iload_n 2, 1) := by decide +kernel
theorem dX4_copy_47 : decode cX4_copy 47 = .ok (.aload_n 1, 1) := by decide +kernel
theorem dX4_copy_48 : decode cX4_copy 48 = .ok (.getfield 22, 3) := by decide +kernel
theorem dX4_copy_51 : decode cX4_copy 51 = .ok (.iload_n 2, 1) := by decide +kernel
theorem dX4_copy_52 : decode cX4_copy 52 = .ok (.iaload, 1) := by decide +kernel
theorem dX4_copy_53 : decode cX4_copy 53 = .ok (.iastore, 1) := by decide +kernel
theorem dX4_copy_54 : decode cX4_copy 54 = .ok (.iinc 2 1, 3) := by decide +kernel
theorem dX4_copy_57 : decode cX4_copy 57 = .ok (.goto (-47), 3) := by decide +kernel
theorem dX4_copy_60 : decode cX4_copy 60 = .ok (.return_, 1) := by decide +kernel
theorem dX4_squares_0 : decode cX4_squares 0 = .ok (.aload_n 0, 1) := by decide +kernel
theorem dX4_squares_1 : decode cX4_squares 1 = .ok (.getfield 15, 3) := by decide +kernel
theorem dX4_squares_4 : decode cX4_squares 4 = .ok (.iload_n 1, 1) := by decide +kernel
theorem dX4_squares_5 : decode cX4_squares 5 = .ok (.iaload, 1) := by decide +kernel
theorem dX4_squares_6 : decode cX4_squares 6 = .ok (.iload_n 2, 1) := by decide +kernel
theorem dX4_squares_7 : decode cX4_squares 7 = .ok (.isub, 1) := by decide +kernel
theorem dX4_squares_8 : decode cX4_squares 8 = .ok (.istore 4, 2) := by decide +kernel
theorem dX4_squares_10 : decode cX4_squares 10 = .ok (.aload_n 0, 1) := by decide +kernel
theorem dX4_squares_11 : decode cX4_squares 11 = .ok (.getfield 19, 3) := by decide +kernel
theorem dX4_squares_14 : decode cX4_squares 14 = .ok (.iload_n 1, 1) := by decide +kernel
theorem dX4_squares_15 : decode cX4_squares 15 = .ok (.iaload, 1) := by decide +kernel
theorem dX4_squares_16 : decode cX4_squares 16 = .ok (.iload_n 3, 1) := by decide +kernel
theorem dX4_squares_17 : decode cX4_squares 17 = .ok (.isub, 1) := by decide +kernel
theorem dX4_squares_18 : decode cX4_squares 18 = .ok (.istore 5, 2) := by decide +kernel
theorem dX4_squares_20 : decode cX4_squares 20 = .ok (.iload 4, 2) := by decide +kernel
theorem dX4_squares_22 : decode cX4_squares 22 = .ok (.iload 4, 2) := by decide +kernel
theorem dX4_squares_24 : decode cX4_squares 24 = .ok (.imul, 1) := by decide +kernel
theorem dX4_squares_25 : decode cX4_squares 25 = .ok (.iload 5, 2) := by decide +kernel
theorem dX4_squares_27 : decode cX4_squares 27 = .ok (.iload 5, 2) := by decide +kernel
theorem dX4_squares_29 : decode cX4_squares 29 = .ok (.imul, 1) := by decide +kernel
theorem dX4_squares_30 : decode cX4_squares 30 = .ok (.iadd, 1) := by decide +kernel
theorem dX4_squares_31 : decode cX4_squares 31 = .ok (.ireturn, 1) := by decide +kernel
theorem dX4_apart_0 : decode cX4_apart 0 = .ok (.aload_n 0, 1) := by decide +kernel
theorem dX4_apart_1 : decode cX4_apart 1 = .ok (.iload_n 1, 1) := by decide +kernel
theorem dX4_apart_2 : decode cX4_apart 2 = .ok (.aload_n 0, 1) := by decide +kernel
theorem dX4_apart_3 : decode cX4_apart 3 = .ok (.getfield 15, 3) := by decide +kernel
theorem dX4_apart_6 : decode cX4_apart 6 = .ok (.iload_n 2, 1) := by decide +kernel
theorem dX4_apart_7 : decode cX4_apart 7 = .ok (.iaload, 1) := by decide +kernel
theorem dX4_apart_8 : decode cX4_apart 8 = .ok (.aload_n 0, 1) := by decide +kernel
theorem dX4_apart_9 : decode cX4_apart 9 = .ok (.getfield 19, 3) := by decide +kernel
theorem dX4_apart_12 : decode cX4_apart 12 = .ok (.iload_n 2, 1) := by decide +kernel
theorem dX4_apart_13 : decode cX4_apart 13 = .ok (.iaload, 1) := by decide +kernel
theorem dX4_apart_14 : decode cX4_apart 14 = .ok (.invokevirtual 33, 3) := by decide +kernel
theorem dX4_apart_17 : decode cX4_apart 17 = .ok (.ireturn, 1) := by decide +kernel
theorem dX4_nearestTo_0 : decode cX4_nearestTo 0 = .ok (.iconst (-1), 1) := by decide +kernel
theorem dX4_nearestTo_1 : decode cX4_nearestTo 1 = .ok (.istore_n 2, 1) := by decide +kernel
theorem dX4_nearestTo_2 : decode cX4_nearestTo 2 = .ok (.iconst 0, 1) := by decide +kernel
theorem dX4_nearestTo_3 : decode cX4_nearestTo 3 = .ok (.istore_n 3, 1) := by decide +kernel
theorem dX4_nearestTo_4 : decode cX4_nearestTo 4 = .ok (.iconst 0, 1) := by decide +kernel
theorem dX4_nearestTo_5 : decode cX4_nearestTo 5 = .ok (.istore 4, 2) := by decide +kernel
theorem dX4_nearestTo_7 : decode cX4_nearestTo 7 = .ok (.iload 4, 2) := by decide +kernel
theorem dX4_nearestTo_9 : decode cX4_nearestTo 9 = .ok (.aload_n 0, 1) := by decide +kernel
theorem dX4_nearestTo_10 : decode cX4_nearestTo 10 = .ok (.getfield 9, 3) := by decide +kernel
theorem dX4_nearestTo_13 : decode cX4_nearestTo 13 = .ok (.if_icmp .ge 42, 3) := by decide +kernel
theorem dX4_nearestTo_16 : decode cX4_nearestTo 16 = .ok (.iload 4, 2) := by decide +kernel
theorem dX4_nearestTo_18 : decode cX4_nearestTo 18 = .ok (.iload_n 1, 1) := by decide +kernel
theorem dX4_nearestTo_19 : decode cX4_nearestTo 19 = .ok (.if_icmp .eq 30, 3) := by decide +kernel
theorem dX4_nearestTo_22 : decode cX4_nearestTo 22 = .ok (.iload_n 2, 1) := by decide +kernel
theorem dX4_nearestTo_23 : decode cX4_nearestTo 23 = .ok (.iconst (-1), 1) := by decide +kernel
theorem dX4_nearestTo_24 : decode cX4_nearestTo 24 = .ok (.if_icmp .eq 14, 3) := by decide +kernel
theorem dX4_nearestTo_27 : decode cX4_nearestTo 27 = .ok (.aload_n 0, 1) := by decide +kernel
theorem dX4_nearestTo_28 : decode cX4_nearestTo 28 = .ok (.iload_n 1, 1) := by decide +kernel
theorem dX4_nearestTo_29 : decode cX4_nearestTo 29 = .ok (.iload 4, 2) := by decide +kernel
theorem dX4_nearestTo_31 : decode cX4_nearestTo 31 = .ok (.invokevirtual 37, 3) := by decide +kernel
theorem dX4_nearestTo_34 : decode cX4_nearestTo 34 = .ok (.iload_n 3, 1) := by decide +kernel
theorem dX4_nearestTo_35 : decode cX4_nearestTo 35 = .ok (.if_icmp .ge 14, 3) := by decide +kernel
theorem dX4_nearestTo_38 : decode cX4_nearestTo 38 = .ok (.iload 4, 2) := by decide +kernel
theorem dX4_nearestTo_40 : decode cX4_nearestTo 40 = .ok (.istore_n 2, 1) := by decide +kernel
theorem dX4_nearestTo_41 : decode cX4_nearestTo 41 = .ok (.aload_n 0, 1) := by decide +kernel
theorem dX4_nearestTo_42 : decode cX4_nearestTo 42 = .ok (.iload_n 1, 1) := by decide +kernel
theorem dX4_nearestTo_43 : decode cX4_nearestTo 43 = .ok (.iload 4, 2) := by decide +kernel
theorem dX4_nearestTo_45 : decode cX4_nearestTo 45 = .ok (.invokevirtual 37, 3) := by decide +kernel
theorem dX4_nearestTo_48 : decode cX4_nearestTo 48 = .ok (.istore_n 3, 1) := by decide +kernel
theorem dX4_nearestTo_49 : decode cX4_nearestTo 49 = .ok (.iinc 4 1, 3) := by decide +kernel
theorem dX4_nearestTo_52 : decode cX4_nearestTo 52 = .ok (.goto (-45), 3) := by decide +kernel
theorem dX4_nearestTo_55 : decode cX4_nearestTo 55 = .ok (.iload_n 2, 1) := by decide +kernel
theorem dX4_nearestTo_56 : decode cX4_nearestTo 56 = .ok (.ireturn, 1) := by decide +kernel
theorem dX4_apartFromNearest_0 : decode cX4_apartFromNearest 0 = .ok (.aload_n 0, 1) := by decide +kernel
theorem dX4_apartFromNearest_1 : decode cX4_apartFromNearest 1 = .ok (.iload_n 1, 1) := by decide +kernel
theorem dX4_apartFromNearest_2 : decode cX4_apartFromNearest 2 = .ok (.invokevirtual 40, 3) := by decide +kernel
theorem dX4_apartFromNearest_5 : decode cX4_apartFromNearest 5 = .ok (.istore_n 2, 1) := by decide +kernel
theorem dX4_apartFromNearest_6 : decode cX4_apartFromNearest 6 = .ok (.iload_n 2, 1) := by decide +kernel
theorem dX4_apartFromNearest_7 : decode cX4_apartFromNearest 7 = .ok (.iconst (-1), 1) := by decide +kernel
theorem dX4_apartFromNearest_8 : decode cX4_apartFromNearest 8 = .ok (.if_icmp .ne 7, 3) := by decide +kernel
theorem dX4_apartFromNearest_11 : decode cX4_apartFromNearest 11 = .ok (.iconst (-1), 1) := by decide +kernel
theorem dX4_apartFromNearest_12 : decode cX4_apartFromNearest 12 = .ok (.goto 9, 3) := by decide +kernel
theorem dX4_apartFromNearest_15 : decode cX4_apartFromNearest 15 = .ok (.aload_n 0, 1) := by decide +kernel
theorem dX4_apartFromNearest_16 : decode cX4_apartFromNearest 16 = .ok (.iload_n 1, 1) := by decide +kernel
theorem dX4_apartFromNearest_17 : decode cX4_apartFromNearest 17 = .ok (.iload_n 2, 1) := by decide +kernel
theorem dX4_apartFromNearest_18 : decode cX4_apartFromNearest 18 = .ok (.invokevirtual 37, 3) := by decide +kernel
theorem dX4_apartFromNearest_21 : decode cX4_apartFromNearest 21 = .ok (.ireturn, 1) := by decide +kernel
theorem dX4_within_0 : decode cX4_within 0 = .ok (.iconst 0, 1) := by decide +kernel
theorem dX4_within_1 : decode cX4_within 1 = .ok (.istore 5, 2) := by decide +kernel
theorem dX4_within_3 : decode cX4_within 3 = .ok (.iconst 0, 1) := by decide +kernel
theorem dX4_within_4 : decode cX4_within 4 = .ok (.istore 6, 2) := by decide +kernel
theorem dX4_within_6 : decode cX4_within 6 = .ok (.iload 6, 2) := by decide +kernel
theorem dX4_within_8 : decode cX4_within 8 = .ok (.aload_n 0, 1) := by decide +kernel
theorem dX4_within_9 : decode cX4_within 9 = .ok (.getfield 9, 3) := by decide +kernel
theorem dX4_within_12 : decode cX4_within 12 = .ok (.if_icmp .ge 63, 3) := by decide +kernel
theorem dX4_within_15 : decode cX4_within 15 = .ok (.aload_n 0, 1) := by decide +kernel
theorem dX4_within_16 : decode cX4_within 16 = .ok (.getfield 15, 3) := by decide +kernel
theorem dX4_within_19 : decode cX4_within 19 = .ok (.iload 6, 2) := by decide +kernel
theorem dX4_within_21 : decode cX4_within 21 = .ok (.iaload, 1) := by decide +kernel
theorem dX4_within_22 : decode cX4_within 22 = .ok (.iload_n 1, 1) := by decide +kernel
theorem dX4_within_23 : decode cX4_within 23 = .ok (.if_icmp .lt 46, 3) := by decide +kernel
theorem dX4_within_26 : decode cX4_within 26 = .ok (.aload_n 0, 1) := by decide +kernel
theorem dX4_within_27 : decode cX4_within 27 = .ok (.getfield 15, 3) := by decide +kernel
theorem dX4_within_30 : decode cX4_within 30 = .ok (.iload 6, 2) := by decide +kernel
theorem dX4_within_32 : decode cX4_within 32 = .ok (.iaload, 1) := by decide +kernel
theorem dX4_within_33 : decode cX4_within 33 = .ok (.iload_n 2, 1) := by decide +kernel
theorem dX4_within_34 : decode cX4_within 34 = .ok (.if_icmp .gt 35, 3) := by decide +kernel
theorem dX4_within_37 : decode cX4_within 37 = .ok (.aload_n 0, 1) := by decide +kernel
theorem dX4_within_38 : decode cX4_within 38 = .ok (.getfield 19, 3) := by decide +kernel
theorem dX4_within_41 : decode cX4_within 41 = .ok (.iload 6, 2) := by decide +kernel
theorem dX4_within_43 : decode cX4_within 43 = .ok (.iaload, 1) := by decide +kernel
theorem dX4_within_44 : decode cX4_within 44 = .ok (.iload_n 3, 1) := by decide +kernel
theorem dX4_within_45 : decode cX4_within 45 = .ok (.if_icmp .lt 24, 3) := by decide +kernel
theorem dX4_within_48 : decode cX4_within 48 = .ok (.aload_n 0, 1) := by decide +kernel
theorem dX4_within_49 : decode cX4_within 49 = .ok (.getfield 19, 3) := by decide +kernel
theorem dX4_within_52 : decode cX4_within 52 = .ok (.iload 6, 2) := by decide +kernel
theorem dX4_within_54 : decode cX4_within 54 = .ok (.iaload, 1) := by decide +kernel
theorem dX4_within_55 : decode cX4_within 55 = .ok (.iload 4, 2) := by decide +kernel
theorem dX4_within_57 : decode cX4_within 57 = .ok (.if_icmp .gt 12, 3) := by decide +kernel
theorem dX4_within_60 : decode cX4_within 60 = .ok (.iload 5, 2) := by decide +kernel
theorem dX4_within_62 : decode cX4_within 62 = .ok (.iconst 1, 1) := by decide +kernel
theorem dX4_within_63 : decode cX4_within 63 = .ok (.iload 6, 2) := by decide +kernel
theorem dX4_within_65 : decode cX4_within 65 = .ok (.ishl, 1) := by decide +kernel
theorem dX4_within_66 : decode cX4_within 66 = .ok (.ior, 1) := by decide +kernel
theorem dX4_within_67 : decode cX4_within 67 = .ok (.istore 5, 2) := by decide +kernel
theorem dX4_within_69 : decode cX4_within 69 = .ok (.iinc 6 1, 3) := by decide +kernel
theorem dX4_within_72 : decode cX4_within 72 = .ok (.goto (-66), 3) := by decide +kernel
theorem dX4_within_75 : decode cX4_within 75 = .ok (.iload 5, 2) := by decide +kernel
theorem dX4_within_77 : decode cX4_within 77 = .ok (.ireturn, 1) := by decide +kernel
theorem dX4_weightOf_0 : decode cX4_weightOf 0 = .ok (.iconst 0, 1) := by decide +kernel
theorem dX4_weightOf_1 : decode cX4_weightOf 1 = .ok (.istore_n 2, 1) := by decide +kernel
theorem dX4_weightOf_2 : decode cX4_weightOf 2 = .ok (.iconst 0, 1) := by decide +kernel
theorem dX4_weightOf_3 : decode cX4_weightOf 3 = .ok (.istore_n 3, 1) := by decide +kernel
theorem dX4_weightOf_4 : decode cX4_weightOf 4 = .ok (.iload_n 3, 1) := by decide +kernel
theorem dX4_weightOf_5 : decode cX4_weightOf 5 = .ok (.aload_n 0, 1) := by decide +kernel
theorem dX4_weightOf_6 : decode cX4_weightOf 6 = .ok (.getfield 9, 3) := by decide +kernel
theorem dX4_weightOf_9 : decode cX4_weightOf 9 = .ok (.if_icmp .ge 26, 3) := by decide +kernel
theorem dX4_weightOf_12 : decode cX4_weightOf 12 = .ok (.iload_n 1, 1) := by decide +kernel
theorem dX4_weightOf_13 : decode cX4_weightOf 13 = .ok (.iload_n 3, 1) := by decide +kernel
theorem dX4_weightOf_14 : decode cX4_weightOf 14 = .ok (.invokestatic 44, 3) := by decide +kernel
theorem dX4_weightOf_17 : decode cX4_weightOf 17 = .ok (.ifCond .eq 12, 3) := by decide +kernel
theorem dX4_weightOf_20 : decode cX4_weightOf 20 = .ok (.iload_n 2, 1) := by decide +kernel
theorem dX4_weightOf_21 : decode cX4_weightOf 21 = .ok (.aload_n 0, 1) := by decide +kernel
theorem dX4_weightOf_22 : decode cX4_weightOf 22 = .ok (.getfield 22, 3) := by decide +kernel
theorem dX4_weightOf_25 : decode cX4_weightOf 25 = .ok (.iload_n 3, 1) := by decide +kernel
theorem dX4_weightOf_26 : decode cX4_weightOf 26 = .ok (.iaload, 1) := by decide +kernel
theorem dX4_weightOf_27 : decode cX4_weightOf 27 = .ok (.iadd, 1) := by decide +kernel
theorem dX4_weightOf_28 : decode cX4_weightOf 28 = .ok (.istore_n 2, 1) := by decide +kernel
theorem dX4_weightOf_29 : decode cX4_weightOf 29 = .ok (.iinc 3 1, 3) := by decide +kernel
theorem dX4_weightOf_32 : decode cX4_weightOf 32 = .ok (.goto (-28), 3) := by decide +kernel
theorem dX4_weightOf_35 : decode cX4_weightOf 35 = .ok (.iload_n 2, 1) := by decide +kernel
theorem dX4_weightOf_36 : decode cX4_weightOf 36 = .ok (.ireturn, 1) := by decide +kernel
theorem dX4_heaviestOf_0 : decode cX4_heaviestOf 0 = .ok (.iconst (-1), 1) := by decide +kernel
theorem dX4_heaviestOf_1 : decode cX4_heaviestOf 1 = .ok (.istore_n 2, 1) := by decide +kernel
theorem dX4_heaviestOf_2 : decode cX4_heaviestOf 2 = .ok (.iconst 0, 1) := by decide +kernel
theorem dX4_heaviestOf_3 : decode cX4_heaviestOf 3 = .ok (.istore_n 3, 1) := by decide +kernel
theorem dX4_heaviestOf_4 : decode cX4_heaviestOf 4 = .ok (.iconst 0, 1) := by decide +kernel
theorem dX4_heaviestOf_5 : decode cX4_heaviestOf 5 = .ok (.istore 4, 2) := by decide +kernel
theorem dX4_heaviestOf_7 : decode cX4_heaviestOf 7 = .ok (.iload 4, 2) := by decide +kernel
theorem dX4_heaviestOf_9 : decode cX4_heaviestOf 9 = .ok (.aload_n 0, 1) := by decide +kernel
theorem dX4_heaviestOf_10 : decode cX4_heaviestOf 10 = .ok (.getfield 9, 3) := by decide +kernel
theorem dX4_heaviestOf_13 : decode cX4_heaviestOf 13 = .ok (.if_icmp .ge 40, 3) := by decide +kernel
theorem dX4_heaviestOf_16 : decode cX4_heaviestOf 16 = .ok (.iload_n 1, 1) := by decide +kernel
theorem dX4_heaviestOf_17 : decode cX4_heaviestOf 17 = .ok (.iload 4, 2) := by decide +kernel
theorem dX4_heaviestOf_19 : decode cX4_heaviestOf 19 = .ok (.invokestatic 44, 3) := by decide +kernel
theorem dX4_heaviestOf_22 : decode cX4_heaviestOf 22 = .ok (.ifCond .eq 25, 3) := by decide +kernel
theorem dX4_heaviestOf_25 : decode cX4_heaviestOf 25 = .ok (.aload_n 0, 1) := by decide +kernel
theorem dX4_heaviestOf_26 : decode cX4_heaviestOf 26 = .ok (.getfield 22, 3) := by decide +kernel
theorem dX4_heaviestOf_29 : decode cX4_heaviestOf 29 = .ok (.iload 4, 2) := by decide +kernel
theorem dX4_heaviestOf_31 : decode cX4_heaviestOf 31 = .ok (.iaload, 1) := by decide +kernel
theorem dX4_heaviestOf_32 : decode cX4_heaviestOf 32 = .ok (.iload_n 3, 1) := by decide +kernel
theorem dX4_heaviestOf_33 : decode cX4_heaviestOf 33 = .ok (.if_icmp .le 14, 3) := by decide +kernel
theorem dX4_heaviestOf_36 : decode cX4_heaviestOf 36 = .ok (.iload 4, 2) := by decide +kernel
theorem dX4_heaviestOf_38 : decode cX4_heaviestOf 38 = .ok (.istore_n 2, 1) := by decide +kernel
theorem dX4_heaviestOf_39 : decode cX4_heaviestOf 39 = .ok (.aload_n 0, 1) := by decide +kernel
theorem dX4_heaviestOf_40 : decode cX4_heaviestOf 40 = .ok (.getfield 22, 3) := by decide +kernel
theorem dX4_heaviestOf_43 : decode cX4_heaviestOf 43 = .ok (.iload 4, 2) := by decide +kernel
theorem dX4_heaviestOf_45 : decode cX4_heaviestOf 45 = .ok (.iaload, 1) := by decide +kernel
theorem dX4_heaviestOf_46 : decode cX4_heaviestOf 46 = .ok (.istore_n 3, 1) := by decide +kernel
theorem dX4_heaviestOf_47 : decode cX4_heaviestOf 47 = .ok (.iinc 4 1, 3) := by decide +kernel
theorem dX4_heaviestOf_50 : decode cX4_heaviestOf 50 = .ok (.goto (-43), 3) := by decide +kernel
theorem dX4_heaviestOf_53 : decode cX4_heaviestOf 53 = .ok (.iload_n 2, 1) := by decide +kernel
theorem dX4_heaviestOf_54 : decode cX4_heaviestOf 54 = .ok (.ireturn, 1) := by decide +kernel
theorem dX4_wide_0 : decode cX4_wide 0 = .ok (.iconst 0, 1) := by decide +kernel
theorem dX4_wide_1 : decode cX4_wide 1 = .ok (.istore_n 2, 1) := by decide +kernel
theorem dX4_wide_2 : decode cX4_wide 2 = .ok (.iconst 0, 1) := by decide +kernel
theorem dX4_wide_3 : decode cX4_wide 3 = .ok (.istore_n 3, 1) := by decide +kernel
theorem dX4_wide_4 : decode cX4_wide 4 = .ok (.iload_n 3, 1) := by decide +kernel
theorem dX4_wide_5 : decode cX4_wide 5 = .ok (.aload_n 0, 1) := by decide +kernel
theorem dX4_wide_6 : decode cX4_wide 6 = .ok (.getfield 9, 3) := by decide +kernel
theorem dX4_wide_9 : decode cX4_wide 9 = .ok (.if_icmp .ge 58, 3) := by decide +kernel
theorem dX4_wide_12 : decode cX4_wide 12 = .ok (.iload_n 3, 1) := by decide +kernel
theorem dX4_wide_13 : decode cX4_wide 13 = .ok (.iconst 1, 1) := by decide +kernel
theorem dX4_wide_14 : decode cX4_wide 14 = .ok (.iadd, 1) := by decide +kernel
theorem dX4_wide_15 : decode cX4_wide 15 = .ok (.istore 4, 2) := by decide +kernel
theorem dX4_wide_17 : decode cX4_wide 17 = .ok (.iload 4, 2) := by decide +kernel
theorem dX4_wide_19 : decode cX4_wide 19 = .ok (.aload_n 0, 1) := by decide +kernel
theorem dX4_wide_20 : decode cX4_wide 20 = .ok (.getfield 9, 3) := by decide +kernel
theorem dX4_wide_23 : decode cX4_wide 23 = .ok (.if_icmp .ge 38, 3) := by decide +kernel
theorem dX4_wide_26 : decode cX4_wide 26 = .ok (.iload_n 1, 1) := by decide +kernel
theorem dX4_wide_27 : decode cX4_wide 27 = .ok (.iload_n 3, 1) := by decide +kernel
theorem dX4_wide_28 : decode cX4_wide 28 = .ok (.invokestatic 44, 3) := by decide +kernel
theorem dX4_wide_31 : decode cX4_wide 31 = .ok (.ifCond .eq 30, 3) := by decide +kernel
theorem dX4_wide_34 : decode cX4_wide 34 = .ok (.iload_n 1, 1) := by decide +kernel
theorem dX4_wide_35 : decode cX4_wide 35 = .ok (.iload 4, 2) := by decide +kernel
theorem dX4_wide_37 : decode cX4_wide 37 = .ok (.invokestatic 44, 3) := by decide +kernel
theorem dX4_wide_40 : decode cX4_wide 40 = .ok (.ifCond .eq 15, 3) := by decide +kernel
theorem dX4_wide_43 : decode cX4_wide 43 = .ok (.iload_n 2, 1) := by decide +kernel
theorem dX4_wide_44 : decode cX4_wide 44 = .ok (.aload_n 0, 1) := by decide +kernel
theorem dX4_wide_45 : decode cX4_wide 45 = .ok (.iload_n 3, 1) := by decide +kernel
theorem dX4_wide_46 : decode cX4_wide 46 = .ok (.iload 4, 2) := by decide +kernel
theorem dX4_wide_48 : decode cX4_wide 48 = .ok (.invokevirtual 37, 3) := by decide +kernel
theorem dX4_wide_51 : decode cX4_wide 51 = .ok (.invokestatic 50, 3) := by decide +kernel
theorem dX4_wide_54 : decode cX4_wide 54 = .ok (.istore_n 2, 1) := by decide +kernel
theorem dX4_wide_55 : decode cX4_wide 55 = .ok (.iinc 4 1, 3) := by decide +kernel
theorem dX4_wide_58 : decode cX4_wide 58 = .ok (.goto (-41), 3) := by decide +kernel
theorem dX4_wide_61 : decode cX4_wide 61 = .ok (.iinc 3 1, 3) := by decide +kernel
theorem dX4_wide_64 : decode cX4_wide 64 = .ok (.goto (-60), 3) := by decide +kernel
theorem dX4_wide_67 : decode cX4_wide 67 = .ok (.iload_n 2, 1) := by decide +kernel
theorem dX4_wide_68 : decode cX4_wide 68 = .ok (.ireturn, 1) := by decide +kernel
theorem dX5_init_0 : decode cX5_init 0 = .ok (.aload_n 0, 1) := by decide +kernel
theorem dX5_init_1 : decode cX5_init 1 = .ok (.invokespecial 3, 3) := by decide +kernel
theorem dX5_init_4 : decode cX5_init 4 = .ok (.aload_n 0, 1) := by decide +kernel
theorem dX5_init_5 : decode cX5_init 5 = .ok (.iconst 0, 1) := by decide +kernel
theorem dX5_init_6 : decode cX5_init 6 = .ok (.putfield 9, 3) := by decide +kernel
theorem dX5_init_9 : decode cX5_init 9 = .ok (.aload_n 0, 1) := by decide +kernel
theorem dX5_init_10 : decode cX5_init 10 = .ok (.bipush 24, 2) := by decide +kernel
theorem dX5_init_12 : decode cX5_init 12 = .ok (.newarray .int, 2) := by decide +kernel
theorem dX5_init_14 : decode cX5_init 14 = .ok (.putfield 15, 3) := by decide +kernel
theorem dX5_init_17 : decode cX5_init 17 = .ok (.aload_n 0, 1) := by decide +kernel
theorem dX5_init_18 : decode cX5_init 18 = .ok (.bipush 24, 2) := by decide +kernel
theorem dX5_init_20 : decode cX5_init 20 = .ok (.newarray .int, 2) := by decide +kernel
theorem dX5_init_22 : decode cX5_init 22 = .ok (.putfield 19, 3) := by decide +kernel
theorem dX5_init_25 : decode cX5_init 25 = .ok (.aload_n 0, 1) := by decide +kernel
theorem dX5_init_26 : decode cX5_init 26 = .ok (.bipush 24, 2) := by decide +kernel
theorem dX5_init_28 : decode cX5_init 28 = .ok (.newarray .int, 2) := by decide +kernel
theorem dX5_init_30 : decode cX5_init 30 = .ok (.putfield 22, 3) := by decide +kernel
theorem dX5_init_33 : decode cX5_init 33 = .ok (.aload_n 0, 1) := by decide +kernel
theorem dX5_init_34 : decode cX5_init 34 = .ok (.bipush 24, 2) := by decide +kernel
theorem dX5_init_36 : decode cX5_init 36 = .ok (.newarray .int, 2) := by decide +kernel
theorem dX5_init_38 : decode cX5_init 38 = .ok (.putfield 25, 3) := by decide +kernel
theorem dX5_init_41 : decode cX5_init 41 = .ok (.aload_n 0, 1) := by decide +kernel
theorem dX5_init_42 : decode cX5_init 42 = .ok (.bipush 24, 2) := by decide +kernel
theorem dX5_init_44 : decode cX5_init 44 = .ok (.newarray .int, 2) := by decide +kernel
theorem dX5_init_46 : decode cX5_init 46 = .ok (.putfield 28, 3) := by decide +kernel
theorem dX5_init_49 : decode cX5_init 49 = .ok (.return_, 1) := by decide +kernel
theorem dX5_cut_0 : decode cX5_cut 0 = .ok (.aload_n 1, 1) := by decide +kernel
theorem dX5_cut_1 : decode cX5_cut 1 = .ok (.iload_n 2, 1) := by decide +kernel
theorem dX5_cut_2 : decode cX5_cut 2 = .ok (.invokevirtual 31, 3) := by decide +kernel
theorem dX5_cut_5 : decode cX5_cut 5 = .ok (.istore_n 3, 1) := by decide +kernel
theorem dX5_cut_6 : decode cX5_cut 6 = .ok (.iconst 0, 1) := by decide +kernel
theorem dX5_cut_7 : decode cX5_cut 7 = .ok (.istore 4, 2) := by decide +kernel
theorem dX5_cut_9 : decode cX5_cut 9 = .ok (.aload_n 0, 1) := by decide +kernel
theorem dX5_cut_10 : decode cX5_cut 10 = .ok (.iconst 0, 1) := by decide +kernel
theorem dX5_cut_11 : decode cX5_cut 11 = .ok (.putfield 9, 3) := by decide +kernel
theorem dX5_cut_14 : decode cX5_cut 14 = .ok (.iconst 0, 1) := by decide +kernel
theorem dX5_cut_15 : decode cX5_cut 15 = .ok (.istore 5, 2) := by decide +kernel
theorem dX5_cut_17 : decode cX5_cut 17 = .ok (.iload 5, 2) := by decide +kernel
theorem dX5_cut_19 : decode cX5_cut 19 = .ok (.aload_n 1, 1) := by decide +kernel
theorem dX5_cut_20 : decode cX5_cut 20 = .ok (.getfield 37, 3) := by decide +kernel
theorem dX5_cut_23 : decode cX5_cut 23 = .ok (.getfield 41, 3) := by decide +kernel
theorem dX5_cut_26 : decode cX5_cut 26 = .ok (.if_icmp .ge 71, 3) := by decide +kernel
theorem dX5_cut_29 : decode cX5_cut 29 = .ok (.iload 4, 2) := by decide +kernel
theorem dX5_cut_31 : decode cX5_cut 31 = .ok (.iload 5, 2) := by decide +kernel
theorem dX5_cut_33 : decode cX5_cut 33 = .ok (.invokestatic 44, 3) := by decide +kernel
theorem dX5_cut_36 : decode cX5_cut 36 = .ok (.ifCond .ne 55, 3) := by decide +kernel
theorem dX5_cut_39 : decode cX5_cut 39 = .ok (.aload_n 0, 1) := by decide +kernel
theorem dX5_cut_40 : decode cX5_cut 40 = .ok (.getfield 15, 3) := by decide +kernel
theorem dX5_cut_43 : decode cX5_cut 43 = .ok (.aload_n 0, 1) := by decide +kernel
theorem dX5_cut_44 : decode cX5_cut 44 = .ok (.getfield 9, 3) := by decide +kernel
theorem dX5_cut_47 : decode cX5_cut 47 = .ok (.aload_n 1, 1) := by decide +kernel
theorem dX5_cut_48 : decode cX5_cut 48 = .ok (.iload 5, 2) := by decide +kernel
theorem dX5_cut_50 : decode cX5_cut 50 = .ok (.iload_n 3, 1) := by decide +kernel
theorem dX5_cut_51 : decode cX5_cut 51 = .ok (.invokevirtual 50, 3) := by decide +kernel
theorem dX5_cut_54 : decode cX5_cut 54 = .ok (.iastore, 1) := by decide +kernel
theorem dX5_cut_55 : decode cX5_cut 55 = .ok (.iload 4, 2) := by decide +kernel
theorem dX5_cut_57 : decode cX5_cut 57 = .ok (.aload_n 0, 1) := by decide +kernel
theorem dX5_cut_58 : decode cX5_cut 58 = .ok (.getfield 15, 3) := by decide +kernel
theorem dX5_cut_61 : decode cX5_cut 61 = .ok (.aload_n 0, 1) := by decide +kernel
theorem dX5_cut_62 : decode cX5_cut 62 = .ok (.getfield 9, 3) := by decide +kernel
theorem dX5_cut_65 : decode cX5_cut 65 = .ok (.iaload, 1) := by decide +kernel
theorem dX5_cut_66 : decode cX5_cut 66 = .ok (.ior, 1) := by decide +kernel
theorem dX5_cut_67 : decode cX5_cut 67 = .ok (.istore 4, 2) := by decide +kernel
theorem dX5_cut_69 : decode cX5_cut 69 = .ok (.aload_n 0, 1) := by decide +kernel
theorem dX5_cut_70 : decode cX5_cut 70 = .ok (.aload_n 1, 1) := by decide +kernel
theorem dX5_cut_71 : decode cX5_cut 71 = .ok (.getfield 37, 3) := by decide +kernel
theorem dX5_cut_74 : decode cX5_cut 74 = .ok (.aload_n 0, 1) := by decide +kernel
theorem dX5_cut_75 : decode cX5_cut 75 = .ok (.getfield 9, 3) := by decide +kernel
theorem dX5_cut_78 : decode cX5_cut 78 = .ok (.invokevirtual 54, 3) := by decide +kernel
theorem dX5_cut_81 : decode cX5_cut 81 = .ok (.aload_n 0, 1) := by decide +kernel
theorem dX5_cut_82 : decode cX5_cut 82 = .ok (.dup, 1) := by decide +kernel
theorem dX5_cut_83 : decode cX5_cut 83 = .ok (.getfield 9, 3) := by decide +kernel
theorem dX5_cut_86 : decode cX5_cut 86 = .ok (.iconst 1, 1) := by decide +kernel
theorem dX5_cut_87 : decode cX5_cut 87 = .ok (.iadd, 1) := by decide +kernel
theorem dX5_cut_88 : decode cX5_cut 88 = .ok (.putfield 9, 3) := by decide +kernel
theorem dX5_cut_91 : decode cX5_cut 91 = .ok (.iinc 5 1, 3) := by decide +kernel
theorem dX5_cut_94 : decode cX5_cut 94 = .ok (.goto (-77), 3) := by decide +kernel
theorem dX5_cut_97 : decode cX5_cut 97 = .ok (.return_, 1) := by decide +kernel
theorem dX5_gather_0 : decode cX5_gather 0 = .ok (.iconst 0, 1) := by decide +kernel
theorem dX5_gather_1 : decode cX5_gather 1 = .ok (.istore_n 3, 1) := by decide +kernel
theorem dX5_gather_2 : decode cX5_gather 2 = .ok (.iconst 0, 1) := by decide +kernel
theorem dX5_gather_3 : decode cX5_gather 3 = .ok (.istore 4, 2) := by decide +kernel
theorem dX5_gather_5 : decode cX5_gather 5 = .ok (.iconst 0, 1) := by decide +kernel
theorem dX5_gather_6 : decode cX5_gather 6 = .ok (.istore 5, 2) := by decide +kernel
theorem dX5_gather_8 : decode cX5_gather 8 = .ok (.iconst 0, 1) := by decide +kernel
theorem dX5_gather_9 : decode cX5_gather 9 = .ok (.istore 6, 2) := by decide +kernel
theorem dX5_gather_11 : decode cX5_gather 11 = .ok (.iload 6, 2) := by decide +kernel
theorem dX5_gather_13 : decode cX5_gather 13 = .ok (.aload_n 1, 1) := by decide +kernel
theorem dX5_gather_14 : decode cX5_gather 14 = .ok (.getfield 41, 3) := by decide +kernel
theorem dX5_gather_17 : decode cX5_gather 17 = .ok (.if_icmp .ge 81, 3) := by decide +kernel
theorem dX5_gather_20 : decode cX5_gather 20 = .ok (.aload_n 0, 1) := by decide +kernel
theorem dX5_gather_21 : decode cX5_gather 21 = .ok (.getfield 15, 3) := by decide +kernel
theorem dX5_gather_24 : decode cX5_gather 24 = .ok (.iload_n 2, 1) := by decide +kernel
theorem dX5_gather_25 : decode cX5_gather 25 = .ok (.iaload, 1) := by decide +kernel
theorem dX5_gather_26 : decode cX5_gather 26 = .ok (.iload 6, 2) := by decide +kernel
theorem dX5_gather_28 : decode cX5_gather 28 = .ok (.invokestatic 44, 3) := by decide +kernel
theorem dX5_gather_31 : decode cX5_gather 31 = .ok (.ifCond .eq 61, 3) := by decide +kernel
theorem dX5_gather_34 : decode cX5_gather 34 = .ok (.aload_n 0, 1) := by decide +kernel
theorem dX5_gather_35 : decode cX5_gather 35 = .ok (.getfield 28, 3) := by decide +kernel
theorem dX5_gather_38 : decode cX5_gather 38 = .ok (.iload 6, 2) := by decide +kernel
theorem dX5_gather_40 : decode cX5_gather 40 = .ok (.iload_n 2, 1) := by decide +kernel
theorem dX5_gather_41 : decode cX5_gather 41 = .ok (.iastore, 1) := by decide +kernel
theorem dX5_gather_42 : decode cX5_gather 42 = .ok (.iload_n 3, 1) := by decide +kernel
theorem dX5_gather_43 : decode cX5_gather 43 = .ok (.aload_n 1, 1) := by decide +kernel
theorem dX5_gather_44 : decode cX5_gather 44 = .ok (.getfield 58, 3) := by decide +kernel
theorem dX5_gather_47 : decode cX5_gather 47 = .ok (.iload 6, 2) := by decide +kernel
theorem dX5_gather_49 : decode cX5_gather 49 = .ok (.iaload, 1) := by decide +kernel
theorem dX5_gather_50 : decode cX5_gather 50 = .ok (.iadd, 1) := by decide +kernel
theorem dX5_gather_51 : decode cX5_gather 51 = .ok (.istore_n 3, 1) := by decide +kernel
theorem dX5_gather_52 : decode cX5_gather 52 = .ok (.iload 4, 2) := by decide +kernel
theorem dX5_gather_54 : decode cX5_gather 54 = .ok (.aload_n 1, 1) := by decide +kernel
theorem dX5_gather_55 : decode cX5_gather 55 = .ok (.getfield 61, 3) := by decide +kernel
theorem dX5_gather_58 : decode cX5_gather 58 = .ok (.iload 6, 2) := by decide +kernel
theorem dX5_gather_60 : decode cX5_gather 60 = .ok (.iaload, 1) := by decide +kernel
theorem dX5_gather_61 : decode cX5_gather 61 = .ok (.aload_n 1, 1) := by decide +kernel
theorem dX5_gather_62 : decode cX5_gather 62 = .ok (.getfield 58, 3) := by decide +kernel
theorem dX5_gather_65 : decode cX5_gather 65 = .ok (.iload 6, 2) := by decide +kernel
theorem dX5_gather_67 : decode cX5_gather 67 = .ok (.iaload, 1) := by decide +kernel
theorem dX5_gather_68 : decode cX5_gather 68 = .ok (.imul, 1) := by decide +kernel
theorem dX5_gather_69 : decode cX5_gather 69 = .ok (.iadd, 1) := by decide +kernel
theorem dX5_gather_70 : decode cX5_gather 70 = .ok (.istore 4, 2) := by decide +kernel
theorem dX5_gather_72 : decode cX5_gather 72 = .ok (.iload 5, 2) := by decide +kernel
theorem dX5_gather_74 : decode cX5_gather 74 = .ok (.aload_n 1, 1) := by decide +kernel
theorem dX5_gather_75 : decode cX5_gather 75 = .ok (.getfield 62, 3) := by decide +kernel
theorem dX5_gather_78 : decode cX5_gather 78 = .ok (.iload 6, 2) := by decide +kernel
theorem dX5_gather_80 : decode cX5_gather 80 = .ok (.iaload, 1) := by decide +kernel
theorem dX5_gather_81 : decode cX5_gather 81 = .ok (.aload_n 1, 1) := by decide +kernel
theorem dX5_gather_82 : decode cX5_gather 82 = .ok (.getfield 58, 3) := by decide +kernel
theorem dX5_gather_85 : decode cX5_gather 85 = .ok (.iload 6, 2) := by decide +kernel
theorem dX5_gather_87 : decode cX5_gather 87 = .ok (.iaload, 1) := by decide +kernel
theorem dX5_gather_88 : decode cX5_gather 88 = .ok (.imul, 1) := by decide +kernel
theorem dX5_gather_89 : decode cX5_gather 89 = .ok (.iadd, 1) := by decide +kernel
theorem dX5_gather_90 : decode cX5_gather 90 = .ok (.istore 5, 2) := by decide +kernel
theorem dX5_gather_92 : decode cX5_gather 92 = .ok (.iinc 6 1, 3) := by decide +kernel
theorem dX5_gather_95 : decode cX5_gather 95 = .ok (.goto (-84), 3) := by decide +kernel
theorem dX5_gather_98 : decode cX5_gather 98 = .ok (.aload_n 0, 1) := by decide +kernel
theorem dX5_gather_99 : decode cX5_gather 99 = .ok (.getfield 19, 3) := by decide +kernel
theorem dX5_gather_102 : decode cX5_gather 102 = .ok (.iload_n 2, 1) := by decide +kernel
theorem dX5_gather_103 : decode cX5_gather 103 = .ok (.iload_n 3, 1) := by decide +kernel
theorem dX5_gather_104 : decode cX5_gather 104 = .ok (.iastore, 1) := by decide +kernel
theorem dX5_gather_105 : decode cX5_gather 105 = .ok (.aload_n 0, 1) := by decide +kernel
theorem dX5_gather_106 : decode cX5_gather 106 = .ok (.getfield 22, 3) := by decide +kernel
theorem dX5_gather_109 : decode cX5_gather 109 = .ok (.iload_n 2, 1) := by decide +kernel
theorem dX5_gather_110 : decode cX5_gather 110 = .ok (.iload_n 3, 1) := by decide +kernel
theorem dX5_gather_111 : decode cX5_gather 111 = .ok (.ifCond .le 10, 3) := by decide +kernel
theorem dX5_gather_114 : decode cX5_gather 114 = .ok (.iload 4, 2) := by decide +kernel
theorem dX5_gather_116 : decode cX5_gather 116 = .ok (.iload_n 3, 1) := by decide +kernel
theorem dX5_gather_117 : decode cX5_gather 117 = .ok (.idiv, 1) := by decide +kernel
theorem dX5_gather_118 : decode cX5_gather 118 = .ok (.goto 4, 3) := by decide +kernel
theorem dX5_gather_121 : decode cX5_gather 121 = .ok (.iconst 0, 1) := by decide +kernel
theorem dX5_gather_122 : decode cX5_gather 122 = .ok (.iastore, 1) := by decide +kernel
theorem dX5_gather_123 : decode cX5_gather 123 = .ok (.aload_n 0, 1) := by decide +kernel
theorem dX5_gather_124 : decode cX5_gather 124 = .ok (.getfield 25, 3) := by decide +kernel
theorem dX5_gather_127 : decode cX5_gather 127 = .ok (.iload_n 2, 1) := by decide +kernel
theorem dX5_gather_128 : decode cX5_gather 128 = .ok (.iload_n 3, 1) := by decide +kernel
theorem dX5_gather_129 : decode cX5_gather 129 = .ok (.ifCond .le 10, 3) := by decide +kernel
theorem dX5_gather_132 : decode cX5_gather 132 = .ok (.iload 5, 2) := by decide +kernel
theorem dX5_gather_134 : decode cX5_gather 134 = .ok (.iload_n 3, 1) := by decide +kernel
theorem dX5_gather_135 : decode cX5_gather 135 = .ok (.idiv, 1) := by decide +kernel
theorem dX5_gather_136 : decode cX5_gather 136 = .ok (.goto 4, 3) := by decide +kernel
theorem dX5_gather_139 : decode cX5_gather 139 = .ok (.iconst 0, 1) := by decide +kernel
theorem dX5_gather_140 : decode cX5_gather 140 = .ok (.iastore, 1) := by decide +kernel
theorem dX5_gather_141 : decode cX5_gather 141 = .ok (.return_, 1) := by decide +kernel
theorem dX5_groupsWithin_0 : decode cX5_groupsWithin 0 = .ok (.iconst 0, 1) := by decide +kernel
theorem dX5_groupsWithin_1 : decode cX5_groupsWithin 1 = .ok (.istore_n 2, 1) := by decide +kernel
theorem dX5_groupsWithin_2 : decode cX5_groupsWithin 2 = .ok (.iconst 0, 1) := by decide +kernel
theorem dX5_groupsWithin_3 : decode cX5_groupsWithin 3 = .ok (.istore_n 3, 1) := by decide +kernel
theorem dX5_groupsWithin_4 : decode cX5_groupsWithin 4 = .ok (.iload_n 3, 1) := by decide +kernel
theorem dX5_groupsWithin_5 : decode cX5_groupsWithin 5 = .ok (.aload_n 0, 1) := by decide +kernel
theorem dX5_groupsWithin_6 : decode cX5_groupsWithin 6 = .ok (.getfield 9, 3) := by decide +kernel
theorem dX5_groupsWithin_9 : decode cX5_groupsWithin 9 = .ok (.if_icmp .ge 28, 3) := by decide +kernel
theorem dX5_groupsWithin_12 : decode cX5_groupsWithin 12 = .ok (.aload_n 0, 1) := by decide +kernel
theorem dX5_groupsWithin_13 : decode cX5_groupsWithin 13 = .ok (.getfield 15, 3) := by decide +kernel
theorem dX5_groupsWithin_16 : decode cX5_groupsWithin 16 = .ok (.iload_n 3, 1) := by decide +kernel
theorem dX5_groupsWithin_17 : decode cX5_groupsWithin 17 = .ok (.iaload, 1) := by decide +kernel
theorem dX5_groupsWithin_18 : decode cX5_groupsWithin 18 = .ok (.iload_n 1, 1) := by decide +kernel
theorem dX5_groupsWithin_19 : decode cX5_groupsWithin 19 = .ok (.iconst (-1), 1) := by decide +kernel
theorem dX5_groupsWithin_20 : decode cX5_groupsWithin 20 = .ok (.ixor, 1) := by decide +kernel
theorem dX5_groupsWithin_21 : decode cX5_groupsWithin 21 = .ok (.iand, 1) := by decide +kernel
theorem dX5_groupsWithin_22 : decode cX5_groupsWithin 22 = .ok (.ifCond .ne 9, 3) := by decide +kernel
theorem dX5_groupsWithin_25 : decode cX5_groupsWithin 25 = .ok (.iload_n 2, 1) := by decide +kernel
theorem dX5_groupsWithin_26 : decode cX5_groupsWithin 26 = .ok (.iconst 1, 1) := by decide +kernel
theorem dX5_groupsWithin_27 : decode cX5_groupsWithin 27 = .ok (.iload_n 3, 1) := by decide +kernel
theorem dX5_groupsWithin_28 : decode cX5_groupsWithin 28 = .ok (.ishl, 1) := by decide +kernel
theorem dX5_groupsWithin_29 : decode cX5_groupsWithin 29 = .ok (.ior, 1) := by decide +kernel
theorem dX5_groupsWithin_30 : decode cX5_groupsWithin 30 = .ok (.istore_n 2, 1) := by decide +kernel
theorem dX5_groupsWithin_31 : decode cX5_groupsWithin 31 = .ok (.iinc 3 1, 3) := by decide +kernel
theorem dX5_groupsWithin_34 : decode cX5_groupsWithin 34 = .ok (.goto (-30), 3) := by decide +kernel
theorem dX5_groupsWithin_37 : decode cX5_groupsWithin 37 = .ok (.iload_n 2, 1) := by decide +kernel
theorem dX5_groupsWithin_38 : decode cX5_groupsWithin 38 = .ok (.ireturn, 1) := by decide +kernel
theorem dX5_groupOfPart_0 : decode cX5_groupOfPart 0 = .ok (.iconst 0, 1) := by decide +kernel
theorem dX5_groupOfPart_1 : decode cX5_groupOfPart 1 = .ok (.istore_n 2, 1) := by decide +kernel
theorem dX5_groupOfPart_2 : decode cX5_groupOfPart 2 = .ok (.iload_n 2, 1) := by decide +kernel
theorem dX5_groupOfPart_3 : decode cX5_groupOfPart 3 = .ok (.aload_n 0, 1) := by decide +kernel
theorem dX5_groupOfPart_4 : decode cX5_groupOfPart 4 = .ok (.getfield 9, 3) := by decide +kernel
theorem dX5_groupOfPart_7 : decode cX5_groupOfPart 7 = .ok (.if_icmp .ge 24, 3) := by decide +kernel
theorem dX5_groupOfPart_10 : decode cX5_groupOfPart 10 = .ok (.iload_n 1, 1) := by decide +kernel
theorem dX5_groupOfPart_11 : decode cX5_groupOfPart 11 = .ok (.aload_n 0, 1) := by decide +kernel
theorem dX5_groupOfPart_12 : decode cX5_groupOfPart 12 = .ok (.getfield 15, 3) := by decide +kernel
theorem dX5_groupOfPart_15 : decode cX5_groupOfPart 15 = .ok (.iload_n 2, 1) := by decide +kernel
theorem dX5_groupOfPart_16 : decode cX5_groupOfPart 16 = .ok (.iaload, 1) := by decide +kernel
theorem dX5_groupOfPart_17 : decode cX5_groupOfPart 17 = .ok (.iconst (-1), 1) := by decide +kernel
theorem dX5_groupOfPart_18 : decode cX5_groupOfPart 18 = .ok (.ixor, 1) := by decide +kernel
theorem dX5_groupOfPart_19 : decode cX5_groupOfPart 19 = .ok (.iand, 1) := by decide +kernel
theorem dX5_groupOfPart_20 : decode cX5_groupOfPart 20 = .ok (.ifCond .ne 5, 3) := by decide +kernel
theorem dX5_groupOfPart_23 : decode cX5_groupOfPart 23 = .ok (.iload_n 2, 1) := by decide +kernel
theorem dX5_groupOfPart_24 : decode cX5_groupOfPart 24 = .ok (.ireturn, 1) := by decide +kernel
theorem dX5_groupOfPart_25 : decode cX5_groupOfPart 25 = .ok (.iinc 2 1, 3) := by decide +kernel
theorem dX5_groupOfPart_28 : decode cX5_groupOfPart 28 = .ok (.goto (-26), 3) := by decide +kernel
theorem dX5_groupOfPart_31 : decode cX5_groupOfPart 31 = .ok (.iconst (-1), 1) := by decide +kernel
theorem dX5_groupOfPart_32 : decode cX5_groupOfPart 32 = .ok (.ireturn, 1) := by decide +kernel
theorem dX5_centresIn_0 : decode cX5_centresIn 0 = .ok (.iconst 0, 1) := by decide +kernel
theorem dX5_centresIn_1 : decode cX5_centresIn 1 = .ok (.istore 5, 2) := by decide +kernel
theorem dX5_centresIn_3 : decode cX5_centresIn 3 = .ok (.iconst 0, 1) := by decide +kernel
theorem dX5_centresIn_4 : decode cX5_centresIn 4 = .ok (.istore 6, 2) := by decide +kernel
theorem dX5_centresIn_6 : decode cX5_centresIn 6 = .ok (.iload 6, 2) := by decide +kernel
theorem dX5_centresIn_8 : decode cX5_centresIn 8 = .ok (.aload_n 0, 1) := by decide +kernel
theorem dX5_centresIn_9 : decode cX5_centresIn 9 = .ok (.getfield 9, 3) := by decide +kernel
theorem dX5_centresIn_12 : decode cX5_centresIn 12 = .ok (.if_icmp .ge 63, 3) := by decide +kernel
theorem dX5_centresIn_15 : decode cX5_centresIn 15 = .ok (.aload_n 0, 1) := by decide +kernel
theorem dX5_centresIn_16 : decode cX5_centresIn 16 = .ok (.getfield 22, 3) := by decide +kernel
theorem dX5_centresIn_19 : decode cX5_centresIn 19 = .ok (.iload 6, 2) := by decide +kernel
theorem dX5_centresIn_21 : decode cX5_centresIn 21 = .ok (.iaload, 1) := by decide +kernel
theorem dX5_centresIn_22 : decode cX5_centresIn 22 = .ok (.iload_n 1, 1) := by decide +kernel
theorem dX5_centresIn_23 : decode cX5_centresIn 23 = .ok (.if_icmp .lt 46, 3) := by decide +kernel
theorem dX5_centresIn_26 : decode cX5_centresIn 26 = .ok (.aload_n 0, 1) := by decide +kernel
theorem dX5_centresIn_27 : decode cX5_centresIn 27 = .ok (.getfield 22, 3) := by decide +kernel
theorem dX5_centresIn_30 : decode cX5_centresIn 30 = .ok (.iload 6, 2) := by decide +kernel
theorem dX5_centresIn_32 : decode cX5_centresIn 32 = .ok (.iaload, 1) := by decide +kernel
theorem dX5_centresIn_33 : decode cX5_centresIn 33 = .ok (.iload_n 2, 1) := by decide +kernel
theorem dX5_centresIn_34 : decode cX5_centresIn 34 = .ok (.if_icmp .gt 35, 3) := by decide +kernel
theorem dX5_centresIn_37 : decode cX5_centresIn 37 = .ok (.aload_n 0, 1) := by decide +kernel
theorem dX5_centresIn_38 : decode cX5_centresIn 38 = .ok (.getfield 25, 3) := by decide +kernel
theorem dX5_centresIn_41 : decode cX5_centresIn 41 = .ok (.iload 6, 2) := by decide +kernel
theorem dX5_centresIn_43 : decode cX5_centresIn 43 = .ok (.iaload, 1) := by decide +kernel
theorem dX5_centresIn_44 : decode cX5_centresIn 44 = .ok (.iload_n 3, 1) := by decide +kernel
theorem dX5_centresIn_45 : decode cX5_centresIn 45 = .ok (.if_icmp .lt 24, 3) := by decide +kernel
theorem dX5_centresIn_48 : decode cX5_centresIn 48 = .ok (.aload_n 0, 1) := by decide +kernel
theorem dX5_centresIn_49 : decode cX5_centresIn 49 = .ok (.getfield 25, 3) := by decide +kernel
theorem dX5_centresIn_52 : decode cX5_centresIn 52 = .ok (.iload 6, 2) := by decide +kernel
theorem dX5_centresIn_54 : decode cX5_centresIn 54 = .ok (.iaload, 1) := by decide +kernel
theorem dX5_centresIn_55 : decode cX5_centresIn 55 = .ok (.iload 4, 2) := by decide +kernel
theorem dX5_centresIn_57 : decode cX5_centresIn 57 = .ok (.if_icmp .gt 12, 3) := by decide +kernel
theorem dX5_centresIn_60 : decode cX5_centresIn 60 = .ok (.iload 5, 2) := by decide +kernel
theorem dX5_centresIn_62 : decode cX5_centresIn 62 = .ok (.iconst 1, 1) := by decide +kernel
theorem dX5_centresIn_63 : decode cX5_centresIn 63 = .ok (.iload 6, 2) := by decide +kernel
theorem dX5_centresIn_65 : decode cX5_centresIn 65 = .ok (.ishl, 1) := by decide +kernel
theorem dX5_centresIn_66 : decode cX5_centresIn 66 = .ok (.ior, 1) := by decide +kernel
theorem dX5_centresIn_67 : decode cX5_centresIn 67 = .ok (.istore 5, 2) := by decide +kernel
theorem dX5_centresIn_69 : decode cX5_centresIn 69 = .ok (.iinc 6 1, 3) := by decide +kernel
theorem dX5_centresIn_72 : decode cX5_centresIn 72 = .ok (.goto (-66), 3) := by decide +kernel
theorem dX5_centresIn_75 : decode cX5_centresIn 75 = .ok (.iload 5, 2) := by decide +kernel
theorem dX5_centresIn_77 : decode cX5_centresIn 77 = .ok (.ireturn, 1) := by decide +kernel
theorem dX5_weightOf_0 : decode cX5_weightOf 0 = .ok (.iconst 0, 1) := by decide +kernel
theorem dX5_weightOf_1 : decode cX5_weightOf 1 = .ok (.istore_n 2, 1) := by decide +kernel
theorem dX5_weightOf_2 : decode cX5_weightOf 2 = .ok (.iconst 0, 1) := by decide +kernel
theorem dX5_weightOf_3 : decode cX5_weightOf 3 = .ok (.istore_n 3, 1) := by decide +kernel
theorem dX5_weightOf_4 : decode cX5_weightOf 4 = .ok (.iload_n 3, 1) := by decide +kernel
theorem dX5_weightOf_5 : decode cX5_weightOf 5 = .ok (.aload_n 0, 1) := by decide +kernel
theorem dX5_weightOf_6 : decode cX5_weightOf 6 = .ok (.getfield 9, 3) := by decide +kernel
theorem dX5_weightOf_9 : decode cX5_weightOf 9 = .ok (.if_icmp .ge 26, 3) := by decide +kernel
theorem dX5_weightOf_12 : decode cX5_weightOf 12 = .ok (.iload_n 1, 1) := by decide +kernel
theorem dX5_weightOf_13 : decode cX5_weightOf 13 = .ok (.iload_n 3, 1) := by decide +kernel
theorem dX5_weightOf_14 : decode cX5_weightOf 14 = .ok (.invokestatic 44, 3) := by decide +kernel
theorem dX5_weightOf_17 : decode cX5_weightOf 17 = .ok (.ifCond .eq 12, 3) := by decide +kernel
theorem dX5_weightOf_20 : decode cX5_weightOf 20 = .ok (.iload_n 2, 1) := by decide +kernel
theorem dX5_weightOf_21 : decode cX5_weightOf 21 = .ok (.aload_n 0, 1) := by decide +kernel
theorem dX5_weightOf_22 : decode cX5_weightOf 22 = .ok (.getfield 19, 3) := by decide +kernel
theorem dX5_weightOf_25 : decode cX5_weightOf 25 = .ok (.iload_n 3, 1) := by decide +kernel
theorem dX5_weightOf_26 : decode cX5_weightOf 26 = .ok (.iaload, 1) := by decide +kernel
theorem dX5_weightOf_27 : decode cX5_weightOf 27 = .ok (.iadd, 1) := by decide +kernel
theorem dX5_weightOf_28 : decode cX5_weightOf 28 = .ok (.istore_n 2, 1) := by decide +kernel
theorem dX5_weightOf_29 : decode cX5_weightOf 29 = .ok (.iinc 3 1, 3) := by decide +kernel
theorem dX5_weightOf_32 : decode cX5_weightOf 32 = .ok (.goto (-28), 3) := by decide +kernel
theorem dX5_weightOf_35 : decode cX5_weightOf 35 = .ok (.iload_n 2, 1) := by decide +kernel
theorem dX5_weightOf_36 : decode cX5_weightOf 36 = .ok (.ireturn, 1) := by decide +kernel
theorem dX5_heaviest_0 : decode cX5_heaviest 0 = .ok (.iconst 0, 1) := by decide +kernel
theorem dX5_heaviest_1 : decode cX5_heaviest 1 = .ok (.istore_n 3, 1) := by decide +kernel
theorem dX5_heaviest_2 : decode cX5_heaviest 2 = .ok (.iload_n 3, 1) := by decide +kernel
theorem dX5_heaviest_3 : decode cX5_heaviest 3 = .ok (.aload_n 0, 1) := by decide +kernel
theorem dX5_heaviest_4 : decode cX5_heaviest 4 = .ok (.getfield 9, 3) := by decide +kernel
theorem dX5_heaviest_7 : decode cX5_heaviest 7 = .ok (.if_icmp .ge 29, 3) := by decide +kernel
theorem dX5_heaviest_10 : decode cX5_heaviest 10 = .ok (.iload_n 1, 1) := by decide +kernel
theorem dX5_heaviest_11 : decode cX5_heaviest 11 = .ok (.iload_n 3, 1) := by decide +kernel
theorem dX5_heaviest_12 : decode cX5_heaviest 12 = .ok (.invokestatic 44, 3) := by decide +kernel
theorem dX5_heaviest_15 : decode cX5_heaviest 15 = .ok (.ifCond .eq 15, 3) := by decide +kernel
theorem dX5_heaviest_18 : decode cX5_heaviest 18 = .ok (.aload_n 0, 1) := by decide +kernel
theorem dX5_heaviest_19 : decode cX5_heaviest 19 = .ok (.iload_n 1, 1) := by decide +kernel
theorem dX5_heaviest_20 : decode cX5_heaviest 20 = .ok (.iload_n 3, 1) := by decide +kernel
theorem dX5_heaviest_21 : decode cX5_heaviest 21 = .ok (.invokevirtual 63, 3) := by decide +kernel
theorem dX5_heaviest_24 : decode cX5_heaviest 24 = .ok (.iload_n 2, 1) := by decide +kernel
theorem dX5_heaviest_25 : decode cX5_heaviest 25 = .ok (.if_icmp .ne 5, 3) := by decide +kernel
theorem dX5_heaviest_28 : decode cX5_heaviest 28 = .ok (.iload_n 3, 1) := by decide +kernel
theorem dX5_heaviest_29 : decode cX5_heaviest 29 = .ok (.ireturn, 1) := by decide +kernel
theorem dX5_heaviest_30 : decode cX5_heaviest 30 = .ok (.iinc 3 1, 3) := by decide +kernel
theorem dX5_heaviest_33 : decode cX5_heaviest 33 = .ok (.goto (-31), 3) := by decide +kernel
theorem dX5_heaviest_36 : decode cX5_heaviest 36 = .ok (.iconst (-1), 1) := by decide +kernel
theorem dX5_heaviest_37 : decode cX5_heaviest 37 = .ok (.ireturn, 1) := by decide +kernel
theorem dX5_countAhead_0 : decode cX5_countAhead 0 = .ok (.iconst 0, 1) := by decide +kernel
theorem dX5_countAhead_1 : decode cX5_countAhead 1 = .ok (.istore_n 3, 1) := by decide +kernel
theorem dX5_countAhead_2 : decode cX5_countAhead 2 = .ok (.iconst 0, 1) := by decide +kernel
theorem dX5_countAhead_3 : decode cX5_countAhead 3 = .ok (.istore 4, 2) := by decide +kernel
theorem dX5_countAhead_5 : decode cX5_countAhead 5 = .ok (.iload 4, 2) := by decide +kernel
theorem dX5_countAhead_7 : decode cX5_countAhead 7 = .ok (.aload_n 0, 1) := by decide +kernel
theorem dX5_countAhead_8 : decode cX5_countAhead 8 = .ok (.getfield 9, 3) := by decide +kernel
theorem dX5_countAhead_11 : decode cX5_countAhead 11 = .ok (.if_icmp .ge 71, 3) := by decide +kernel
theorem dX5_countAhead_14 : decode cX5_countAhead 14 = .ok (.aload_n 0, 1) := by decide +kernel
theorem dX5_countAhead_15 : decode cX5_countAhead 15 = .ok (.getfield 19, 3) := by decide +kernel
theorem dX5_countAhead_18 : decode cX5_countAhead 18 = .ok (.iload 4, 2) := by decide +kernel
theorem dX5_countAhead_20 : decode cX5_countAhead 20 = .ok (.iaload, 1) := by decide +kernel
theorem dX5_countAhead_21 : decode cX5_countAhead 21 = .ok (.aload_n 0, 1) := by decide +kernel
theorem dX5_countAhead_22 : decode cX5_countAhead 22 = .ok (.getfield 19, 3) := by decide +kernel
theorem dX5_countAhead_25 : decode cX5_countAhead 25 = .ok (.iload_n 2, 1) := by decide +kernel
theorem dX5_countAhead_26 : decode cX5_countAhead 26 = .ok (.iaload, 1) := by decide +kernel
theorem dX5_countAhead_27 : decode cX5_countAhead 27 = .ok (.if_icmp .gt 25, 3) := by decide +kernel
theorem dX5_countAhead_30 : decode cX5_countAhead 30 = .ok (.aload_n 0, 1) := by decide +kernel
theorem dX5_countAhead_31 : decode cX5_countAhead 31 = .ok (.getfield 19, 3) := by decide +kernel
theorem dX5_countAhead_34 : decode cX5_countAhead 34 = .ok (.iload 4, 2) := by decide +kernel
theorem dX5_countAhead_36 : decode cX5_countAhead 36 = .ok (.iaload, 1) := by decide +kernel
theorem dX5_countAhead_37 : decode cX5_countAhead 37 = .ok (.aload_n 0, 1) := by decide +kernel
theorem dX5_countAhead_38 : decode cX5_countAhead 38 = .ok (.getfield 19, 3) := by decide +kernel
theorem dX5_countAhead_41 : decode cX5_countAhead 41 = .ok (.iload_n 2, 1) := by decide +kernel
theorem dX5_countAhead_42 : decode cX5_countAhead 42 = .ok (.iaload, 1) := by decide +kernel
theorem dX5_countAhead_43 : decode cX5_countAhead 43 = .ok (.if_icmp .ne 13, 3) := by decide +kernel
theorem dX5_countAhead_46 : decode cX5_countAhead 46 = .ok (.iload 4, 2) := by decide +kernel
theorem dX5_countAhead_48 : decode cX5_countAhead 48 = .ok (.iload_n 2, 1) := by decide +kernel
theorem dX5_countAhead_49 : decode cX5_countAhead 49 = .ok (.if_icmp .ge 7, 3) := by decide +kernel
theorem dX5_countAhead_52 : decode cX5_countAhead 52 = .ok (.iconst 1, 1) := by decide +kernel
theorem dX5_countAhead_53 : decode cX5_countAhead 53 = .ok (.goto 4, 3) := by decide +kernel
theorem dX5_countAhead_56 : decode cX5_countAhead 56 = .ok (.iconst 0, 1) := by decide +kernel
theorem dX5_countAhead_57 : decode cX5_countAhead 57 = .ok (.istore 5, 2) := by decide +kernel
theorem dX5_countAhead_59 : decode cX5_countAhead 59 = .ok (.iload_n 1, 1) := by decide +kernel
theorem dX5_countAhead_60 : decode cX5_countAhead 60 = .ok (.iload 4, 2) := by decide +kernel
theorem dX5_countAhead_62 : decode cX5_countAhead 62 = .ok (.invokestatic 44, 3) := by decide +kernel
theorem dX5_countAhead_65 : decode cX5_countAhead 65 = .ok (.ifCond .eq 11, 3) := by decide +kernel
theorem dX5_countAhead_68 : decode cX5_countAhead 68 = .ok (.iload 5, 2) := by decide +kernel
theorem dX5_countAhead_70 : decode cX5_countAhead 70 = .ok (.ifCond .eq 6, 3) := by decide +kernel
theorem dX5_countAhead_73 : decode cX5_countAhead 73 = .ok (.iinc 3 1, 3) := by decide +kernel
theorem dX5_countAhead_76 : decode cX5_countAhead 76 = .ok (.iinc 4 1, 3) := by decide +kernel
theorem dX5_countAhead_79 : decode cX5_countAhead 79 = .ok (.goto (-74), 3) := by decide +kernel
theorem dX5_countAhead_82 : decode cX5_countAhead 82 = .ok (.iload_n 3, 1) := by decide +kernel
theorem dX5_countAhead_83 : decode cX5_countAhead 83 = .ok (.ireturn, 1) := by decide +kernel
theorem dX5_gap_0 : decode cX5_gap 0 = .ok (.aload_n 0, 1) := by decide +kernel
theorem dX5_gap_1 : decode cX5_gap 1 = .ok (.getfield 22, 3) := by decide +kernel
theorem dX5_gap_4 : decode cX5_gap 4 = .ok (.iload_n 1, 1) := by decide +kernel
theorem dX5_gap_5 : decode cX5_gap 5 = .ok (.iaload, 1) := by decide +kernel
theorem dX5_gap_6 : decode cX5_gap 6 = .ok (.aload_n 0, 1) := by decide +kernel
theorem dX5_gap_7 : decode cX5_gap 7 = .ok (.getfield 22, 3) := by decide +kernel
theorem dX5_gap_10 : decode cX5_gap 10 = .ok (.iload_n 2, 1) := by decide +kernel
theorem dX5_gap_11 : decode cX5_gap 11 = .ok (.iaload, 1) := by decide +kernel
theorem dX5_gap_12 : decode cX5_gap 12 = .ok (.isub, 1) := by decide +kernel
theorem dX5_gap_13 : decode cX5_gap 13 = .ok (.aload_n 0, 1) := by decide +kernel
theorem dX5_gap_14 : decode cX5_gap 14 = .ok (.getfield 25, 3) := by decide +kernel
theorem dX5_gap_17 : decode cX5_gap 17 = .ok (.iload_n 1, 1) := by decide +kernel
theorem dX5_gap_18 : decode cX5_gap 18 = .ok (.iaload, 1) := by decide +kernel
theorem dX5_gap_19 : decode cX5_gap 19 = .ok (.aload_n 0, 1) := by decide +kernel
theorem dX5_gap_20 : decode cX5_gap 20 = .ok (.getfield 25, 3) := by decide +kernel
theorem dX5_gap_23 : decode cX5_gap 23 = .ok (.iload_n 2, 1) := by decide +kernel
theorem dX5_gap_24 : decode cX5_gap 24 = .ok (.iaload, 1) := by decide +kernel
theorem dX5_gap_25 : decode cX5_gap 25 = .ok (.isub, 1) := by decide +kernel
theorem dX5_gap_26 : decode cX5_gap 26 = .ok (.invokestatic 66, 3) := by decide +kernel
theorem dX5_gap_29 : decode cX5_gap 29 = .ok (.ireturn, 1) := by decide +kernel
theorem dX6_has_0 : decode cX6_has 0 = .ok (.iload_n 0, 1) := by decide +kernel
theorem dX6_has_1 : decode cX6_has 1 = .ok (.iload_n 1, 1) := by decide +kernel
theorem dX6_has_2 : decode cX6_has 2 = .ok (.ishr, 1) := by decide +kernel
theorem dX6_has_3 : decode cX6_has 3 = .ok (.iconst 1, 1) := by decide +kernel
theorem dX6_has_4 : decode cX6_has 4 = .ok (.iand, 1) := by decide +kernel
theorem dX6_has_5 : decode cX6_has 5 = .ok (.ifCond .eq 7, 3) := by decide +kernel
theorem dX6_has_8 : decode cX6_has 8 = .ok (.iconst 1, 1) := by decide +kernel
theorem dX6_has_9 : decode cX6_has 9 = .ok (.goto 4, 3) := by decide +kernel
theorem dX6_has_12 : decode cX6_has 12 = .ok (.iconst 0, 1) := by decide +kernel
theorem dX6_has_13 : decode cX6_has 13 = .ok (.ireturn, 1) := by decide +kernel
theorem dX6_first_0 : decode cX6_first 0 = .ok (.iconst 1, 1) := by decide +kernel
theorem dX6_first_1 : decode cX6_first 1 = .ok (.iload_n 0, 1) := by decide +kernel
theorem dX6_first_2 : decode cX6_first 2 = .ok (.ishl, 1) := by decide +kernel
theorem dX6_first_3 : decode cX6_first 3 = .ok (.iconst 1, 1) := by decide +kernel
theorem dX6_first_4 : decode cX6_first 4 = .ok (.isub, 1) := by decide +kernel
theorem dX6_first_5 : decode cX6_first 5 = .ok (.ireturn, 1) := by decide +kernel
theorem dX6_least_0 : decode cX6_least 0 = .ok (.iload_n 0, 1) := by decide +kernel
theorem dX6_least_1 : decode cX6_least 1 = .ok (.iconst 0, 1) := by decide +kernel
theorem dX6_least_2 : decode cX6_least 2 = .ok (.invokestatic 9, 3) := by decide +kernel
theorem dX6_least_5 : decode cX6_least 5 = .ok (.ireturn, 1) := by decide +kernel
theorem dX6_nth_0 : decode cX6_nth 0 = .ok (.iconst 0, 1) := by decide +kernel
theorem dX6_nth_1 : decode cX6_nth 1 = .ok (.istore_n 2, 1) := by decide +kernel
theorem dX6_nth_2 : decode cX6_nth 2 = .ok (.iconst 0, 1) := by decide +kernel
theorem dX6_nth_3 : decode cX6_nth 3 = .ok (.istore_n 3, 1) := by decide +kernel
theorem dX6_nth_4 : decode cX6_nth 4 = .ok (.iload_n 3, 1) := by decide +kernel
theorem dX6_nth_5 : decode cX6_nth 5 = .ok (.bipush 24, 2) := by decide +kernel
theorem dX6_nth_7 : decode cX6_nth 7 = .ok (.if_icmp .ge 27, 3) := by decide +kernel
theorem dX6_nth_10 : decode cX6_nth 10 = .ok (.iload_n 0, 1) := by decide +kernel
theorem dX6_nth_11 : decode cX6_nth 11 = .ok (.iload_n 3, 1) := by decide +kernel
theorem dX6_nth_12 : decode cX6_nth 12 = .ok (.invokestatic 15, 3) := by decide +kernel
theorem dX6_nth_15 : decode cX6_nth 15 = .ok (.ifCond .eq 13, 3) := by decide +kernel
theorem dX6_nth_18 : decode cX6_nth 18 = .ok (.iload_n 2, 1) := by decide +kernel
theorem dX6_nth_19 : decode cX6_nth 19 = .ok (.iload_n 1, 1) := by decide +kernel
theorem dX6_nth_20 : decode cX6_nth 20 = .ok (.if_icmp .ne 5, 3) := by decide +kernel
theorem dX6_nth_23 : decode cX6_nth 23 = .ok (.iload_n 3, 1) := by decide +kernel
theorem dX6_nth_24 : decode cX6_nth 24 = .ok (.ireturn, 1) := by decide +kernel
theorem dX6_nth_25 : decode cX6_nth 25 = .ok (.iinc 2 1, 3) := by decide +kernel
theorem dX6_nth_28 : decode cX6_nth 28 = .ok (.iinc 3 1, 3) := by decide +kernel
theorem dX6_nth_31 : decode cX6_nth 31 = .ok (.goto (-27), 3) := by decide +kernel
theorem dX6_nth_34 : decode cX6_nth 34 = .ok (.iconst (-1), 1) := by decide +kernel
theorem dX6_nth_35 : decode cX6_nth 35 = .ok (.ireturn, 1) := by decide +kernel
theorem dX6_lowest_0 : decode cX6_lowest 0 = .ok (.sipush 1024, 3) := by decide +kernel
theorem dX6_lowest_3 : decode cX6_lowest 3 = .ok (.istore_n 2, 1) := by decide +kernel
theorem dX6_lowest_4 : decode cX6_lowest 4 = .ok (.iconst 0, 1) := by decide +kernel
theorem dX6_lowest_5 : decode cX6_lowest 5 = .ok (.istore_n 3, 1) := by decide +kernel
theorem dX6_lowest_6 : decode cX6_lowest 6 = .ok (.iload_n 3, 1) := by decide +kernel
theorem dX6_lowest_7 : decode cX6_lowest 7 = .ok (.aload_n 0, 1) := by decide +kernel
theorem dX6_lowest_8 : decode cX6_lowest 8 = .ok (.arraylength, 1) := by decide +kernel
theorem dX6_lowest_9 : decode cX6_lowest 9 = .ok (.if_icmp .ge 25, 3) := by decide +kernel
theorem dX6_lowest_12 : decode cX6_lowest 12 = .ok (.iload_n 1, 1) := by decide +kernel
theorem dX6_lowest_13 : decode cX6_lowest 13 = .ok (.iload_n 3, 1) := by decide +kernel
theorem dX6_lowest_14 : decode cX6_lowest 14 = .ok (.invokestatic 15, 3) := by decide +kernel
theorem dX6_lowest_17 : decode cX6_lowest 17 = .ok (.ifCond .eq 11, 3) := by decide +kernel
theorem dX6_lowest_20 : decode cX6_lowest 20 = .ok (.iload_n 2, 1) := by decide +kernel
theorem dX6_lowest_21 : decode cX6_lowest 21 = .ok (.aload_n 0, 1) := by decide +kernel
theorem dX6_lowest_22 : decode cX6_lowest 22 = .ok (.iload_n 3, 1) := by decide +kernel
theorem dX6_lowest_23 : decode cX6_lowest 23 = .ok (.iaload, 1) := by decide +kernel
theorem dX6_lowest_24 : decode cX6_lowest 24 = .ok (.invokestatic 19, 3) := by decide +kernel
theorem dX6_lowest_27 : decode cX6_lowest 27 = .ok (.istore_n 2, 1) := by decide +kernel
theorem dX6_lowest_28 : decode cX6_lowest 28 = .ok (.iinc 3 1, 3) := by decide +kernel
theorem dX6_lowest_31 : decode cX6_lowest 31 = .ok (.goto (-25), 3) := by decide +kernel
theorem dX6_lowest_34 : decode cX6_lowest 34 = .ok (.iload_n 2, 1) := by decide +kernel
theorem dX6_lowest_35 : decode cX6_lowest 35 = .ok (.ireturn, 1) := by decide +kernel
theorem dX6_highest_0 : decode cX6_highest 0 = .ok (.iconst (-1), 1) := by decide +kernel
theorem dX6_highest_1 : decode cX6_highest 1 = .ok (.istore_n 2, 1) := by decide +kernel
theorem dX6_highest_2 : decode cX6_highest 2 = .ok (.iconst 0, 1) := by decide +kernel
theorem dX6_highest_3 : decode cX6_highest 3 = .ok (.istore_n 3, 1) := by decide +kernel
theorem dX6_highest_4 : decode cX6_highest 4 = .ok (.iload_n 3, 1) := by decide +kernel
theorem dX6_highest_5 : decode cX6_highest 5 = .ok (.aload_n 0, 1) := by decide +kernel
theorem dX6_highest_6 : decode cX6_highest 6 = .ok (.arraylength, 1) := by decide +kernel
theorem dX6_highest_7 : decode cX6_highest 7 = .ok (.if_icmp .ge 25, 3) := by decide +kernel
theorem dX6_highest_10 : decode cX6_highest 10 = .ok (.iload_n 1, 1) := by decide +kernel
theorem dX6_highest_11 : decode cX6_highest 11 = .ok (.iload_n 3, 1) := by decide +kernel
theorem dX6_highest_12 : decode cX6_highest 12 = .ok (.invokestatic 15, 3) := by decide +kernel
theorem dX6_highest_15 : decode cX6_highest 15 = .ok (.ifCond .eq 11, 3) := by decide +kernel
theorem dX6_highest_18 : decode cX6_highest 18 = .ok (.iload_n 2, 1) := by decide +kernel
theorem dX6_highest_19 : decode cX6_highest 19 = .ok (.aload_n 0, 1) := by decide +kernel
theorem dX6_highest_20 : decode cX6_highest 20 = .ok (.iload_n 3, 1) := by decide +kernel
theorem dX6_highest_21 : decode cX6_highest 21 = .ok (.iaload, 1) := by decide +kernel
theorem dX6_highest_22 : decode cX6_highest 22 = .ok (.invokestatic 24, 3) := by decide +kernel
theorem dX6_highest_25 : decode cX6_highest 25 = .ok (.istore_n 2, 1) := by decide +kernel
theorem dX6_highest_26 : decode cX6_highest 26 = .ok (.iinc 3 1, 3) := by decide +kernel
theorem dX6_highest_29 : decode cX6_highest 29 = .ok (.goto (-25), 3) := by decide +kernel
theorem dX6_highest_32 : decode cX6_highest 32 = .ok (.iload_n 2, 1) := by decide +kernel
theorem dX6_highest_33 : decode cX6_highest 33 = .ok (.ireturn, 1) := by decide +kernel
theorem dX6_farther_0 : decode cX6_farther 0 = .ok (.iload_n 0, 1) := by decide +kernel
theorem dX6_farther_1 : decode cX6_farther 1 = .ok (.invokestatic 27, 3) := by decide +kernel
theorem dX6_farther_4 : decode cX6_farther 4 = .ok (.iload_n 1, 1) := by decide +kernel
theorem dX6_farther_5 : decode cX6_farther 5 = .ok (.invokestatic 27, 3) := by decide +kernel
theorem dX6_farther_8 : decode cX6_farther 8 = .ok (.invokestatic 24, 3) := by decide +kernel
theorem dX6_farther_11 : decode cX6_farther 11 = .ok (.ireturn, 1) := by decide +kernel
theorem dX6_root_0 : decode cX6_root 0 = .ok (.iconst 0, 1) := by decide +kernel
theorem dX6_root_1 : decode cX6_root 1 = .ok (.istore_n 1, 1) := by decide +kernel
theorem dX6_root_2 : decode cX6_root 2 = .ok (.bipush 10, 2) := by decide +kernel
theorem dX6_root_4 : decode cX6_root 4 = .ok (.istore_n 2, 1) := by decide +kernel
theorem dX6_root_5 : decode cX6_root 5 = .ok (.iload_n 2, 1) := by decide +kernel
theorem dX6_root_6 : decode cX6_root 6 = .ok (.ifCond .lt 24, 3) := by decide +kernel
theorem dX6_root_9 : decode cX6_root 9 = .ok (.iload_n 1, 1) := by decide +kernel
theorem dX6_root_10 : decode cX6_root 10 = .ok (.iconst 1, 1) := by decide +kernel
theorem dX6_root_11 : decode cX6_root 11 = .ok (.iload_n 2, 1) := by decide +kernel
theorem dX6_root_12 : decode cX6_root 12 = .ok (.ishl, 1) := by decide +kernel
theorem dX6_root_13 : decode cX6_root 13 = .ok (.iadd, 1) := by decide +kernel
theorem dX6_root_14 : decode cX6_root 14 = .ok (.istore_n 3, 1) := by decide +kernel
theorem dX6_root_15 : decode cX6_root 15 = .ok (.iload_n 3, 1) := by decide +kernel
theorem dX6_root_16 : decode cX6_root 16 = .ok (.iload_n 3, 1) := by decide +kernel
theorem dX6_root_17 : decode cX6_root 17 = .ok (.imul, 1) := by decide +kernel
theorem dX6_root_18 : decode cX6_root 18 = .ok (.iload_n 0, 1) := by decide +kernel
theorem dX6_root_19 : decode cX6_root 19 = .ok (.if_icmp .gt 5, 3) := by decide +kernel
theorem dX6_root_22 : decode cX6_root 22 = .ok (.iload_n 3, 1) := by decide +kernel
theorem dX6_root_23 : decode cX6_root 23 = .ok (.istore_n 1, 1) := by decide +kernel
theorem dX6_root_24 : decode cX6_root 24 = .ok (.iinc 2 (-1), 3) := by decide +kernel
theorem dX6_root_27 : decode cX6_root 27 = .ok (.goto (-22), 3) := by decide +kernel
theorem dX6_root_30 : decode cX6_root 30 = .ok (.iload_n 1, 1) := by decide +kernel
theorem dX6_root_31 : decode cX6_root 31 = .ok (.ireturn, 1) := by decide +kernel
theorem dX7_init_0 : decode cX7_init 0 = .ok (.aload_n 0, 1) := by decide +kernel
theorem dX7_init_1 : decode cX7_init 1 = .ok (.invokespecial 3, 3) := by decide +kernel
theorem dX7_init_4 : decode cX7_init 4 = .ok (.aload_n 0, 1) := by decide +kernel
theorem dX7_init_5 : decode cX7_init 5 = .ok (.bipush 24, 2) := by decide +kernel
theorem dX7_init_7 : decode cX7_init 7 = .ok (.bipush 24, 2) := by decide +kernel
theorem dX7_init_9 : decode cX7_init 9 = .ok (.multianewarray 9 2, 4) := by decide +kernel
theorem dX7_init_13 : decode cX7_init 13 = .ok (.putfield 11, 3) := by decide +kernel
theorem dX7_init_16 : decode cX7_init 16 = .ok (.return_, 1) := by decide +kernel
theorem dX7_measure_0 : decode cX7_measure 0 = .ok (.iconst 0, 1) := by decide +kernel
theorem dX7_measure_1 : decode cX7_measure 1 = .ok (.istore_n 3, 1) := by decide +kernel
theorem dX7_measure_2 : decode cX7_measure 2 = .ok (.iload_n 3, 1) := by decide +kernel
theorem dX7_measure_3 : decode cX7_measure 3 = .ok (.aload_n 1, 1) := by decide +kernel
theorem dX7_measure_4 : decode cX7_measure 4 = .ok (.getfield 16, 3) := by decide +kernel
theorem dX7_measure_7 : decode cX7_measure 7 = .ok (.getfield 22, 3) := by decide +kernel
theorem dX7_measure_10 : decode cX7_measure 10 = .ok (.if_icmp .ge 18, 3) := by decide +kernel
theorem dX7_measure_13 : decode cX7_measure 13 = .ok (.aload_n 0, 1) := by decide +kernel
theorem dX7_measure_14 : decode cX7_measure 14 = .ok (.getfield 11, 3) := by decide +kernel
theorem dX7_measure_17 : decode cX7_measure 17 = .ok (.iload_n 3, 1) := by decide +kernel
theorem dX7_measure_18 : decode cX7_measure 18 = .ok (.aaload, 1) := by decide +kernel
theorem dX7_measure_19 : decode cX7_measure 19 = .ok (.iload_n 3, 1) := by decide +kernel
theorem dX7_measure_20 : decode cX7_measure 20 = .ok (.iconst 0, 1) := by decide +kernel
theorem dX7_measure_21 : decode cX7_measure 21 = .ok (.iastore, 1) := by decide +kernel
theorem dX7_measure_22 : decode cX7_measure 22 = .ok (.iinc 3 1, 3) := by decide +kernel
theorem dX7_measure_25 : decode cX7_measure 25 = .ok (.goto (-23), 3) := by decide +kernel
theorem dX7_measure_28 : decode cX7_measure 28 = .ok (.iconst 0, 1) := by decide +kernel
theorem dX7_measure_29 : decode cX7_measure 29 = .ok (.istore_n 3, 1) := by decide +kernel
theorem dX7_measure_30 : decode cX7_measure 30 = .ok (.iload_n 3, 1) := by decide +kernel
theorem dX7_measure_31 : decode cX7_measure 31 = .ok (.aload_n 1, 1) := by decide +kernel
theorem dX7_measure_32 : decode cX7_measure 32 = .ok (.getfield 28, 3) := by decide +kernel
theorem dX7_measure_35 : decode cX7_measure 35 = .ok (.if_icmp .ge 29, 3) := by decide +kernel
theorem dX7_measure_38 : decode cX7_measure 38 = .ok (.aload_n 0, 1) := by decide +kernel
theorem dX7_measure_39 : decode cX7_measure 39 = .ok (.aload_n 1, 1) := by decide +kernel
theorem dX7_measure_40 : decode cX7_measure 40 = .ok (.iload_n 3, 1) := by decide +kernel
theorem dX7_measure_41 : decode cX7_measure 41 = .ok (.iload_n 2, 1) := by decide +kernel
theorem dX7_measure_42 : decode cX7_measure 42 = .ok (.ifCond .eq 12, 3) := by decide +kernel
theorem dX7_measure_45 : decode cX7_measure 45 = .ok (.aload_n 1, 1) := by decide +kernel
theorem dX7_measure_46 : decode cX7_measure 46 = .ok (.getfield 29, 3) := by decide +kernel
theorem dX7_measure_49 : decode cX7_measure 49 = .ok (.iload_n 3, 1) := by decide +kernel
theorem dX7_measure_50 : decode cX7_measure 50 = .ok (.iaload, 1) := by decide +kernel
theorem dX7_measure_51 : decode cX7_measure 51 = .ok (.goto 4, 3) := by decide +kernel
theorem dX7_measure_54 : decode cX7_measure 54 = .ok (.iconst 1, 1) := by decide +kernel
theorem dX7_measure_55 : decode cX7_measure 55 = .ok (.invokevirtual 33, 3) := by decide +kernel
theorem dX7_measure_58 : decode cX7_measure 58 = .ok (.iinc 3 1, 3) := by decide +kernel
theorem dX7_measure_61 : decode cX7_measure 61 = .ok (.goto (-31), 3) := by decide +kernel
theorem dX7_measure_64 : decode cX7_measure 64 = .ok (.return_, 1) := by decide +kernel
theorem dX7_link_0 : decode cX7_link 0 = .ok (.aload_n 1, 1) := by decide +kernel
theorem dX7_link_1 : decode cX7_link 1 = .ok (.aload_n 1, 1) := by decide +kernel
theorem dX7_link_2 : decode cX7_link 2 = .ok (.getfield 37, 3) := by decide +kernel
theorem dX7_link_5 : decode cX7_link 5 = .ok (.iload_n 2, 1) := by decide +kernel
theorem dX7_link_6 : decode cX7_link 6 = .ok (.iaload, 1) := by decide +kernel
theorem dX7_link_7 : decode cX7_link 7 = .ok (.invokevirtual 40, 3) := by decide +kernel
theorem dX7_link_10 : decode cX7_link 10 = .ok (.istore 4, 2) := by decide +kernel
theorem dX7_link_12 : decode cX7_link 12 = .ok (.aload_n 1, 1) := by decide +kernel
theorem dX7_link_13 : decode cX7_link 13 = .ok (.aload_n 1, 1) := by decide +kernel
theorem dX7_link_14 : decode cX7_link 14 = .ok (.getfield 44, 3) := by decide +kernel
theorem dX7_link_17 : decode cX7_link 17 = .ok (.iload_n 2, 1) := by decide +kernel
theorem dX7_link_18 : decode cX7_link 18 = .ok (.iaload, 1) := by decide +kernel
theorem dX7_link_19 : decode cX7_link 19 = .ok (.invokevirtual 40, 3) := by decide +kernel
theorem dX7_link_22 : decode cX7_link 22 = .ok (.istore 5, 2) := by decide +kernel
theorem dX7_link_24 : decode cX7_link 24 = .ok (.aload_n 1, 1) := by decide +kernel
theorem dX7_link_25 : decode cX7_link 25 = .ok (.getfield 47, 3) := by decide +kernel
theorem dX7_link_28 : decode cX7_link 28 = .ok (.iload_n 2, 1) := by decide +kernel
theorem dX7_link_29 : decode cX7_link 29 = .ok (.iaload, 1) := by decide +kernel
theorem dX7_link_30 : decode cX7_link 30 = .ok (.istore 6, 2) := by decide +kernel
theorem dX7_link_32 : decode cX7_link 32 = .ok (.aload_n 1, 1) := by decide +kernel
theorem dX7_link_33 : decode cX7_link 33 = .ok (.getfield 50, 3) := by decide +kernel
theorem dX7_link_36 : decode cX7_link 36 = .ok (.iload_n 2, 1) := by decide +kernel
theorem dX7_link_37 : decode cX7_link 37 = .ok (.iaload, 1) := by decide +kernel
theorem dX7_link_38 : decode cX7_link 38 = .ok (.istore 7, 2) := by decide +kernel
theorem dX7_link_40 : decode cX7_link 40 = .ok (.iload 6, 2) := by decide +kernel
theorem dX7_link_42 : decode cX7_link 42 = .ok (.ifCond .lt 22, 3) := by decide +kernel
theorem dX7_link_45 : decode cX7_link 45 = .ok (.iload 6, 2) := by decide +kernel
theorem dX7_link_47 : decode cX7_link 47 = .ok (.bipush 24, 2) := by decide +kernel
theorem dX7_link_49 : decode cX7_link 49 = .ok (.if_icmp .ge 15, 3) := by decide +kernel
theorem dX7_link_52 : decode cX7_link 52 = .ok (.iload 7, 2) := by decide +kernel
theorem dX7_link_54 : decode cX7_link 54 = .ok (.ifCond .lt 10, 3) := by decide +kernel
theorem dX7_link_57 : decode cX7_link 57 = .ok (.iload 7, 2) := by decide +kernel
theorem dX7_link_59 : decode cX7_link 59 = .ok (.bipush 24, 2) := by decide +kernel
theorem dX7_link_61 : decode cX7_link 61 = .ok (.if_icmp .lt 4, 3) := by decide +kernel
theorem dX7_link_64 : decode cX7_link 64 = .ok (.return_, 1) := by decide +kernel
theorem dX7_link_65 : decode cX7_link 65 = .ok (.iconst 0, 1) := by decide +kernel
theorem dX7_link_66 : decode cX7_link 66 = .ok (.istore 8, 2) := by decide +kernel
theorem dX7_link_68 : decode cX7_link 68 = .ok (.iload 8, 2) := by decide +kernel
theorem dX7_link_70 : decode cX7_link 70 = .ok (.aload_n 1, 1) := by decide +kernel
theorem dX7_link_71 : decode cX7_link 71 = .ok (.getfield 16, 3) := by decide +kernel
theorem dX7_link_74 : decode cX7_link 74 = .ok (.getfield 22, 3) := by decide +kernel
theorem dX7_link_77 : decode cX7_link 77 = .ok (.if_icmp .ge 103, 3) := by decide +kernel
theorem dX7_link_80 : decode cX7_link 80 = .ok (.iconst 0, 1) := by decide +kernel
theorem dX7_link_81 : decode cX7_link 81 = .ok (.istore 9, 2) := by decide +kernel
theorem dX7_link_83 : decode cX7_link 83 = .ok (.iload 9, 2) := by decide +kernel
theorem dX7_link_85 : decode cX7_link 85 = .ok (.aload_n 1, 1) := by decide +kernel
theorem dX7_link_86 : decode cX7_link 86 = .ok (.getfield 16, 3) := by decide +kernel
theorem dX7_link_89 : decode cX7_link 89 = .ok (.getfield 22, 3) := by decide +kernel
theorem dX7_link_92 : decode cX7_link 92 = .ok (.if_icmp .ge 82, 3) := by decide +kernel
theorem dX7_link_95 : decode cX7_link 95 = .ok (.iload 4, 2) := by decide +kernel
theorem dX7_link_97 : decode cX7_link 97 = .ok (.iload 8, 2) := by decide +kernel
theorem dX7_link_99 : decode cX7_link 99 = .ok (.invokestatic 53, 3) := by decide +kernel
theorem dX7_link_102 : decode cX7_link 102 = .ok (.ifCond .eq 72, 3) := by decide +kernel
theorem dX7_link_105 : decode cX7_link 105 = .ok (.iload 5, 2) := by decide +kernel
theorem dX7_link_107 : decode cX7_link 107 = .ok (.iload 9, 2) := by decide +kernel
theorem dX7_link_109 : decode cX7_link 109 = .ok (.invokestatic 53, 3) := by decide +kernel
theorem dX7_link_112 : decode cX7_link 112 = .ok (.ifCond .eq 56, 3) := by decide +kernel
theorem dX7_link_115 : decode cX7_link 115 = .ok (.aload_n 0, 1) := by decide +kernel
theorem dX7_link_116 : decode cX7_link 116 = .ok (.getfield 11, 3) := by decide +kernel
theorem dX7_link_119 : decode cX7_link 119 = .ok (.iload 8, 2) := by decide +kernel
theorem dX7_link_121 : decode cX7_link 121 = .ok (.aaload, 1) := by decide +kernel
theorem dX7_link_122 : decode cX7_link 122 = .ok (.iload 9, 2) := by decide +kernel
theorem dX7_link_124 : decode cX7_link 124 = .ok (.aload_n 0, 1) := by decide +kernel
theorem dX7_link_125 : decode cX7_link 125 = .ok (.getfield 11, 3) := by decide +kernel
theorem dX7_link_128 : decode cX7_link 128 = .ok (.iload 8, 2) := by decide +kernel
theorem dX7_link_130 : decode cX7_link 130 = .ok (.aaload, 1) := by decide +kernel
theorem dX7_link_131 : decode cX7_link 131 = .ok (.iload 6, 2) := by decide +kernel
theorem dX7_link_133 : decode cX7_link 133 = .ok (.iaload, 1) := by decide +kernel
theorem dX7_link_134 : decode cX7_link 134 = .ok (.iload_n 3, 1) := by decide +kernel
theorem dX7_link_135 : decode cX7_link 135 = .ok (.iadd, 1) := by decide +kernel
theorem dX7_link_136 : decode cX7_link 136 = .ok (.aload_n 0, 1) := by decide +kernel
theorem dX7_link_137 : decode cX7_link 137 = .ok (.getfield 11, 3) := by decide +kernel
theorem dX7_link_140 : decode cX7_link 140 = .ok (.iload 7, 2) := by decide +kernel
theorem dX7_link_142 : decode cX7_link 142 = .ok (.aaload, 1) := by decide +kernel
theorem dX7_link_143 : decode cX7_link 143 = .ok (.iload 9, 2) := by decide +kernel
theorem dX7_link_145 : decode cX7_link 145 = .ok (.iaload, 1) := by decide +kernel
theorem dX7_link_146 : decode cX7_link 146 = .ok (.iadd, 1) := by decide +kernel
theorem dX7_link_147 : decode cX7_link 147 = .ok (.iastore, 1) := by decide +kernel
theorem dX7_link_148 : decode cX7_link 148 = .ok (.aload_n 0, 1) := by decide +kernel
theorem dX7_link_149 : decode cX7_link 149 = .ok (.getfield 11, 3) := by decide +kernel
theorem dX7_link_152 : decode cX7_link 152 = .ok (.iload 9, 2) := by decide +kernel
theorem dX7_link_154 : decode cX7_link 154 = .ok (.aaload, 1) := by decide +kernel
theorem dX7_link_155 : decode cX7_link 155 = .ok (.iload 8, 2) := by decide +kernel
theorem dX7_link_157 : decode cX7_link 157 = .ok (.aload_n 0, 1) := by decide +kernel
theorem dX7_link_158 : decode cX7_link 158 = .ok (.getfield 11, 3) := by decide +kernel
theorem dX7_link_161 : decode cX7_link 161 = .ok (.iload 8, 2) := by decide +kernel
theorem dX7_link_163 : decode cX7_link 163 = .ok (.aaload, 1) := by decide +kernel
theorem dX7_link_164 : decode cX7_link 164 = .ok (.iload 9, 2) := by decide +kernel
theorem dX7_link_166 : decode cX7_link 166 = .ok (.iaload, 1) := by decide +kernel
theorem dX7_link_167 : decode cX7_link 167 = .ok (.iastore, 1) := by decide +kernel
theorem dX7_link_168 : decode cX7_link 168 = .ok (.iinc 9 1, 3) := by decide +kernel
theorem dX7_link_171 : decode cX7_link 171 = .ok (.goto (-88), 3) := by decide +kernel
theorem dX7_link_174 : decode cX7_link 174 = .ok (.iinc 8 1, 3) := by decide +kernel
theorem dX7_link_177 : decode cX7_link 177 = .ok (.goto (-109), 3) := by decide +kernel
theorem dX7_link_180 : decode cX7_link 180 = .ok (.return_, 1) := by decide +kernel
theorem dX8_init_0 : decode cX8_init 0 = .ok (.aload_n 0, 1) := by decide +kernel
theorem dX8_init_1 : decode cX8_init 1 = .ok (.invokespecial 3, 3) := by decide +kernel
theorem dX8_init_4 : decode cX8_init 4 = .ok (.aload_n 0, 1) := by decide +kernel
theorem dX8_init_5 : decode cX8_init 5 = .ok (.new 9, 3) := by decide +kernel
theorem dX8_init_8 : decode cX8_init 8 = .ok (.dup, 1) := by decide +kernel
theorem dX8_init_9 : decode cX8_init 9 = .ok (.invokespecial 11, 3) := by decide +kernel
theorem dX8_init_12 : decode cX8_init 12 = .ok (.putfield 12, 3) := by decide +kernel
theorem dX8_init_15 : decode cX8_init 15 = .ok (.aload_n 0, 1) := by decide +kernel
theorem dX8_init_16 : decode cX8_init 16 = .ok (.new 9, 3) := by decide +kernel
theorem dX8_init_19 : decode cX8_init 19 = .ok (.dup, 1) := by decide +kernel
theorem dX8_init_20 : decode cX8_init 20 = .ok (.invokespecial 11, 3) := by decide +kernel
theorem dX8_init_23 : decode cX8_init 23 = .ok (.putfield 16, 3) := by decide +kernel
theorem dX8_init_26 : decode cX8_init 26 = .ok (.aload_n 0, 1) := by decide +kernel
theorem dX8_init_27 : decode cX8_init 27 = .ok (.new 9, 3) := by decide +kernel
theorem dX8_init_30 : decode cX8_init 30 = .ok (.dup, 1) := by decide +kernel
theorem dX8_init_31 : decode cX8_init 31 = .ok (.invokespecial 11, 3) := by decide +kernel
theorem dX8_init_34 : decode cX8_init 34 = .ok (.putfield 19, 3) := by decide +kernel
theorem dX8_init_37 : decode cX8_init 37 = .ok (.aload_n 0, 1) := by decide +kernel
theorem dX8_init_38 : decode cX8_init 38 = .ok (.new 22, 3) := by decide +kernel
theorem dX8_init_41 : decode cX8_init 41 = .ok (.dup, 1) := by decide +kernel
theorem dX8_init_42 : decode cX8_init 42 = .ok (.invokespecial 24, 3) := by decide +kernel
theorem dX8_init_45 : decode cX8_init 45 = .ok (.putfield 25, 3) := by decide +kernel
theorem dX8_init_48 : decode cX8_init 48 = .ok (.aload_n 0, 1) := by decide +kernel
theorem dX8_init_49 : decode cX8_init 49 = .ok (.new 22, 3) := by decide +kernel
theorem dX8_init_52 : decode cX8_init 52 = .ok (.dup, 1) := by decide +kernel
theorem dX8_init_53 : decode cX8_init 53 = .ok (.invokespecial 24, 3) := by decide +kernel
theorem dX8_init_56 : decode cX8_init 56 = .ok (.putfield 29, 3) := by decide +kernel
theorem dX8_init_59 : decode cX8_init 59 = .ok (.aload_n 0, 1) := by decide +kernel
theorem dX8_init_60 : decode cX8_init 60 = .ok (.new 32, 3) := by decide +kernel
theorem dX8_init_63 : decode cX8_init 63 = .ok (.dup, 1) := by decide +kernel
theorem dX8_init_64 : decode cX8_init 64 = .ok (.invokespecial 34, 3) := by decide +kernel
theorem dX8_init_67 : decode cX8_init 67 = .ok (.putfield 35, 3) := by decide +kernel
theorem dX8_init_70 : decode cX8_init 70 = .ok (.aload_n 0, 1) := by decide +kernel
theorem dX8_init_71 : decode cX8_init 71 = .ok (.new 39, 3) := by decide +kernel
theorem dX8_init_74 : decode cX8_init 74 = .ok (.dup, 1) := by decide +kernel
theorem dX8_init_75 : decode cX8_init 75 = .ok (.invokespecial 41, 3) := by decide +kernel
theorem dX8_init_78 : decode cX8_init 78 = .ok (.putfield 42, 3) := by decide +kernel
theorem dX8_init_81 : decode cX8_init 81 = .ok (.aload_n 0, 1) := by decide +kernel
theorem dX8_init_82 : decode cX8_init 82 = .ok (.new 46, 3) := by decide +kernel
theorem dX8_init_85 : decode cX8_init 85 = .ok (.dup, 1) := by decide +kernel
theorem dX8_init_86 : decode cX8_init 86 = .ok (.invokespecial 48, 3) := by decide +kernel
theorem dX8_init_89 : decode cX8_init 89 = .ok (.putfield 49, 3) := by decide +kernel
theorem dX8_init_92 : decode cX8_init 92 = .ok (.aload_n 0, 1) := by decide +kernel
theorem dX8_init_93 : decode cX8_init 93 = .ok (.new 53, 3) := by decide +kernel
theorem dX8_init_96 : decode cX8_init 96 = .ok (.dup, 1) := by decide +kernel
theorem dX8_init_97 : decode cX8_init 97 = .ok (.invokespecial 55, 3) := by decide +kernel
theorem dX8_init_100 : decode cX8_init 100 = .ok (.putfield 56, 3) := by decide +kernel
theorem dX8_init_103 : decode cX8_init 103 = .ok (.aload_n 0, 1) := by decide +kernel
theorem dX8_init_104 : decode cX8_init 104 = .ok (.bipush 24, 2) := by decide +kernel
theorem dX8_init_106 : decode cX8_init 106 = .ok (.newarray .int, 2) := by decide +kernel
theorem dX8_init_108 : decode cX8_init 108 = .ok (.putfield 60, 3) := by decide +kernel
theorem dX8_init_111 : decode cX8_init 111 = .ok (.aload_n 0, 1) := by decide +kernel
theorem dX8_init_112 : decode cX8_init 112 = .ok (.bipush 64, 2) := by decide +kernel
theorem dX8_init_114 : decode cX8_init 114 = .ok (.putfield 64, 3) := by decide +kernel
theorem dX8_init_117 : decode cX8_init 117 = .ok (.aload_n 0, 1) := by decide +kernel
theorem dX8_init_118 : decode cX8_init 118 = .ok (.iconst 0, 1) := by decide +kernel
theorem dX8_init_119 : decode cX8_init 119 = .ok (.putfield 68, 3) := by decide +kernel
theorem dX8_init_122 : decode cX8_init 122 = .ok (.return_, 1) := by decide +kernel
theorem dX8_add_0 : decode cX8_add 0 = .ok (.iload_n 3, 1) := by decide +kernel
theorem dX8_add_1 : decode cX8_add 1 = .ok (.invokestatic 71, 3) := by decide +kernel
theorem dX8_add_4 : decode cX8_add 4 = .ok (.ifCond .eq 18, 3) := by decide +kernel
theorem dX8_add_7 : decode cX8_add 7 = .ok (.aload_n 0, 1) := by decide +kernel
theorem dX8_add_8 : decode cX8_add 8 = .ok (.getfield 12, 3) := by decide +kernel
theorem dX8_add_11 : decode cX8_add 11 = .ok (.getfield 75, 3) := by decide +kernel
theorem dX8_add_14 : decode cX8_add 14 = .ok (.iload_n 1, 1) := by decide +kernel
theorem dX8_add_15 : decode cX8_add 15 = .ok (.iload_n 2, 1) := by decide +kernel
theorem dX8_add_16 : decode cX8_add 16 = .ok (.invokevirtual 79, 3) := by decide +kernel
theorem dX8_add_19 : decode cX8_add 19 = .ok (.ifCond .ne 5, 3) := by decide +kernel
theorem dX8_add_22 : decode cX8_add 22 = .ok (.iconst (-1), 1) := by decide +kernel
theorem dX8_add_23 : decode cX8_add 23 = .ok (.ireturn, 1) := by decide +kernel
theorem dX8_add_24 : decode cX8_add 24 = .ok (.aload_n 0, 1) := by decide +kernel
theorem dX8_add_25 : decode cX8_add 25 = .ok (.invokevirtual 85, 3) := by decide +kernel
theorem dX8_add_28 : decode cX8_add 28 = .ok (.aload_n 0, 1) := by decide +kernel
theorem dX8_add_29 : decode cX8_add 29 = .ok (.getfield 12, 3) := by decide +kernel
theorem dX8_add_32 : decode cX8_add 32 = .ok (.getfield 75, 3) := by decide +kernel
theorem dX8_add_35 : decode cX8_add 35 = .ok (.iload_n 1, 1) := by decide +kernel
theorem dX8_add_36 : decode cX8_add 36 = .ok (.iload_n 2, 1) := by decide +kernel
theorem dX8_add_37 : decode cX8_add 37 = .ok (.iload_n 3, 1) := by decide +kernel
theorem dX8_add_38 : decode cX8_add 38 = .ok (.invokevirtual 88, 3) := by decide +kernel
theorem dX8_add_41 : decode cX8_add 41 = .ok (.aload_n 0, 1) := by decide +kernel
theorem dX8_add_42 : decode cX8_add 42 = .ok (.getfield 12, 3) := by decide +kernel
theorem dX8_add_45 : decode cX8_add 45 = .ok (.invokevirtual 92, 3) := by decide +kernel
theorem dX8_add_48 : decode cX8_add 48 = .ok (.aload_n 0, 1) := by decide +kernel
theorem dX8_add_49 : decode cX8_add 49 = .ok (.getfield 12, 3) := by decide +kernel
theorem dX8_add_52 : decode cX8_add 52 = .ok (.aload_n 0, 1) := by decide +kernel
theorem dX8_add_53 : decode cX8_add 53 = .ok (.getfield 16, 3) := by decide +kernel
theorem dX8_add_56 : decode cX8_add 56 = .ok (.invokevirtual 95, 3) := by decide +kernel
theorem dX8_add_59 : decode cX8_add 59 = .ok (.ireturn, 1) := by decide +kernel
theorem dX8_take_0 : decode cX8_take 0 = .ok (.aload_n 0, 1) := by decide +kernel
theorem dX8_take_1 : decode cX8_take 1 = .ok (.iload_n 1, 1) := by decide +kernel
theorem dX8_take_2 : decode cX8_take 2 = .ok (.invokevirtual 99, 3) := by decide +kernel
theorem dX8_take_5 : decode cX8_take 5 = .ok (.ifCond .ne 5, 3) := by decide +kernel
theorem dX8_take_8 : decode cX8_take 8 = .ok (.iconst (-1), 1) := by decide +kernel
theorem dX8_take_9 : decode cX8_take 9 = .ok (.ireturn, 1) := by decide +kernel
theorem dX8_take_10 : decode cX8_take 10 = .ok (.aload_n 0, 1) := by decide +kernel
theorem dX8_take_11 : decode cX8_take 11 = .ok (.invokevirtual 85, 3) := by decide +kernel
theorem dX8_take_14 : decode cX8_take 14 = .ok (.aload_n 0, 1) := by decide +kernel
theorem dX8_take_15 : decode cX8_take 15 = .ok (.getfield 12, 3) := by decide +kernel
theorem dX8_take_18 : decode cX8_take 18 = .ok (.getfield 75, 3) := by decide +kernel
theorem dX8_take_21 : decode cX8_take 21 = .ok (.iload_n 1, 1) := by decide +kernel
theorem dX8_take_22 : decode cX8_take 22 = .ok (.invokevirtual 102, 3) := by decide +kernel
theorem dX8_take_25 : decode cX8_take 25 = .ok (.aload_n 0, 1) := by decide +kernel
theorem dX8_take_26 : decode cX8_take 26 = .ok (.getfield 12, 3) := by decide +kernel
theorem dX8_take_29 : decode cX8_take 29 = .ok (.invokevirtual 92, 3) := by decide +kernel
theorem dX8_take_32 : decode cX8_take 32 = .ok (.aload_n 0, 1) := by decide +kernel
theorem dX8_take_33 : decode cX8_take 33 = .ok (.getfield 12, 3) := by decide +kernel
theorem dX8_take_36 : decode cX8_take 36 = .ok (.aload_n 0, 1) := by decide +kernel
theorem dX8_take_37 : decode cX8_take 37 = .ok (.getfield 16, 3) := by decide +kernel
theorem dX8_take_40 : decode cX8_take 40 = .ok (.invokevirtual 95, 3) := by decide +kernel
theorem dX8_take_43 : decode cX8_take 43 = .ok (.ireturn, 1) := by decide +kernel
theorem dX8_weigh_0 : decode cX8_weigh 0 = .ok (.aload_n 0, 1) := by decide +kernel
theorem dX8_weigh_1 : decode cX8_weigh 1 = .ok (.iload_n 1, 1) := by decide +kernel
theorem dX8_weigh_2 : decode cX8_weigh 2 = .ok (.invokevirtual 99, 3) := by decide +kernel
theorem dX8_weigh_5 : decode cX8_weigh 5 = .ok (.ifCond .eq 10, 3) := by decide +kernel
theorem dX8_weigh_8 : decode cX8_weigh 8 = .ok (.iload_n 2, 1) := by decide +kernel
theorem dX8_weigh_9 : decode cX8_weigh 9 = .ok (.invokestatic 71, 3) := by decide +kernel
theorem dX8_weigh_12 : decode cX8_weigh 12 = .ok (.ifCond .ne 5, 3) := by decide +kernel
theorem dX8_weigh_15 : decode cX8_weigh 15 = .ok (.iconst (-1), 1) := by decide +kernel
theorem dX8_weigh_16 : decode cX8_weigh 16 = .ok (.ireturn, 1) := by decide +kernel
theorem dX8_weigh_17 : decode cX8_weigh 17 = .ok (.aload_n 0, 1) := by decide +kernel
theorem dX8_weigh_18 : decode cX8_weigh 18 = .ok (.getfield 12, 3) := by decide +kernel
theorem dX8_weigh_21 : decode cX8_weigh 21 = .ok (.getfield 75, 3) := by decide +kernel
theorem dX8_weigh_24 : decode cX8_weigh 24 = .ok (.getfield 106, 3) := by decide +kernel
theorem dX8_weigh_27 : decode cX8_weigh 27 = .ok (.iload_n 1, 1) := by decide +kernel
theorem dX8_weigh_28 : decode cX8_weigh 28 = .ok (.iaload, 1) := by decide +kernel
theorem dX8_weigh_29 : decode cX8_weigh 29 = .ok (.istore_n 3, 1) := by decide +kernel
theorem dX8_weigh_30 : decode cX8_weigh 30 = .ok (.aload_n 0, 1) := by decide +kernel
theorem dX8_weigh_31 : decode cX8_weigh 31 = .ok (.getfield 12, 3) := by decide +kernel
theorem dX8_weigh_34 : decode cX8_weigh 34 = .ok (.getfield 75, 3) := by decide +kernel
theorem dX8_weigh_37 : decode cX8_weigh 37 = .ok (.getfield 106, 3) := by decide +kernel
theorem dX8_weigh_40 : decode cX8_weigh 40 = .ok (.iload_n 1, 1) := by decide +kernel
theorem dX8_weigh_41 : decode cX8_weigh 41 = .ok (.iload_n 2, 1) := by decide +kernel
theorem dX8_weigh_42 : decode cX8_weigh 42 = .ok (.iastore, 1) := by decide +kernel
theorem dX8_weigh_43 : decode cX8_weigh 43 = .ok (.iload_n 3, 1) := by decide +kernel
theorem dX8_weigh_44 : decode cX8_weigh 44 = .ok (.ireturn, 1) := by decide +kernel
theorem dX8_scatter_0 : decode cX8_scatter 0 = .ok (.iload_n 1, 1) := by decide +kernel
theorem dX8_scatter_1 : decode cX8_scatter 1 = .ok (.iconst 1, 1) := by decide +kernel
