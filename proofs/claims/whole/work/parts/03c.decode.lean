theorem dX9_keeps_76 : decode cX9_keeps 76 = .ok (.iastore, 1) := by decide +kernel
theorem dX9_keeps_77 : decode cX9_keeps 77 = .ok (.aload_n 0, 1) := by decide +kernel
theorem dX9_keeps_78 : decode cX9_keeps 78 = .ok (.getfield 62, 3) := by decide +kernel
theorem dX9_keeps_81 : decode cX9_keeps 81 = .ok (.iload_n 1, 1) := by decide +kernel
theorem dX9_keeps_82 : decode cX9_keeps 82 = .ok (.aload_n 0, 1) := by decide +kernel
theorem dX9_keeps_83 : decode cX9_keeps 83 = .ok (.getfield 29, 3) := by decide +kernel
theorem dX9_keeps_86 : decode cX9_keeps 86 = .ok (.iload_n 1, 1) := by decide +kernel
theorem dX9_keeps_87 : decode cX9_keeps 87 = .ok (.iaload, 1) := by decide +kernel
theorem dX9_keeps_88 : decode cX9_keeps 88 = .ok (.iastore, 1) := by decide +kernel
theorem dX9_keeps_89 : decode cX9_keeps 89 = .ok (.iinc 1 1, 3) := by decide +kernel
theorem dX9_keeps_92 : decode cX9_keeps 92 = .ok (.goto (-55), 3) := by decide +kernel
theorem dX9_keeps_95 : decode cX9_keeps 95 = .ok (.aload_n 0, 1) := by decide +kernel
theorem dX9_keeps_96 : decode cX9_keeps 96 = .ok (.iconst 1, 1) := by decide +kernel
theorem dX9_keeps_97 : decode cX9_keeps 97 = .ok (.putfield 145, 3) := by decide +kernel
theorem dX9_keeps_100 : decode cX9_keeps 100 = .ok (.return_, 1) := by decide +kernel
theorem dX9_wasJoins_0 : decode cX9_wasJoins 0 = .ok (.aload_n 0, 1) := by decide +kernel
theorem dX9_wasJoins_1 : decode cX9_wasJoins 1 = .ok (.getfield 138, 3) := by decide +kernel
theorem dX9_wasJoins_4 : decode cX9_wasJoins 4 = .ok (.ifCond .le 12, 3) := by decide +kernel
theorem dX9_wasJoins_7 : decode cX9_wasJoins 7 = .ok (.aload_n 0, 1) := by decide +kernel
theorem dX9_wasJoins_8 : decode cX9_wasJoins 8 = .ok (.getfield 138, 3) := by decide +kernel
theorem dX9_wasJoins_11 : decode cX9_wasJoins 11 = .ok (.iconst 1, 1) := by decide +kernel
theorem dX9_wasJoins_12 : decode cX9_wasJoins 12 = .ok (.isub, 1) := by decide +kernel
theorem dX9_wasJoins_13 : decode cX9_wasJoins 13 = .ok (.goto 4, 3) := by decide +kernel
theorem dX9_wasJoins_16 : decode cX9_wasJoins 16 = .ok (.iconst 0, 1) := by decide +kernel
theorem dX9_wasJoins_17 : decode cX9_wasJoins 17 = .ok (.ireturn, 1) := by decide +kernel
theorem dX9_areSame_0 : decode cX9_areSame 0 = .ok (.aload_n 0, 1) := by decide +kernel
theorem dX9_areSame_1 : decode cX9_areSame 1 = .ok (.aload_n 0, 1) := by decide +kernel
theorem dX9_areSame_2 : decode cX9_areSame 2 = .ok (.getfield 23, 3) := by decide +kernel
theorem dX9_areSame_5 : decode cX9_areSame 5 = .ok (.iload_n 1, 1) := by decide +kernel
theorem dX9_areSame_6 : decode cX9_areSame 6 = .ok (.iaload, 1) := by decide +kernel
theorem dX9_areSame_7 : decode cX9_areSame 7 = .ok (.invokevirtual 141, 3) := by decide +kernel
theorem dX9_areSame_10 : decode cX9_areSame 10 = .ok (.istore_n 3, 1) := by decide +kernel
theorem dX9_areSame_11 : decode cX9_areSame 11 = .ok (.aload_n 0, 1) := by decide +kernel
theorem dX9_areSame_12 : decode cX9_areSame 12 = .ok (.aload_n 0, 1) := by decide +kernel
theorem dX9_areSame_13 : decode cX9_areSame 13 = .ok (.getfield 26, 3) := by decide +kernel
theorem dX9_areSame_16 : decode cX9_areSame 16 = .ok (.iload_n 1, 1) := by decide +kernel
theorem dX9_areSame_17 : decode cX9_areSame 17 = .ok (.iaload, 1) := by decide +kernel
theorem dX9_areSame_18 : decode cX9_areSame 18 = .ok (.invokevirtual 141, 3) := by decide +kernel
theorem dX9_areSame_21 : decode cX9_areSame 21 = .ok (.istore 4, 2) := by decide +kernel
theorem dX9_areSame_23 : decode cX9_areSame 23 = .ok (.iload_n 3, 1) := by decide +kernel
theorem dX9_areSame_24 : decode cX9_areSame 24 = .ok (.aload_n 0, 1) := by decide +kernel
theorem dX9_areSame_25 : decode cX9_areSame 25 = .ok (.getfield 56, 3) := by decide +kernel
theorem dX9_areSame_28 : decode cX9_areSame 28 = .ok (.iload_n 2, 1) := by decide +kernel
theorem dX9_areSame_29 : decode cX9_areSame 29 = .ok (.iaload, 1) := by decide +kernel
theorem dX9_areSame_30 : decode cX9_areSame 30 = .ok (.if_icmp .ne 14, 3) := by decide +kernel
theorem dX9_areSame_33 : decode cX9_areSame 33 = .ok (.iload 4, 2) := by decide +kernel
theorem dX9_areSame_35 : decode cX9_areSame 35 = .ok (.aload_n 0, 1) := by decide +kernel
theorem dX9_areSame_36 : decode cX9_areSame 36 = .ok (.getfield 59, 3) := by decide +kernel
theorem dX9_areSame_39 : decode cX9_areSame 39 = .ok (.iload_n 2, 1) := by decide +kernel
theorem dX9_areSame_40 : decode cX9_areSame 40 = .ok (.iaload, 1) := by decide +kernel
theorem dX9_areSame_41 : decode cX9_areSame 41 = .ok (.if_icmp .eq 24, 3) := by decide +kernel
theorem dX9_areSame_44 : decode cX9_areSame 44 = .ok (.iload_n 3, 1) := by decide +kernel
theorem dX9_areSame_45 : decode cX9_areSame 45 = .ok (.aload_n 0, 1) := by decide +kernel
theorem dX9_areSame_46 : decode cX9_areSame 46 = .ok (.getfield 59, 3) := by decide +kernel
theorem dX9_areSame_49 : decode cX9_areSame 49 = .ok (.iload_n 2, 1) := by decide +kernel
theorem dX9_areSame_50 : decode cX9_areSame 50 = .ok (.iaload, 1) := by decide +kernel
theorem dX9_areSame_51 : decode cX9_areSame 51 = .ok (.if_icmp .ne 18, 3) := by decide +kernel
theorem dX9_areSame_54 : decode cX9_areSame 54 = .ok (.iload 4, 2) := by decide +kernel
theorem dX9_areSame_56 : decode cX9_areSame 56 = .ok (.aload_n 0, 1) := by decide +kernel
theorem dX9_areSame_57 : decode cX9_areSame 57 = .ok (.getfield 56, 3) := by decide +kernel
theorem dX9_areSame_60 : decode cX9_areSame 60 = .ok (.iload_n 2, 1) := by decide +kernel
theorem dX9_areSame_61 : decode cX9_areSame 61 = .ok (.iaload, 1) := by decide +kernel
theorem dX9_areSame_62 : decode cX9_areSame 62 = .ok (.if_icmp .ne 7, 3) := by decide +kernel
theorem dX9_areSame_65 : decode cX9_areSame 65 = .ok (.iconst 1, 1) := by decide +kernel
theorem dX9_areSame_66 : decode cX9_areSame 66 = .ok (.goto 4, 3) := by decide +kernel
theorem dX9_areSame_69 : decode cX9_areSame 69 = .ok (.iconst 0, 1) := by decide +kernel
theorem dX9_areSame_70 : decode cX9_areSame 70 = .ok (.ireturn, 1) := by decide +kernel
theorem dX9_isNew_0 : decode cX9_isNew 0 = .ok (.aload_n 0, 1) := by decide +kernel
theorem dX9_isNew_1 : decode cX9_isNew 1 = .ok (.getfield 145, 3) := by decide +kernel
theorem dX9_isNew_4 : decode cX9_isNew 4 = .ok (.ifCond .ne 5, 3) := by decide +kernel
theorem dX9_isNew_7 : decode cX9_isNew 7 = .ok (.iconst 0, 1) := by decide +kernel
theorem dX9_isNew_8 : decode cX9_isNew 8 = .ok (.ireturn, 1) := by decide +kernel
theorem dX9_isNew_9 : decode cX9_isNew 9 = .ok (.iconst 0, 1) := by decide +kernel
theorem dX9_isNew_10 : decode cX9_isNew 10 = .ok (.istore_n 2, 1) := by decide +kernel
theorem dX9_isNew_11 : decode cX9_isNew 11 = .ok (.iload_n 2, 1) := by decide +kernel
theorem dX9_isNew_12 : decode cX9_isNew 12 = .ok (.aload_n 0, 1) := by decide +kernel
theorem dX9_isNew_13 : decode cX9_isNew 13 = .ok (.invokevirtual 149, 3) := by decide +kernel
theorem dX9_isNew_16 : decode cX9_isNew 16 = .ok (.if_icmp .ge 20, 3) := by decide +kernel
theorem dX9_isNew_19 : decode cX9_isNew 19 = .ok (.aload_n 0, 1) := by decide +kernel
theorem dX9_isNew_20 : decode cX9_isNew 20 = .ok (.iload_n 1, 1) := by decide +kernel
theorem dX9_isNew_21 : decode cX9_isNew 21 = .ok (.iload_n 2, 1) := by decide +kernel
theorem dX9_isNew_22 : decode cX9_isNew 22 = .ok (.invokevirtual 152, 3) := by decide +kernel
theorem dX9_isNew_25 : decode cX9_isNew 25 = .ok (.ifCond .eq 5, 3) := by decide +kernel
theorem dX9_isNew_28 : decode cX9_isNew 28 = .ok (.iconst 0, 1) := by decide +kernel
theorem dX9_isNew_29 : decode cX9_isNew 29 = .ok (.ireturn, 1) := by decide +kernel
theorem dX9_isNew_30 : decode cX9_isNew 30 = .ok (.iinc 2 1, 3) := by decide +kernel
theorem dX9_isNew_33 : decode cX9_isNew 33 = .ok (.goto (-22), 3) := by decide +kernel
theorem dX9_isNew_36 : decode cX9_isNew 36 = .ok (.iconst 1, 1) := by decide +kernel
theorem dX9_isNew_37 : decode cX9_isNew 37 = .ok (.ireturn, 1) := by decide +kernel
theorem dX9_isGone_0 : decode cX9_isGone 0 = .ok (.iconst 0, 1) := by decide +kernel
theorem dX9_isGone_1 : decode cX9_isGone 1 = .ok (.istore_n 2, 1) := by decide +kernel
theorem dX9_isGone_2 : decode cX9_isGone 2 = .ok (.iload_n 2, 1) := by decide +kernel
theorem dX9_isGone_3 : decode cX9_isGone 3 = .ok (.aload_n 0, 1) := by decide +kernel
theorem dX9_isGone_4 : decode cX9_isGone 4 = .ok (.invokevirtual 119, 3) := by decide +kernel
theorem dX9_isGone_7 : decode cX9_isGone 7 = .ok (.if_icmp .ge 20, 3) := by decide +kernel
theorem dX9_isGone_10 : decode cX9_isGone 10 = .ok (.aload_n 0, 1) := by decide +kernel
theorem dX9_isGone_11 : decode cX9_isGone 11 = .ok (.iload_n 2, 1) := by decide +kernel
theorem dX9_isGone_12 : decode cX9_isGone 12 = .ok (.iload_n 1, 1) := by decide +kernel
theorem dX9_isGone_13 : decode cX9_isGone 13 = .ok (.invokevirtual 152, 3) := by decide +kernel
theorem dX9_isGone_16 : decode cX9_isGone 16 = .ok (.ifCond .eq 5, 3) := by decide +kernel
theorem dX9_isGone_19 : decode cX9_isGone 19 = .ok (.iconst 0, 1) := by decide +kernel
theorem dX9_isGone_20 : decode cX9_isGone 20 = .ok (.ireturn, 1) := by decide +kernel
theorem dX9_isGone_21 : decode cX9_isGone 21 = .ok (.iinc 2 1, 3) := by decide +kernel
theorem dX9_isGone_24 : decode cX9_isGone 24 = .ok (.goto (-22), 3) := by decide +kernel
theorem dX9_isGone_27 : decode cX9_isGone 27 = .ok (.iconst 1, 1) := by decide +kernel
theorem dX9_isGone_28 : decode cX9_isGone 28 = .ok (.ireturn, 1) := by decide +kernel
theorem dX9_newOnes_0 : decode cX9_newOnes 0 = .ok (.iconst 0, 1) := by decide +kernel
theorem dX9_newOnes_1 : decode cX9_newOnes 1 = .ok (.istore_n 1, 1) := by decide +kernel
theorem dX9_newOnes_2 : decode cX9_newOnes 2 = .ok (.iconst 0, 1) := by decide +kernel
theorem dX9_newOnes_3 : decode cX9_newOnes 3 = .ok (.istore_n 2, 1) := by decide +kernel
theorem dX9_newOnes_4 : decode cX9_newOnes 4 = .ok (.iload_n 2, 1) := by decide +kernel
theorem dX9_newOnes_5 : decode cX9_newOnes 5 = .ok (.aload_n 0, 1) := by decide +kernel
theorem dX9_newOnes_6 : decode cX9_newOnes 6 = .ok (.invokevirtual 119, 3) := by decide +kernel
theorem dX9_newOnes_9 : decode cX9_newOnes 9 = .ok (.if_icmp .ge 21, 3) := by decide +kernel
theorem dX9_newOnes_12 : decode cX9_newOnes 12 = .ok (.aload_n 0, 1) := by decide +kernel
theorem dX9_newOnes_13 : decode cX9_newOnes 13 = .ok (.iload_n 2, 1) := by decide +kernel
theorem dX9_newOnes_14 : decode cX9_newOnes 14 = .ok (.invokevirtual 155, 3) := by decide +kernel
theorem dX9_newOnes_17 : decode cX9_newOnes 17 = .ok (.ifCond .eq 7, 3) := by decide +kernel
theorem dX9_newOnes_20 : decode cX9_newOnes 20 = .ok (.iload_n 1, 1) := by decide +kernel
theorem dX9_newOnes_21 : decode cX9_newOnes 21 = .ok (.iconst 1, 1) := by decide +kernel
theorem dX9_newOnes_22 : decode cX9_newOnes 22 = .ok (.iadd, 1) := by decide +kernel
theorem dX9_newOnes_23 : decode cX9_newOnes 23 = .ok (.istore_n 1, 1) := by decide +kernel
theorem dX9_newOnes_24 : decode cX9_newOnes 24 = .ok (.iinc 2 1, 3) := by decide +kernel
theorem dX9_newOnes_27 : decode cX9_newOnes 27 = .ok (.goto (-23), 3) := by decide +kernel
theorem dX9_newOnes_30 : decode cX9_newOnes 30 = .ok (.iload_n 1, 1) := by decide +kernel
theorem dX9_newOnes_31 : decode cX9_newOnes 31 = .ok (.ireturn, 1) := by decide +kernel
theorem dX9_pointAt_0 : decode cX9_pointAt 0 = .ok (.iconst 0, 1) := by decide +kernel
theorem dX9_pointAt_1 : decode cX9_pointAt 1 = .ok (.istore_n 3, 1) := by decide +kernel
theorem dX9_pointAt_2 : decode cX9_pointAt 2 = .ok (.iload_n 3, 1) := by decide +kernel
theorem dX9_pointAt_3 : decode cX9_pointAt 3 = .ok (.aload_n 0, 1) := by decide +kernel
theorem dX9_pointAt_4 : decode cX9_pointAt 4 = .ok (.getfield 98, 3) := by decide +kernel
theorem dX9_pointAt_7 : decode cX9_pointAt 7 = .ok (.if_icmp .ge 31, 3) := by decide +kernel
theorem dX9_pointAt_10 : decode cX9_pointAt 10 = .ok (.aload_n 0, 1) := by decide +kernel
theorem dX9_pointAt_11 : decode cX9_pointAt 11 = .ok (.getfield 7, 3) := by decide +kernel
theorem dX9_pointAt_14 : decode cX9_pointAt 14 = .ok (.iload_n 3, 1) := by decide +kernel
theorem dX9_pointAt_15 : decode cX9_pointAt 15 = .ok (.iaload, 1) := by decide +kernel
theorem dX9_pointAt_16 : decode cX9_pointAt 16 = .ok (.iload_n 1, 1) := by decide +kernel
theorem dX9_pointAt_17 : decode cX9_pointAt 17 = .ok (.if_icmp .ne 15, 3) := by decide +kernel
theorem dX9_pointAt_20 : decode cX9_pointAt 20 = .ok (.aload_n 0, 1) := by decide +kernel
theorem dX9_pointAt_21 : decode cX9_pointAt 21 = .ok (.getfield 13, 3) := by decide +kernel
theorem dX9_pointAt_24 : decode cX9_pointAt 24 = .ok (.iload_n 3, 1) := by decide +kernel
theorem dX9_pointAt_25 : decode cX9_pointAt 25 = .ok (.iaload, 1) := by decide +kernel
theorem dX9_pointAt_26 : decode cX9_pointAt 26 = .ok (.iload_n 2, 1) := by decide +kernel
theorem dX9_pointAt_27 : decode cX9_pointAt 27 = .ok (.if_icmp .ne 5, 3) := by decide +kernel
theorem dX9_pointAt_30 : decode cX9_pointAt 30 = .ok (.iload_n 3, 1) := by decide +kernel
theorem dX9_pointAt_31 : decode cX9_pointAt 31 = .ok (.ireturn, 1) := by decide +kernel
theorem dX9_pointAt_32 : decode cX9_pointAt 32 = .ok (.iinc 3 1, 3) := by decide +kernel
theorem dX9_pointAt_35 : decode cX9_pointAt 35 = .ok (.goto (-33), 3) := by decide +kernel
theorem dX9_pointAt_38 : decode cX9_pointAt 38 = .ok (.iconst (-1), 1) := by decide +kernel
theorem dX9_pointAt_39 : decode cX9_pointAt 39 = .ok (.ireturn, 1) := by decide +kernel
theorem dX9_canCome_0 : decode cX9_canCome 0 = .ok (.aload_n 0, 1) := by decide +kernel
theorem dX9_canCome_1 : decode cX9_canCome 1 = .ok (.getfield 98, 3) := by decide +kernel
theorem dX9_canCome_4 : decode cX9_canCome 4 = .ok (.bipush 24, 2) := by decide +kernel
theorem dX9_canCome_6 : decode cX9_canCome 6 = .ok (.if_icmp .ge 43, 3) := by decide +kernel
theorem dX9_canCome_9 : decode cX9_canCome 9 = .ok (.aload_n 0, 1) := by decide +kernel
theorem dX9_canCome_10 : decode cX9_canCome 10 = .ok (.iload_n 1, 1) := by decide +kernel
theorem dX9_canCome_11 : decode cX9_canCome 11 = .ok (.i2l, 1) := by decide +kernel
theorem dX9_canCome_12 : decode cX9_canCome 12 = .ok (.lconst 0, 1) := by decide +kernel
theorem dX9_canCome_13 : decode cX9_canCome 13 = .ok (.ldc2_w 159, 3) := by decide +kernel
theorem dX9_canCome_16 : decode cX9_canCome 16 = .ok (.invokevirtual 101, 3) := by decide +kernel
theorem dX9_canCome_19 : decode cX9_canCome 19 = .ok (.ifCond .eq 30, 3) := by decide +kernel
theorem dX9_canCome_22 : decode cX9_canCome 22 = .ok (.aload_n 0, 1) := by decide +kernel
theorem dX9_canCome_23 : decode cX9_canCome 23 = .ok (.iload_n 2, 1) := by decide +kernel
theorem dX9_canCome_24 : decode cX9_canCome 24 = .ok (.i2l, 1) := by decide +kernel
theorem dX9_canCome_25 : decode cX9_canCome 25 = .ok (.lconst 0, 1) := by decide +kernel
theorem dX9_canCome_26 : decode cX9_canCome 26 = .ok (.ldc2_w 159, 3) := by decide +kernel
theorem dX9_canCome_29 : decode cX9_canCome 29 = .ok (.invokevirtual 101, 3) := by decide +kernel
theorem dX9_canCome_32 : decode cX9_canCome 32 = .ok (.ifCond .eq 17, 3) := by decide +kernel
theorem dX9_canCome_35 : decode cX9_canCome 35 = .ok (.aload_n 0, 1) := by decide +kernel
theorem dX9_canCome_36 : decode cX9_canCome 36 = .ok (.iload_n 1, 1) := by decide +kernel
theorem dX9_canCome_37 : decode cX9_canCome 37 = .ok (.iload_n 2, 1) := by decide +kernel
theorem dX9_canCome_38 : decode cX9_canCome 38 = .ok (.invokevirtual 161, 3) := by decide +kernel
theorem dX9_canCome_41 : decode cX9_canCome 41 = .ok (.iconst (-1), 1) := by decide +kernel
theorem dX9_canCome_42 : decode cX9_canCome 42 = .ok (.if_icmp .ne 7, 3) := by decide +kernel
theorem dX9_canCome_45 : decode cX9_canCome 45 = .ok (.iconst 1, 1) := by decide +kernel
theorem dX9_canCome_46 : decode cX9_canCome 46 = .ok (.goto 4, 3) := by decide +kernel
theorem dX9_canCome_49 : decode cX9_canCome 49 = .ok (.iconst 0, 1) := by decide +kernel
theorem dX9_canCome_50 : decode cX9_canCome 50 = .ok (.ireturn, 1) := by decide +kernel
theorem dX9_comes_0 : decode cX9_comes 0 = .ok (.aload_n 0, 1) := by decide +kernel
theorem dX9_comes_1 : decode cX9_comes 1 = .ok (.getfield 98, 3) := by decide +kernel
theorem dX9_comes_4 : decode cX9_comes 4 = .ok (.istore 4, 2) := by decide +kernel
theorem dX9_comes_6 : decode cX9_comes 6 = .ok (.iload 4, 2) := by decide +kernel
theorem dX9_comes_8 : decode cX9_comes 8 = .ok (.ifCond .le 99, 3) := by decide +kernel
theorem dX9_comes_11 : decode cX9_comes 11 = .ok (.aload_n 0, 1) := by decide +kernel
theorem dX9_comes_12 : decode cX9_comes 12 = .ok (.getfield 7, 3) := by decide +kernel
theorem dX9_comes_15 : decode cX9_comes 15 = .ok (.iload 4, 2) := by decide +kernel
theorem dX9_comes_17 : decode cX9_comes 17 = .ok (.iconst 1, 1) := by decide +kernel
theorem dX9_comes_18 : decode cX9_comes 18 = .ok (.isub, 1) := by decide +kernel
theorem dX9_comes_19 : decode cX9_comes 19 = .ok (.iaload, 1) := by decide +kernel
theorem dX9_comes_20 : decode cX9_comes 20 = .ok (.iload_n 1, 1) := by decide +kernel
theorem dX9_comes_21 : decode cX9_comes 21 = .ok (.if_icmp .gt 29, 3) := by decide +kernel
theorem dX9_comes_24 : decode cX9_comes 24 = .ok (.aload_n 0, 1) := by decide +kernel
theorem dX9_comes_25 : decode cX9_comes 25 = .ok (.getfield 7, 3) := by decide +kernel
theorem dX9_comes_28 : decode cX9_comes 28 = .ok (.iload 4, 2) := by decide +kernel
theorem dX9_comes_30 : decode cX9_comes 30 = .ok (.iconst 1, 1) := by decide +kernel
theorem dX9_comes_31 : decode cX9_comes 31 = .ok (.isub, 1) := by decide +kernel
theorem dX9_comes_32 : decode cX9_comes 32 = .ok (.iaload, 1) := by decide +kernel
theorem dX9_comes_33 : decode cX9_comes 33 = .ok (.iload_n 1, 1) := by decide +kernel
theorem dX9_comes_34 : decode cX9_comes 34 = .ok (.if_icmp .ne 73, 3) := by decide +kernel
theorem dX9_comes_37 : decode cX9_comes 37 = .ok (.aload_n 0, 1) := by decide +kernel
theorem dX9_comes_38 : decode cX9_comes 38 = .ok (.getfield 13, 3) := by decide +kernel
theorem dX9_comes_41 : decode cX9_comes 41 = .ok (.iload 4, 2) := by decide +kernel
theorem dX9_comes_43 : decode cX9_comes 43 = .ok (.iconst 1, 1) := by decide +kernel
theorem dX9_comes_44 : decode cX9_comes 44 = .ok (.isub, 1) := by decide +kernel
theorem dX9_comes_45 : decode cX9_comes 45 = .ok (.iaload, 1) := by decide +kernel
theorem dX9_comes_46 : decode cX9_comes 46 = .ok (.iload_n 2, 1) := by decide +kernel
theorem dX9_comes_47 : decode cX9_comes 47 = .ok (.if_icmp .le 60, 3) := by decide +kernel
theorem dX9_comes_50 : decode cX9_comes 50 = .ok (.aload_n 0, 1) := by decide +kernel
theorem dX9_comes_51 : decode cX9_comes 51 = .ok (.getfield 7, 3) := by decide +kernel
theorem dX9_comes_54 : decode cX9_comes 54 = .ok (.iload 4, 2) := by decide +kernel
theorem dX9_comes_56 : decode cX9_comes 56 = .ok (.aload_n 0, 1) := by decide +kernel
theorem dX9_comes_57 : decode cX9_comes 57 = .ok (.getfield 7, 3) := by decide +kernel
theorem dX9_comes_60 : decode cX9_comes 60 = .ok (.iload 4, 2) := by decide +kernel
theorem dX9_comes_62 : decode cX9_comes 62 = .ok (.iconst 1, 1) := by decide +kernel
theorem dX9_comes_63 : decode cX9_comes 63 = .ok (.isub, 1) := by decide +kernel
theorem dX9_comes_64 : decode cX9_comes 64 = .ok (.iaload, 1) := by decide +kernel
theorem dX9_comes_65 : decode cX9_comes 65 = .ok (.iastore, 1) := by decide +kernel
theorem dX9_comes_66 : decode cX9_comes 66 = .ok (.aload_n 0, 1) := by decide +kernel
theorem dX9_comes_67 : decode cX9_comes 67 = .ok (.getfield 13, 3) := by decide +kernel
theorem dX9_comes_70 : decode cX9_comes 70 = .ok (.iload 4, 2) := by decide +kernel
theorem dX9_comes_72 : decode cX9_comes 72 = .ok (.aload_n 0, 1) := by decide +kernel
theorem dX9_comes_73 : decode cX9_comes 73 = .ok (.getfield 13, 3) := by decide +kernel
theorem dX9_comes_76 : decode cX9_comes 76 = .ok (.iload 4, 2) := by decide +kernel
theorem dX9_comes_78 : decode cX9_comes 78 = .ok (.iconst 1, 1) := by decide +kernel
theorem dX9_comes_79 : decode cX9_comes 79 = .ok (.isub, 1) := by decide +kernel
theorem dX9_comes_80 : decode cX9_comes 80 = .ok (.iaload, 1) := by decide +kernel
theorem dX9_comes_81 : decode cX9_comes 81 = .ok (.iastore, 1) := by decide +kernel
theorem dX9_comes_82 : decode cX9_comes 82 = .ok (.aload_n 0, 1) := by decide +kernel
theorem dX9_comes_83 : decode cX9_comes 83 = .ok (.getfield 16, 3) := by decide +kernel
theorem dX9_comes_86 : decode cX9_comes 86 = .ok (.iload 4, 2) := by decide +kernel
theorem dX9_comes_88 : decode cX9_comes 88 = .ok (.aload_n 0, 1) := by decide +kernel
theorem dX9_comes_89 : decode cX9_comes 89 = .ok (.getfield 16, 3) := by decide +kernel
theorem dX9_comes_92 : decode cX9_comes 92 = .ok (.iload 4, 2) := by decide +kernel
theorem dX9_comes_94 : decode cX9_comes 94 = .ok (.iconst 1, 1) := by decide +kernel
theorem dX9_comes_95 : decode cX9_comes 95 = .ok (.isub, 1) := by decide +kernel
theorem dX9_comes_96 : decode cX9_comes 96 = .ok (.iaload, 1) := by decide +kernel
theorem dX9_comes_97 : decode cX9_comes 97 = .ok (.iastore, 1) := by decide +kernel
theorem dX9_comes_98 : decode cX9_comes 98 = .ok (.iload 4, 2) := by decide +kernel
theorem dX9_comes_100 : decode cX9_comes 100 = .ok (.iconst 1, 1) := by decide +kernel
theorem dX9_comes_101 : decode cX9_comes 101 = .ok (.isub, 1) := by decide +kernel
theorem dX9_comes_102 : decode cX9_comes 102 = .ok (.istore 4, 2) := by decide +kernel
theorem dX9_comes_104 : decode cX9_comes 104 = .ok (.goto (-98), 3) := by decide +kernel
theorem dX9_comes_107 : decode cX9_comes 107 = .ok (.aload_n 0, 1) := by decide +kernel
theorem dX9_comes_108 : decode cX9_comes 108 = .ok (.getfield 7, 3) := by decide +kernel
theorem dX9_comes_111 : decode cX9_comes 111 = .ok (.iload 4, 2) := by decide +kernel
theorem dX9_comes_113 : decode cX9_comes 113 = .ok (.iload_n 1, 1) := by decide +kernel
theorem dX9_comes_114 : decode cX9_comes 114 = .ok (.iastore, 1) := by decide +kernel
theorem dX9_comes_115 : decode cX9_comes 115 = .ok (.aload_n 0, 1) := by decide +kernel
theorem dX9_comes_116 : decode cX9_comes 116 = .ok (.getfield 13, 3) := by decide +kernel
theorem dX9_comes_119 : decode cX9_comes 119 = .ok (.iload 4, 2) := by decide +kernel
theorem dX9_comes_121 : decode cX9_comes 121 = .ok (.iload_n 2, 1) := by decide +kernel
theorem dX9_comes_122 : decode cX9_comes 122 = .ok (.iastore, 1) := by decide +kernel
theorem dX9_comes_123 : decode cX9_comes 123 = .ok (.aload_n 0, 1) := by decide +kernel
theorem dX9_comes_124 : decode cX9_comes 124 = .ok (.getfield 16, 3) := by decide +kernel
theorem dX9_comes_127 : decode cX9_comes 127 = .ok (.iload 4, 2) := by decide +kernel
theorem dX9_comes_129 : decode cX9_comes 129 = .ok (.iload_n 3, 1) := by decide +kernel
theorem dX9_comes_130 : decode cX9_comes 130 = .ok (.iastore, 1) := by decide +kernel
theorem dX9_comes_131 : decode cX9_comes 131 = .ok (.aload_n 0, 1) := by decide +kernel
theorem dX9_comes_132 : decode cX9_comes 132 = .ok (.aload_n 0, 1) := by decide +kernel
theorem dX9_comes_133 : decode cX9_comes 133 = .ok (.getfield 98, 3) := by decide +kernel
theorem dX9_comes_136 : decode cX9_comes 136 = .ok (.iconst 1, 1) := by decide +kernel
theorem dX9_comes_137 : decode cX9_comes 137 = .ok (.iadd, 1) := by decide +kernel
theorem dX9_comes_138 : decode cX9_comes 138 = .ok (.putfield 98, 3) := by decide +kernel
theorem dX9_comes_141 : decode cX9_comes 141 = .ok (.return_, 1) := by decide +kernel
theorem dX9_goes_0 : decode cX9_goes 0 = .ok (.aload_n 0, 1) := by decide +kernel
theorem dX9_goes_1 : decode cX9_goes 1 = .ok (.aload_n 0, 1) := by decide +kernel
theorem dX9_goes_2 : decode cX9_goes 2 = .ok (.getfield 98, 3) := by decide +kernel
theorem dX9_goes_5 : decode cX9_goes 5 = .ok (.iconst 1, 1) := by decide +kernel
theorem dX9_goes_6 : decode cX9_goes 6 = .ok (.isub, 1) := by decide +kernel
theorem dX9_goes_7 : decode cX9_goes 7 = .ok (.putfield 98, 3) := by decide +kernel
theorem dX9_goes_10 : decode cX9_goes 10 = .ok (.iload_n 1, 1) := by decide +kernel
theorem dX9_goes_11 : decode cX9_goes 11 = .ok (.istore_n 2, 1) := by decide +kernel
theorem dX9_goes_12 : decode cX9_goes 12 = .ok (.iload_n 2, 1) := by decide +kernel
theorem dX9_goes_13 : decode cX9_goes 13 = .ok (.aload_n 0, 1) := by decide +kernel
theorem dX9_goes_14 : decode cX9_goes 14 = .ok (.getfield 98, 3) := by decide +kernel
theorem dX9_goes_17 : decode cX9_goes 17 = .ok (.if_icmp .ge 51, 3) := by decide +kernel
theorem dX9_goes_20 : decode cX9_goes 20 = .ok (.aload_n 0, 1) := by decide +kernel
theorem dX9_goes_21 : decode cX9_goes 21 = .ok (.getfield 7, 3) := by decide +kernel
theorem dX9_goes_24 : decode cX9_goes 24 = .ok (.iload_n 2, 1) := by decide +kernel
theorem dX9_goes_25 : decode cX9_goes 25 = .ok (.aload_n 0, 1) := by decide +kernel
theorem dX9_goes_26 : decode cX9_goes 26 = .ok (.getfield 7, 3) := by decide +kernel
theorem dX9_goes_29 : decode cX9_goes 29 = .ok (.iload_n 2, 1) := by decide +kernel
theorem dX9_goes_30 : decode cX9_goes 30 = .ok (.iconst 1, 1) := by decide +kernel
theorem dX9_goes_31 : decode cX9_goes 31 = .ok (.iadd, 1) := by decide +kernel
theorem dX9_goes_32 : decode cX9_goes 32 = .ok (.iaload, 1) := by decide +kernel
theorem dX9_goes_33 : decode cX9_goes 33 = .ok (.iastore, 1) := by decide +kernel
theorem dX9_goes_34 : decode cX9_goes 34 = .ok (.aload_n 0, 1) := by decide +kernel
theorem dX9_goes_35 : decode cX9_goes 35 = .ok (.getfield 13, 3) := by decide +kernel
theorem dX9_goes_38 : decode cX9_goes 38 = .ok (.iload_n 2, 1) := by decide +kernel
theorem dX9_goes_39 : decode cX9_goes 39 = .ok (.aload_n 0, 1) := by decide +kernel
theorem dX9_goes_40 : decode cX9_goes 40 = .ok (.getfield 13, 3) := by decide +kernel
theorem dX9_goes_43 : decode cX9_goes 43 = .ok (.iload_n 2, 1) := by decide +kernel
theorem dX9_goes_44 : decode cX9_goes 44 = .ok (.iconst 1, 1) := by decide +kernel
theorem dX9_goes_45 : decode cX9_goes 45 = .ok (.iadd, 1) := by decide +kernel
theorem dX9_goes_46 : decode cX9_goes 46 = .ok (.iaload, 1) := by decide +kernel
theorem dX9_goes_47 : decode cX9_goes 47 = .ok (.iastore, 1) := by decide +kernel
theorem dX9_goes_48 : decode cX9_goes 48 = .ok (.aload_n 0, 1) := by decide +kernel
theorem dX9_goes_49 : decode cX9_goes 49 = .ok (.getfield 16, 3) := by decide +kernel
theorem dX9_goes_52 : decode cX9_goes 52 = .ok (.iload_n 2, 1) := by decide +kernel
theorem dX9_goes_53 : decode cX9_goes 53 = .ok (.aload_n 0, 1) := by decide +kernel
theorem dX9_goes_54 : decode cX9_goes 54 = .ok (.getfield 16, 3) := by decide +kernel
theorem dX9_goes_57 : decode cX9_goes 57 = .ok (.iload_n 2, 1) := by decide +kernel
theorem dX9_goes_58 : decode cX9_goes 58 = .ok (.iconst 1, 1) := by decide +kernel
theorem dX9_goes_59 : decode cX9_goes 59 = .ok (.iadd, 1) := by decide +kernel
theorem dX9_goes_60 : decode cX9_goes 60 = .ok (.iaload, 1) := by decide +kernel
theorem dX9_goes_61 : decode cX9_goes 61 = .ok (.iastore, 1) := by decide +kernel
theorem dX9_goes_62 : decode cX9_goes 62 = .ok (.iinc 2 1, 3) := by decide +kernel
theorem dX9_goes_65 : decode cX9_goes 65 = .ok (.goto (-53), 3) := by decide +kernel
theorem dX9_goes_68 : decode cX9_goes 68 = .ok (.return_, 1) := by decide +kernel
theorem dX9_add_0 : decode cX9_add 0 = .ok (.aload_n 0, 1) := by decide +kernel
theorem dX9_add_1 : decode cX9_add 1 = .ok (.iconst 0, 1) := by decide +kernel
theorem dX9_add_2 : decode cX9_add 2 = .ok (.putfield 95, 3) := by decide +kernel
theorem dX9_add_5 : decode cX9_add 5 = .ok (.aload_n 0, 1) := by decide +kernel
theorem dX9_add_6 : decode cX9_add 6 = .ok (.iload_n 1, 1) := by decide +kernel
theorem dX9_add_7 : decode cX9_add 7 = .ok (.iload_n 2, 1) := by decide +kernel
theorem dX9_add_8 : decode cX9_add 8 = .ok (.invokevirtual 164, 3) := by decide +kernel
theorem dX9_add_11 : decode cX9_add 11 = .ok (.ifCond .eq 16, 3) := by decide +kernel
theorem dX9_add_14 : decode cX9_add 14 = .ok (.aload_n 0, 1) := by decide +kernel
theorem dX9_add_15 : decode cX9_add 15 = .ok (.iload_n 3, 1) := by decide +kernel
theorem dX9_add_16 : decode cX9_add 16 = .ok (.i2l, 1) := by decide +kernel
theorem dX9_add_17 : decode cX9_add 17 = .ok (.lconst 1, 1) := by decide +kernel
theorem dX9_add_18 : decode cX9_add 18 = .ok (.ldc2_w 167, 3) := by decide +kernel
theorem dX9_add_21 : decode cX9_add 21 = .ok (.invokevirtual 101, 3) := by decide +kernel
theorem dX9_add_24 : decode cX9_add 24 = .ok (.ifCond .ne 5, 3) := by decide +kernel
theorem dX9_add_27 : decode cX9_add 27 = .ok (.iconst (-1), 1) := by decide +kernel
theorem dX9_add_28 : decode cX9_add 28 = .ok (.ireturn, 1) := by decide +kernel
theorem dX9_add_29 : decode cX9_add 29 = .ok (.aload_n 0, 1) := by decide +kernel
theorem dX9_add_30 : decode cX9_add 30 = .ok (.invokevirtual 169, 3) := by decide +kernel
theorem dX9_add_33 : decode cX9_add 33 = .ok (.aload_n 0, 1) := by decide +kernel
theorem dX9_add_34 : decode cX9_add 34 = .ok (.iload_n 1, 1) := by decide +kernel
theorem dX9_add_35 : decode cX9_add 35 = .ok (.iload_n 2, 1) := by decide +kernel
theorem dX9_add_36 : decode cX9_add 36 = .ok (.iload_n 3, 1) := by decide +kernel
theorem dX9_add_37 : decode cX9_add 37 = .ok (.invokevirtual 172, 3) := by decide +kernel
theorem dX9_add_40 : decode cX9_add 40 = .ok (.aload_n 0, 1) := by decide +kernel
theorem dX9_add_41 : decode cX9_add 41 = .ok (.invokevirtual 176, 3) := by decide +kernel
theorem dX9_add_44 : decode cX9_add 44 = .ok (.aload_n 0, 1) := by decide +kernel
theorem dX9_add_45 : decode cX9_add 45 = .ok (.invokevirtual 179, 3) := by decide +kernel
theorem dX9_add_48 : decode cX9_add 48 = .ok (.ireturn, 1) := by decide +kernel
theorem dX9_take_0 : decode cX9_take 0 = .ok (.aload_n 0, 1) := by decide +kernel
theorem dX9_take_1 : decode cX9_take 1 = .ok (.iconst 0, 1) := by decide +kernel
theorem dX9_take_2 : decode cX9_take 2 = .ok (.putfield 95, 3) := by decide +kernel
theorem dX9_take_5 : decode cX9_take 5 = .ok (.aload_n 0, 1) := by decide +kernel
theorem dX9_take_6 : decode cX9_take 6 = .ok (.iload_n 1, 1) := by decide +kernel
theorem dX9_take_7 : decode cX9_take 7 = .ok (.invokevirtual 182, 3) := by decide +kernel
theorem dX9_take_10 : decode cX9_take 10 = .ok (.ifCond .ne 5, 3) := by decide +kernel
theorem dX9_take_13 : decode cX9_take 13 = .ok (.iconst (-1), 1) := by decide +kernel
theorem dX9_take_14 : decode cX9_take 14 = .ok (.ireturn, 1) := by decide +kernel
theorem dX9_take_15 : decode cX9_take 15 = .ok (.aload_n 0, 1) := by decide +kernel
theorem dX9_take_16 : decode cX9_take 16 = .ok (.invokevirtual 169, 3) := by decide +kernel
theorem dX9_take_19 : decode cX9_take 19 = .ok (.aload_n 0, 1) := by decide +kernel
theorem dX9_take_20 : decode cX9_take 20 = .ok (.iload_n 1, 1) := by decide +kernel
theorem dX9_take_21 : decode cX9_take 21 = .ok (.invokevirtual 185, 3) := by decide +kernel
theorem dX9_take_24 : decode cX9_take 24 = .ok (.aload_n 0, 1) := by decide +kernel
theorem dX9_take_25 : decode cX9_take 25 = .ok (.invokevirtual 176, 3) := by decide +kernel
theorem dX9_take_28 : decode cX9_take 28 = .ok (.aload_n 0, 1) := by decide +kernel
theorem dX9_take_29 : decode cX9_take 29 = .ok (.invokevirtual 179, 3) := by decide +kernel
theorem dX9_take_32 : decode cX9_take 32 = .ok (.ireturn, 1) := by decide +kernel
theorem dX9_weigh_0 : decode cX9_weigh 0 = .ok (.aload_n 0, 1) := by decide +kernel
theorem dX9_weigh_1 : decode cX9_weigh 1 = .ok (.iconst 0, 1) := by decide +kernel
theorem dX9_weigh_2 : decode cX9_weigh 2 = .ok (.putfield 95, 3) := by decide +kernel
theorem dX9_weigh_5 : decode cX9_weigh 5 = .ok (.aload_n 0, 1) := by decide +kernel
theorem dX9_weigh_6 : decode cX9_weigh 6 = .ok (.iload_n 1, 1) := by decide +kernel
theorem dX9_weigh_7 : decode cX9_weigh 7 = .ok (.invokevirtual 182, 3) := by decide +kernel
theorem dX9_weigh_10 : decode cX9_weigh 10 = .ok (.ifCond .eq 16, 3) := by decide +kernel
theorem dX9_weigh_13 : decode cX9_weigh 13 = .ok (.aload_n 0, 1) := by decide +kernel
theorem dX9_weigh_14 : decode cX9_weigh 14 = .ok (.iload_n 2, 1) := by decide +kernel
theorem dX9_weigh_15 : decode cX9_weigh 15 = .ok (.i2l, 1) := by decide +kernel
theorem dX9_weigh_16 : decode cX9_weigh 16 = .ok (.lconst 1, 1) := by decide +kernel
theorem dX9_weigh_17 : decode cX9_weigh 17 = .ok (.ldc2_w 167, 3) := by decide +kernel
theorem dX9_weigh_20 : decode cX9_weigh 20 = .ok (.invokevirtual 101, 3) := by decide +kernel
theorem dX9_weigh_23 : decode cX9_weigh 23 = .ok (.ifCond .ne 5, 3) := by decide +kernel
theorem dX9_weigh_26 : decode cX9_weigh 26 = .ok (.iconst (-1), 1) := by decide +kernel
theorem dX9_weigh_27 : decode cX9_weigh 27 = .ok (.ireturn, 1) := by decide +kernel
theorem dX9_weigh_28 : decode cX9_weigh 28 = .ok (.aload_n 0, 1) := by decide +kernel
theorem dX9_weigh_29 : decode cX9_weigh 29 = .ok (.getfield 16, 3) := by decide +kernel
theorem dX9_weigh_32 : decode cX9_weigh 32 = .ok (.iload_n 1, 1) := by decide +kernel
theorem dX9_weigh_33 : decode cX9_weigh 33 = .ok (.iaload, 1) := by decide +kernel
theorem dX9_weigh_34 : decode cX9_weigh 34 = .ok (.istore_n 3, 1) := by decide +kernel
theorem dX9_weigh_35 : decode cX9_weigh 35 = .ok (.aload_n 0, 1) := by decide +kernel
theorem dX9_weigh_36 : decode cX9_weigh 36 = .ok (.getfield 16, 3) := by decide +kernel
theorem dX9_weigh_39 : decode cX9_weigh 39 = .ok (.iload_n 1, 1) := by decide +kernel
theorem dX9_weigh_40 : decode cX9_weigh 40 = .ok (.iload_n 2, 1) := by decide +kernel
theorem dX9_weigh_41 : decode cX9_weigh 41 = .ok (.iastore, 1) := by decide +kernel
theorem dX9_weigh_42 : decode cX9_weigh 42 = .ok (.iload_n 3, 1) := by decide +kernel
theorem dX9_weigh_43 : decode cX9_weigh 43 = .ok (.ireturn, 1) := by decide +kernel
theorem dX9_draw_0 : decode cX9_draw 0 = .ok (.aload_n 0, 1) := by decide +kernel
theorem dX9_draw_1 : decode cX9_draw 1 = .ok (.ldc 189, 2) := by decide +kernel
theorem dX9_draw_3 : decode cX9_draw 3 = .ok (.aload_n 0, 1) := by decide +kernel
theorem dX9_draw_4 : decode cX9_draw 4 = .ok (.getfield 190, 3) := by decide +kernel
theorem dX9_draw_7 : decode cX9_draw 7 = .ok (.imul, 1) := by decide +kernel
theorem dX9_draw_8 : decode cX9_draw 8 = .ok (.ldc 193, 2) := by decide +kernel
theorem dX9_draw_10 : decode cX9_draw 10 = .ok (.iadd, 1) := by decide +kernel
theorem dX9_draw_11 : decode cX9_draw 11 = .ok (.putfield 190, 3) := by decide +kernel
theorem dX9_draw_14 : decode cX9_draw 14 = .ok (.aload_n 0, 1) := by decide +kernel
theorem dX9_draw_15 : decode cX9_draw 15 = .ok (.getfield 190, 3) := by decide +kernel
theorem dX9_draw_18 : decode cX9_draw 18 = .ok (.bipush 8, 2) := by decide +kernel
theorem dX9_draw_20 : decode cX9_draw 20 = .ok (.iushr, 1) := by decide +kernel
theorem dX9_draw_21 : decode cX9_draw 21 = .ok (.iload_n 1, 1) := by decide +kernel
theorem dX9_draw_22 : decode cX9_draw 22 = .ok (.irem, 1) := by decide +kernel
theorem dX9_draw_23 : decode cX9_draw 23 = .ok (.ireturn, 1) := by decide +kernel
theorem dX9_scatter_0 : decode cX9_scatter 0 = .ok (.aload_n 0, 1) := by decide +kernel
theorem dX9_scatter_1 : decode cX9_scatter 1 = .ok (.iconst 0, 1) := by decide +kernel
theorem dX9_scatter_2 : decode cX9_scatter 2 = .ok (.putfield 95, 3) := by decide +kernel
theorem dX9_scatter_5 : decode cX9_scatter 5 = .ok (.aload_n 0, 1) := by decide +kernel
theorem dX9_scatter_6 : decode cX9_scatter 6 = .ok (.iload_n 1, 1) := by decide +kernel
theorem dX9_scatter_7 : decode cX9_scatter 7 = .ok (.i2l, 1) := by decide +kernel
theorem dX9_scatter_8 : decode cX9_scatter 8 = .ok (.lconst 1, 1) := by decide +kernel
theorem dX9_scatter_9 : decode cX9_scatter 9 = .ok (.ldc2_w 194, 3) := by decide +kernel
theorem dX9_scatter_12 : decode cX9_scatter 12 = .ok (.invokevirtual 101, 3) := by decide +kernel
theorem dX9_scatter_15 : decode cX9_scatter 15 = .ok (.ifCond .ne 5, 3) := by decide +kernel
theorem dX9_scatter_18 : decode cX9_scatter 18 = .ok (.iconst (-1), 1) := by decide +kernel
theorem dX9_scatter_19 : decode cX9_scatter 19 = .ok (.ireturn, 1) := by decide +kernel
theorem dX9_scatter_20 : decode cX9_scatter 20 = .ok (.aload_n 0, 1) := by decide +kernel
theorem dX9_scatter_21 : decode cX9_scatter 21 = .ok (.invokevirtual 169, 3) := by decide +kernel
theorem dX9_scatter_24 : decode cX9_scatter 24 = .ok (.iconst 0, 1) := by decide +kernel
theorem dX9_scatter_25 : decode cX9_scatter 25 = .ok (.istore_n 2, 1) := by decide +kernel
theorem dX9_scatter_26 : decode cX9_scatter 26 = .ok (.iconst 0, 1) := by decide +kernel
theorem dX9_scatter_27 : decode cX9_scatter 27 = .ok (.istore_n 3, 1) := by decide +kernel
theorem dX9_scatter_28 : decode cX9_scatter 28 = .ok (.iload_n 3, 1) := by decide +kernel
theorem dX9_scatter_29 : decode cX9_scatter 29 = .ok (.iload_n 1, 1) := by decide +kernel
theorem dX9_scatter_30 : decode cX9_scatter 30 = .ok (.if_icmp .ge 65, 3) := by decide +kernel
theorem dX9_scatter_33 : decode cX9_scatter 33 = .ok (.aload_n 0, 1) := by decide +kernel
theorem dX9_scatter_34 : decode cX9_scatter 34 = .ok (.sipush 1024, 3) := by decide +kernel
theorem dX9_scatter_37 : decode cX9_scatter 37 = .ok (.invokevirtual 196, 3) := by decide +kernel
theorem dX9_scatter_40 : decode cX9_scatter 40 = .ok (.istore 4, 2) := by decide +kernel
theorem dX9_scatter_42 : decode cX9_scatter 42 = .ok (.aload_n 0, 1) := by decide +kernel
theorem dX9_scatter_43 : decode cX9_scatter 43 = .ok (.sipush 1024, 3) := by decide +kernel
theorem dX9_scatter_46 : decode cX9_scatter 46 = .ok (.invokevirtual 196, 3) := by decide +kernel
theorem dX9_scatter_49 : decode cX9_scatter 49 = .ok (.istore 5, 2) := by decide +kernel
theorem dX9_scatter_51 : decode cX9_scatter 51 = .ok (.aload_n 0, 1) := by decide +kernel
theorem dX9_scatter_52 : decode cX9_scatter 52 = .ok (.bipush 99, 2) := by decide +kernel
theorem dX9_scatter_54 : decode cX9_scatter 54 = .ok (.invokevirtual 196, 3) := by decide +kernel
theorem dX9_scatter_57 : decode cX9_scatter 57 = .ok (.iconst 1, 1) := by decide +kernel
theorem dX9_scatter_58 : decode cX9_scatter 58 = .ok (.iadd, 1) := by decide +kernel
theorem dX9_scatter_59 : decode cX9_scatter 59 = .ok (.istore 6, 2) := by decide +kernel
theorem dX9_scatter_61 : decode cX9_scatter 61 = .ok (.aload_n 0, 1) := by decide +kernel
theorem dX9_scatter_62 : decode cX9_scatter 62 = .ok (.iload 4, 2) := by decide +kernel
theorem dX9_scatter_64 : decode cX9_scatter 64 = .ok (.iload 5, 2) := by decide +kernel
theorem dX9_scatter_66 : decode cX9_scatter 66 = .ok (.invokevirtual 164, 3) := by decide +kernel
theorem dX9_scatter_69 : decode cX9_scatter 69 = .ok (.ifCond .ne 6, 3) := by decide +kernel
theorem dX9_scatter_72 : decode cX9_scatter 72 = .ok (.goto 17, 3) := by decide +kernel
theorem dX9_scatter_75 : decode cX9_scatter 75 = .ok (.aload_n 0, 1) := by decide +kernel
theorem dX9_scatter_76 : decode cX9_scatter 76 = .ok (.iload 4, 2) := by decide +kernel
theorem dX9_scatter_78 : decode cX9_scatter 78 = .ok (.iload 5, 2) := by decide +kernel
theorem dX9_scatter_80 : decode cX9_scatter 80 = .ok (.iload 6, 2) := by decide +kernel
theorem dX9_scatter_82 : decode cX9_scatter 82 = .ok (.invokevirtual 172, 3) := by decide +kernel
theorem dX9_scatter_85 : decode cX9_scatter 85 = .ok (.iload_n 2, 1) := by decide +kernel
theorem dX9_scatter_86 : decode cX9_scatter 86 = .ok (.iconst 1, 1) := by decide +kernel
theorem dX9_scatter_87 : decode cX9_scatter 87 = .ok (.iadd, 1) := by decide +kernel
theorem dX9_scatter_88 : decode cX9_scatter 88 = .ok (.istore_n 2, 1) := by decide +kernel
theorem dX9_scatter_89 : decode cX9_scatter 89 = .ok (.iinc 3 1, 3) := by decide +kernel
theorem dX9_scatter_92 : decode cX9_scatter 92 = .ok (.goto (-64), 3) := by decide +kernel
theorem dX9_scatter_95 : decode cX9_scatter 95 = .ok (.aload_n 0, 1) := by decide +kernel
theorem dX9_scatter_96 : decode cX9_scatter 96 = .ok (.invokevirtual 176, 3) := by decide +kernel
theorem dX9_scatter_99 : decode cX9_scatter 99 = .ok (.iload_n 2, 1) := by decide +kernel
theorem dX9_scatter_100 : decode cX9_scatter 100 = .ok (.ireturn, 1) := by decide +kernel
theorem dX9_state_0 : decode cX9_state 0 = .ok (.aload_n 0, 1) := by decide +kernel
theorem dX9_state_1 : decode cX9_state 1 = .ok (.iconst 0, 1) := by decide +kernel
theorem dX9_state_2 : decode cX9_state 2 = .ok (.putfield 95, 3) := by decide +kernel
theorem dX9_state_5 : decode cX9_state 5 = .ok (.aload_n 0, 1) := by decide +kernel
theorem dX9_state_6 : decode cX9_state 6 = .ok (.getfield 190, 3) := by decide +kernel
theorem dX9_state_9 : decode cX9_state 9 = .ok (.istore_n 2, 1) := by decide +kernel
theorem dX9_state_10 : decode cX9_state 10 = .ok (.aload_n 0, 1) := by decide +kernel
theorem dX9_state_11 : decode cX9_state 11 = .ok (.iload_n 1, 1) := by decide +kernel
theorem dX9_state_12 : decode cX9_state 12 = .ok (.putfield 190, 3) := by decide +kernel
theorem dX9_state_15 : decode cX9_state 15 = .ok (.iload_n 2, 1) := by decide +kernel
theorem dX9_state_16 : decode cX9_state 16 = .ok (.ireturn, 1) := by decide +kernel
theorem dX9_clear_0 : decode cX9_clear 0 = .ok (.aload_n 0, 1) := by decide +kernel
theorem dX9_clear_1 : decode cX9_clear 1 = .ok (.iconst 0, 1) := by decide +kernel
theorem dX9_clear_2 : decode cX9_clear 2 = .ok (.putfield 95, 3) := by decide +kernel
theorem dX9_clear_5 : decode cX9_clear 5 = .ok (.aload_n 0, 1) := by decide +kernel
theorem dX9_clear_6 : decode cX9_clear 6 = .ok (.invokevirtual 169, 3) := by decide +kernel
theorem dX9_clear_9 : decode cX9_clear 9 = .ok (.aload_n 0, 1) := by decide +kernel
theorem dX9_clear_10 : decode cX9_clear 10 = .ok (.getfield 98, 3) := by decide +kernel
theorem dX9_clear_13 : decode cX9_clear 13 = .ok (.istore_n 1, 1) := by decide +kernel
theorem dX9_clear_14 : decode cX9_clear 14 = .ok (.aload_n 0, 1) := by decide +kernel
theorem dX9_clear_15 : decode cX9_clear 15 = .ok (.iconst 0, 1) := by decide +kernel
theorem dX9_clear_16 : decode cX9_clear 16 = .ok (.putfield 98, 3) := by decide +kernel
theorem dX9_clear_19 : decode cX9_clear 19 = .ok (.iload_n 1, 1) := by decide +kernel
theorem dX9_clear_20 : decode cX9_clear 20 = .ok (.ireturn, 1) := by decide +kernel
theorem dX9_size_0 : decode cX9_size 0 = .ok (.aload_n 0, 1) := by decide +kernel
theorem dX9_size_1 : decode cX9_size 1 = .ok (.iconst 0, 1) := by decide +kernel
theorem dX9_size_2 : decode cX9_size 2 = .ok (.putfield 95, 3) := by decide +kernel
theorem dX9_size_5 : decode cX9_size 5 = .ok (.aload_n 0, 1) := by decide +kernel
theorem dX9_size_6 : decode cX9_size 6 = .ok (.iload_n 1, 1) := by decide +kernel
theorem dX9_size_7 : decode cX9_size 7 = .ok (.i2l, 1) := by decide +kernel
theorem dX9_size_8 : decode cX9_size 8 = .ok (.lconst 0, 1) := by decide +kernel
theorem dX9_size_9 : decode cX9_size 9 = .ok (.ldc2_w 199, 3) := by decide +kernel
theorem dX9_size_12 : decode cX9_size 12 = .ok (.invokevirtual 101, 3) := by decide +kernel
theorem dX9_size_15 : decode cX9_size 15 = .ok (.ifCond .ne 5, 3) := by decide +kernel
theorem dX9_size_18 : decode cX9_size 18 = .ok (.iconst (-1), 1) := by decide +kernel
theorem dX9_size_19 : decode cX9_size 19 = .ok (.ireturn, 1) := by decide +kernel
theorem dX9_size_20 : decode cX9_size 20 = .ok (.aload_n 0, 1) := by decide +kernel
theorem dX9_size_21 : decode cX9_size 21 = .ok (.getfield 19, 3) := by decide +kernel
theorem dX9_size_24 : decode cX9_size 24 = .ok (.istore_n 2, 1) := by decide +kernel
theorem dX9_size_25 : decode cX9_size 25 = .ok (.aload_n 0, 1) := by decide +kernel
theorem dX9_size_26 : decode cX9_size 26 = .ok (.iload_n 1, 1) := by decide +kernel
theorem dX9_size_27 : decode cX9_size 27 = .ok (.putfield 19, 3) := by decide +kernel
theorem dX9_size_30 : decode cX9_size 30 = .ok (.iload_n 2, 1) := by decide +kernel
theorem dX9_size_31 : decode cX9_size 31 = .ok (.ireturn, 1) := by decide +kernel
theorem dX9_nearestOf_0 : decode cX9_nearestOf 0 = .ok (.iconst (-1), 1) := by decide +kernel
theorem dX9_nearestOf_1 : decode cX9_nearestOf 1 = .ok (.istore_n 2, 1) := by decide +kernel
theorem dX9_nearestOf_2 : decode cX9_nearestOf 2 = .ok (.iconst 0, 1) := by decide +kernel
theorem dX9_nearestOf_3 : decode cX9_nearestOf 3 = .ok (.istore_n 3, 1) := by decide +kernel
theorem dX9_nearestOf_4 : decode cX9_nearestOf 4 = .ok (.iload_n 3, 1) := by decide +kernel
theorem dX9_nearestOf_5 : decode cX9_nearestOf 5 = .ok (.aload_n 0, 1) := by decide +kernel
theorem dX9_nearestOf_6 : decode cX9_nearestOf 6 = .ok (.getfield 98, 3) := by decide +kernel
theorem dX9_nearestOf_9 : decode cX9_nearestOf 9 = .ok (.if_icmp .ge 32, 3) := by decide +kernel
theorem dX9_nearestOf_12 : decode cX9_nearestOf 12 = .ok (.iload_n 3, 1) := by decide +kernel
theorem dX9_nearestOf_13 : decode cX9_nearestOf 13 = .ok (.iload_n 1, 1) := by decide +kernel
theorem dX9_nearestOf_14 : decode cX9_nearestOf 14 = .ok (.if_icmp .eq 21, 3) := by decide +kernel
theorem dX9_nearestOf_17 : decode cX9_nearestOf 17 = .ok (.iload_n 2, 1) := by decide +kernel
theorem dX9_nearestOf_18 : decode cX9_nearestOf 18 = .ok (.iconst (-1), 1) := by decide +kernel
theorem dX9_nearestOf_19 : decode cX9_nearestOf 19 = .ok (.if_icmp .eq 14, 3) := by decide +kernel
theorem dX9_nearestOf_22 : decode cX9_nearestOf 22 = .ok (.aload_n 0, 1) := by decide +kernel
theorem dX9_nearestOf_23 : decode cX9_nearestOf 23 = .ok (.iload_n 1, 1) := by decide +kernel
theorem dX9_nearestOf_24 : decode cX9_nearestOf 24 = .ok (.iload_n 3, 1) := by decide +kernel
theorem dX9_nearestOf_25 : decode cX9_nearestOf 25 = .ok (.iload_n 1, 1) := by decide +kernel
theorem dX9_nearestOf_26 : decode cX9_nearestOf 26 = .ok (.iload_n 2, 1) := by decide +kernel
theorem dX9_nearestOf_27 : decode cX9_nearestOf 27 = .ok (.invokevirtual 127, 3) := by decide +kernel
theorem dX9_nearestOf_30 : decode cX9_nearestOf 30 = .ok (.ifCond .eq 5, 3) := by decide +kernel
theorem dX9_nearestOf_33 : decode cX9_nearestOf 33 = .ok (.iload_n 3, 1) := by decide +kernel
theorem dX9_nearestOf_34 : decode cX9_nearestOf 34 = .ok (.istore_n 2, 1) := by decide +kernel
theorem dX9_nearestOf_35 : decode cX9_nearestOf 35 = .ok (.iinc 3 1, 3) := by decide +kernel
theorem dX9_nearestOf_38 : decode cX9_nearestOf 38 = .ok (.goto (-34), 3) := by decide +kernel
theorem dX9_nearestOf_41 : decode cX9_nearestOf 41 = .ok (.iload_n 2, 1) := by decide +kernel
theorem dX9_nearestOf_42 : decode cX9_nearestOf 42 = .ok (.ireturn, 1) := by decide +kernel
theorem dX9_linksOf_0 : decode cX9_linksOf 0 = .ok (.iconst 0, 1) := by decide +kernel
theorem dX9_linksOf_1 : decode cX9_linksOf 1 = .ok (.istore_n 2, 1) := by decide +kernel
theorem dX9_linksOf_2 : decode cX9_linksOf 2 = .ok (.iconst 0, 1) := by decide +kernel
theorem dX9_linksOf_3 : decode cX9_linksOf 3 = .ok (.istore_n 3, 1) := by decide +kernel
theorem dX9_linksOf_4 : decode cX9_linksOf 4 = .ok (.iload_n 3, 1) := by decide +kernel
theorem dX9_linksOf_5 : decode cX9_linksOf 5 = .ok (.aload_n 0, 1) := by decide +kernel
theorem dX9_linksOf_6 : decode cX9_linksOf 6 = .ok (.invokevirtual 119, 3) := by decide +kernel
theorem dX9_linksOf_9 : decode cX9_linksOf 9 = .ok (.if_icmp .ge 33, 3) := by decide +kernel
theorem dX9_linksOf_12 : decode cX9_linksOf 12 = .ok (.aload_n 0, 1) := by decide +kernel
theorem dX9_linksOf_13 : decode cX9_linksOf 13 = .ok (.getfield 23, 3) := by decide +kernel
theorem dX9_linksOf_16 : decode cX9_linksOf 16 = .ok (.iload_n 3, 1) := by decide +kernel
theorem dX9_linksOf_17 : decode cX9_linksOf 17 = .ok (.iaload, 1) := by decide +kernel
theorem dX9_linksOf_18 : decode cX9_linksOf 18 = .ok (.iload_n 1, 1) := by decide +kernel
theorem dX9_linksOf_19 : decode cX9_linksOf 19 = .ok (.if_icmp .eq 13, 3) := by decide +kernel
theorem dX9_linksOf_22 : decode cX9_linksOf 22 = .ok (.aload_n 0, 1) := by decide +kernel
theorem dX9_linksOf_23 : decode cX9_linksOf 23 = .ok (.getfield 26, 3) := by decide +kernel
theorem dX9_linksOf_26 : decode cX9_linksOf 26 = .ok (.iload_n 3, 1) := by decide +kernel
theorem dX9_linksOf_27 : decode cX9_linksOf 27 = .ok (.iaload, 1) := by decide +kernel
theorem dX9_linksOf_28 : decode cX9_linksOf 28 = .ok (.iload_n 1, 1) := by decide +kernel
theorem dX9_linksOf_29 : decode cX9_linksOf 29 = .ok (.if_icmp .ne 7, 3) := by decide +kernel
theorem dX9_linksOf_32 : decode cX9_linksOf 32 = .ok (.iload_n 2, 1) := by decide +kernel
theorem dX9_linksOf_33 : decode cX9_linksOf 33 = .ok (.iconst 1, 1) := by decide +kernel
theorem dX9_linksOf_34 : decode cX9_linksOf 34 = .ok (.iadd, 1) := by decide +kernel
theorem dX9_linksOf_35 : decode cX9_linksOf 35 = .ok (.istore_n 2, 1) := by decide +kernel
theorem dX9_linksOf_36 : decode cX9_linksOf 36 = .ok (.iinc 3 1, 3) := by decide +kernel
theorem dX9_linksOf_39 : decode cX9_linksOf 39 = .ok (.goto (-35), 3) := by decide +kernel
theorem dX9_linksOf_42 : decode cX9_linksOf 42 = .ok (.iload_n 2, 1) := by decide +kernel
theorem dX9_linksOf_43 : decode cX9_linksOf 43 = .ok (.ireturn, 1) := by decide +kernel
theorem dX9_point_0 : decode cX9_point 0 = .ok (.aload_n 0, 1) := by decide +kernel
theorem dX9_point_1 : decode cX9_point 1 = .ok (.iconst 0, 1) := by decide +kernel
theorem dX9_point_2 : decode cX9_point 2 = .ok (.putfield 95, 3) := by decide +kernel
theorem dX9_point_5 : decode cX9_point 5 = .ok (.aload_n 0, 1) := by decide +kernel
theorem dX9_point_6 : decode cX9_point 6 = .ok (.iload_n 1, 1) := by decide +kernel
theorem dX9_point_7 : decode cX9_point 7 = .ok (.invokevirtual 182, 3) := by decide +kernel
theorem dX9_point_10 : decode cX9_point 10 = .ok (.ifCond .ne 5, 3) := by decide +kernel
theorem dX9_point_13 : decode cX9_point 13 = .ok (.iconst (-1), 1) := by decide +kernel
theorem dX9_point_14 : decode cX9_point 14 = .ok (.ireturn, 1) := by decide +kernel
theorem dX9_point_15 : decode cX9_point 15 = .ok (.iload_n 2, 1) := by decide +kernel
theorem dX9_point_16 : decode cX9_point 16 = .ok (.ifCond .ne 10, 3) := by decide +kernel
theorem dX9_point_19 : decode cX9_point 19 = .ok (.aload_n 0, 1) := by decide +kernel
theorem dX9_point_20 : decode cX9_point 20 = .ok (.getfield 7, 3) := by decide +kernel
theorem dX9_point_23 : decode cX9_point 23 = .ok (.iload_n 1, 1) := by decide +kernel
theorem dX9_point_24 : decode cX9_point 24 = .ok (.iaload, 1) := by decide +kernel
theorem dX9_point_25 : decode cX9_point 25 = .ok (.ireturn, 1) := by decide +kernel
theorem dX9_point_26 : decode cX9_point 26 = .ok (.iload_n 2, 1) := by decide +kernel
theorem dX9_point_27 : decode cX9_point 27 = .ok (.iconst 1, 1) := by decide +kernel
theorem dX9_point_28 : decode cX9_point 28 = .ok (.if_icmp .ne 10, 3) := by decide +kernel
theorem dX9_point_31 : decode cX9_point 31 = .ok (.aload_n 0, 1) := by decide +kernel
theorem dX9_point_32 : decode cX9_point 32 = .ok (.getfield 13, 3) := by decide +kernel
theorem dX9_point_35 : decode cX9_point 35 = .ok (.iload_n 1, 1) := by decide +kernel
theorem dX9_point_36 : decode cX9_point 36 = .ok (.iaload, 1) := by decide +kernel
theorem dX9_point_37 : decode cX9_point 37 = .ok (.ireturn, 1) := by decide +kernel
theorem dX9_point_38 : decode cX9_point 38 = .ok (.iload_n 2, 1) := by decide +kernel
theorem dX9_point_39 : decode cX9_point 39 = .ok (.iconst 2, 1) := by decide +kernel
theorem dX9_point_40 : decode cX9_point 40 = .ok (.if_icmp .ne 10, 3) := by decide +kernel
theorem dX9_point_43 : decode cX9_point 43 = .ok (.aload_n 0, 1) := by decide +kernel
theorem dX9_point_44 : decode cX9_point 44 = .ok (.getfield 16, 3) := by decide +kernel
theorem dX9_point_47 : decode cX9_point 47 = .ok (.iload_n 1, 1) := by decide +kernel
theorem dX9_point_48 : decode cX9_point 48 = .ok (.iaload, 1) := by decide +kernel
theorem dX9_point_49 : decode cX9_point 49 = .ok (.ireturn, 1) := by decide +kernel
theorem dX9_point_50 : decode cX9_point 50 = .ok (.iload_n 2, 1) := by decide +kernel
theorem dX9_point_51 : decode cX9_point 51 = .ok (.iconst 5, 1) := by decide +kernel
theorem dX9_point_52 : decode cX9_point 52 = .ok (.if_icmp .ne 9, 3) := by decide +kernel
theorem dX9_point_55 : decode cX9_point 55 = .ok (.aload_n 0, 1) := by decide +kernel
theorem dX9_point_56 : decode cX9_point 56 = .ok (.iload_n 1, 1) := by decide +kernel
theorem dX9_point_57 : decode cX9_point 57 = .ok (.invokevirtual 201, 3) := by decide +kernel
theorem dX9_point_60 : decode cX9_point 60 = .ok (.ireturn, 1) := by decide +kernel
theorem dX9_point_61 : decode cX9_point 61 = .ok (.iload_n 2, 1) := by decide +kernel
theorem dX9_point_62 : decode cX9_point 62 = .ok (.iconst 3, 1) := by decide +kernel
theorem dX9_point_63 : decode cX9_point 63 = .ok (.if_icmp .eq 10, 3) := by decide +kernel
theorem dX9_point_66 : decode cX9_point 66 = .ok (.iload_n 2, 1) := by decide +kernel
theorem dX9_point_67 : decode cX9_point 67 = .ok (.iconst 4, 1) := by decide +kernel
theorem dX9_point_68 : decode cX9_point 68 = .ok (.if_icmp .eq 5, 3) := by decide +kernel
theorem dX9_point_71 : decode cX9_point 71 = .ok (.iconst (-1), 1) := by decide +kernel
theorem dX9_point_72 : decode cX9_point 72 = .ok (.ireturn, 1) := by decide +kernel
theorem dX9_point_73 : decode cX9_point 73 = .ok (.aload_n 0, 1) := by decide +kernel
theorem dX9_point_74 : decode cX9_point 74 = .ok (.iload_n 1, 1) := by decide +kernel
theorem dX9_point_75 : decode cX9_point 75 = .ok (.invokevirtual 204, 3) := by decide +kernel
theorem dX9_point_78 : decode cX9_point 78 = .ok (.istore_n 3, 1) := by decide +kernel
theorem dX9_point_79 : decode cX9_point 79 = .ok (.iload_n 3, 1) := by decide +kernel
theorem dX9_point_80 : decode cX9_point 80 = .ok (.iconst (-1), 1) := by decide +kernel
theorem dX9_point_81 : decode cX9_point 81 = .ok (.if_icmp .eq 8, 3) := by decide +kernel
theorem dX9_point_84 : decode cX9_point 84 = .ok (.iload_n 2, 1) := by decide +kernel
theorem dX9_point_85 : decode cX9_point 85 = .ok (.iconst 3, 1) := by decide +kernel
theorem dX9_point_86 : decode cX9_point 86 = .ok (.if_icmp .ne 7, 3) := by decide +kernel
theorem dX9_point_89 : decode cX9_point 89 = .ok (.iload_n 3, 1) := by decide +kernel
theorem dX9_point_90 : decode cX9_point 90 = .ok (.goto 9, 3) := by decide +kernel
theorem dX9_point_93 : decode cX9_point 93 = .ok (.aload_n 0, 1) := by decide +kernel
theorem dX9_point_94 : decode cX9_point 94 = .ok (.iload_n 1, 1) := by decide +kernel
theorem dX9_point_95 : decode cX9_point 95 = .ok (.iload_n 3, 1) := by decide +kernel
theorem dX9_point_96 : decode cX9_point 96 = .ok (.invokevirtual 107, 3) := by decide +kernel
theorem dX9_point_99 : decode cX9_point 99 = .ok (.ireturn, 1) := by decide +kernel
theorem dX9_at_0 : decode cX9_at 0 = .ok (.aload_n 0, 1) := by decide +kernel
theorem dX9_at_1 : decode cX9_at 1 = .ok (.iconst 0, 1) := by decide +kernel
theorem dX9_at_2 : decode cX9_at 2 = .ok (.putfield 95, 3) := by decide +kernel
theorem dX9_at_5 : decode cX9_at 5 = .ok (.aload_n 0, 1) := by decide +kernel
theorem dX9_at_6 : decode cX9_at 6 = .ok (.iload_n 1, 1) := by decide +kernel
theorem dX9_at_7 : decode cX9_at 7 = .ok (.iload_n 2, 1) := by decide +kernel
theorem dX9_at_8 : decode cX9_at 8 = .ok (.invokevirtual 161, 3) := by decide +kernel
theorem dX9_at_11 : decode cX9_at 11 = .ok (.ireturn, 1) := by decide +kernel
theorem dX9_farFrom_0 : decode cX9_farFrom 0 = .ok (.aload_n 0, 1) := by decide +kernel
theorem dX9_farFrom_1 : decode cX9_farFrom 1 = .ok (.getfield 7, 3) := by decide +kernel
theorem dX9_farFrom_4 : decode cX9_farFrom 4 = .ok (.iload_n 1, 1) := by decide +kernel
theorem dX9_farFrom_5 : decode cX9_farFrom 5 = .ok (.iaload, 1) := by decide +kernel
theorem dX9_farFrom_6 : decode cX9_farFrom 6 = .ok (.iload_n 2, 1) := by decide +kernel
theorem dX9_farFrom_7 : decode cX9_farFrom 7 = .ok (.isub, 1) := by decide +kernel
theorem dX9_farFrom_8 : decode cX9_farFrom 8 = .ok (.aload_n 0, 1) := by decide +kernel
theorem dX9_farFrom_9 : decode cX9_farFrom 9 = .ok (.getfield 7, 3) := by decide +kernel
theorem dX9_farFrom_12 : decode cX9_farFrom 12 = .ok (.iload_n 1, 1) := by decide +kernel
theorem dX9_farFrom_13 : decode cX9_farFrom 13 = .ok (.iaload, 1) := by decide +kernel
theorem dX9_farFrom_14 : decode cX9_farFrom 14 = .ok (.iload_n 2, 1) := by decide +kernel
theorem dX9_farFrom_15 : decode cX9_farFrom 15 = .ok (.isub, 1) := by decide +kernel
theorem dX9_farFrom_16 : decode cX9_farFrom 16 = .ok (.imul, 1) := by decide +kernel
theorem dX9_farFrom_17 : decode cX9_farFrom 17 = .ok (.aload_n 0, 1) := by decide +kernel
theorem dX9_farFrom_18 : decode cX9_farFrom 18 = .ok (.getfield 13, 3) := by decide +kernel
theorem dX9_farFrom_21 : decode cX9_farFrom 21 = .ok (.iload_n 1, 1) := by decide +kernel
theorem dX9_farFrom_22 : decode cX9_farFrom 22 = .ok (.iaload, 1) := by decide +kernel
theorem dX9_farFrom_23 : decode cX9_farFrom 23 = .ok (.iload_n 3, 1) := by decide +kernel
theorem dX9_farFrom_24 : decode cX9_farFrom 24 = .ok (.isub, 1) := by decide +kernel
theorem dX9_farFrom_25 : decode cX9_farFrom 25 = .ok (.aload_n 0, 1) := by decide +kernel
theorem dX9_farFrom_26 : decode cX9_farFrom 26 = .ok (.getfield 13, 3) := by decide +kernel
theorem dX9_farFrom_29 : decode cX9_farFrom 29 = .ok (.iload_n 1, 1) := by decide +kernel
theorem dX9_farFrom_30 : decode cX9_farFrom 30 = .ok (.iaload, 1) := by decide +kernel
theorem dX9_farFrom_31 : decode cX9_farFrom 31 = .ok (.iload_n 3, 1) := by decide +kernel
theorem dX9_farFrom_32 : decode cX9_farFrom 32 = .ok (.isub, 1) := by decide +kernel
theorem dX9_farFrom_33 : decode cX9_farFrom 33 = .ok (.imul, 1) := by decide +kernel
theorem dX9_farFrom_34 : decode cX9_farFrom 34 = .ok (.iadd, 1) := by decide +kernel
theorem dX9_farFrom_35 : decode cX9_farFrom 35 = .ok (.ireturn, 1) := by decide +kernel
theorem dX9_near_0 : decode cX9_near 0 = .ok (.aload_n 0, 1) := by decide +kernel
theorem dX9_near_1 : decode cX9_near 1 = .ok (.iconst 0, 1) := by decide +kernel
theorem dX9_near_2 : decode cX9_near 2 = .ok (.putfield 95, 3) := by decide +kernel
theorem dX9_near_5 : decode cX9_near 5 = .ok (.aload_n 0, 1) := by decide +kernel
theorem dX9_near_6 : decode cX9_near 6 = .ok (.iload_n 1, 1) := by decide +kernel
theorem dX9_near_7 : decode cX9_near 7 = .ok (.i2l, 1) := by decide +kernel
theorem dX9_near_8 : decode cX9_near 8 = .ok (.ldc2_w 207, 3) := by decide +kernel
theorem dX9_near_11 : decode cX9_near 11 = .ok (.ldc2_w 209, 3) := by decide +kernel
theorem dX9_near_14 : decode cX9_near 14 = .ok (.invokevirtual 101, 3) := by decide +kernel
theorem dX9_near_17 : decode cX9_near 17 = .ok (.ifCond .eq 18, 3) := by decide +kernel
theorem dX9_near_20 : decode cX9_near 20 = .ok (.aload_n 0, 1) := by decide +kernel
theorem dX9_near_21 : decode cX9_near 21 = .ok (.iload_n 2, 1) := by decide +kernel
theorem dX9_near_22 : decode cX9_near 22 = .ok (.i2l, 1) := by decide +kernel
theorem dX9_near_23 : decode cX9_near 23 = .ok (.ldc2_w 207, 3) := by decide +kernel
theorem dX9_near_26 : decode cX9_near 26 = .ok (.ldc2_w 209, 3) := by decide +kernel
theorem dX9_near_29 : decode cX9_near 29 = .ok (.invokevirtual 101, 3) := by decide +kernel
theorem dX9_near_32 : decode cX9_near 32 = .ok (.ifCond .ne 5, 3) := by decide +kernel
theorem dX9_near_35 : decode cX9_near 35 = .ok (.iconst (-1), 1) := by decide +kernel
theorem dX9_near_36 : decode cX9_near 36 = .ok (.ireturn, 1) := by decide +kernel
theorem dX9_near_37 : decode cX9_near 37 = .ok (.iconst 0, 1) := by decide +kernel
theorem dX9_near_38 : decode cX9_near 38 = .ok (.istore 4, 2) := by decide +kernel
theorem dX9_near_40 : decode cX9_near 40 = .ok (.iload 4, 2) := by decide +kernel
theorem dX9_near_42 : decode cX9_near 42 = .ok (.aload_n 0, 1) := by decide +kernel
theorem dX9_near_43 : decode cX9_near 43 = .ok (.getfield 98, 3) := by decide +kernel
theorem dX9_near_46 : decode cX9_near 46 = .ok (.if_icmp .ge 86, 3) := by decide +kernel
theorem dX9_near_49 : decode cX9_near 49 = .ok (.iconst 0, 1) := by decide +kernel
theorem dX9_near_50 : decode cX9_near 50 = .ok (.istore 5, 2) := by decide +kernel
theorem dX9_near_52 : decode cX9_near 52 = .ok (.iconst 0, 1) := by decide +kernel
theorem dX9_near_53 : decode cX9_near 53 = .ok (.istore 6, 2) := by decide +kernel
theorem dX9_near_55 : decode cX9_near 55 = .ok (.iload 6, 2) := by decide +kernel
theorem dX9_near_57 : decode cX9_near 57 = .ok (.aload_n 0, 1) := by decide +kernel
theorem dX9_near_58 : decode cX9_near 58 = .ok (.getfield 98, 3) := by decide +kernel
theorem dX9_near_61 : decode cX9_near 61 = .ok (.if_icmp .ge 56, 3) := by decide +kernel
theorem dX9_near_64 : decode cX9_near 64 = .ok (.aload_n 0, 1) := by decide +kernel
theorem dX9_near_65 : decode cX9_near 65 = .ok (.iload 6, 2) := by decide +kernel
theorem dX9_near_67 : decode cX9_near 67 = .ok (.iload_n 1, 1) := by decide +kernel
theorem dX9_near_68 : decode cX9_near 68 = .ok (.iload_n 2, 1) := by decide +kernel
theorem dX9_near_69 : decode cX9_near 69 = .ok (.invokevirtual 211, 3) := by decide +kernel
theorem dX9_near_72 : decode cX9_near 72 = .ok (.istore 7, 2) := by decide +kernel
theorem dX9_near_74 : decode cX9_near 74 = .ok (.aload_n 0, 1) := by decide +kernel
theorem dX9_near_75 : decode cX9_near 75 = .ok (.iload 4, 2) := by decide +kernel
theorem dX9_near_77 : decode cX9_near 77 = .ok (.iload_n 1, 1) := by decide +kernel
theorem dX9_near_78 : decode cX9_near 78 = .ok (.iload_n 2, 1) := by decide +kernel
theorem dX9_near_79 : decode cX9_near 79 = .ok (.invokevirtual 211, 3) := by decide +kernel
theorem dX9_near_82 : decode cX9_near 82 = .ok (.istore 8, 2) := by decide +kernel
theorem dX9_near_84 : decode cX9_near 84 = .ok (.iload 7, 2) := by decide +kernel
theorem dX9_near_86 : decode cX9_near 86 = .ok (.iload 8, 2) := by decide +kernel
theorem dX9_near_88 : decode cX9_near 88 = .ok (.if_icmp .lt 17, 3) := by decide +kernel
theorem dX9_near_91 : decode cX9_near 91 = .ok (.iload 7, 2) := by decide +kernel
theorem dX9_near_93 : decode cX9_near 93 = .ok (.iload 8, 2) := by decide +kernel
theorem dX9_near_95 : decode cX9_near 95 = .ok (.if_icmp .ne 16, 3) := by decide +kernel
theorem dX9_near_98 : decode cX9_near 98 = .ok (.iload 6, 2) := by decide +kernel
theorem dX9_near_100 : decode cX9_near 100 = .ok (.iload 4, 2) := by decide +kernel
theorem dX9_near_102 : decode cX9_near 102 = .ok (.if_icmp .ge 9, 3) := by decide +kernel
theorem dX9_near_105 : decode cX9_near 105 = .ok (.iload 5, 2) := by decide +kernel
theorem dX9_near_107 : decode cX9_near 107 = .ok (.iconst 1, 1) := by decide +kernel
theorem dX9_near_108 : decode cX9_near 108 = .ok (.iadd, 1) := by decide +kernel
theorem dX9_near_109 : decode cX9_near 109 = .ok (.istore 5, 2) := by decide +kernel
theorem dX9_near_111 : decode cX9_near 111 = .ok (.iinc 6 1, 3) := by decide +kernel
theorem dX9_near_114 : decode cX9_near 114 = .ok (.goto (-59), 3) := by decide +kernel
theorem dX9_near_117 : decode cX9_near 117 = .ok (.iload 5, 2) := by decide +kernel
theorem dX9_near_119 : decode cX9_near 119 = .ok (.iload_n 3, 1) := by decide +kernel
theorem dX9_near_120 : decode cX9_near 120 = .ok (.if_icmp .ne 6, 3) := by decide +kernel
theorem dX9_near_123 : decode cX9_near 123 = .ok (.iload 4, 2) := by decide +kernel
theorem dX9_near_125 : decode cX9_near 125 = .ok (.ireturn, 1) := by decide +kernel
theorem dX9_near_126 : decode cX9_near 126 = .ok (.iinc 4 1, 3) := by decide +kernel
theorem dX9_near_129 : decode cX9_near 129 = .ok (.goto (-89), 3) := by decide +kernel
theorem dX9_near_132 : decode cX9_near 132 = .ok (.iconst (-1), 1) := by decide +kernel
theorem dX9_near_133 : decode cX9_near 133 = .ok (.ireturn, 1) := by decide +kernel
theorem dX9_isJoin_0 : decode cX9_isJoin 0 = .ok (.aload_n 0, 1) := by decide +kernel
theorem dX9_isJoin_1 : decode cX9_isJoin 1 = .ok (.iload_n 1, 1) := by decide +kernel
theorem dX9_isJoin_2 : decode cX9_isJoin 2 = .ok (.i2l, 1) := by decide +kernel
theorem dX9_isJoin_3 : decode cX9_isJoin 3 = .ok (.lconst 0, 1) := by decide +kernel
theorem dX9_isJoin_4 : decode cX9_isJoin 4 = .ok (.aload_n 0, 1) := by decide +kernel
theorem dX9_isJoin_5 : decode cX9_isJoin 5 = .ok (.invokevirtual 119, 3) := by decide +kernel
theorem dX9_isJoin_8 : decode cX9_isJoin 8 = .ok (.i2l, 1) := by decide +kernel
theorem dX9_isJoin_9 : decode cX9_isJoin 9 = .ok (.lconst 1, 1) := by decide +kernel
theorem dX9_isJoin_10 : decode cX9_isJoin 10 = .ok (.lsub, 1) := by decide +kernel
theorem dX9_isJoin_11 : decode cX9_isJoin 11 = .ok (.invokevirtual 101, 3) := by decide +kernel
theorem dX9_isJoin_14 : decode cX9_isJoin 14 = .ok (.ireturn, 1) := by decide +kernel
theorem dX9_lasts_0 : decode cX9_lasts 0 = .ok (.iload_n 1, 1) := by decide +kernel
theorem dX9_lasts_1 : decode cX9_lasts 1 = .ok (.bipush 100, 2) := by decide +kernel
theorem dX9_lasts_3 : decode cX9_lasts 3 = .ok (.if_icmp .ge 9, 3) := by decide +kernel
theorem dX9_lasts_6 : decode cX9_lasts 6 = .ok (.iconst 1, 1) := by decide +kernel
theorem dX9_lasts_7 : decode cX9_lasts 7 = .ok (.iload_n 1, 1) := by decide +kernel
theorem dX9_lasts_8 : decode cX9_lasts 8 = .ok (.ishl, 1) := by decide +kernel
theorem dX9_lasts_9 : decode cX9_lasts 9 = .ok (.goto 12, 3) := by decide +kernel
theorem dX9_lasts_12 : decode cX9_lasts 12 = .ok (.aload_n 0, 1) := by decide +kernel
theorem dX9_lasts_13 : decode cX9_lasts 13 = .ok (.getfield 32, 3) := by decide +kernel
theorem dX9_lasts_16 : decode cX9_lasts 16 = .ok (.iload_n 1, 1) := by decide +kernel
theorem dX9_lasts_17 : decode cX9_lasts 17 = .ok (.bipush 100, 2) := by decide +kernel
theorem dX9_lasts_19 : decode cX9_lasts 19 = .ok (.isub, 1) := by decide +kernel
theorem dX9_lasts_20 : decode cX9_lasts 20 = .ok (.iaload, 1) := by decide +kernel
theorem dX9_lasts_21 : decode cX9_lasts 21 = .ok (.istore_n 2, 1) := by decide +kernel
theorem dX9_lasts_22 : decode cX9_lasts 22 = .ok (.iload_n 1, 1) := by decide +kernel
theorem dX9_lasts_23 : decode cX9_lasts 23 = .ok (.bipush 100, 2) := by decide +kernel
theorem dX9_lasts_25 : decode cX9_lasts 25 = .ok (.if_icmp .ge 12, 3) := by decide +kernel
theorem dX9_lasts_28 : decode cX9_lasts 28 = .ok (.aload_n 0, 1) := by decide +kernel
theorem dX9_lasts_29 : decode cX9_lasts 29 = .ok (.getfield 44, 3) := by decide +kernel
theorem dX9_lasts_32 : decode cX9_lasts 32 = .ok (.iload_n 1, 1) := by decide +kernel
theorem dX9_lasts_33 : decode cX9_lasts 33 = .ok (.iaload, 1) := by decide +kernel
theorem dX9_lasts_34 : decode cX9_lasts 34 = .ok (.goto 12, 3) := by decide +kernel
theorem dX9_lasts_37 : decode cX9_lasts 37 = .ok (.aload_n 0, 1) := by decide +kernel
theorem dX9_lasts_38 : decode cX9_lasts 38 = .ok (.getfield 41, 3) := by decide +kernel
theorem dX9_lasts_41 : decode cX9_lasts 41 = .ok (.iload_n 1, 1) := by decide +kernel
theorem dX9_lasts_42 : decode cX9_lasts 42 = .ok (.bipush 100, 2) := by decide +kernel
theorem dX9_lasts_44 : decode cX9_lasts 44 = .ok (.isub, 1) := by decide +kernel
theorem dX9_lasts_45 : decode cX9_lasts 45 = .ok (.iaload, 1) := by decide +kernel
theorem dX9_lasts_46 : decode cX9_lasts 46 = .ok (.istore_n 3, 1) := by decide +kernel
theorem dX9_lasts_47 : decode cX9_lasts 47 = .ok (.iload_n 3, 1) := by decide +kernel
theorem dX9_lasts_48 : decode cX9_lasts 48 = .ok (.iconst (-1), 1) := by decide +kernel
theorem dX9_lasts_49 : decode cX9_lasts 49 = .ok (.if_icmp .ne 5, 3) := by decide +kernel
theorem dX9_lasts_52 : decode cX9_lasts 52 = .ok (.iconst 0, 1) := by decide +kernel
theorem dX9_lasts_53 : decode cX9_lasts 53 = .ok (.ireturn, 1) := by decide +kernel
theorem dX9_lasts_54 : decode cX9_lasts 54 = .ok (.aload_n 0, 1) := by decide +kernel
theorem dX9_lasts_55 : decode cX9_lasts 55 = .ok (.iload_n 2, 1) := by decide +kernel
theorem dX9_lasts_56 : decode cX9_lasts 56 = .ok (.invokevirtual 215, 3) := by decide +kernel
theorem dX9_lasts_59 : decode cX9_lasts 59 = .ok (.aload_n 0, 1) := by decide +kernel
theorem dX9_lasts_60 : decode cX9_lasts 60 = .ok (.aload_n 0, 1) := by decide +kernel
theorem dX9_lasts_61 : decode cX9_lasts 61 = .ok (.getfield 29, 3) := by decide +kernel
theorem dX9_lasts_64 : decode cX9_lasts 64 = .ok (.iload_n 3, 1) := by decide +kernel
theorem dX9_lasts_65 : decode cX9_lasts 65 = .ok (.iaload, 1) := by decide +kernel
theorem dX9_lasts_66 : decode cX9_lasts 66 = .ok (.invokevirtual 218, 3) := by decide +kernel
theorem dX9_lasts_69 : decode cX9_lasts 69 = .ok (.iload_n 1, 1) := by decide +kernel
theorem dX9_lasts_70 : decode cX9_lasts 70 = .ok (.bipush 100, 2) := by decide +kernel
theorem dX9_lasts_72 : decode cX9_lasts 72 = .ok (.if_icmp .ge 7, 3) := by decide +kernel
theorem dX9_lasts_75 : decode cX9_lasts 75 = .ok (.iconst 0, 1) := by decide +kernel
theorem dX9_lasts_76 : decode cX9_lasts 76 = .ok (.goto 16, 3) := by decide +kernel
theorem dX9_lasts_79 : decode cX9_lasts 79 = .ok (.aload_n 0, 1) := by decide +kernel
theorem dX9_lasts_80 : decode cX9_lasts 80 = .ok (.aload_n 0, 1) := by decide +kernel
theorem dX9_lasts_81 : decode cX9_lasts 81 = .ok (.getfield 29, 3) := by decide +kernel
theorem dX9_lasts_84 : decode cX9_lasts 84 = .ok (.iload_n 1, 1) := by decide +kernel
theorem dX9_lasts_85 : decode cX9_lasts 85 = .ok (.bipush 100, 2) := by decide +kernel
theorem dX9_lasts_87 : decode cX9_lasts 87 = .ok (.isub, 1) := by decide +kernel
theorem dX9_lasts_88 : decode cX9_lasts 88 = .ok (.iaload, 1) := by decide +kernel
theorem dX9_lasts_89 : decode cX9_lasts 89 = .ok (.invokevirtual 218, 3) := by decide +kernel
theorem dX9_lasts_92 : decode cX9_lasts 92 = .ok (.isub, 1) := by decide +kernel
theorem dX9_lasts_93 : decode cX9_lasts 93 = .ok (.imul, 1) := by decide +kernel
theorem dX9_lasts_94 : decode cX9_lasts 94 = .ok (.ireturn, 1) := by decide +kernel
theorem dX9_join_0 : decode cX9_join 0 = .ok (.aload_n 0, 1) := by decide +kernel
theorem dX9_join_1 : decode cX9_join 1 = .ok (.iconst 0, 1) := by decide +kernel
theorem dX9_join_2 : decode cX9_join 2 = .ok (.putfield 95, 3) := by decide +kernel
theorem dX9_join_5 : decode cX9_join 5 = .ok (.aload_n 0, 1) := by decide +kernel
theorem dX9_join_6 : decode cX9_join 6 = .ok (.iload_n 1, 1) := by decide +kernel
theorem dX9_join_7 : decode cX9_join 7 = .ok (.invokevirtual 221, 3) := by decide +kernel
theorem dX9_join_10 : decode cX9_join 10 = .ok (.ifCond .ne 5, 3) := by decide +kernel
theorem dX9_join_13 : decode cX9_join 13 = .ok (.iconst (-1), 1) := by decide +kernel
theorem dX9_join_14 : decode cX9_join 14 = .ok (.ireturn, 1) := by decide +kernel
theorem dX9_join_15 : decode cX9_join 15 = .ok (.iload_n 2, 1) := by decide +kernel
theorem dX9_join_16 : decode cX9_join 16 = .ok (.tableswitch 125 0 8 #[52, 59, 66, 73, 84, 95, 102, 109, 116], 52) := by decide +kernel
theorem dX9_join_68 : decode cX9_join 68 = .ok (.aload_n 0, 1) := by decide +kernel
theorem dX9_join_69 : decode cX9_join 69 = .ok (.getfield 29, 3) := by decide +kernel
theorem dX9_join_72 : decode cX9_join 72 = .ok (.iload_n 1, 1) := by decide +kernel
theorem dX9_join_73 : decode cX9_join 73 = .ok (.iaload, 1) := by decide +kernel
theorem dX9_join_74 : decode cX9_join 74 = .ok (.ireturn, 1) := by decide +kernel
theorem dX9_join_75 : decode cX9_join 75 = .ok (.aload_n 0, 1) := by decide +kernel
theorem dX9_join_76 : decode cX9_join 76 = .ok (.getfield 23, 3) := by decide +kernel
theorem dX9_join_79 : decode cX9_join 79 = .ok (.iload_n 1, 1) := by decide +kernel
theorem dX9_join_80 : decode cX9_join 80 = .ok (.iaload, 1) := by decide +kernel
theorem dX9_join_81 : decode cX9_join 81 = .ok (.ireturn, 1) := by decide +kernel
theorem dX9_join_82 : decode cX9_join 82 = .ok (.aload_n 0, 1) := by decide +kernel
theorem dX9_join_83 : decode cX9_join 83 = .ok (.getfield 26, 3) := by decide +kernel
theorem dX9_join_86 : decode cX9_join 86 = .ok (.iload_n 1, 1) := by decide +kernel
theorem dX9_join_87 : decode cX9_join 87 = .ok (.iaload, 1) := by decide +kernel
theorem dX9_join_88 : decode cX9_join 88 = .ok (.ireturn, 1) := by decide +kernel
theorem dX9_join_89 : decode cX9_join 89 = .ok (.aload_n 0, 1) := by decide +kernel
theorem dX9_join_90 : decode cX9_join 90 = .ok (.aload_n 0, 1) := by decide +kernel
theorem dX9_join_91 : decode cX9_join 91 = .ok (.getfield 32, 3) := by decide +kernel
theorem dX9_join_94 : decode cX9_join 94 = .ok (.iload_n 1, 1) := by decide +kernel
theorem dX9_join_95 : decode cX9_join 95 = .ok (.iaload, 1) := by decide +kernel
theorem dX9_join_96 : decode cX9_join 96 = .ok (.invokevirtual 224, 3) := by decide +kernel
theorem dX9_join_99 : decode cX9_join 99 = .ok (.ireturn, 1) := by decide +kernel
theorem dX9_join_100 : decode cX9_join 100 = .ok (.aload_n 0, 1) := by decide +kernel
theorem dX9_join_101 : decode cX9_join 101 = .ok (.aload_n 0, 1) := by decide +kernel
theorem dX9_join_102 : decode cX9_join 102 = .ok (.getfield 32, 3) := by decide +kernel
theorem dX9_join_105 : decode cX9_join 105 = .ok (.iload_n 1, 1) := by decide +kernel
theorem dX9_join_106 : decode cX9_join 106 = .ok (.iaload, 1) := by decide +kernel
theorem dX9_join_107 : decode cX9_join 107 = .ok (.invokevirtual 215, 3) := by decide +kernel
theorem dX9_join_110 : decode cX9_join 110 = .ok (.ireturn, 1) := by decide +kernel
theorem dX9_join_111 : decode cX9_join 111 = .ok (.aload_n 0, 1) := by decide +kernel
theorem dX9_join_112 : decode cX9_join 112 = .ok (.getfield 35, 3) := by decide +kernel
theorem dX9_join_115 : decode cX9_join 115 = .ok (.iload_n 1, 1) := by decide +kernel
theorem dX9_join_116 : decode cX9_join 116 = .ok (.iaload, 1) := by decide +kernel
theorem dX9_join_117 : decode cX9_join 117 = .ok (.ireturn, 1) := by decide +kernel
theorem dX9_join_118 : decode cX9_join 118 = .ok (.aload_n 0, 1) := by decide +kernel
theorem dX9_join_119 : decode cX9_join 119 = .ok (.getfield 38, 3) := by decide +kernel
theorem dX9_join_122 : decode cX9_join 122 = .ok (.iload_n 1, 1) := by decide +kernel
theorem dX9_join_123 : decode cX9_join 123 = .ok (.iaload, 1) := by decide +kernel
theorem dX9_join_124 : decode cX9_join 124 = .ok (.ireturn, 1) := by decide +kernel
theorem dX9_join_125 : decode cX9_join 125 = .ok (.aload_n 0, 1) := by decide +kernel
theorem dX9_join_126 : decode cX9_join 126 = .ok (.getfield 41, 3) := by decide +kernel
theorem dX9_join_129 : decode cX9_join 129 = .ok (.iload_n 1, 1) := by decide +kernel
theorem dX9_join_130 : decode cX9_join 130 = .ok (.iaload, 1) := by decide +kernel
theorem dX9_join_131 : decode cX9_join 131 = .ok (.ireturn, 1) := by decide +kernel
theorem dX9_join_132 : decode cX9_join 132 = .ok (.aload_n 0, 1) := by decide +kernel
theorem dX9_join_133 : decode cX9_join 133 = .ok (.bipush 100, 2) := by decide +kernel
theorem dX9_join_135 : decode cX9_join 135 = .ok (.iload_n 1, 1) := by decide +kernel
theorem dX9_join_136 : decode cX9_join 136 = .ok (.iadd, 1) := by decide +kernel
theorem dX9_join_137 : decode cX9_join 137 = .ok (.invokevirtual 227, 3) := by decide +kernel
theorem dX9_join_140 : decode cX9_join 140 = .ok (.ireturn, 1) := by decide +kernel
theorem dX9_join_141 : decode cX9_join 141 = .ok (.iload_n 2, 1) := by decide +kernel
theorem dX9_join_142 : decode cX9_join 142 = .ok (.bipush 9, 2) := by decide +kernel
theorem dX9_join_144 : decode cX9_join 144 = .ok (.if_icmp .ne 19, 3) := by decide +kernel
theorem dX9_join_147 : decode cX9_join 147 = .ok (.aload_n 0, 1) := by decide +kernel
theorem dX9_join_148 : decode cX9_join 148 = .ok (.iload_n 1, 1) := by decide +kernel
theorem dX9_join_149 : decode cX9_join 149 = .ok (.invokevirtual 155, 3) := by decide +kernel
theorem dX9_join_152 : decode cX9_join 152 = .ok (.ifCond .eq 7, 3) := by decide +kernel
theorem dX9_join_155 : decode cX9_join 155 = .ok (.iconst 1, 1) := by decide +kernel
theorem dX9_join_156 : decode cX9_join 156 = .ok (.goto 8, 3) := by decide +kernel
theorem dX9_join_159 : decode cX9_join 159 = .ok (.iconst 0, 1) := by decide +kernel
theorem dX9_join_160 : decode cX9_join 160 = .ok (.goto 4, 3) := by decide +kernel
theorem dX9_join_163 : decode cX9_join 163 = .ok (.iconst (-1), 1) := by decide +kernel
theorem dX9_join_164 : decode cX9_join 164 = .ok (.ireturn, 1) := by decide +kernel
theorem dX9_meets_0 : decode cX9_meets 0 = .ok (.aload_n 0, 1) := by decide +kernel
theorem dX9_meets_1 : decode cX9_meets 1 = .ok (.iconst 0, 1) := by decide +kernel
theorem dX9_meets_2 : decode cX9_meets 2 = .ok (.putfield 95, 3) := by decide +kernel
theorem dX9_meets_5 : decode cX9_meets 5 = .ok (.aload_n 0, 1) := by decide +kernel
theorem dX9_meets_6 : decode cX9_meets 6 = .ok (.iload_n 1, 1) := by decide +kernel
theorem dX9_meets_7 : decode cX9_meets 7 = .ok (.invokevirtual 182, 3) := by decide +kernel
theorem dX9_meets_10 : decode cX9_meets 10 = .ok (.ifCond .eq 16, 3) := by decide +kernel
theorem dX9_meets_13 : decode cX9_meets 13 = .ok (.aload_n 0, 1) := by decide +kernel
theorem dX9_meets_14 : decode cX9_meets 14 = .ok (.iload_n 2, 1) := by decide +kernel
theorem dX9_meets_15 : decode cX9_meets 15 = .ok (.invokevirtual 182, 3) := by decide +kernel
theorem dX9_meets_18 : decode cX9_meets 18 = .ok (.ifCond .eq 8, 3) := by decide +kernel
theorem dX9_meets_21 : decode cX9_meets 21 = .ok (.iload_n 1, 1) := by decide +kernel
theorem dX9_meets_22 : decode cX9_meets 22 = .ok (.iload_n 2, 1) := by decide +kernel
theorem dX9_meets_23 : decode cX9_meets 23 = .ok (.if_icmp .ne 5, 3) := by decide +kernel
theorem dX9_meets_26 : decode cX9_meets 26 = .ok (.iconst (-1), 1) := by decide +kernel
theorem dX9_meets_27 : decode cX9_meets 27 = .ok (.ireturn, 1) := by decide +kernel
theorem dX9_meets_28 : decode cX9_meets 28 = .ok (.iconst 0, 1) := by decide +kernel
theorem dX9_meets_29 : decode cX9_meets 29 = .ok (.istore_n 3, 1) := by decide +kernel
theorem dX9_meets_30 : decode cX9_meets 30 = .ok (.aload_n 0, 1) := by decide +kernel
theorem dX9_meets_31 : decode cX9_meets 31 = .ok (.aload_n 0, 1) := by decide +kernel
theorem dX9_meets_32 : decode cX9_meets 32 = .ok (.getfield 32, 3) := by decide +kernel
theorem dX9_meets_35 : decode cX9_meets 35 = .ok (.iload_n 3, 1) := by decide +kernel
theorem dX9_meets_36 : decode cX9_meets 36 = .ok (.iaload, 1) := by decide +kernel
theorem dX9_meets_37 : decode cX9_meets 37 = .ok (.iload_n 1, 1) := by decide +kernel
theorem dX9_meets_38 : decode cX9_meets 38 = .ok (.invokevirtual 123, 3) := by decide +kernel
theorem dX9_meets_41 : decode cX9_meets 41 = .ok (.ifCond .eq 17, 3) := by decide +kernel
theorem dX9_meets_44 : decode cX9_meets 44 = .ok (.aload_n 0, 1) := by decide +kernel
theorem dX9_meets_45 : decode cX9_meets 45 = .ok (.aload_n 0, 1) := by decide +kernel
theorem dX9_meets_46 : decode cX9_meets 46 = .ok (.getfield 32, 3) := by decide +kernel
theorem dX9_meets_49 : decode cX9_meets 49 = .ok (.iload_n 3, 1) := by decide +kernel
theorem dX9_meets_50 : decode cX9_meets 50 = .ok (.iaload, 1) := by decide +kernel
theorem dX9_meets_51 : decode cX9_meets 51 = .ok (.iload_n 2, 1) := by decide +kernel
theorem dX9_meets_52 : decode cX9_meets 52 = .ok (.invokevirtual 123, 3) := by decide +kernel
theorem dX9_meets_55 : decode cX9_meets 55 = .ok (.ifCond .ne 10, 3) := by decide +kernel
theorem dX9_meets_58 : decode cX9_meets 58 = .ok (.iload_n 3, 1) := by decide +kernel
theorem dX9_meets_59 : decode cX9_meets 59 = .ok (.iconst 1, 1) := by decide +kernel
theorem dX9_meets_60 : decode cX9_meets 60 = .ok (.iadd, 1) := by decide +kernel
theorem dX9_meets_61 : decode cX9_meets 61 = .ok (.istore_n 3, 1) := by decide +kernel
theorem dX9_meets_62 : decode cX9_meets 62 = .ok (.goto (-32), 3) := by decide +kernel
theorem dX9_meets_65 : decode cX9_meets 65 = .ok (.iload_n 3, 1) := by decide +kernel
theorem dX9_meets_66 : decode cX9_meets 66 = .ok (.ireturn, 1) := by decide +kernel
theorem dX9_goesAlong_0 : decode cX9_goesAlong 0 = .ok (.aload_n 0, 1) := by decide +kernel
theorem dX9_goesAlong_1 : decode cX9_goesAlong 1 = .ok (.getfield 65, 3) := by decide +kernel
theorem dX9_goesAlong_4 : decode cX9_goesAlong 4 = .ok (.aload_n 0, 1) := by decide +kernel
theorem dX9_goesAlong_5 : decode cX9_goesAlong 5 = .ok (.getfield 230, 3) := by decide +kernel
theorem dX9_goesAlong_8 : decode cX9_goesAlong 8 = .ok (.iload_n 1, 1) := by decide +kernel
theorem dX9_goesAlong_9 : decode cX9_goesAlong 9 = .ok (.iastore, 1) := by decide +kernel
theorem dX9_goesAlong_10 : decode cX9_goesAlong 10 = .ok (.aload_n 0, 1) := by decide +kernel
theorem dX9_goesAlong_11 : decode cX9_goesAlong 11 = .ok (.aload_n 0, 1) := by decide +kernel
theorem dX9_goesAlong_12 : decode cX9_goesAlong 12 = .ok (.getfield 230, 3) := by decide +kernel
theorem dX9_goesAlong_15 : decode cX9_goesAlong 15 = .ok (.iconst 1, 1) := by decide +kernel
theorem dX9_goesAlong_16 : decode cX9_goesAlong 16 = .ok (.iadd, 1) := by decide +kernel
theorem dX9_goesAlong_17 : decode cX9_goesAlong 17 = .ok (.putfield 230, 3) := by decide +kernel
theorem dX9_goesAlong_20 : decode cX9_goesAlong 20 = .ok (.iload_n 1, 1) := by decide +kernel
theorem dX9_goesAlong_21 : decode cX9_goesAlong 21 = .ok (.iload_n 2, 1) := by decide +kernel
theorem dX9_goesAlong_22 : decode cX9_goesAlong 22 = .ok (.if_icmp .ne 5, 3) := by decide +kernel
theorem dX9_goesAlong_25 : decode cX9_goesAlong 25 = .ok (.iconst 1, 1) := by decide +kernel
theorem dX9_goesAlong_26 : decode cX9_goesAlong 26 = .ok (.ireturn, 1) := by decide +kernel
theorem dX9_goesAlong_27 : decode cX9_goesAlong 27 = .ok (.iconst 0, 1) := by decide +kernel
theorem dX9_goesAlong_28 : decode cX9_goesAlong 28 = .ok (.istore 4, 2) := by decide +kernel
theorem dX9_goesAlong_30 : decode cX9_goesAlong 30 = .ok (.iload 4, 2) := by decide +kernel
theorem dX9_goesAlong_32 : decode cX9_goesAlong 32 = .ok (.aload_n 0, 1) := by decide +kernel
theorem dX9_goesAlong_33 : decode cX9_goesAlong 33 = .ok (.invokevirtual 119, 3) := by decide +kernel
theorem dX9_goesAlong_36 : decode cX9_goesAlong 36 = .ok (.if_icmp .ge 72, 3) := by decide +kernel
theorem dX9_goesAlong_39 : decode cX9_goesAlong 39 = .ok (.aload_n 0, 1) := by decide +kernel
theorem dX9_goesAlong_40 : decode cX9_goesAlong 40 = .ok (.getfield 23, 3) := by decide +kernel
theorem dX9_goesAlong_43 : decode cX9_goesAlong 43 = .ok (.iload 4, 2) := by decide +kernel
theorem dX9_goesAlong_45 : decode cX9_goesAlong 45 = .ok (.iaload, 1) := by decide +kernel
theorem dX9_goesAlong_46 : decode cX9_goesAlong 46 = .ok (.iload_n 1, 1) := by decide +kernel
theorem dX9_goesAlong_47 : decode cX9_goesAlong 47 = .ok (.if_icmp .eq 17, 3) := by decide +kernel
theorem dX9_goesAlong_50 : decode cX9_goesAlong 50 = .ok (.aload_n 0, 1) := by decide +kernel
theorem dX9_goesAlong_51 : decode cX9_goesAlong 51 = .ok (.getfield 26, 3) := by decide +kernel
theorem dX9_goesAlong_54 : decode cX9_goesAlong 54 = .ok (.iload 4, 2) := by decide +kernel
theorem dX9_goesAlong_56 : decode cX9_goesAlong 56 = .ok (.iaload, 1) := by decide +kernel
theorem dX9_goesAlong_57 : decode cX9_goesAlong 57 = .ok (.iload_n 1, 1) := by decide +kernel
theorem dX9_goesAlong_58 : decode cX9_goesAlong 58 = .ok (.if_icmp .eq 6, 3) := by decide +kernel
theorem dX9_goesAlong_61 : decode cX9_goesAlong 61 = .ok (.goto 41, 3) := by decide +kernel
theorem dX9_goesAlong_64 : decode cX9_goesAlong 64 = .ok (.aload_n 0, 1) := by decide +kernel
theorem dX9_goesAlong_65 : decode cX9_goesAlong 65 = .ok (.getfield 23, 3) := by decide +kernel
theorem dX9_goesAlong_68 : decode cX9_goesAlong 68 = .ok (.iload 4, 2) := by decide +kernel
theorem dX9_goesAlong_70 : decode cX9_goesAlong 70 = .ok (.iaload, 1) := by decide +kernel
theorem dX9_goesAlong_71 : decode cX9_goesAlong 71 = .ok (.aload_n 0, 1) := by decide +kernel
theorem dX9_goesAlong_72 : decode cX9_goesAlong 72 = .ok (.getfield 26, 3) := by decide +kernel
theorem dX9_goesAlong_75 : decode cX9_goesAlong 75 = .ok (.iload 4, 2) := by decide +kernel
theorem dX9_goesAlong_77 : decode cX9_goesAlong 77 = .ok (.iaload, 1) := by decide +kernel
theorem dX9_goesAlong_78 : decode cX9_goesAlong 78 = .ok (.iadd, 1) := by decide +kernel
theorem dX9_goesAlong_79 : decode cX9_goesAlong 79 = .ok (.iload_n 1, 1) := by decide +kernel
theorem dX9_goesAlong_80 : decode cX9_goesAlong 80 = .ok (.isub, 1) := by decide +kernel
theorem dX9_goesAlong_81 : decode cX9_goesAlong 81 = .ok (.istore 5, 2) := by decide +kernel
theorem dX9_goesAlong_83 : decode cX9_goesAlong 83 = .ok (.iload 5, 2) := by decide +kernel
theorem dX9_goesAlong_85 : decode cX9_goesAlong 85 = .ok (.iload_n 3, 1) := by decide +kernel
theorem dX9_goesAlong_86 : decode cX9_goesAlong 86 = .ok (.if_icmp .eq 16, 3) := by decide +kernel
theorem dX9_goesAlong_89 : decode cX9_goesAlong 89 = .ok (.aload_n 0, 1) := by decide +kernel
theorem dX9_goesAlong_90 : decode cX9_goesAlong 90 = .ok (.iload 5, 2) := by decide +kernel
theorem dX9_goesAlong_92 : decode cX9_goesAlong 92 = .ok (.iload_n 2, 1) := by decide +kernel
theorem dX9_goesAlong_93 : decode cX9_goesAlong 93 = .ok (.iload_n 1, 1) := by decide +kernel
theorem dX9_goesAlong_94 : decode cX9_goesAlong 94 = .ok (.invokevirtual 233, 3) := by decide +kernel
theorem dX9_goesAlong_97 : decode cX9_goesAlong 97 = .ok (.ifCond .eq 5, 3) := by decide +kernel
theorem dX9_goesAlong_100 : decode cX9_goesAlong 100 = .ok (.iconst 1, 1) := by decide +kernel
theorem dX9_goesAlong_101 : decode cX9_goesAlong 101 = .ok (.ireturn, 1) := by decide +kernel
theorem dX9_goesAlong_102 : decode cX9_goesAlong 102 = .ok (.iinc 4 1, 3) := by decide +kernel
theorem dX9_goesAlong_105 : decode cX9_goesAlong 105 = .ok (.goto (-75), 3) := by decide +kernel
theorem dX9_goesAlong_108 : decode cX9_goesAlong 108 = .ok (.aload_n 0, 1) := by decide +kernel
theorem dX9_goesAlong_109 : decode cX9_goesAlong 109 = .ok (.aload_n 0, 1) := by decide +kernel
theorem dX9_goesAlong_110 : decode cX9_goesAlong 110 = .ok (.getfield 230, 3) := by decide +kernel
theorem dX9_goesAlong_113 : decode cX9_goesAlong 113 = .ok (.iconst 1, 1) := by decide +kernel
theorem dX9_goesAlong_114 : decode cX9_goesAlong 114 = .ok (.isub, 1) := by decide +kernel
theorem dX9_goesAlong_115 : decode cX9_goesAlong 115 = .ok (.putfield 230, 3) := by decide +kernel
theorem dX9_goesAlong_118 : decode cX9_goesAlong 118 = .ok (.iconst 0, 1) := by decide +kernel
theorem dX9_goesAlong_119 : decode cX9_goesAlong 119 = .ok (.ireturn, 1) := by decide +kernel
theorem dX9_path_0 : decode cX9_path 0 = .ok (.aload_n 0, 1) := by decide +kernel
theorem dX9_path_1 : decode cX9_path 1 = .ok (.iconst 0, 1) := by decide +kernel
theorem dX9_path_2 : decode cX9_path 2 = .ok (.putfield 95, 3) := by decide +kernel
theorem dX9_path_5 : decode cX9_path 5 = .ok (.aload_n 0, 1) := by decide +kernel
theorem dX9_path_6 : decode cX9_path 6 = .ok (.iload_n 1, 1) := by decide +kernel
theorem dX9_path_7 : decode cX9_path 7 = .ok (.invokevirtual 182, 3) := by decide +kernel
theorem dX9_path_10 : decode cX9_path 10 = .ok (.ifCond .eq 11, 3) := by decide +kernel
theorem dX9_path_13 : decode cX9_path 13 = .ok (.aload_n 0, 1) := by decide +kernel
theorem dX9_path_14 : decode cX9_path 14 = .ok (.iload_n 2, 1) := by decide +kernel
theorem dX9_path_15 : decode cX9_path 15 = .ok (.invokevirtual 182, 3) := by decide +kernel
theorem dX9_path_18 : decode cX9_path 18 = .ok (.ifCond .ne 5, 3) := by decide +kernel
theorem dX9_path_21 : decode cX9_path 21 = .ok (.iconst (-1), 1) := by decide +kernel
theorem dX9_path_22 : decode cX9_path 22 = .ok (.ireturn, 1) := by decide +kernel
theorem dX9_path_23 : decode cX9_path 23 = .ok (.aload_n 0, 1) := by decide +kernel
theorem dX9_path_24 : decode cX9_path 24 = .ok (.iconst 0, 1) := by decide +kernel
theorem dX9_path_25 : decode cX9_path 25 = .ok (.putfield 230, 3) := by decide +kernel
theorem dX9_path_28 : decode cX9_path 28 = .ok (.aload_n 0, 1) := by decide +kernel
theorem dX9_path_29 : decode cX9_path 29 = .ok (.iload_n 1, 1) := by decide +kernel
theorem dX9_path_30 : decode cX9_path 30 = .ok (.iload_n 2, 1) := by decide +kernel
theorem dX9_path_31 : decode cX9_path 31 = .ok (.iconst (-1), 1) := by decide +kernel
theorem dX9_path_32 : decode cX9_path 32 = .ok (.invokevirtual 233, 3) := by decide +kernel
theorem dX9_path_35 : decode cX9_path 35 = .ok (.pop, 1) := by decide +kernel
theorem dX9_path_36 : decode cX9_path 36 = .ok (.iload_n 3, 1) := by decide +kernel
theorem dX9_path_37 : decode cX9_path 37 = .ok (.iconst (-1), 1) := by decide +kernel
theorem dX9_path_38 : decode cX9_path 38 = .ok (.if_icmp .ne 10, 3) := by decide +kernel
theorem dX9_path_41 : decode cX9_path 41 = .ok (.aload_n 0, 1) := by decide +kernel
theorem dX9_path_42 : decode cX9_path 42 = .ok (.getfield 230, 3) := by decide +kernel
theorem dX9_path_45 : decode cX9_path 45 = .ok (.iconst 1, 1) := by decide +kernel
theorem dX9_path_46 : decode cX9_path 46 = .ok (.isub, 1) := by decide +kernel
theorem dX9_path_47 : decode cX9_path 47 = .ok (.ireturn, 1) := by decide +kernel
theorem dX9_path_48 : decode cX9_path 48 = .ok (.aload_n 0, 1) := by decide +kernel
theorem dX9_path_49 : decode cX9_path 49 = .ok (.iload_n 3, 1) := by decide +kernel
theorem dX9_path_50 : decode cX9_path 50 = .ok (.i2l, 1) := by decide +kernel
theorem dX9_path_51 : decode cX9_path 51 = .ok (.lconst 0, 1) := by decide +kernel
theorem dX9_path_52 : decode cX9_path 52 = .ok (.aload_n 0, 1) := by decide +kernel
theorem dX9_path_53 : decode cX9_path 53 = .ok (.getfield 230, 3) := by decide +kernel
theorem dX9_path_56 : decode cX9_path 56 = .ok (.i2l, 1) := by decide +kernel
theorem dX9_path_57 : decode cX9_path 57 = .ok (.lconst 1, 1) := by decide +kernel
theorem dX9_path_58 : decode cX9_path 58 = .ok (.lsub, 1) := by decide +kernel
theorem dX9_path_59 : decode cX9_path 59 = .ok (.invokevirtual 101, 3) := by decide +kernel
theorem dX9_path_62 : decode cX9_path 62 = .ok (.ifCond .eq 12, 3) := by decide +kernel
theorem dX9_path_65 : decode cX9_path 65 = .ok (.aload_n 0, 1) := by decide +kernel
theorem dX9_path_66 : decode cX9_path 66 = .ok (.getfield 65, 3) := by decide +kernel
theorem dX9_path_69 : decode cX9_path 69 = .ok (.iload_n 3, 1) := by decide +kernel
theorem dX9_path_70 : decode cX9_path 70 = .ok (.iaload, 1) := by decide +kernel
theorem dX9_path_71 : decode cX9_path 71 = .ok (.goto 4, 3) := by decide +kernel
theorem dX9_path_74 : decode cX9_path 74 = .ok (.iconst (-1), 1) := by decide +kernel
theorem dX9_path_75 : decode cX9_path 75 = .ok (.ireturn, 1) := by decide +kernel
theorem dX9_rootsAlong_0 : decode cX9_rootsAlong 0 = .ok (.aload_n 0, 1) := by decide +kernel
theorem dX9_rootsAlong_1 : decode cX9_rootsAlong 1 = .ok (.iconst 0, 1) := by decide +kernel
theorem dX9_rootsAlong_2 : decode cX9_rootsAlong 2 = .ok (.putfield 230, 3) := by decide +kernel
theorem dX9_rootsAlong_5 : decode cX9_rootsAlong 5 = .ok (.aload_n 0, 1) := by decide +kernel
theorem dX9_rootsAlong_6 : decode cX9_rootsAlong 6 = .ok (.iload_n 1, 1) := by decide +kernel
theorem dX9_rootsAlong_7 : decode cX9_rootsAlong 7 = .ok (.iload_n 2, 1) := by decide +kernel
theorem dX9_rootsAlong_8 : decode cX9_rootsAlong 8 = .ok (.iconst (-1), 1) := by decide +kernel
theorem dX9_rootsAlong_9 : decode cX9_rootsAlong 9 = .ok (.invokevirtual 233, 3) := by decide +kernel
theorem dX9_rootsAlong_12 : decode cX9_rootsAlong 12 = .ok (.pop, 1) := by decide +kernel
theorem dX9_rootsAlong_13 : decode cX9_rootsAlong 13 = .ok (.iconst 0, 1) := by decide +kernel
theorem dX9_rootsAlong_14 : decode cX9_rootsAlong 14 = .ok (.istore_n 3, 1) := by decide +kernel
theorem dX9_rootsAlong_15 : decode cX9_rootsAlong 15 = .ok (.iconst 1, 1) := by decide +kernel
theorem dX9_rootsAlong_16 : decode cX9_rootsAlong 16 = .ok (.istore 4, 2) := by decide +kernel
theorem dX9_rootsAlong_18 : decode cX9_rootsAlong 18 = .ok (.iload 4, 2) := by decide +kernel
theorem dX9_rootsAlong_20 : decode cX9_rootsAlong 20 = .ok (.aload_n 0, 1) := by decide +kernel
theorem dX9_rootsAlong_21 : decode cX9_rootsAlong 21 = .ok (.getfield 230, 3) := by decide +kernel
theorem dX9_rootsAlong_24 : decode cX9_rootsAlong 24 = .ok (.if_icmp .ge 36, 3) := by decide +kernel
theorem dX9_rootsAlong_27 : decode cX9_rootsAlong 27 = .ok (.iload_n 3, 1) := by decide +kernel
theorem dX9_rootsAlong_28 : decode cX9_rootsAlong 28 = .ok (.aload_n 0, 1) := by decide +kernel
theorem dX9_rootsAlong_29 : decode cX9_rootsAlong 29 = .ok (.aload_n 0, 1) := by decide +kernel
theorem dX9_rootsAlong_30 : decode cX9_rootsAlong 30 = .ok (.aload_n 0, 1) := by decide +kernel
theorem dX9_rootsAlong_31 : decode cX9_rootsAlong 31 = .ok (.getfield 65, 3) := by decide +kernel
theorem dX9_rootsAlong_34 : decode cX9_rootsAlong 34 = .ok (.iload 4, 2) := by decide +kernel
theorem dX9_rootsAlong_36 : decode cX9_rootsAlong 36 = .ok (.iconst 1, 1) := by decide +kernel
theorem dX9_rootsAlong_37 : decode cX9_rootsAlong 37 = .ok (.isub, 1) := by decide +kernel
theorem dX9_rootsAlong_38 : decode cX9_rootsAlong 38 = .ok (.iaload, 1) := by decide +kernel
theorem dX9_rootsAlong_39 : decode cX9_rootsAlong 39 = .ok (.aload_n 0, 1) := by decide +kernel
theorem dX9_rootsAlong_40 : decode cX9_rootsAlong 40 = .ok (.getfield 65, 3) := by decide +kernel
theorem dX9_rootsAlong_43 : decode cX9_rootsAlong 43 = .ok (.iload 4, 2) := by decide +kernel
theorem dX9_rootsAlong_45 : decode cX9_rootsAlong 45 = .ok (.iaload, 1) := by decide +kernel
theorem dX9_rootsAlong_46 : decode cX9_rootsAlong 46 = .ok (.invokevirtual 107, 3) := by decide +kernel
theorem dX9_rootsAlong_49 : decode cX9_rootsAlong 49 = .ok (.invokevirtual 218, 3) := by decide +kernel
theorem dX9_rootsAlong_52 : decode cX9_rootsAlong 52 = .ok (.iadd, 1) := by decide +kernel
theorem dX9_rootsAlong_53 : decode cX9_rootsAlong 53 = .ok (.istore_n 3, 1) := by decide +kernel
theorem dX9_rootsAlong_54 : decode cX9_rootsAlong 54 = .ok (.iinc 4 1, 3) := by decide +kernel
theorem dX9_rootsAlong_57 : decode cX9_rootsAlong 57 = .ok (.goto (-39), 3) := by decide +kernel
theorem dX9_rootsAlong_60 : decode cX9_rootsAlong 60 = .ok (.iload_n 3, 1) := by decide +kernel
theorem dX9_rootsAlong_61 : decode cX9_rootsAlong 61 = .ok (.ireturn, 1) := by decide +kernel
theorem dX9_longest_0 : decode cX9_longest 0 = .ok (.aload_n 0, 1) := by decide +kernel
theorem dX9_longest_1 : decode cX9_longest 1 = .ok (.iconst 0, 1) := by decide +kernel
theorem dX9_longest_2 : decode cX9_longest 2 = .ok (.putfield 95, 3) := by decide +kernel
theorem dX9_longest_5 : decode cX9_longest 5 = .ok (.aload_n 0, 1) := by decide +kernel
theorem dX9_longest_6 : decode cX9_longest 6 = .ok (.getfield 98, 3) := by decide +kernel
theorem dX9_longest_9 : decode cX9_longest 9 = .ok (.iconst 2, 1) := by decide +kernel
theorem dX9_longest_10 : decode cX9_longest 10 = .ok (.if_icmp .lt 16, 3) := by decide +kernel
theorem dX9_longest_13 : decode cX9_longest 13 = .ok (.aload_n 0, 1) := by decide +kernel
theorem dX9_longest_14 : decode cX9_longest 14 = .ok (.iload_n 1, 1) := by decide +kernel
theorem dX9_longest_15 : decode cX9_longest 15 = .ok (.i2l, 1) := by decide +kernel
theorem dX9_longest_16 : decode cX9_longest 16 = .ok (.lconst 0, 1) := by decide +kernel
theorem dX9_longest_17 : decode cX9_longest 17 = .ok (.ldc2_w 237, 3) := by decide +kernel
theorem dX9_longest_20 : decode cX9_longest 20 = .ok (.invokevirtual 101, 3) := by decide +kernel
theorem dX9_longest_23 : decode cX9_longest 23 = .ok (.ifCond .ne 5, 3) := by decide +kernel
theorem dX9_longest_26 : decode cX9_longest 26 = .ok (.iconst (-1), 1) := by decide +kernel
theorem dX9_longest_27 : decode cX9_longest 27 = .ok (.ireturn, 1) := by decide +kernel
theorem dX9_longest_28 : decode cX9_longest 28 = .ok (.iconst (-1), 1) := by decide +kernel
theorem dX9_longest_29 : decode cX9_longest 29 = .ok (.istore_n 2, 1) := by decide +kernel
theorem dX9_longest_30 : decode cX9_longest 30 = .ok (.iconst 0, 1) := by decide +kernel
theorem dX9_longest_31 : decode cX9_longest 31 = .ok (.istore_n 3, 1) := by decide +kernel
theorem dX9_longest_32 : decode cX9_longest 32 = .ok (.iconst 0, 1) := by decide +kernel
theorem dX9_longest_33 : decode cX9_longest 33 = .ok (.istore 4, 2) := by decide +kernel
theorem dX9_longest_35 : decode cX9_longest 35 = .ok (.iconst 0, 1) := by decide +kernel
theorem dX9_longest_36 : decode cX9_longest 36 = .ok (.istore 5, 2) := by decide +kernel
theorem dX9_longest_38 : decode cX9_longest 38 = .ok (.iload 5, 2) := by decide +kernel
theorem dX9_longest_40 : decode cX9_longest 40 = .ok (.aload_n 0, 1) := by decide +kernel
theorem dX9_longest_41 : decode cX9_longest 41 = .ok (.getfield 98, 3) := by decide +kernel
theorem dX9_longest_44 : decode cX9_longest 44 = .ok (.if_icmp .ge 59, 3) := by decide +kernel
theorem dX9_longest_47 : decode cX9_longest 47 = .ok (.iload 5, 2) := by decide +kernel
theorem dX9_longest_49 : decode cX9_longest 49 = .ok (.iconst 1, 1) := by decide +kernel
theorem dX9_longest_50 : decode cX9_longest 50 = .ok (.iadd, 1) := by decide +kernel
theorem dX9_longest_51 : decode cX9_longest 51 = .ok (.istore 6, 2) := by decide +kernel
theorem dX9_longest_53 : decode cX9_longest 53 = .ok (.iload 6, 2) := by decide +kernel
theorem dX9_longest_55 : decode cX9_longest 55 = .ok (.aload_n 0, 1) := by decide +kernel
theorem dX9_longest_56 : decode cX9_longest 56 = .ok (.getfield 98, 3) := by decide +kernel
theorem dX9_longest_59 : decode cX9_longest 59 = .ok (.if_icmp .ge 38, 3) := by decide +kernel
theorem dX9_longest_62 : decode cX9_longest 62 = .ok (.aload_n 0, 1) := by decide +kernel
theorem dX9_longest_63 : decode cX9_longest 63 = .ok (.iload 5, 2) := by decide +kernel
theorem dX9_longest_65 : decode cX9_longest 65 = .ok (.iload 6, 2) := by decide +kernel
theorem dX9_longest_67 : decode cX9_longest 67 = .ok (.invokevirtual 239, 3) := by decide +kernel
theorem dX9_longest_70 : decode cX9_longest 70 = .ok (.istore 7, 2) := by decide +kernel
theorem dX9_longest_72 : decode cX9_longest 72 = .ok (.iload 7, 2) := by decide +kernel
theorem dX9_longest_74 : decode cX9_longest 74 = .ok (.iload_n 2, 1) := by decide +kernel
theorem dX9_longest_75 : decode cX9_longest 75 = .ok (.if_icmp .gt 6, 3) := by decide +kernel
theorem dX9_longest_78 : decode cX9_longest 78 = .ok (.goto 13, 3) := by decide +kernel
theorem dX9_longest_81 : decode cX9_longest 81 = .ok (.iload 7, 2) := by decide +kernel
theorem dX9_longest_83 : decode cX9_longest 83 = .ok (.istore_n 2, 1) := by decide +kernel
theorem dX9_longest_84 : decode cX9_longest 84 = .ok (.iload 5, 2) := by decide +kernel
theorem dX9_longest_86 : decode cX9_longest 86 = .ok (.istore_n 3, 1) := by decide +kernel
theorem dX9_longest_87 : decode cX9_longest 87 = .ok (.iload 6, 2) := by decide +kernel
theorem dX9_longest_89 : decode cX9_longest 89 = .ok (.istore 4, 2) := by decide +kernel
theorem dX9_longest_91 : decode cX9_longest 91 = .ok (.iinc 6 1, 3) := by decide +kernel
theorem dX9_longest_94 : decode cX9_longest 94 = .ok (.goto (-41), 3) := by decide +kernel
theorem dX9_longest_97 : decode cX9_longest 97 = .ok (.iinc 5 1, 3) := by decide +kernel
theorem dX9_longest_100 : decode cX9_longest 100 = .ok (.goto (-62), 3) := by decide +kernel
theorem dX9_longest_103 : decode cX9_longest 103 = .ok (.iload_n 1, 1) := by decide +kernel
theorem dX9_longest_104 : decode cX9_longest 104 = .ok (.ifCond .ne 7, 3) := by decide +kernel
theorem dX9_longest_107 : decode cX9_longest 107 = .ok (.iload_n 2, 1) := by decide +kernel
theorem dX9_longest_108 : decode cX9_longest 108 = .ok (.goto 14, 3) := by decide +kernel
theorem dX9_longest_111 : decode cX9_longest 111 = .ok (.iload_n 1, 1) := by decide +kernel
theorem dX9_longest_112 : decode cX9_longest 112 = .ok (.iconst 1, 1) := by decide +kernel
theorem dX9_longest_113 : decode cX9_longest 113 = .ok (.if_icmp .ne 7, 3) := by decide +kernel
theorem dX9_longest_116 : decode cX9_longest 116 = .ok (.iload_n 3, 1) := by decide +kernel
theorem dX9_longest_117 : decode cX9_longest 117 = .ok (.goto 5, 3) := by decide +kernel
theorem dX9_longest_120 : decode cX9_longest 120 = .ok (.iload 4, 2) := by decide +kernel
theorem dX9_longest_122 : decode cX9_longest 122 = .ok (.ireturn, 1) := by decide +kernel
theorem dX9_laysParts_0 : decode cX9_laysParts 0 = .ok (.iconst 0, 1) := by decide +kernel
theorem dX9_laysParts_1 : decode cX9_laysParts 1 = .ok (.istore_n 2, 1) := by decide +kernel
theorem dX9_laysParts_2 : decode cX9_laysParts 2 = .ok (.iload_n 2, 1) := by decide +kernel
theorem dX9_laysParts_3 : decode cX9_laysParts 3 = .ok (.aload_n 0, 1) := by decide +kernel
theorem dX9_laysParts_4 : decode cX9_laysParts 4 = .ok (.getfield 98, 3) := by decide +kernel
theorem dX9_laysParts_7 : decode cX9_laysParts 7 = .ok (.if_icmp .ge 18, 3) := by decide +kernel
theorem dX9_laysParts_10 : decode cX9_laysParts 10 = .ok (.aload_n 0, 1) := by decide +kernel
theorem dX9_laysParts_11 : decode cX9_laysParts 11 = .ok (.getfield 68, 3) := by decide +kernel
theorem dX9_laysParts_14 : decode cX9_laysParts 14 = .ok (.iload_n 2, 1) := by decide +kernel
theorem dX9_laysParts_15 : decode cX9_laysParts 15 = .ok (.iconst 1, 1) := by decide +kernel
theorem dX9_laysParts_16 : decode cX9_laysParts 16 = .ok (.iload_n 2, 1) := by decide +kernel
theorem dX9_laysParts_17 : decode cX9_laysParts 17 = .ok (.ishl, 1) := by decide +kernel
theorem dX9_laysParts_18 : decode cX9_laysParts 18 = .ok (.iastore, 1) := by decide +kernel
theorem dX9_laysParts_19 : decode cX9_laysParts 19 = .ok (.iinc 2 1, 3) := by decide +kernel
theorem dX9_laysParts_22 : decode cX9_laysParts 22 = .ok (.goto (-20), 3) := by decide +kernel
theorem dX9_laysParts_25 : decode cX9_laysParts 25 = .ok (.iconst 0, 1) := by decide +kernel
theorem dX9_laysParts_26 : decode cX9_laysParts 26 = .ok (.istore_n 2, 1) := by decide +kernel
theorem dX9_laysParts_27 : decode cX9_laysParts 27 = .ok (.iload_n 2, 1) := by decide +kernel
theorem dX9_laysParts_28 : decode cX9_laysParts 28 = .ok (.iload_n 1, 1) := by decide +kernel
theorem dX9_laysParts_29 : decode cX9_laysParts 29 = .ok (.if_icmp .ge 51, 3) := by decide +kernel
theorem dX9_laysParts_32 : decode cX9_laysParts 32 = .ok (.iconst 0, 1) := by decide +kernel
theorem dX9_laysParts_33 : decode cX9_laysParts 33 = .ok (.istore_n 3, 1) := by decide +kernel
theorem dX9_laysParts_34 : decode cX9_laysParts 34 = .ok (.iload_n 3, 1) := by decide +kernel
theorem dX9_laysParts_35 : decode cX9_laysParts 35 = .ok (.aload_n 0, 1) := by decide +kernel
theorem dX9_laysParts_36 : decode cX9_laysParts 36 = .ok (.getfield 98, 3) := by decide +kernel
theorem dX9_laysParts_39 : decode cX9_laysParts 39 = .ok (.if_icmp .ge 35, 3) := by decide +kernel
theorem dX9_laysParts_42 : decode cX9_laysParts 42 = .ok (.aload_n 0, 1) := by decide +kernel
theorem dX9_laysParts_43 : decode cX9_laysParts 43 = .ok (.aload_n 0, 1) := by decide +kernel
theorem dX9_laysParts_44 : decode cX9_laysParts 44 = .ok (.getfield 32, 3) := by decide +kernel
theorem dX9_laysParts_47 : decode cX9_laysParts 47 = .ok (.iload_n 2, 1) := by decide +kernel
theorem dX9_laysParts_48 : decode cX9_laysParts 48 = .ok (.iaload, 1) := by decide +kernel
theorem dX9_laysParts_49 : decode cX9_laysParts 49 = .ok (.iload_n 3, 1) := by decide +kernel
theorem dX9_laysParts_50 : decode cX9_laysParts 50 = .ok (.invokevirtual 123, 3) := by decide +kernel
theorem dX9_laysParts_53 : decode cX9_laysParts 53 = .ok (.ifCond .eq 15, 3) := by decide +kernel
theorem dX9_laysParts_56 : decode cX9_laysParts 56 = .ok (.aload_n 0, 1) := by decide +kernel
theorem dX9_laysParts_57 : decode cX9_laysParts 57 = .ok (.getfield 68, 3) := by decide +kernel
theorem dX9_laysParts_60 : decode cX9_laysParts 60 = .ok (.iload_n 3, 1) := by decide +kernel
theorem dX9_laysParts_61 : decode cX9_laysParts 61 = .ok (.aload_n 0, 1) := by decide +kernel
theorem dX9_laysParts_62 : decode cX9_laysParts 62 = .ok (.getfield 32, 3) := by decide +kernel
theorem dX9_laysParts_65 : decode cX9_laysParts 65 = .ok (.iload_n 2, 1) := by decide +kernel
theorem dX9_laysParts_66 : decode cX9_laysParts 66 = .ok (.iaload, 1) := by decide +kernel
theorem dX9_laysParts_67 : decode cX9_laysParts 67 = .ok (.iastore, 1) := by decide +kernel
theorem dX9_laysParts_68 : decode cX9_laysParts 68 = .ok (.iinc 3 1, 3) := by decide +kernel
theorem dX9_laysParts_71 : decode cX9_laysParts 71 = .ok (.goto (-37), 3) := by decide +kernel
theorem dX9_laysParts_74 : decode cX9_laysParts 74 = .ok (.iinc 2 1, 3) := by decide +kernel
theorem dX9_laysParts_77 : decode cX9_laysParts 77 = .ok (.goto (-50), 3) := by decide +kernel
theorem dX9_laysParts_80 : decode cX9_laysParts 80 = .ok (.return_, 1) := by decide +kernel
theorem dX9_joinsOf_0 : decode cX9_joinsOf 0 = .ok (.iconst 0, 1) := by decide +kernel
theorem dX9_joinsOf_1 : decode cX9_joinsOf 1 = .ok (.istore_n 2, 1) := by decide +kernel
theorem dX9_joinsOf_2 : decode cX9_joinsOf 2 = .ok (.iload_n 2, 1) := by decide +kernel
theorem dX9_joinsOf_3 : decode cX9_joinsOf 3 = .ok (.aload_n 0, 1) := by decide +kernel
theorem dX9_joinsOf_4 : decode cX9_joinsOf 4 = .ok (.invokevirtual 119, 3) := by decide +kernel
theorem dX9_joinsOf_7 : decode cX9_joinsOf 7 = .ok (.if_icmp .ge 30, 3) := by decide +kernel
theorem dX9_joinsOf_10 : decode cX9_joinsOf 10 = .ok (.aload_n 0, 1) := by decide +kernel
theorem dX9_joinsOf_11 : decode cX9_joinsOf 11 = .ok (.getfield 29, 3) := by decide +kernel
theorem dX9_joinsOf_14 : decode cX9_joinsOf 14 = .ok (.iload_n 2, 1) := by decide +kernel
theorem dX9_joinsOf_15 : decode cX9_joinsOf 15 = .ok (.iaload, 1) := by decide +kernel
theorem dX9_joinsOf_16 : decode cX9_joinsOf 16 = .ok (.aload_n 0, 1) := by decide +kernel
theorem dX9_joinsOf_17 : decode cX9_joinsOf 17 = .ok (.iload_n 1, 1) := by decide +kernel
theorem dX9_joinsOf_18 : decode cX9_joinsOf 18 = .ok (.invokevirtual 242, 3) := by decide +kernel
theorem dX9_joinsOf_21 : decode cX9_joinsOf 21 = .ok (.aload_n 0, 1) := by decide +kernel
theorem dX9_joinsOf_22 : decode cX9_joinsOf 22 = .ok (.iload_n 1, 1) := by decide +kernel
theorem dX9_joinsOf_23 : decode cX9_joinsOf 23 = .ok (.invokevirtual 242, 3) := by decide +kernel
theorem dX9_joinsOf_26 : decode cX9_joinsOf 26 = .ok (.imul, 1) := by decide +kernel
theorem dX9_joinsOf_27 : decode cX9_joinsOf 27 = .ok (.if_icmp .gt 10, 3) := by decide +kernel
theorem dX9_joinsOf_30 : decode cX9_joinsOf 30 = .ok (.iload_n 2, 1) := by decide +kernel
theorem dX9_joinsOf_31 : decode cX9_joinsOf 31 = .ok (.iconst 1, 1) := by decide +kernel
theorem dX9_joinsOf_32 : decode cX9_joinsOf 32 = .ok (.iadd, 1) := by decide +kernel
theorem dX9_joinsOf_33 : decode cX9_joinsOf 33 = .ok (.istore_n 2, 1) := by decide +kernel
theorem dX9_joinsOf_34 : decode cX9_joinsOf 34 = .ok (.goto (-32), 3) := by decide +kernel
theorem dX9_joinsOf_37 : decode cX9_joinsOf 37 = .ok (.iload_n 2, 1) := by decide +kernel
theorem dX9_joinsOf_38 : decode cX9_joinsOf 38 = .ok (.ireturn, 1) := by decide +kernel
theorem dX9_laysZoom_0 : decode cX9_laysZoom 0 = .ok (.aload_n 0, 1) := by decide +kernel
theorem dX9_laysZoom_1 : decode cX9_laysZoom 1 = .ok (.aload_n 0, 1) := by decide +kernel
theorem dX9_laysZoom_2 : decode cX9_laysZoom 2 = .ok (.iload_n 1, 1) := by decide +kernel
theorem dX9_laysZoom_3 : decode cX9_laysZoom 3 = .ok (.invokevirtual 245, 3) := by decide +kernel
theorem dX9_laysZoom_6 : decode cX9_laysZoom 6 = .ok (.invokevirtual 248, 3) := by decide +kernel
theorem dX9_laysZoom_9 : decode cX9_laysZoom 9 = .ok (.return_, 1) := by decide +kernel
theorem dX9_isFirst_0 : decode cX9_isFirst 0 = .ok (.aload_n 0, 1) := by decide +kernel
theorem dX9_isFirst_1 : decode cX9_isFirst 1 = .ok (.aload_n 0, 1) := by decide +kernel
theorem dX9_isFirst_2 : decode cX9_isFirst 2 = .ok (.getfield 68, 3) := by decide +kernel
theorem dX9_isFirst_5 : decode cX9_isFirst 5 = .ok (.iload_n 1, 1) := by decide +kernel
theorem dX9_isFirst_6 : decode cX9_isFirst 6 = .ok (.iaload, 1) := by decide +kernel
theorem dX9_isFirst_7 : decode cX9_isFirst 7 = .ok (.invokevirtual 251, 3) := by decide +kernel
theorem dX9_isFirst_10 : decode cX9_isFirst 10 = .ok (.iload_n 1, 1) := by decide +kernel
theorem dX9_isFirst_11 : decode cX9_isFirst 11 = .ok (.if_icmp .ne 7, 3) := by decide +kernel
theorem dX9_isFirst_14 : decode cX9_isFirst 14 = .ok (.iconst 1, 1) := by decide +kernel
theorem dX9_isFirst_15 : decode cX9_isFirst 15 = .ok (.goto 4, 3) := by decide +kernel
theorem dX9_isFirst_18 : decode cX9_isFirst 18 = .ok (.iconst 0, 1) := by decide +kernel
theorem dX9_isFirst_19 : decode cX9_isFirst 19 = .ok (.ireturn, 1) := by decide +kernel
theorem dX9_partsNow_0 : decode cX9_partsNow 0 = .ok (.iconst 0, 1) := by decide +kernel
theorem dX9_partsNow_1 : decode cX9_partsNow 1 = .ok (.istore_n 1, 1) := by decide +kernel
theorem dX9_partsNow_2 : decode cX9_partsNow 2 = .ok (.iconst 0, 1) := by decide +kernel
theorem dX9_partsNow_3 : decode cX9_partsNow 3 = .ok (.istore_n 2, 1) := by decide +kernel
theorem dX9_partsNow_4 : decode cX9_partsNow 4 = .ok (.iload_n 2, 1) := by decide +kernel
theorem dX9_partsNow_5 : decode cX9_partsNow 5 = .ok (.aload_n 0, 1) := by decide +kernel
theorem dX9_partsNow_6 : decode cX9_partsNow 6 = .ok (.getfield 98, 3) := by decide +kernel
theorem dX9_partsNow_9 : decode cX9_partsNow 9 = .ok (.if_icmp .ge 21, 3) := by decide +kernel
theorem dX9_partsNow_12 : decode cX9_partsNow 12 = .ok (.aload_n 0, 1) := by decide +kernel
theorem dX9_partsNow_13 : decode cX9_partsNow 13 = .ok (.iload_n 2, 1) := by decide +kernel
theorem dX9_partsNow_14 : decode cX9_partsNow 14 = .ok (.invokevirtual 254, 3) := by decide +kernel
theorem dX9_partsNow_17 : decode cX9_partsNow 17 = .ok (.ifCond .eq 7, 3) := by decide +kernel
theorem dX9_partsNow_20 : decode cX9_partsNow 20 = .ok (.iload_n 1, 1) := by decide +kernel
theorem dX9_partsNow_21 : decode cX9_partsNow 21 = .ok (.iconst 1, 1) := by decide +kernel
theorem dX9_partsNow_22 : decode cX9_partsNow 22 = .ok (.iadd, 1) := by decide +kernel
theorem dX9_partsNow_23 : decode cX9_partsNow 23 = .ok (.istore_n 1, 1) := by decide +kernel
theorem dX9_partsNow_24 : decode cX9_partsNow 24 = .ok (.iinc 2 1, 3) := by decide +kernel
theorem dX9_partsNow_27 : decode cX9_partsNow 27 = .ok (.goto (-23), 3) := by decide +kernel
theorem dX9_partsNow_30 : decode cX9_partsNow 30 = .ok (.iload_n 1, 1) := by decide +kernel
theorem dX9_partsNow_31 : decode cX9_partsNow 31 = .ok (.ireturn, 1) := by decide +kernel
theorem dX9_groupSet_0 : decode cX9_groupSet 0 = .ok (.aload_n 0, 1) := by decide +kernel
theorem dX9_groupSet_1 : decode cX9_groupSet 1 = .ok (.iload_n 1, 1) := by decide +kernel
theorem dX9_groupSet_2 : decode cX9_groupSet 2 = .ok (.invokevirtual 257, 3) := by decide +kernel
theorem dX9_groupSet_5 : decode cX9_groupSet 5 = .ok (.ifCond .ne 5, 3) := by decide +kernel
theorem dX9_groupSet_8 : decode cX9_groupSet 8 = .ok (.iconst 0, 1) := by decide +kernel
theorem dX9_groupSet_9 : decode cX9_groupSet 9 = .ok (.ireturn, 1) := by decide +kernel
theorem dX9_groupSet_10 : decode cX9_groupSet 10 = .ok (.aload_n 0, 1) := by decide +kernel
theorem dX9_groupSet_11 : decode cX9_groupSet 11 = .ok (.iload_n 1, 1) := by decide +kernel
theorem dX9_groupSet_12 : decode cX9_groupSet 12 = .ok (.invokevirtual 260, 3) := by decide +kernel
theorem dX9_groupSet_15 : decode cX9_groupSet 15 = .ok (.iload_n 2, 1) := by decide +kernel
theorem dX9_groupSet_16 : decode cX9_groupSet 16 = .ok (.istore_n 3, 1) := by decide +kernel
theorem dX9_groupSet_17 : decode cX9_groupSet 17 = .ok (.iconst 0, 1) := by decide +kernel
theorem dX9_groupSet_18 : decode cX9_groupSet 18 = .ok (.istore 4, 2) := by decide +kernel
theorem dX9_groupSet_20 : decode cX9_groupSet 20 = .ok (.iload 4, 2) := by decide +kernel
theorem dX9_groupSet_22 : decode cX9_groupSet 22 = .ok (.aload_n 0, 1) := by decide +kernel
theorem dX9_groupSet_23 : decode cX9_groupSet 23 = .ok (.getfield 98, 3) := by decide +kernel
theorem dX9_groupSet_26 : decode cX9_groupSet 26 = .ok (.if_icmp .ge 37, 3) := by decide +kernel
theorem dX9_groupSet_29 : decode cX9_groupSet 29 = .ok (.aload_n 0, 1) := by decide +kernel
theorem dX9_groupSet_30 : decode cX9_groupSet 30 = .ok (.iload 4, 2) := by decide +kernel
theorem dX9_groupSet_32 : decode cX9_groupSet 32 = .ok (.invokevirtual 254, 3) := by decide +kernel
theorem dX9_groupSet_35 : decode cX9_groupSet 35 = .ok (.ifCond .ne 6, 3) := by decide +kernel
theorem dX9_groupSet_38 : decode cX9_groupSet 38 = .ok (.goto 19, 3) := by decide +kernel
theorem dX9_groupSet_41 : decode cX9_groupSet 41 = .ok (.iload_n 3, 1) := by decide +kernel
theorem dX9_groupSet_42 : decode cX9_groupSet 42 = .ok (.ifCond .ne 11, 3) := by decide +kernel
theorem dX9_groupSet_45 : decode cX9_groupSet 45 = .ok (.aload_n 0, 1) := by decide +kernel
theorem dX9_groupSet_46 : decode cX9_groupSet 46 = .ok (.getfield 68, 3) := by decide +kernel
theorem dX9_groupSet_49 : decode cX9_groupSet 49 = .ok (.iload 4, 2) := by decide +kernel
theorem dX9_groupSet_51 : decode cX9_groupSet 51 = .ok (.iaload, 1) := by decide +kernel
theorem dX9_groupSet_52 : decode cX9_groupSet 52 = .ok (.ireturn, 1) := by decide +kernel
theorem dX9_groupSet_53 : decode cX9_groupSet 53 = .ok (.iload_n 3, 1) := by decide +kernel
theorem dX9_groupSet_54 : decode cX9_groupSet 54 = .ok (.iconst 1, 1) := by decide +kernel
theorem dX9_groupSet_55 : decode cX9_groupSet 55 = .ok (.isub, 1) := by decide +kernel
theorem dX9_groupSet_56 : decode cX9_groupSet 56 = .ok (.istore_n 3, 1) := by decide +kernel
theorem dX9_groupSet_57 : decode cX9_groupSet 57 = .ok (.iinc 4 1, 3) := by decide +kernel
theorem dX9_groupSet_60 : decode cX9_groupSet 60 = .ok (.goto (-40), 3) := by decide +kernel
theorem dX9_groupSet_63 : decode cX9_groupSet 63 = .ok (.iconst 0, 1) := by decide +kernel
theorem dX9_groupSet_64 : decode cX9_groupSet 64 = .ok (.ireturn, 1) := by decide +kernel
theorem dX9_numberOf_0 : decode cX9_numberOf 0 = .ok (.iconst 0, 1) := by decide +kernel
theorem dX9_numberOf_1 : decode cX9_numberOf 1 = .ok (.istore_n 2, 1) := by decide +kernel
theorem dX9_numberOf_2 : decode cX9_numberOf 2 = .ok (.iconst 0, 1) := by decide +kernel
theorem dX9_numberOf_3 : decode cX9_numberOf 3 = .ok (.istore_n 3, 1) := by decide +kernel
theorem dX9_numberOf_4 : decode cX9_numberOf 4 = .ok (.iload_n 3, 1) := by decide +kernel
theorem dX9_numberOf_5 : decode cX9_numberOf 5 = .ok (.aload_n 0, 1) := by decide +kernel
theorem dX9_numberOf_6 : decode cX9_numberOf 6 = .ok (.aload_n 0, 1) := by decide +kernel
theorem dX9_numberOf_7 : decode cX9_numberOf 7 = .ok (.getfield 68, 3) := by decide +kernel
theorem dX9_numberOf_10 : decode cX9_numberOf 10 = .ok (.iload_n 1, 1) := by decide +kernel
theorem dX9_numberOf_11 : decode cX9_numberOf 11 = .ok (.iaload, 1) := by decide +kernel
theorem dX9_numberOf_12 : decode cX9_numberOf 12 = .ok (.invokevirtual 251, 3) := by decide +kernel
theorem dX9_numberOf_15 : decode cX9_numberOf 15 = .ok (.if_icmp .ge 21, 3) := by decide +kernel
theorem dX9_numberOf_18 : decode cX9_numberOf 18 = .ok (.aload_n 0, 1) := by decide +kernel
theorem dX9_numberOf_19 : decode cX9_numberOf 19 = .ok (.iload_n 3, 1) := by decide +kernel
theorem dX9_numberOf_20 : decode cX9_numberOf 20 = .ok (.invokevirtual 254, 3) := by decide +kernel
theorem dX9_numberOf_23 : decode cX9_numberOf 23 = .ok (.ifCond .eq 7, 3) := by decide +kernel
theorem dX9_numberOf_26 : decode cX9_numberOf 26 = .ok (.iload_n 2, 1) := by decide +kernel
theorem dX9_numberOf_27 : decode cX9_numberOf 27 = .ok (.iconst 1, 1) := by decide +kernel
theorem dX9_numberOf_28 : decode cX9_numberOf 28 = .ok (.iadd, 1) := by decide +kernel
theorem dX9_numberOf_29 : decode cX9_numberOf 29 = .ok (.istore_n 2, 1) := by decide +kernel
theorem dX9_numberOf_30 : decode cX9_numberOf 30 = .ok (.iinc 3 1, 3) := by decide +kernel
theorem dX9_numberOf_33 : decode cX9_numberOf 33 = .ok (.goto (-29), 3) := by decide +kernel
theorem dX9_numberOf_36 : decode cX9_numberOf 36 = .ok (.iload_n 2, 1) := by decide +kernel
theorem dX9_numberOf_37 : decode cX9_numberOf 37 = .ok (.ireturn, 1) := by decide +kernel
theorem dX9_zoom_0 : decode cX9_zoom 0 = .ok (.aload_n 0, 1) := by decide +kernel
theorem dX9_zoom_1 : decode cX9_zoom 1 = .ok (.iconst 0, 1) := by decide +kernel
theorem dX9_zoom_2 : decode cX9_zoom 2 = .ok (.putfield 95, 3) := by decide +kernel
theorem dX9_zoom_5 : decode cX9_zoom 5 = .ok (.aload_n 0, 1) := by decide +kernel
theorem dX9_zoom_6 : decode cX9_zoom 6 = .ok (.iload_n 1, 1) := by decide +kernel
theorem dX9_zoom_7 : decode cX9_zoom 7 = .ok (.invokevirtual 182, 3) := by decide +kernel
theorem dX9_zoom_10 : decode cX9_zoom 10 = .ok (.ifCond .eq 16, 3) := by decide +kernel
theorem dX9_zoom_13 : decode cX9_zoom 13 = .ok (.aload_n 0, 1) := by decide +kernel
theorem dX9_zoom_14 : decode cX9_zoom 14 = .ok (.iload_n 2, 1) := by decide +kernel
theorem dX9_zoom_15 : decode cX9_zoom 15 = .ok (.invokevirtual 182, 3) := by decide +kernel
theorem dX9_zoom_18 : decode cX9_zoom 18 = .ok (.ifCond .eq 8, 3) := by decide +kernel
theorem dX9_zoom_21 : decode cX9_zoom 21 = .ok (.iload_n 1, 1) := by decide +kernel
theorem dX9_zoom_22 : decode cX9_zoom 22 = .ok (.iload_n 2, 1) := by decide +kernel
theorem dX9_zoom_23 : decode cX9_zoom 23 = .ok (.if_icmp .ne 5, 3) := by decide +kernel
theorem dX9_zoom_26 : decode cX9_zoom 26 = .ok (.iconst (-1), 1) := by decide +kernel
theorem dX9_zoom_27 : decode cX9_zoom 27 = .ok (.ireturn, 1) := by decide +kernel
theorem dX9_zoom_28 : decode cX9_zoom 28 = .ok (.bipush 10, 2) := by decide +kernel
theorem dX9_zoom_30 : decode cX9_zoom 30 = .ok (.istore_n 3, 1) := by decide +kernel
theorem dX9_zoom_31 : decode cX9_zoom 31 = .ok (.iload_n 3, 1) := by decide +kernel
theorem dX9_zoom_32 : decode cX9_zoom 32 = .ok (.ifCond .lt 30, 3) := by decide +kernel
theorem dX9_zoom_35 : decode cX9_zoom 35 = .ok (.aload_n 0, 1) := by decide +kernel
theorem dX9_zoom_36 : decode cX9_zoom 36 = .ok (.iload_n 3, 1) := by decide +kernel
theorem dX9_zoom_37 : decode cX9_zoom 37 = .ok (.invokevirtual 260, 3) := by decide +kernel
theorem dX9_zoom_40 : decode cX9_zoom 40 = .ok (.aload_n 0, 1) := by decide +kernel
theorem dX9_zoom_41 : decode cX9_zoom 41 = .ok (.aload_n 0, 1) := by decide +kernel
theorem dX9_zoom_42 : decode cX9_zoom 42 = .ok (.getfield 68, 3) := by decide +kernel
theorem dX9_zoom_45 : decode cX9_zoom 45 = .ok (.iload_n 1, 1) := by decide +kernel
theorem dX9_zoom_46 : decode cX9_zoom 46 = .ok (.iaload, 1) := by decide +kernel
theorem dX9_zoom_47 : decode cX9_zoom 47 = .ok (.iload_n 2, 1) := by decide +kernel
theorem dX9_zoom_48 : decode cX9_zoom 48 = .ok (.invokevirtual 123, 3) := by decide +kernel
theorem dX9_zoom_51 : decode cX9_zoom 51 = .ok (.ifCond .eq 5, 3) := by decide +kernel
theorem dX9_zoom_54 : decode cX9_zoom 54 = .ok (.iload_n 3, 1) := by decide +kernel
theorem dX9_zoom_55 : decode cX9_zoom 55 = .ok (.ireturn, 1) := by decide +kernel
theorem dX9_zoom_56 : decode cX9_zoom 56 = .ok (.iinc 3 (-1), 3) := by decide +kernel
theorem dX9_zoom_59 : decode cX9_zoom 59 = .ok (.goto (-28), 3) := by decide +kernel
theorem dX9_zoom_62 : decode cX9_zoom 62 = .ok (.iconst (-1), 1) := by decide +kernel
theorem dX9_zoom_63 : decode cX9_zoom 63 = .ok (.ireturn, 1) := by decide +kernel
theorem dX9_groups_0 : decode cX9_groups 0 = .ok (.aload_n 0, 1) := by decide +kernel
theorem dX9_groups_1 : decode cX9_groups 1 = .ok (.iconst 0, 1) := by decide +kernel
theorem dX9_groups_2 : decode cX9_groups 2 = .ok (.putfield 95, 3) := by decide +kernel
theorem dX9_groups_5 : decode cX9_groups 5 = .ok (.aload_n 0, 1) := by decide +kernel
theorem dX9_groups_6 : decode cX9_groups 6 = .ok (.iload_n 1, 1) := by decide +kernel
theorem dX9_groups_7 : decode cX9_groups 7 = .ok (.invokevirtual 257, 3) := by decide +kernel
theorem dX9_groups_10 : decode cX9_groups 10 = .ok (.ifCond .ne 5, 3) := by decide +kernel
theorem dX9_groups_13 : decode cX9_groups 13 = .ok (.iconst (-1), 1) := by decide +kernel
theorem dX9_groups_14 : decode cX9_groups 14 = .ok (.ireturn, 1) := by decide +kernel
theorem dX9_groups_15 : decode cX9_groups 15 = .ok (.aload_n 0, 1) := by decide +kernel
theorem dX9_groups_16 : decode cX9_groups 16 = .ok (.iload_n 1, 1) := by decide +kernel
theorem dX9_groups_17 : decode cX9_groups 17 = .ok (.invokevirtual 260, 3) := by decide +kernel
theorem dX9_groups_20 : decode cX9_groups 20 = .ok (.aload_n 0, 1) := by decide +kernel
theorem dX9_groups_21 : decode cX9_groups 21 = .ok (.invokevirtual 263, 3) := by decide +kernel
theorem dX9_groups_24 : decode cX9_groups 24 = .ok (.ireturn, 1) := by decide +kernel
theorem dX9_groupOf_0 : decode cX9_groupOf 0 = .ok (.aload_n 0, 1) := by decide +kernel
theorem dX9_groupOf_1 : decode cX9_groupOf 1 = .ok (.iconst 0, 1) := by decide +kernel
theorem dX9_groupOf_2 : decode cX9_groupOf 2 = .ok (.putfield 95, 3) := by decide +kernel
theorem dX9_groupOf_5 : decode cX9_groupOf 5 = .ok (.aload_n 0, 1) := by decide +kernel
theorem dX9_groupOf_6 : decode cX9_groupOf 6 = .ok (.iload_n 1, 1) := by decide +kernel
theorem dX9_groupOf_7 : decode cX9_groupOf 7 = .ok (.invokevirtual 257, 3) := by decide +kernel
theorem dX9_groupOf_10 : decode cX9_groupOf 10 = .ok (.ifCond .eq 11, 3) := by decide +kernel
theorem dX9_groupOf_13 : decode cX9_groupOf 13 = .ok (.aload_n 0, 1) := by decide +kernel
theorem dX9_groupOf_14 : decode cX9_groupOf 14 = .ok (.iload_n 2, 1) := by decide +kernel
theorem dX9_groupOf_15 : decode cX9_groupOf 15 = .ok (.invokevirtual 182, 3) := by decide +kernel
theorem dX9_groupOf_18 : decode cX9_groupOf 18 = .ok (.ifCond .ne 5, 3) := by decide +kernel
theorem dX9_groupOf_21 : decode cX9_groupOf 21 = .ok (.iconst (-1), 1) := by decide +kernel
theorem dX9_groupOf_22 : decode cX9_groupOf 22 = .ok (.ireturn, 1) := by decide +kernel
theorem dX9_groupOf_23 : decode cX9_groupOf 23 = .ok (.aload_n 0, 1) := by decide +kernel
theorem dX9_groupOf_24 : decode cX9_groupOf 24 = .ok (.iload_n 1, 1) := by decide +kernel
theorem dX9_groupOf_25 : decode cX9_groupOf 25 = .ok (.invokevirtual 260, 3) := by decide +kernel
theorem dX9_groupOf_28 : decode cX9_groupOf 28 = .ok (.aload_n 0, 1) := by decide +kernel
theorem dX9_groupOf_29 : decode cX9_groupOf 29 = .ok (.iload_n 2, 1) := by decide +kernel
theorem dX9_groupOf_30 : decode cX9_groupOf 30 = .ok (.invokevirtual 266, 3) := by decide +kernel
theorem dX9_groupOf_33 : decode cX9_groupOf 33 = .ok (.ireturn, 1) := by decide +kernel
theorem dX9_centre_0 : decode cX9_centre 0 = .ok (.iconst 0, 1) := by decide +kernel
theorem dX9_centre_1 : decode cX9_centre 1 = .ok (.istore_n 3, 1) := by decide +kernel
theorem dX9_centre_2 : decode cX9_centre 2 = .ok (.iconst 0, 1) := by decide +kernel
theorem dX9_centre_3 : decode cX9_centre 3 = .ok (.istore 4, 2) := by decide +kernel
theorem dX9_centre_5 : decode cX9_centre 5 = .ok (.iload 4, 2) := by decide +kernel
theorem dX9_centre_7 : decode cX9_centre 7 = .ok (.aload_n 0, 1) := by decide +kernel
theorem dX9_centre_8 : decode cX9_centre 8 = .ok (.getfield 98, 3) := by decide +kernel
theorem dX9_centre_11 : decode cX9_centre 11 = .ok (.if_icmp .ge 51, 3) := by decide +kernel
theorem dX9_centre_14 : decode cX9_centre 14 = .ok (.aload_n 0, 1) := by decide +kernel
theorem dX9_centre_15 : decode cX9_centre 15 = .ok (.iload_n 1, 1) := by decide +kernel
theorem dX9_centre_16 : decode cX9_centre 16 = .ok (.iload 4, 2) := by decide +kernel
theorem dX9_centre_18 : decode cX9_centre 18 = .ok (.invokevirtual 123, 3) := by decide +kernel
theorem dX9_centre_21 : decode cX9_centre 21 = .ok (.ifCond .eq 35, 3) := by decide +kernel
theorem dX9_centre_24 : decode cX9_centre 24 = .ok (.iload_n 3, 1) := by decide +kernel
theorem dX9_centre_25 : decode cX9_centre 25 = .ok (.aload_n 0, 1) := by decide +kernel
theorem dX9_centre_26 : decode cX9_centre 26 = .ok (.getfield 16, 3) := by decide +kernel
theorem dX9_centre_29 : decode cX9_centre 29 = .ok (.iload 4, 2) := by decide +kernel
theorem dX9_centre_31 : decode cX9_centre 31 = .ok (.iaload, 1) := by decide +kernel
theorem dX9_centre_32 : decode cX9_centre 32 = .ok (.iload_n 2, 1) := by decide +kernel
theorem dX9_centre_33 : decode cX9_centre 33 = .ok (.ifCond .eq 13, 3) := by decide +kernel
theorem dX9_centre_36 : decode cX9_centre 36 = .ok (.aload_n 0, 1) := by decide +kernel
theorem dX9_centre_37 : decode cX9_centre 37 = .ok (.getfield 7, 3) := by decide +kernel
theorem dX9_centre_40 : decode cX9_centre 40 = .ok (.iload 4, 2) := by decide +kernel
theorem dX9_centre_42 : decode cX9_centre 42 = .ok (.iaload, 1) := by decide +kernel
theorem dX9_centre_43 : decode cX9_centre 43 = .ok (.goto 10, 3) := by decide +kernel
theorem dX9_centre_46 : decode cX9_centre 46 = .ok (.aload_n 0, 1) := by decide +kernel
theorem dX9_centre_47 : decode cX9_centre 47 = .ok (.getfield 13, 3) := by decide +kernel
theorem dX9_centre_50 : decode cX9_centre 50 = .ok (.iload 4, 2) := by decide +kernel
theorem dX9_centre_52 : decode cX9_centre 52 = .ok (.iaload, 1) := by decide +kernel
theorem dX9_centre_53 : decode cX9_centre 53 = .ok (.imul, 1) := by decide +kernel
theorem dX9_centre_54 : decode cX9_centre 54 = .ok (.iadd, 1) := by decide +kernel
theorem dX9_centre_55 : decode cX9_centre 55 = .ok (.istore_n 3, 1) := by decide +kernel
theorem dX9_centre_56 : decode cX9_centre 56 = .ok (.iinc 4 1, 3) := by decide +kernel
theorem dX9_centre_59 : decode cX9_centre 59 = .ok (.goto (-54), 3) := by decide +kernel
theorem dX9_centre_62 : decode cX9_centre 62 = .ok (.iload_n 3, 1) := by decide +kernel
theorem dX9_centre_63 : decode cX9_centre 63 = .ok (.aload_n 0, 1) := by decide +kernel
theorem dX9_centre_64 : decode cX9_centre 64 = .ok (.iload_n 1, 1) := by decide +kernel
theorem dX9_centre_65 : decode cX9_centre 65 = .ok (.invokevirtual 215, 3) := by decide +kernel
theorem dX9_centre_68 : decode cX9_centre 68 = .ok (.idiv, 1) := by decide +kernel
theorem dX9_centre_69 : decode cX9_centre 69 = .ok (.ireturn, 1) := by decide +kernel
theorem dX9_bound_0 : decode cX9_bound 0 = .ok (.iconst (-1), 1) := by decide +kernel
theorem dX9_bound_1 : decode cX9_bound 1 = .ok (.istore 4, 2) := by decide +kernel
theorem dX9_bound_3 : decode cX9_bound 3 = .ok (.iconst 0, 1) := by decide +kernel
theorem dX9_bound_4 : decode cX9_bound 4 = .ok (.istore 5, 2) := by decide +kernel
theorem dX9_bound_6 : decode cX9_bound 6 = .ok (.iload 5, 2) := by decide +kernel
theorem dX9_bound_8 : decode cX9_bound 8 = .ok (.aload_n 0, 1) := by decide +kernel
theorem dX9_bound_9 : decode cX9_bound 9 = .ok (.getfield 98, 3) := by decide +kernel
theorem dX9_bound_12 : decode cX9_bound 12 = .ok (.if_icmp .ge 76, 3) := by decide +kernel
theorem dX9_bound_15 : decode cX9_bound 15 = .ok (.aload_n 0, 1) := by decide +kernel
theorem dX9_bound_16 : decode cX9_bound 16 = .ok (.iload_n 1, 1) := by decide +kernel
theorem dX9_bound_17 : decode cX9_bound 17 = .ok (.iload 5, 2) := by decide +kernel
theorem dX9_bound_19 : decode cX9_bound 19 = .ok (.invokevirtual 123, 3) := by decide +kernel
theorem dX9_bound_22 : decode cX9_bound 22 = .ok (.ifCond .ne 6, 3) := by decide +kernel
theorem dX9_bound_25 : decode cX9_bound 25 = .ok (.goto 57, 3) := by decide +kernel
theorem dX9_bound_28 : decode cX9_bound 28 = .ok (.iload_n 2, 1) := by decide +kernel
theorem dX9_bound_29 : decode cX9_bound 29 = .ok (.ifCond .eq 13, 3) := by decide +kernel
theorem dX9_bound_32 : decode cX9_bound 32 = .ok (.aload_n 0, 1) := by decide +kernel
theorem dX9_bound_33 : decode cX9_bound 33 = .ok (.getfield 7, 3) := by decide +kernel
theorem dX9_bound_36 : decode cX9_bound 36 = .ok (.iload 5, 2) := by decide +kernel
theorem dX9_bound_38 : decode cX9_bound 38 = .ok (.iaload, 1) := by decide +kernel
theorem dX9_bound_39 : decode cX9_bound 39 = .ok (.goto 10, 3) := by decide +kernel
theorem dX9_bound_42 : decode cX9_bound 42 = .ok (.aload_n 0, 1) := by decide +kernel
theorem dX9_bound_43 : decode cX9_bound 43 = .ok (.getfield 13, 3) := by decide +kernel
theorem dX9_bound_46 : decode cX9_bound 46 = .ok (.iload 5, 2) := by decide +kernel
theorem dX9_bound_48 : decode cX9_bound 48 = .ok (.iaload, 1) := by decide +kernel
theorem dX9_bound_49 : decode cX9_bound 49 = .ok (.istore 6, 2) := by decide +kernel
theorem dX9_bound_51 : decode cX9_bound 51 = .ok (.iload 4, 2) := by decide +kernel
theorem dX9_bound_53 : decode cX9_bound 53 = .ok (.iconst (-1), 1) := by decide +kernel
theorem dX9_bound_54 : decode cX9_bound 54 = .ok (.if_icmp .eq 24, 3) := by decide +kernel
theorem dX9_bound_57 : decode cX9_bound 57 = .ok (.iload_n 3, 1) := by decide +kernel
theorem dX9_bound_58 : decode cX9_bound 58 = .ok (.ifCond .eq 13, 3) := by decide +kernel
theorem dX9_bound_61 : decode cX9_bound 61 = .ok (.iload 6, 2) := by decide +kernel
theorem dX9_bound_63 : decode cX9_bound 63 = .ok (.iload 4, 2) := by decide +kernel
theorem dX9_bound_65 : decode cX9_bound 65 = .ok (.if_icmp .ge 17, 3) := by decide +kernel
theorem dX9_bound_68 : decode cX9_bound 68 = .ok (.goto 10, 3) := by decide +kernel
theorem dX9_bound_71 : decode cX9_bound 71 = .ok (.iload 6, 2) := by decide +kernel
theorem dX9_bound_73 : decode cX9_bound 73 = .ok (.iload 4, 2) := by decide +kernel
theorem dX9_bound_75 : decode cX9_bound 75 = .ok (.if_icmp .le 7, 3) := by decide +kernel
theorem dX9_bound_78 : decode cX9_bound 78 = .ok (.iload 6, 2) := by decide +kernel
theorem dX9_bound_80 : decode cX9_bound 80 = .ok (.istore 4, 2) := by decide +kernel
theorem dX9_bound_82 : decode cX9_bound 82 = .ok (.iinc 5 1, 3) := by decide +kernel
theorem dX9_bound_85 : decode cX9_bound 85 = .ok (.goto (-79), 3) := by decide +kernel
theorem dX9_bound_88 : decode cX9_bound 88 = .ok (.iload 4, 2) := by decide +kernel
theorem dX9_bound_90 : decode cX9_bound 90 = .ok (.ireturn, 1) := by decide +kernel
theorem dX9_topOf_0 : decode cX9_topOf 0 = .ok (.iconst (-1), 1) := by decide +kernel
theorem dX9_topOf_1 : decode cX9_topOf 1 = .ok (.istore_n 2, 1) := by decide +kernel
theorem dX9_topOf_2 : decode cX9_topOf 2 = .ok (.iconst 0, 1) := by decide +kernel
theorem dX9_topOf_3 : decode cX9_topOf 3 = .ok (.istore_n 3, 1) := by decide +kernel
theorem dX9_topOf_4 : decode cX9_topOf 4 = .ok (.iload_n 3, 1) := by decide +kernel
theorem dX9_topOf_5 : decode cX9_topOf 5 = .ok (.aload_n 0, 1) := by decide +kernel
theorem dX9_topOf_6 : decode cX9_topOf 6 = .ok (.getfield 98, 3) := by decide +kernel
theorem dX9_topOf_9 : decode cX9_topOf 9 = .ok (.if_icmp .ge 40, 3) := by decide +kernel
theorem dX9_topOf_12 : decode cX9_topOf 12 = .ok (.aload_n 0, 1) := by decide +kernel
theorem dX9_topOf_13 : decode cX9_topOf 13 = .ok (.iload_n 1, 1) := by decide +kernel
theorem dX9_topOf_14 : decode cX9_topOf 14 = .ok (.iload_n 3, 1) := by decide +kernel
theorem dX9_topOf_15 : decode cX9_topOf 15 = .ok (.invokevirtual 123, 3) := by decide +kernel
theorem dX9_topOf_18 : decode cX9_topOf 18 = .ok (.ifCond .eq 25, 3) := by decide +kernel
theorem dX9_topOf_21 : decode cX9_topOf 21 = .ok (.iload_n 2, 1) := by decide +kernel
theorem dX9_topOf_22 : decode cX9_topOf 22 = .ok (.iconst (-1), 1) := by decide +kernel
theorem dX9_topOf_23 : decode cX9_topOf 23 = .ok (.if_icmp .eq 18, 3) := by decide +kernel
theorem dX9_topOf_26 : decode cX9_topOf 26 = .ok (.aload_n 0, 1) := by decide +kernel
theorem dX9_topOf_27 : decode cX9_topOf 27 = .ok (.getfield 16, 3) := by decide +kernel
theorem dX9_topOf_30 : decode cX9_topOf 30 = .ok (.iload_n 3, 1) := by decide +kernel
theorem dX9_topOf_31 : decode cX9_topOf 31 = .ok (.iaload, 1) := by decide +kernel
theorem dX9_topOf_32 : decode cX9_topOf 32 = .ok (.aload_n 0, 1) := by decide +kernel
theorem dX9_topOf_33 : decode cX9_topOf 33 = .ok (.getfield 16, 3) := by decide +kernel
theorem dX9_topOf_36 : decode cX9_topOf 36 = .ok (.iload_n 2, 1) := by decide +kernel
theorem dX9_topOf_37 : decode cX9_topOf 37 = .ok (.iaload, 1) := by decide +kernel
theorem dX9_topOf_38 : decode cX9_topOf 38 = .ok (.if_icmp .le 5, 3) := by decide +kernel
theorem dX9_topOf_41 : decode cX9_topOf 41 = .ok (.iload_n 3, 1) := by decide +kernel
theorem dX9_topOf_42 : decode cX9_topOf 42 = .ok (.istore_n 2, 1) := by decide +kernel
theorem dX9_topOf_43 : decode cX9_topOf 43 = .ok (.iinc 3 1, 3) := by decide +kernel
theorem dX9_topOf_46 : decode cX9_topOf 46 = .ok (.goto (-42), 3) := by decide +kernel
theorem dX9_topOf_49 : decode cX9_topOf 49 = .ok (.iload_n 2, 1) := by decide +kernel
theorem dX9_topOf_50 : decode cX9_topOf 50 = .ok (.ireturn, 1) := by decide +kernel
theorem dX9_makerOf_0 : decode cX9_makerOf 0 = .ok (.iconst 0, 1) := by decide +kernel
theorem dX9_makerOf_1 : decode cX9_makerOf 1 = .ok (.istore_n 2, 1) := by decide +kernel
theorem dX9_makerOf_2 : decode cX9_makerOf 2 = .ok (.iload_n 2, 1) := by decide +kernel
theorem dX9_makerOf_3 : decode cX9_makerOf 3 = .ok (.aload_n 0, 1) := by decide +kernel
theorem dX9_makerOf_4 : decode cX9_makerOf 4 = .ok (.invokevirtual 119, 3) := by decide +kernel
theorem dX9_makerOf_7 : decode cX9_makerOf 7 = .ok (.if_icmp .ge 21, 3) := by decide +kernel
theorem dX9_makerOf_10 : decode cX9_makerOf 10 = .ok (.aload_n 0, 1) := by decide +kernel
theorem dX9_makerOf_11 : decode cX9_makerOf 11 = .ok (.getfield 32, 3) := by decide +kernel
theorem dX9_makerOf_14 : decode cX9_makerOf 14 = .ok (.iload_n 2, 1) := by decide +kernel
theorem dX9_makerOf_15 : decode cX9_makerOf 15 = .ok (.iaload, 1) := by decide +kernel
theorem dX9_makerOf_16 : decode cX9_makerOf 16 = .ok (.iload_n 1, 1) := by decide +kernel
theorem dX9_makerOf_17 : decode cX9_makerOf 17 = .ok (.if_icmp .ne 5, 3) := by decide +kernel
theorem dX9_makerOf_20 : decode cX9_makerOf 20 = .ok (.iload_n 2, 1) := by decide +kernel
theorem dX9_makerOf_21 : decode cX9_makerOf 21 = .ok (.ireturn, 1) := by decide +kernel
theorem dX9_makerOf_22 : decode cX9_makerOf 22 = .ok (.iinc 2 1, 3) := by decide +kernel
theorem dX9_makerOf_25 : decode cX9_makerOf 25 = .ok (.goto (-23), 3) := by decide +kernel
theorem dX9_makerOf_28 : decode cX9_makerOf 28 = .ok (.iconst (-1), 1) := by decide +kernel
theorem dX9_makerOf_29 : decode cX9_makerOf 29 = .ok (.ireturn, 1) := by decide +kernel
theorem dX9_widest_0 : decode cX9_widest 0 = .ok (.iconst 0, 1) := by decide +kernel
theorem dX9_widest_1 : decode cX9_widest 1 = .ok (.istore_n 2, 1) := by decide +kernel
theorem dX9_widest_2 : decode cX9_widest 2 = .ok (.iconst 0, 1) := by decide +kernel
theorem dX9_widest_3 : decode cX9_widest 3 = .ok (.istore_n 3, 1) := by decide +kernel
theorem dX9_widest_4 : decode cX9_widest 4 = .ok (.iload_n 3, 1) := by decide +kernel
theorem dX9_widest_5 : decode cX9_widest 5 = .ok (.aload_n 0, 1) := by decide +kernel
theorem dX9_widest_6 : decode cX9_widest 6 = .ok (.getfield 98, 3) := by decide +kernel
theorem dX9_widest_9 : decode cX9_widest 9 = .ok (.if_icmp .ge 55, 3) := by decide +kernel
theorem dX9_widest_12 : decode cX9_widest 12 = .ok (.iconst 0, 1) := by decide +kernel
theorem dX9_widest_13 : decode cX9_widest 13 = .ok (.istore 4, 2) := by decide +kernel
theorem dX9_widest_15 : decode cX9_widest 15 = .ok (.iload 4, 2) := by decide +kernel
theorem dX9_widest_17 : decode cX9_widest 17 = .ok (.iload_n 3, 1) := by decide +kernel
theorem dX9_widest_18 : decode cX9_widest 18 = .ok (.if_icmp .ge 40, 3) := by decide +kernel
theorem dX9_widest_21 : decode cX9_widest 21 = .ok (.aload_n 0, 1) := by decide +kernel
theorem dX9_widest_22 : decode cX9_widest 22 = .ok (.iload_n 1, 1) := by decide +kernel
theorem dX9_widest_23 : decode cX9_widest 23 = .ok (.iload_n 3, 1) := by decide +kernel
theorem dX9_widest_24 : decode cX9_widest 24 = .ok (.invokevirtual 123, 3) := by decide +kernel
theorem dX9_widest_27 : decode cX9_widest 27 = .ok (.ifCond .eq 25, 3) := by decide +kernel
theorem dX9_widest_30 : decode cX9_widest 30 = .ok (.aload_n 0, 1) := by decide +kernel
theorem dX9_widest_31 : decode cX9_widest 31 = .ok (.iload_n 1, 1) := by decide +kernel
theorem dX9_widest_32 : decode cX9_widest 32 = .ok (.iload 4, 2) := by decide +kernel
theorem dX9_widest_34 : decode cX9_widest 34 = .ok (.invokevirtual 123, 3) := by decide +kernel
theorem dX9_widest_37 : decode cX9_widest 37 = .ok (.ifCond .eq 15, 3) := by decide +kernel
theorem dX9_widest_40 : decode cX9_widest 40 = .ok (.iload_n 2, 1) := by decide +kernel
theorem dX9_widest_41 : decode cX9_widest 41 = .ok (.aload_n 0, 1) := by decide +kernel
theorem dX9_widest_42 : decode cX9_widest 42 = .ok (.iload_n 3, 1) := by decide +kernel
theorem dX9_widest_43 : decode cX9_widest 43 = .ok (.iload 4, 2) := by decide +kernel
theorem dX9_widest_45 : decode cX9_widest 45 = .ok (.invokevirtual 107, 3) := by decide +kernel
theorem dX9_widest_48 : decode cX9_widest 48 = .ok (.invokestatic 116, 3) := by decide +kernel
theorem dX9_widest_51 : decode cX9_widest 51 = .ok (.istore_n 2, 1) := by decide +kernel
theorem dX9_widest_52 : decode cX9_widest 52 = .ok (.iinc 4 1, 3) := by decide +kernel
theorem dX9_widest_55 : decode cX9_widest 55 = .ok (.goto (-40), 3) := by decide +kernel
theorem dX9_widest_58 : decode cX9_widest 58 = .ok (.iinc 3 1, 3) := by decide +kernel
theorem dX9_widest_61 : decode cX9_widest 61 = .ok (.goto (-57), 3) := by decide +kernel
theorem dX9_widest_64 : decode cX9_widest 64 = .ok (.iload_n 2, 1) := by decide +kernel
theorem dX9_widest_65 : decode cX9_widest 65 = .ok (.ireturn, 1) := by decide +kernel
theorem dX9_splitsInto_0 : decode cX9_splitsInto 0 = .ok (.iload_n 1, 1) := by decide +kernel
theorem dX9_splitsInto_1 : decode cX9_splitsInto 1 = .ok (.bipush 10, 2) := by decide +kernel
theorem dX9_splitsInto_3 : decode cX9_splitsInto 3 = .ok (.if_icmp .ne 5, 3) := by decide +kernel
theorem dX9_splitsInto_6 : decode cX9_splitsInto 6 = .ok (.iconst 1, 1) := by decide +kernel
theorem dX9_splitsInto_7 : decode cX9_splitsInto 7 = .ok (.ireturn, 1) := by decide +kernel
theorem dX9_splitsInto_8 : decode cX9_splitsInto 8 = .ok (.aload_n 0, 1) := by decide +kernel
theorem dX9_splitsInto_9 : decode cX9_splitsInto 9 = .ok (.iload_n 1, 1) := by decide +kernel
theorem dX9_splitsInto_10 : decode cX9_splitsInto 10 = .ok (.iconst 1, 1) := by decide +kernel
theorem dX9_splitsInto_11 : decode cX9_splitsInto 11 = .ok (.iadd, 1) := by decide +kernel
theorem dX9_splitsInto_12 : decode cX9_splitsInto 12 = .ok (.invokevirtual 260, 3) := by decide +kernel
theorem dX9_splitsInto_15 : decode cX9_splitsInto 15 = .ok (.iconst 0, 1) := by decide +kernel
theorem dX9_splitsInto_16 : decode cX9_splitsInto 16 = .ok (.istore_n 3, 1) := by decide +kernel
theorem dX9_splitsInto_17 : decode cX9_splitsInto 17 = .ok (.iconst 0, 1) := by decide +kernel
theorem dX9_splitsInto_18 : decode cX9_splitsInto 18 = .ok (.istore 4, 2) := by decide +kernel
theorem dX9_splitsInto_20 : decode cX9_splitsInto 20 = .ok (.iload 4, 2) := by decide +kernel
theorem dX9_splitsInto_22 : decode cX9_splitsInto 22 = .ok (.aload_n 0, 1) := by decide +kernel
theorem dX9_splitsInto_23 : decode cX9_splitsInto 23 = .ok (.getfield 98, 3) := by decide +kernel
theorem dX9_splitsInto_26 : decode cX9_splitsInto 26 = .ok (.if_icmp .ge 32, 3) := by decide +kernel
theorem dX9_splitsInto_29 : decode cX9_splitsInto 29 = .ok (.aload_n 0, 1) := by decide +kernel
theorem dX9_splitsInto_30 : decode cX9_splitsInto 30 = .ok (.iload_n 2, 1) := by decide +kernel
theorem dX9_splitsInto_31 : decode cX9_splitsInto 31 = .ok (.iload 4, 2) := by decide +kernel
theorem dX9_splitsInto_33 : decode cX9_splitsInto 33 = .ok (.invokevirtual 123, 3) := by decide +kernel
theorem dX9_splitsInto_36 : decode cX9_splitsInto 36 = .ok (.ifCond .eq 16, 3) := by decide +kernel
theorem dX9_splitsInto_39 : decode cX9_splitsInto 39 = .ok (.aload_n 0, 1) := by decide +kernel
theorem dX9_splitsInto_40 : decode cX9_splitsInto 40 = .ok (.iload 4, 2) := by decide +kernel
theorem dX9_splitsInto_42 : decode cX9_splitsInto 42 = .ok (.invokevirtual 254, 3) := by decide +kernel
theorem dX9_splitsInto_45 : decode cX9_splitsInto 45 = .ok (.ifCond .eq 7, 3) := by decide +kernel
theorem dX9_splitsInto_48 : decode cX9_splitsInto 48 = .ok (.iload_n 3, 1) := by decide +kernel
theorem dX9_splitsInto_49 : decode cX9_splitsInto 49 = .ok (.iconst 1, 1) := by decide +kernel
theorem dX9_splitsInto_50 : decode cX9_splitsInto 50 = .ok (.iadd, 1) := by decide +kernel
theorem dX9_splitsInto_51 : decode cX9_splitsInto 51 = .ok (.istore_n 3, 1) := by decide +kernel
theorem dX9_splitsInto_52 : decode cX9_splitsInto 52 = .ok (.iinc 4 1, 3) := by decide +kernel
theorem dX9_splitsInto_55 : decode cX9_splitsInto 55 = .ok (.goto (-35), 3) := by decide +kernel
theorem dX9_splitsInto_58 : decode cX9_splitsInto 58 = .ok (.iload_n 3, 1) := by decide +kernel
theorem dX9_splitsInto_59 : decode cX9_splitsInto 59 = .ok (.ireturn, 1) := by decide +kernel
theorem dX9_group_0 : decode cX9_group 0 = .ok (.aload_n 0, 1) := by decide +kernel
theorem dX9_group_1 : decode cX9_group 1 = .ok (.iconst 0, 1) := by decide +kernel
theorem dX9_group_2 : decode cX9_group 2 = .ok (.putfield 95, 3) := by decide +kernel
theorem dX9_group_5 : decode cX9_group 5 = .ok (.aload_n 0, 1) := by decide +kernel
theorem dX9_group_6 : decode cX9_group 6 = .ok (.iload_n 1, 1) := by decide +kernel
theorem dX9_group_7 : decode cX9_group 7 = .ok (.iload_n 2, 1) := by decide +kernel
theorem dX9_group_8 : decode cX9_group 8 = .ok (.invokevirtual 269, 3) := by decide +kernel
theorem dX9_group_11 : decode cX9_group 11 = .ok (.istore 4, 2) := by decide +kernel
theorem dX9_group_13 : decode cX9_group 13 = .ok (.iload 4, 2) := by decide +kernel
theorem dX9_group_15 : decode cX9_group 15 = .ok (.ifCond .ne 5, 3) := by decide +kernel
theorem dX9_group_18 : decode cX9_group 18 = .ok (.iconst (-1), 1) := by decide +kernel
theorem dX9_group_19 : decode cX9_group 19 = .ok (.ireturn, 1) := by decide +kernel
theorem dX9_group_20 : decode cX9_group 20 = .ok (.iload_n 3, 1) := by decide +kernel
theorem dX9_group_21 : decode cX9_group 21 = .ok (.tableswitch 160 0 11 #[63, 70, 77, 84, 84, 102, 102, 120, 120, 138, 145, 152], 63) := by decide +kernel
theorem dX9_group_84 : decode cX9_group 84 = .ok (.aload_n 0, 1) := by decide +kernel
theorem dX9_group_85 : decode cX9_group 85 = .ok (.iload 4, 2) := by decide +kernel
theorem dX9_group_87 : decode cX9_group 87 = .ok (.invokevirtual 251, 3) := by decide +kernel
theorem dX9_group_90 : decode cX9_group 90 = .ok (.ireturn, 1) := by decide +kernel
theorem dX9_group_91 : decode cX9_group 91 = .ok (.aload_n 0, 1) := by decide +kernel
theorem dX9_group_92 : decode cX9_group 92 = .ok (.iload 4, 2) := by decide +kernel
theorem dX9_group_94 : decode cX9_group 94 = .ok (.invokevirtual 224, 3) := by decide +kernel
theorem dX9_group_97 : decode cX9_group 97 = .ok (.ireturn, 1) := by decide +kernel
theorem dX9_group_98 : decode cX9_group 98 = .ok (.aload_n 0, 1) := by decide +kernel
theorem dX9_group_99 : decode cX9_group 99 = .ok (.iload 4, 2) := by decide +kernel
theorem dX9_group_101 : decode cX9_group 101 = .ok (.invokevirtual 215, 3) := by decide +kernel
theorem dX9_group_104 : decode cX9_group 104 = .ok (.ireturn, 1) := by decide +kernel
theorem dX9_group_105 : decode cX9_group 105 = .ok (.aload_n 0, 1) := by decide +kernel
theorem dX9_group_106 : decode cX9_group 106 = .ok (.iload 4, 2) := by decide +kernel
theorem dX9_group_108 : decode cX9_group 108 = .ok (.iconst 1, 1) := by decide +kernel
theorem dX9_group_109 : decode cX9_group 109 = .ok (.iload_n 3, 1) := by decide +kernel
theorem dX9_group_110 : decode cX9_group 110 = .ok (.iconst 3, 1) := by decide +kernel
theorem dX9_group_111 : decode cX9_group 111 = .ok (.if_icmp .ne 7, 3) := by decide +kernel
theorem dX9_group_114 : decode cX9_group 114 = .ok (.iconst 1, 1) := by decide +kernel
theorem dX9_group_115 : decode cX9_group 115 = .ok (.goto 4, 3) := by decide +kernel
theorem dX9_group_118 : decode cX9_group 118 = .ok (.iconst 0, 1) := by decide +kernel
theorem dX9_group_119 : decode cX9_group 119 = .ok (.invokevirtual 272, 3) := by decide +kernel
theorem dX9_group_122 : decode cX9_group 122 = .ok (.ireturn, 1) := by decide +kernel
theorem dX9_group_123 : decode cX9_group 123 = .ok (.aload_n 0, 1) := by decide +kernel
theorem dX9_group_124 : decode cX9_group 124 = .ok (.iload 4, 2) := by decide +kernel
theorem dX9_group_126 : decode cX9_group 126 = .ok (.iconst 0, 1) := by decide +kernel
theorem dX9_group_127 : decode cX9_group 127 = .ok (.iload_n 3, 1) := by decide +kernel
theorem dX9_group_128 : decode cX9_group 128 = .ok (.iconst 5, 1) := by decide +kernel
theorem dX9_group_129 : decode cX9_group 129 = .ok (.if_icmp .ne 7, 3) := by decide +kernel
theorem dX9_group_132 : decode cX9_group 132 = .ok (.iconst 1, 1) := by decide +kernel
theorem dX9_group_133 : decode cX9_group 133 = .ok (.goto 4, 3) := by decide +kernel
theorem dX9_group_136 : decode cX9_group 136 = .ok (.iconst 0, 1) := by decide +kernel
theorem dX9_group_137 : decode cX9_group 137 = .ok (.invokevirtual 272, 3) := by decide +kernel
theorem dX9_group_140 : decode cX9_group 140 = .ok (.ireturn, 1) := by decide +kernel
theorem dX9_group_141 : decode cX9_group 141 = .ok (.aload_n 0, 1) := by decide +kernel
theorem dX9_group_142 : decode cX9_group 142 = .ok (.iload 4, 2) := by decide +kernel
theorem dX9_group_144 : decode cX9_group 144 = .ok (.iload_n 3, 1) := by decide +kernel
theorem dX9_group_145 : decode cX9_group 145 = .ok (.bipush 7, 2) := by decide +kernel
theorem dX9_group_147 : decode cX9_group 147 = .ok (.if_icmp .ne 7, 3) := by decide +kernel
theorem dX9_group_150 : decode cX9_group 150 = .ok (.iconst 1, 1) := by decide +kernel
theorem dX9_group_151 : decode cX9_group 151 = .ok (.goto 4, 3) := by decide +kernel
theorem dX9_group_154 : decode cX9_group 154 = .ok (.iconst 0, 1) := by decide +kernel
theorem dX9_group_155 : decode cX9_group 155 = .ok (.invokevirtual 276, 3) := by decide +kernel
theorem dX9_group_158 : decode cX9_group 158 = .ok (.ireturn, 1) := by decide +kernel
theorem dX9_group_159 : decode cX9_group 159 = .ok (.aload_n 0, 1) := by decide +kernel
theorem dX9_group_160 : decode cX9_group 160 = .ok (.iload 4, 2) := by decide +kernel
theorem dX9_group_162 : decode cX9_group 162 = .ok (.invokevirtual 280, 3) := by decide +kernel
theorem dX9_group_165 : decode cX9_group 165 = .ok (.ireturn, 1) := by decide +kernel
theorem dX9_group_166 : decode cX9_group 166 = .ok (.aload_n 0, 1) := by decide +kernel
theorem dX9_group_167 : decode cX9_group 167 = .ok (.iload 4, 2) := by decide +kernel
theorem dX9_group_169 : decode cX9_group 169 = .ok (.invokevirtual 283, 3) := by decide +kernel
theorem dX9_group_172 : decode cX9_group 172 = .ok (.ireturn, 1) := by decide +kernel
theorem dX9_group_173 : decode cX9_group 173 = .ok (.aload_n 0, 1) := by decide +kernel
theorem dX9_group_174 : decode cX9_group 174 = .ok (.iload_n 1, 1) := by decide +kernel
theorem dX9_group_175 : decode cX9_group 175 = .ok (.iload 4, 2) := by decide +kernel
theorem dX9_group_177 : decode cX9_group 177 = .ok (.invokevirtual 286, 3) := by decide +kernel
theorem dX9_group_180 : decode cX9_group 180 = .ok (.ireturn, 1) := by decide +kernel
theorem dX9_group_181 : decode cX9_group 181 = .ok (.iload_n 3, 1) := by decide +kernel
theorem dX9_group_182 : decode cX9_group 182 = .ok (.bipush 12, 2) := by decide +kernel
theorem dX9_group_184 : decode cX9_group 184 = .ok (.if_icmp .ne 12, 3) := by decide +kernel
theorem dX9_group_187 : decode cX9_group 187 = .ok (.aload_n 0, 1) := by decide +kernel
theorem dX9_group_188 : decode cX9_group 188 = .ok (.iload 4, 2) := by decide +kernel
theorem dX9_group_190 : decode cX9_group 190 = .ok (.invokevirtual 289, 3) := by decide +kernel
theorem dX9_group_193 : decode cX9_group 193 = .ok (.goto 4, 3) := by decide +kernel
theorem dX9_group_196 : decode cX9_group 196 = .ok (.iconst (-1), 1) := by decide +kernel
theorem dX9_group_197 : decode cX9_group 197 = .ok (.ireturn, 1) := by decide +kernel
theorem dX9_member_0 : decode cX9_member 0 = .ok (.aload_n 0, 1) := by decide +kernel
theorem dX9_member_1 : decode cX9_member 1 = .ok (.iconst 0, 1) := by decide +kernel
theorem dX9_member_2 : decode cX9_member 2 = .ok (.putfield 95, 3) := by decide +kernel
theorem dX9_member_5 : decode cX9_member 5 = .ok (.aload_n 0, 1) := by decide +kernel
theorem dX9_member_6 : decode cX9_member 6 = .ok (.iload_n 1, 1) := by decide +kernel
theorem dX9_member_7 : decode cX9_member 7 = .ok (.iload_n 2, 1) := by decide +kernel
theorem dX9_member_8 : decode cX9_member 8 = .ok (.invokevirtual 269, 3) := by decide +kernel
theorem dX9_member_11 : decode cX9_member 11 = .ok (.istore 4, 2) := by decide +kernel
theorem dX9_member_13 : decode cX9_member 13 = .ok (.iload_n 3, 1) := by decide +kernel
theorem dX9_member_14 : decode cX9_member 14 = .ok (.istore 5, 2) := by decide +kernel
theorem dX9_member_16 : decode cX9_member 16 = .ok (.iconst 0, 1) := by decide +kernel
theorem dX9_member_17 : decode cX9_member 17 = .ok (.istore 6, 2) := by decide +kernel
theorem dX9_member_19 : decode cX9_member 19 = .ok (.iload 6, 2) := by decide +kernel
theorem dX9_member_21 : decode cX9_member 21 = .ok (.aload_n 0, 1) := by decide +kernel
theorem dX9_member_22 : decode cX9_member 22 = .ok (.getfield 98, 3) := by decide +kernel
theorem dX9_member_25 : decode cX9_member 25 = .ok (.if_icmp .ge 37, 3) := by decide +kernel
theorem dX9_member_28 : decode cX9_member 28 = .ok (.aload_n 0, 1) := by decide +kernel
theorem dX9_member_29 : decode cX9_member 29 = .ok (.iload 4, 2) := by decide +kernel
theorem dX9_member_31 : decode cX9_member 31 = .ok (.iload 6, 2) := by decide +kernel
theorem dX9_member_33 : decode cX9_member 33 = .ok (.invokevirtual 123, 3) := by decide +kernel
theorem dX9_member_36 : decode cX9_member 36 = .ok (.ifCond .ne 6, 3) := by decide +kernel
theorem dX9_member_39 : decode cX9_member 39 = .ok (.goto 17, 3) := by decide +kernel
theorem dX9_member_42 : decode cX9_member 42 = .ok (.iload 5, 2) := by decide +kernel
theorem dX9_member_44 : decode cX9_member 44 = .ok (.ifCond .ne 6, 3) := by decide +kernel
theorem dX9_member_47 : decode cX9_member 47 = .ok (.iload 6, 2) := by decide +kernel
theorem dX9_member_49 : decode cX9_member 49 = .ok (.ireturn, 1) := by decide +kernel
theorem dX9_member_50 : decode cX9_member 50 = .ok (.iload 5, 2) := by decide +kernel
theorem dX9_member_52 : decode cX9_member 52 = .ok (.iconst 1, 1) := by decide +kernel
theorem dX9_member_53 : decode cX9_member 53 = .ok (.isub, 1) := by decide +kernel
theorem dX9_member_54 : decode cX9_member 54 = .ok (.istore 5, 2) := by decide +kernel
theorem dX9_member_56 : decode cX9_member 56 = .ok (.iinc 6 1, 3) := by decide +kernel
theorem dX9_member_59 : decode cX9_member 59 = .ok (.goto (-40), 3) := by decide +kernel
theorem dX9_member_62 : decode cX9_member 62 = .ok (.iconst (-1), 1) := by decide +kernel
theorem dX9_member_63 : decode cX9_member 63 = .ok (.ireturn, 1) := by decide +kernel
theorem dX9_splits_0 : decode cX9_splits 0 = .ok (.aload_n 0, 1) := by decide +kernel
theorem dX9_splits_1 : decode cX9_splits 1 = .ok (.iconst 0, 1) := by decide +kernel
theorem dX9_splits_2 : decode cX9_splits 2 = .ok (.putfield 95, 3) := by decide +kernel
theorem dX9_splits_5 : decode cX9_splits 5 = .ok (.aload_n 0, 1) := by decide +kernel
theorem dX9_splits_6 : decode cX9_splits 6 = .ok (.iload_n 1, 1) := by decide +kernel
theorem dX9_splits_7 : decode cX9_splits 7 = .ok (.iload_n 2, 1) := by decide +kernel
theorem dX9_splits_8 : decode cX9_splits 8 = .ok (.invokevirtual 269, 3) := by decide +kernel
theorem dX9_splits_11 : decode cX9_splits 11 = .ok (.istore 4, 2) := by decide +kernel
theorem dX9_splits_13 : decode cX9_splits 13 = .ok (.iload 4, 2) := by decide +kernel
theorem dX9_splits_15 : decode cX9_splits 15 = .ok (.ifCond .eq 9, 3) := by decide +kernel
theorem dX9_splits_18 : decode cX9_splits 18 = .ok (.iload_n 1, 1) := by decide +kernel
theorem dX9_splits_19 : decode cX9_splits 19 = .ok (.bipush 10, 2) := by decide +kernel
theorem dX9_splits_21 : decode cX9_splits 21 = .ok (.if_icmp .ne 5, 3) := by decide +kernel
theorem dX9_splits_24 : decode cX9_splits 24 = .ok (.iconst (-1), 1) := by decide +kernel
theorem dX9_splits_25 : decode cX9_splits 25 = .ok (.ireturn, 1) := by decide +kernel
theorem dX9_splits_26 : decode cX9_splits 26 = .ok (.aload_n 0, 1) := by decide +kernel
theorem dX9_splits_27 : decode cX9_splits 27 = .ok (.iload_n 1, 1) := by decide +kernel
theorem dX9_splits_28 : decode cX9_splits 28 = .ok (.iconst 1, 1) := by decide +kernel
theorem dX9_splits_29 : decode cX9_splits 29 = .ok (.iadd, 1) := by decide +kernel
theorem dX9_splits_30 : decode cX9_splits 30 = .ok (.invokevirtual 260, 3) := by decide +kernel
theorem dX9_splits_33 : decode cX9_splits 33 = .ok (.iload_n 3, 1) := by decide +kernel
theorem dX9_splits_34 : decode cX9_splits 34 = .ok (.istore 5, 2) := by decide +kernel
theorem dX9_splits_36 : decode cX9_splits 36 = .ok (.iconst 0, 1) := by decide +kernel
theorem dX9_splits_37 : decode cX9_splits 37 = .ok (.istore 6, 2) := by decide +kernel
theorem dX9_splits_39 : decode cX9_splits 39 = .ok (.iload 6, 2) := by decide +kernel
theorem dX9_splits_41 : decode cX9_splits 41 = .ok (.aload_n 0, 1) := by decide +kernel
theorem dX9_splits_42 : decode cX9_splits 42 = .ok (.getfield 98, 3) := by decide +kernel
theorem dX9_splits_45 : decode cX9_splits 45 = .ok (.if_icmp .ge 50, 3) := by decide +kernel
theorem dX9_splits_48 : decode cX9_splits 48 = .ok (.aload_n 0, 1) := by decide +kernel
theorem dX9_splits_49 : decode cX9_splits 49 = .ok (.iload 4, 2) := by decide +kernel
theorem dX9_splits_51 : decode cX9_splits 51 = .ok (.iload 6, 2) := by decide +kernel
theorem dX9_splits_53 : decode cX9_splits 53 = .ok (.invokevirtual 123, 3) := by decide +kernel
theorem dX9_splits_56 : decode cX9_splits 56 = .ok (.ifCond .eq 33, 3) := by decide +kernel
theorem dX9_splits_59 : decode cX9_splits 59 = .ok (.aload_n 0, 1) := by decide +kernel
theorem dX9_splits_60 : decode cX9_splits 60 = .ok (.iload 6, 2) := by decide +kernel
theorem dX9_splits_62 : decode cX9_splits 62 = .ok (.invokevirtual 254, 3) := by decide +kernel
theorem dX9_splits_65 : decode cX9_splits 65 = .ok (.ifCond .ne 6, 3) := by decide +kernel
theorem dX9_splits_68 : decode cX9_splits 68 = .ok (.goto 21, 3) := by decide +kernel
theorem dX9_splits_71 : decode cX9_splits 71 = .ok (.iload 5, 2) := by decide +kernel
theorem dX9_splits_73 : decode cX9_splits 73 = .ok (.ifCond .ne 10, 3) := by decide +kernel
theorem dX9_splits_76 : decode cX9_splits 76 = .ok (.aload_n 0, 1) := by decide +kernel
theorem dX9_splits_77 : decode cX9_splits 77 = .ok (.iload 6, 2) := by decide +kernel
theorem dX9_splits_79 : decode cX9_splits 79 = .ok (.invokevirtual 266, 3) := by decide +kernel
theorem dX9_splits_82 : decode cX9_splits 82 = .ok (.ireturn, 1) := by decide +kernel
theorem dX9_splits_83 : decode cX9_splits 83 = .ok (.iload 5, 2) := by decide +kernel
theorem dX9_splits_85 : decode cX9_splits 85 = .ok (.iconst 1, 1) := by decide +kernel
theorem dX9_splits_86 : decode cX9_splits 86 = .ok (.isub, 1) := by decide +kernel
theorem dX9_splits_87 : decode cX9_splits 87 = .ok (.istore 5, 2) := by decide +kernel
theorem dX9_splits_89 : decode cX9_splits 89 = .ok (.iinc 6 1, 3) := by decide +kernel
theorem dX9_splits_92 : decode cX9_splits 92 = .ok (.goto (-53), 3) := by decide +kernel
theorem dX9_splits_95 : decode cX9_splits 95 = .ok (.iconst (-1), 1) := by decide +kernel
theorem dX9_splits_96 : decode cX9_splits 96 = .ok (.ireturn, 1) := by decide +kernel
theorem dX9_isWithin_0 : decode cX9_isWithin 0 = .ok (.iload_n 1, 1) := by decide +kernel
theorem dX9_isWithin_1 : decode cX9_isWithin 1 = .ok (.iload_n 3, 1) := by decide +kernel
theorem dX9_isWithin_2 : decode cX9_isWithin 2 = .ok (.if_icmp .lt 25, 3) := by decide +kernel
theorem dX9_isWithin_5 : decode cX9_isWithin 5 = .ok (.iload_n 1, 1) := by decide +kernel
theorem dX9_isWithin_6 : decode cX9_isWithin 6 = .ok (.iload 4, 2) := by decide +kernel
theorem dX9_isWithin_8 : decode cX9_isWithin 8 = .ok (.if_icmp .gt 19, 3) := by decide +kernel
theorem dX9_isWithin_11 : decode cX9_isWithin 11 = .ok (.iload_n 2, 1) := by decide +kernel
theorem dX9_isWithin_12 : decode cX9_isWithin 12 = .ok (.iload 5, 2) := by decide +kernel
theorem dX9_isWithin_14 : decode cX9_isWithin 14 = .ok (.if_icmp .lt 13, 3) := by decide +kernel
theorem dX9_isWithin_17 : decode cX9_isWithin 17 = .ok (.iload_n 2, 1) := by decide +kernel
theorem dX9_isWithin_18 : decode cX9_isWithin 18 = .ok (.iload 6, 2) := by decide +kernel
theorem dX9_isWithin_20 : decode cX9_isWithin 20 = .ok (.if_icmp .gt 7, 3) := by decide +kernel
theorem dX9_isWithin_23 : decode cX9_isWithin 23 = .ok (.iconst 1, 1) := by decide +kernel
theorem dX9_isWithin_24 : decode cX9_isWithin 24 = .ok (.goto 4, 3) := by decide +kernel
theorem dX9_isWithin_27 : decode cX9_isWithin 27 = .ok (.iconst 0, 1) := by decide +kernel
theorem dX9_isWithin_28 : decode cX9_isWithin 28 = .ok (.ireturn, 1) := by decide +kernel
theorem dX9_isCentred_0 : decode cX9_isCentred 0 = .ok (.aload_n 0, 1) := by decide +kernel
theorem dX9_isCentred_1 : decode cX9_isCentred 1 = .ok (.aload_n 0, 1) := by decide +kernel
theorem dX9_isCentred_2 : decode cX9_isCentred 2 = .ok (.iload_n 1, 1) := by decide +kernel
theorem dX9_isCentred_3 : decode cX9_isCentred 3 = .ok (.iconst 1, 1) := by decide +kernel
theorem dX9_isCentred_4 : decode cX9_isCentred 4 = .ok (.invokevirtual 276, 3) := by decide +kernel
theorem dX9_isCentred_7 : decode cX9_isCentred 7 = .ok (.aload_n 0, 1) := by decide +kernel
theorem dX9_isCentred_8 : decode cX9_isCentred 8 = .ok (.iload_n 1, 1) := by decide +kernel
theorem dX9_isCentred_9 : decode cX9_isCentred 9 = .ok (.iconst 0, 1) := by decide +kernel
theorem dX9_isCentred_10 : decode cX9_isCentred 10 = .ok (.invokevirtual 276, 3) := by decide +kernel
theorem dX9_isCentred_13 : decode cX9_isCentred 13 = .ok (.iload_n 2, 1) := by decide +kernel
theorem dX9_isCentred_14 : decode cX9_isCentred 14 = .ok (.iload_n 3, 1) := by decide +kernel
theorem dX9_isCentred_15 : decode cX9_isCentred 15 = .ok (.iload 4, 2) := by decide +kernel
theorem dX9_isCentred_17 : decode cX9_isCentred 17 = .ok (.iload 5, 2) := by decide +kernel
theorem dX9_isCentred_19 : decode cX9_isCentred 19 = .ok (.invokevirtual 292, 3) := by decide +kernel
theorem dX9_isCentred_22 : decode cX9_isCentred 22 = .ok (.ireturn, 1) := by decide +kernel
theorem dX9_pointsIn_0 : decode cX9_pointsIn 0 = .ok (.iconst 0, 1) := by decide +kernel
theorem dX9_pointsIn_1 : decode cX9_pointsIn 1 = .ok (.istore 5, 2) := by decide +kernel
theorem dX9_pointsIn_3 : decode cX9_pointsIn 3 = .ok (.iconst 0, 1) := by decide +kernel
theorem dX9_pointsIn_4 : decode cX9_pointsIn 4 = .ok (.istore 6, 2) := by decide +kernel
theorem dX9_pointsIn_6 : decode cX9_pointsIn 6 = .ok (.iload 6, 2) := by decide +kernel
theorem dX9_pointsIn_8 : decode cX9_pointsIn 8 = .ok (.aload_n 0, 1) := by decide +kernel
theorem dX9_pointsIn_9 : decode cX9_pointsIn 9 = .ok (.getfield 98, 3) := by decide +kernel
theorem dX9_pointsIn_12 : decode cX9_pointsIn 12 = .ok (.if_icmp .ge 44, 3) := by decide +kernel
theorem dX9_pointsIn_15 : decode cX9_pointsIn 15 = .ok (.aload_n 0, 1) := by decide +kernel
theorem dX9_pointsIn_16 : decode cX9_pointsIn 16 = .ok (.aload_n 0, 1) := by decide +kernel
theorem dX9_pointsIn_17 : decode cX9_pointsIn 17 = .ok (.getfield 7, 3) := by decide +kernel
theorem dX9_pointsIn_20 : decode cX9_pointsIn 20 = .ok (.iload 6, 2) := by decide +kernel
theorem dX9_pointsIn_22 : decode cX9_pointsIn 22 = .ok (.iaload, 1) := by decide +kernel
theorem dX9_pointsIn_23 : decode cX9_pointsIn 23 = .ok (.aload_n 0, 1) := by decide +kernel
theorem dX9_pointsIn_24 : decode cX9_pointsIn 24 = .ok (.getfield 13, 3) := by decide +kernel
theorem dX9_pointsIn_27 : decode cX9_pointsIn 27 = .ok (.iload 6, 2) := by decide +kernel
theorem dX9_pointsIn_29 : decode cX9_pointsIn 29 = .ok (.iaload, 1) := by decide +kernel
theorem dX9_pointsIn_30 : decode cX9_pointsIn 30 = .ok (.iload_n 1, 1) := by decide +kernel
theorem dX9_pointsIn_31 : decode cX9_pointsIn 31 = .ok (.iload_n 2, 1) := by decide +kernel
theorem dX9_pointsIn_32 : decode cX9_pointsIn 32 = .ok (.iload_n 3, 1) := by decide +kernel
theorem dX9_pointsIn_33 : decode cX9_pointsIn 33 = .ok (.iload 4, 2) := by decide +kernel
theorem dX9_pointsIn_35 : decode cX9_pointsIn 35 = .ok (.invokevirtual 292, 3) := by decide +kernel
theorem dX9_pointsIn_38 : decode cX9_pointsIn 38 = .ok (.ifCond .eq 12, 3) := by decide +kernel
theorem dX9_pointsIn_41 : decode cX9_pointsIn 41 = .ok (.iload 5, 2) := by decide +kernel
theorem dX9_pointsIn_43 : decode cX9_pointsIn 43 = .ok (.iconst 1, 1) := by decide +kernel
theorem dX9_pointsIn_44 : decode cX9_pointsIn 44 = .ok (.iload 6, 2) := by decide +kernel
theorem dX9_pointsIn_46 : decode cX9_pointsIn 46 = .ok (.ishl, 1) := by decide +kernel
theorem dX9_pointsIn_47 : decode cX9_pointsIn 47 = .ok (.ior, 1) := by decide +kernel
theorem dX9_pointsIn_48 : decode cX9_pointsIn 48 = .ok (.istore 5, 2) := by decide +kernel
theorem dX9_pointsIn_50 : decode cX9_pointsIn 50 = .ok (.iinc 6 1, 3) := by decide +kernel
theorem dX9_pointsIn_53 : decode cX9_pointsIn 53 = .ok (.goto (-47), 3) := by decide +kernel
theorem dX9_pointsIn_56 : decode cX9_pointsIn 56 = .ok (.iload 5, 2) := by decide +kernel
theorem dX9_pointsIn_58 : decode cX9_pointsIn 58 = .ok (.ireturn, 1) := by decide +kernel
theorem dX9_centredIn_0 : decode cX9_centredIn 0 = .ok (.iconst 0, 1) := by decide +kernel
theorem dX9_centredIn_1 : decode cX9_centredIn 1 = .ok (.istore 6, 2) := by decide +kernel
theorem dX9_centredIn_3 : decode cX9_centredIn 3 = .ok (.iconst 0, 1) := by decide +kernel
theorem dX9_centredIn_4 : decode cX9_centredIn 4 = .ok (.istore 7, 2) := by decide +kernel
theorem dX9_centredIn_6 : decode cX9_centredIn 6 = .ok (.iload 7, 2) := by decide +kernel
theorem dX9_centredIn_8 : decode cX9_centredIn 8 = .ok (.aload_n 0, 1) := by decide +kernel
theorem dX9_centredIn_9 : decode cX9_centredIn 9 = .ok (.getfield 98, 3) := by decide +kernel
theorem dX9_centredIn_12 : decode cX9_centredIn 12 = .ok (.if_icmp .ge 62, 3) := by decide +kernel
theorem dX9_centredIn_15 : decode cX9_centredIn 15 = .ok (.aload_n 0, 1) := by decide +kernel
theorem dX9_centredIn_16 : decode cX9_centredIn 16 = .ok (.iload 7, 2) := by decide +kernel
theorem dX9_centredIn_18 : decode cX9_centredIn 18 = .ok (.invokevirtual 254, 3) := by decide +kernel
theorem dX9_centredIn_21 : decode cX9_centredIn 21 = .ok (.ifCond .eq 47, 3) := by decide +kernel
theorem dX9_centredIn_24 : decode cX9_centredIn 24 = .ok (.aload_n 0, 1) := by decide +kernel
theorem dX9_centredIn_25 : decode cX9_centredIn 25 = .ok (.aload_n 0, 1) := by decide +kernel
theorem dX9_centredIn_26 : decode cX9_centredIn 26 = .ok (.getfield 68, 3) := by decide +kernel
theorem dX9_centredIn_29 : decode cX9_centredIn 29 = .ok (.iload 7, 2) := by decide +kernel
theorem dX9_centredIn_31 : decode cX9_centredIn 31 = .ok (.iaload, 1) := by decide +kernel
theorem dX9_centredIn_32 : decode cX9_centredIn 32 = .ok (.iload_n 1, 1) := by decide +kernel
theorem dX9_centredIn_33 : decode cX9_centredIn 33 = .ok (.iload_n 2, 1) := by decide +kernel
theorem dX9_centredIn_34 : decode cX9_centredIn 34 = .ok (.iload_n 3, 1) := by decide +kernel
theorem dX9_centredIn_35 : decode cX9_centredIn 35 = .ok (.iload 4, 2) := by decide +kernel
theorem dX9_centredIn_37 : decode cX9_centredIn 37 = .ok (.invokevirtual 296, 3) := by decide +kernel
theorem dX9_centredIn_40 : decode cX9_centredIn 40 = .ok (.ifCond .eq 28, 3) := by decide +kernel
theorem dX9_centredIn_43 : decode cX9_centredIn 43 = .ok (.iload 6, 2) := by decide +kernel
theorem dX9_centredIn_45 : decode cX9_centredIn 45 = .ok (.iload 5, 2) := by decide +kernel
theorem dX9_centredIn_47 : decode cX9_centredIn 47 = .ok (.ifCond .eq 17, 3) := by decide +kernel
theorem dX9_centredIn_50 : decode cX9_centredIn 50 = .ok (.aload_n 0, 1) := by decide +kernel
theorem dX9_centredIn_51 : decode cX9_centredIn 51 = .ok (.aload_n 0, 1) := by decide +kernel
theorem dX9_centredIn_52 : decode cX9_centredIn 52 = .ok (.getfield 68, 3) := by decide +kernel
theorem dX9_centredIn_55 : decode cX9_centredIn 55 = .ok (.iload 7, 2) := by decide +kernel
theorem dX9_centredIn_57 : decode cX9_centredIn 57 = .ok (.iaload, 1) := by decide +kernel
theorem dX9_centredIn_58 : decode cX9_centredIn 58 = .ok (.invokevirtual 215, 3) := by decide +kernel
theorem dX9_centredIn_61 : decode cX9_centredIn 61 = .ok (.goto 4, 3) := by decide +kernel
theorem dX9_centredIn_64 : decode cX9_centredIn 64 = .ok (.iconst 1, 1) := by decide +kernel
theorem dX9_centredIn_65 : decode cX9_centredIn 65 = .ok (.iadd, 1) := by decide +kernel
theorem dX9_centredIn_66 : decode cX9_centredIn 66 = .ok (.istore 6, 2) := by decide +kernel
theorem dX9_centredIn_68 : decode cX9_centredIn 68 = .ok (.iinc 7 1, 3) := by decide +kernel
theorem dX9_centredIn_71 : decode cX9_centredIn 71 = .ok (.goto (-65), 3) := by decide +kernel
theorem dX9_centredIn_74 : decode cX9_centredIn 74 = .ok (.iload 6, 2) := by decide +kernel
theorem dX9_centredIn_76 : decode cX9_centredIn 76 = .ok (.ireturn, 1) := by decide +kernel
theorem dX9_window_0 : decode cX9_window 0 = .ok (.aload_n 0, 1) := by decide +kernel
theorem dX9_window_1 : decode cX9_window 1 = .ok (.iconst 0, 1) := by decide +kernel
theorem dX9_window_2 : decode cX9_window 2 = .ok (.putfield 95, 3) := by decide +kernel
theorem dX9_window_5 : decode cX9_window 5 = .ok (.aload_n 0, 1) := by decide +kernel
theorem dX9_window_6 : decode cX9_window 6 = .ok (.iload_n 1, 1) := by decide +kernel
theorem dX9_window_7 : decode cX9_window 7 = .ok (.invokevirtual 257, 3) := by decide +kernel
theorem dX9_window_10 : decode cX9_window 10 = .ok (.ifCond .eq 17, 3) := by decide +kernel
theorem dX9_window_13 : decode cX9_window 13 = .ok (.aload_n 0, 1) := by decide +kernel
theorem dX9_window_14 : decode cX9_window 14 = .ok (.iload 6, 2) := by decide +kernel
theorem dX9_window_16 : decode cX9_window 16 = .ok (.i2l, 1) := by decide +kernel
theorem dX9_window_17 : decode cX9_window 17 = .ok (.lconst 0, 1) := by decide +kernel
theorem dX9_window_18 : decode cX9_window 18 = .ok (.ldc2_w 300, 3) := by decide +kernel
theorem dX9_window_21 : decode cX9_window 21 = .ok (.invokevirtual 101, 3) := by decide +kernel
theorem dX9_window_24 : decode cX9_window 24 = .ok (.ifCond .ne 5, 3) := by decide +kernel
theorem dX9_window_27 : decode cX9_window 27 = .ok (.iconst (-1), 1) := by decide +kernel
theorem dX9_window_28 : decode cX9_window 28 = .ok (.ireturn, 1) := by decide +kernel
theorem dX9_window_29 : decode cX9_window 29 = .ok (.aload_n 0, 1) := by decide +kernel
theorem dX9_window_30 : decode cX9_window 30 = .ok (.iload_n 1, 1) := by decide +kernel
theorem dX9_window_31 : decode cX9_window 31 = .ok (.invokevirtual 260, 3) := by decide +kernel
theorem dX9_window_34 : decode cX9_window 34 = .ok (.iload 6, 2) := by decide +kernel
theorem dX9_window_36 : decode cX9_window 36 = .ok (.iconst 2, 1) := by decide +kernel
theorem dX9_window_37 : decode cX9_window 37 = .ok (.if_icmp .ge 25, 3) := by decide +kernel
theorem dX9_window_40 : decode cX9_window 40 = .ok (.aload_n 0, 1) := by decide +kernel
theorem dX9_window_41 : decode cX9_window 41 = .ok (.iload_n 2, 1) := by decide +kernel
theorem dX9_window_42 : decode cX9_window 42 = .ok (.iload_n 3, 1) := by decide +kernel
theorem dX9_window_43 : decode cX9_window 43 = .ok (.iload 4, 2) := by decide +kernel
theorem dX9_window_45 : decode cX9_window 45 = .ok (.iload 5, 2) := by decide +kernel
theorem dX9_window_47 : decode cX9_window 47 = .ok (.iload 6, 2) := by decide +kernel
theorem dX9_window_49 : decode cX9_window 49 = .ok (.iconst 1, 1) := by decide +kernel
theorem dX9_window_50 : decode cX9_window 50 = .ok (.if_icmp .ne 7, 3) := by decide +kernel
theorem dX9_window_53 : decode cX9_window 53 = .ok (.iconst 1, 1) := by decide +kernel
theorem dX9_window_54 : decode cX9_window 54 = .ok (.goto 4, 3) := by decide +kernel
theorem dX9_window_57 : decode cX9_window 57 = .ok (.iconst 0, 1) := by decide +kernel
theorem dX9_window_58 : decode cX9_window 58 = .ok (.invokevirtual 302, 3) := by decide +kernel
theorem dX9_window_61 : decode cX9_window 61 = .ok (.ireturn, 1) := by decide +kernel
theorem dX9_window_62 : decode cX9_window 62 = .ok (.aload_n 0, 1) := by decide +kernel
theorem dX9_window_63 : decode cX9_window 63 = .ok (.iload_n 2, 1) := by decide +kernel
theorem dX9_window_64 : decode cX9_window 64 = .ok (.iload_n 3, 1) := by decide +kernel
theorem dX9_window_65 : decode cX9_window 65 = .ok (.iload 4, 2) := by decide +kernel
theorem dX9_window_67 : decode cX9_window 67 = .ok (.iload 5, 2) := by decide +kernel
theorem dX9_window_69 : decode cX9_window 69 = .ok (.invokevirtual 306, 3) := by decide +kernel
theorem dX9_window_72 : decode cX9_window 72 = .ok (.istore 7, 2) := by decide +kernel
theorem dX9_window_74 : decode cX9_window 74 = .ok (.iload 6, 2) := by decide +kernel
theorem dX9_window_76 : decode cX9_window 76 = .ok (.iconst 2, 1) := by decide +kernel
theorem dX9_window_77 : decode cX9_window 77 = .ok (.if_icmp .ne 12, 3) := by decide +kernel
theorem dX9_window_80 : decode cX9_window 80 = .ok (.aload_n 0, 1) := by decide +kernel
theorem dX9_window_81 : decode cX9_window 81 = .ok (.iload 7, 2) := by decide +kernel
theorem dX9_window_83 : decode cX9_window 83 = .ok (.invokevirtual 224, 3) := by decide +kernel
theorem dX9_window_86 : decode cX9_window 86 = .ok (.goto 9, 3) := by decide +kernel
theorem dX9_window_89 : decode cX9_window 89 = .ok (.aload_n 0, 1) := by decide +kernel
theorem dX9_window_90 : decode cX9_window 90 = .ok (.iload 7, 2) := by decide +kernel
theorem dX9_window_92 : decode cX9_window 92 = .ok (.invokevirtual 215, 3) := by decide +kernel
theorem dX9_window_95 : decode cX9_window 95 = .ok (.ireturn, 1) := by decide +kernel
theorem dX9_top_0 : decode cX9_top 0 = .ok (.aload_n 0, 1) := by decide +kernel
theorem dX9_top_1 : decode cX9_top 1 = .ok (.iconst 0, 1) := by decide +kernel
theorem dX9_top_2 : decode cX9_top 2 = .ok (.putfield 95, 3) := by decide +kernel
theorem dX9_top_5 : decode cX9_top 5 = .ok (.aload_n 0, 1) := by decide +kernel
theorem dX9_top_6 : decode cX9_top 6 = .ok (.iload_n 1, 1) := by decide +kernel
theorem dX9_top_7 : decode cX9_top 7 = .ok (.invokevirtual 257, 3) := by decide +kernel
theorem dX9_top_10 : decode cX9_top 10 = .ok (.ifCond .ne 5, 3) := by decide +kernel
theorem dX9_top_13 : decode cX9_top 13 = .ok (.iconst (-1), 1) := by decide +kernel
theorem dX9_top_14 : decode cX9_top 14 = .ok (.ireturn, 1) := by decide +kernel
theorem dX9_top_15 : decode cX9_top 15 = .ok (.aload_n 0, 1) := by decide +kernel
theorem dX9_top_16 : decode cX9_top 16 = .ok (.iload_n 1, 1) := by decide +kernel
theorem dX9_top_17 : decode cX9_top 17 = .ok (.invokevirtual 260, 3) := by decide +kernel
theorem dX9_top_20 : decode cX9_top 20 = .ok (.iconst 0, 1) := by decide +kernel
theorem dX9_top_21 : decode cX9_top 21 = .ok (.istore 7, 2) := by decide +kernel
theorem dX9_top_23 : decode cX9_top 23 = .ok (.iload 7, 2) := by decide +kernel
theorem dX9_top_25 : decode cX9_top 25 = .ok (.aload_n 0, 1) := by decide +kernel
theorem dX9_top_26 : decode cX9_top 26 = .ok (.getfield 98, 3) := by decide +kernel
theorem dX9_top_29 : decode cX9_top 29 = .ok (.if_icmp .ge 161, 3) := by decide +kernel
theorem dX9_top_32 : decode cX9_top 32 = .ok (.aload_n 0, 1) := by decide +kernel
theorem dX9_top_33 : decode cX9_top 33 = .ok (.iload 7, 2) := by decide +kernel
theorem dX9_top_35 : decode cX9_top 35 = .ok (.invokevirtual 254, 3) := by decide +kernel
theorem dX9_top_38 : decode cX9_top 38 = .ok (.ifCond .eq 146, 3) := by decide +kernel
theorem dX9_top_41 : decode cX9_top 41 = .ok (.aload_n 0, 1) := by decide +kernel
theorem dX9_top_42 : decode cX9_top 42 = .ok (.aload_n 0, 1) := by decide +kernel
theorem dX9_top_43 : decode cX9_top 43 = .ok (.getfield 68, 3) := by decide +kernel
theorem dX9_top_46 : decode cX9_top 46 = .ok (.iload 7, 2) := by decide +kernel
theorem dX9_top_48 : decode cX9_top 48 = .ok (.iaload, 1) := by decide +kernel
theorem dX9_top_49 : decode cX9_top 49 = .ok (.iload_n 2, 1) := by decide +kernel
theorem dX9_top_50 : decode cX9_top 50 = .ok (.iload_n 3, 1) := by decide +kernel
theorem dX9_top_51 : decode cX9_top 51 = .ok (.iload 4, 2) := by decide +kernel
theorem dX9_top_53 : decode cX9_top 53 = .ok (.iload 5, 2) := by decide +kernel
theorem dX9_top_55 : decode cX9_top 55 = .ok (.invokevirtual 296, 3) := by decide +kernel
theorem dX9_top_58 : decode cX9_top 58 = .ok (.ifCond .ne 6, 3) := by decide +kernel
theorem dX9_top_61 : decode cX9_top 61 = .ok (.goto 123, 3) := by decide +kernel
theorem dX9_top_64 : decode cX9_top 64 = .ok (.iconst 0, 1) := by decide +kernel
theorem dX9_top_65 : decode cX9_top 65 = .ok (.istore 8, 2) := by decide +kernel
theorem dX9_top_67 : decode cX9_top 67 = .ok (.iconst 0, 1) := by decide +kernel
theorem dX9_top_68 : decode cX9_top 68 = .ok (.istore 9, 2) := by decide +kernel
theorem dX9_top_70 : decode cX9_top 70 = .ok (.iload 9, 2) := by decide +kernel
theorem dX9_top_72 : decode cX9_top 72 = .ok (.aload_n 0, 1) := by decide +kernel
theorem dX9_top_73 : decode cX9_top 73 = .ok (.getfield 98, 3) := by decide +kernel
theorem dX9_top_76 : decode cX9_top 76 = .ok (.if_icmp .ge 94, 3) := by decide +kernel
theorem dX9_top_79 : decode cX9_top 79 = .ok (.aload_n 0, 1) := by decide +kernel
theorem dX9_top_80 : decode cX9_top 80 = .ok (.iload 9, 2) := by decide +kernel
theorem dX9_top_82 : decode cX9_top 82 = .ok (.invokevirtual 254, 3) := by decide +kernel
theorem dX9_top_85 : decode cX9_top 85 = .ok (.ifCond .eq 79, 3) := by decide +kernel
theorem dX9_top_88 : decode cX9_top 88 = .ok (.aload_n 0, 1) := by decide +kernel
theorem dX9_top_89 : decode cX9_top 89 = .ok (.aload_n 0, 1) := by decide +kernel
theorem dX9_top_90 : decode cX9_top 90 = .ok (.getfield 68, 3) := by decide +kernel
theorem dX9_top_93 : decode cX9_top 93 = .ok (.iload 9, 2) := by decide +kernel
theorem dX9_top_95 : decode cX9_top 95 = .ok (.iaload, 1) := by decide +kernel
theorem dX9_top_96 : decode cX9_top 96 = .ok (.iload_n 2, 1) := by decide +kernel
theorem dX9_top_97 : decode cX9_top 97 = .ok (.iload_n 3, 1) := by decide +kernel
theorem dX9_top_98 : decode cX9_top 98 = .ok (.iload 4, 2) := by decide +kernel
theorem dX9_top_100 : decode cX9_top 100 = .ok (.iload 5, 2) := by decide +kernel
theorem dX9_top_102 : decode cX9_top 102 = .ok (.invokevirtual 296, 3) := by decide +kernel
theorem dX9_top_105 : decode cX9_top 105 = .ok (.ifCond .ne 6, 3) := by decide +kernel
theorem dX9_top_108 : decode cX9_top 108 = .ok (.goto 56, 3) := by decide +kernel
theorem dX9_top_111 : decode cX9_top 111 = .ok (.aload_n 0, 1) := by decide +kernel
theorem dX9_top_112 : decode cX9_top 112 = .ok (.aload_n 0, 1) := by decide +kernel
theorem dX9_top_113 : decode cX9_top 113 = .ok (.getfield 68, 3) := by decide +kernel
theorem dX9_top_116 : decode cX9_top 116 = .ok (.iload 9, 2) := by decide +kernel
theorem dX9_top_118 : decode cX9_top 118 = .ok (.iaload, 1) := by decide +kernel
theorem dX9_top_119 : decode cX9_top 119 = .ok (.invokevirtual 215, 3) := by decide +kernel
theorem dX9_top_122 : decode cX9_top 122 = .ok (.istore 10, 2) := by decide +kernel
theorem dX9_top_124 : decode cX9_top 124 = .ok (.aload_n 0, 1) := by decide +kernel
theorem dX9_top_125 : decode cX9_top 125 = .ok (.aload_n 0, 1) := by decide +kernel
theorem dX9_top_126 : decode cX9_top 126 = .ok (.getfield 68, 3) := by decide +kernel
theorem dX9_top_129 : decode cX9_top 129 = .ok (.iload 7, 2) := by decide +kernel
theorem dX9_top_131 : decode cX9_top 131 = .ok (.iaload, 1) := by decide +kernel
theorem dX9_top_132 : decode cX9_top 132 = .ok (.invokevirtual 215, 3) := by decide +kernel
theorem dX9_top_135 : decode cX9_top 135 = .ok (.istore 11, 2) := by decide +kernel
theorem dX9_top_137 : decode cX9_top 137 = .ok (.iload 10, 2) := by decide +kernel
theorem dX9_top_139 : decode cX9_top 139 = .ok (.iload 11, 2) := by decide +kernel
theorem dX9_top_141 : decode cX9_top 141 = .ok (.if_icmp .gt 17, 3) := by decide +kernel
theorem dX9_top_144 : decode cX9_top 144 = .ok (.iload 10, 2) := by decide +kernel
theorem dX9_top_146 : decode cX9_top 146 = .ok (.iload 11, 2) := by decide +kernel
theorem dX9_top_148 : decode cX9_top 148 = .ok (.if_icmp .ne 16, 3) := by decide +kernel
theorem dX9_top_151 : decode cX9_top 151 = .ok (.iload 9, 2) := by decide +kernel
theorem dX9_top_153 : decode cX9_top 153 = .ok (.iload 7, 2) := by decide +kernel
theorem dX9_top_155 : decode cX9_top 155 = .ok (.if_icmp .ge 9, 3) := by decide +kernel
theorem dX9_top_158 : decode cX9_top 158 = .ok (.iload 8, 2) := by decide +kernel
theorem dX9_top_160 : decode cX9_top 160 = .ok (.iconst 1, 1) := by decide +kernel
theorem dX9_top_161 : decode cX9_top 161 = .ok (.iadd, 1) := by decide +kernel
theorem dX9_top_162 : decode cX9_top 162 = .ok (.istore 8, 2) := by decide +kernel
theorem dX9_top_164 : decode cX9_top 164 = .ok (.iinc 9 1, 3) := by decide +kernel
theorem dX9_top_167 : decode cX9_top 167 = .ok (.goto (-97), 3) := by decide +kernel
theorem dX9_top_170 : decode cX9_top 170 = .ok (.iload 8, 2) := by decide +kernel
theorem dX9_top_172 : decode cX9_top 172 = .ok (.iload 6, 2) := by decide +kernel
theorem dX9_top_174 : decode cX9_top 174 = .ok (.if_icmp .ne 10, 3) := by decide +kernel
theorem dX9_top_177 : decode cX9_top 177 = .ok (.aload_n 0, 1) := by decide +kernel
theorem dX9_top_178 : decode cX9_top 178 = .ok (.iload 7, 2) := by decide +kernel
theorem dX9_top_180 : decode cX9_top 180 = .ok (.invokevirtual 266, 3) := by decide +kernel
theorem dX9_top_183 : decode cX9_top 183 = .ok (.ireturn, 1) := by decide +kernel
theorem dX9_top_184 : decode cX9_top 184 = .ok (.iinc 7 1, 3) := by decide +kernel
theorem dX9_top_187 : decode cX9_top 187 = .ok (.goto (-164), 3) := by decide +kernel
theorem dX9_top_190 : decode cX9_top 190 = .ok (.iconst (-1), 1) := by decide +kernel
theorem dX9_top_191 : decode cX9_top 191 = .ok (.ireturn, 1) := by decide +kernel
theorem dX9_tileSet_0 : decode cX9_tileSet 0 = .ok (.aload_n 0, 1) := by decide +kernel
theorem dX9_tileSet_1 : decode cX9_tileSet 1 = .ok (.iload_n 1, 1) := by decide +kernel
theorem dX9_tileSet_2 : decode cX9_tileSet 2 = .ok (.invokevirtual 242, 3) := by decide +kernel
theorem dX9_tileSet_5 : decode cX9_tileSet 5 = .ok (.istore 4, 2) := by decide +kernel
theorem dX9_tileSet_7 : decode cX9_tileSet 7 = .ok (.aload_n 0, 1) := by decide +kernel
theorem dX9_tileSet_8 : decode cX9_tileSet 8 = .ok (.iload_n 2, 1) := by decide +kernel
theorem dX9_tileSet_9 : decode cX9_tileSet 9 = .ok (.iload 4, 2) := by decide +kernel
theorem dX9_tileSet_11 : decode cX9_tileSet 11 = .ok (.imul, 1) := by decide +kernel
theorem dX9_tileSet_12 : decode cX9_tileSet 12 = .ok (.iload_n 2, 1) := by decide +kernel
theorem dX9_tileSet_13 : decode cX9_tileSet 13 = .ok (.iload 4, 2) := by decide +kernel
theorem dX9_tileSet_15 : decode cX9_tileSet 15 = .ok (.imul, 1) := by decide +kernel
theorem dX9_tileSet_16 : decode cX9_tileSet 16 = .ok (.iload 4, 2) := by decide +kernel
theorem dX9_tileSet_18 : decode cX9_tileSet 18 = .ok (.iadd, 1) := by decide +kernel
theorem dX9_tileSet_19 : decode cX9_tileSet 19 = .ok (.iconst 1, 1) := by decide +kernel
theorem dX9_tileSet_20 : decode cX9_tileSet 20 = .ok (.isub, 1) := by decide +kernel
theorem dX9_tileSet_21 : decode cX9_tileSet 21 = .ok (.iload_n 3, 1) := by decide +kernel
theorem dX9_tileSet_22 : decode cX9_tileSet 22 = .ok (.iload 4, 2) := by decide +kernel
theorem dX9_tileSet_24 : decode cX9_tileSet 24 = .ok (.imul, 1) := by decide +kernel
theorem dX9_tileSet_25 : decode cX9_tileSet 25 = .ok (.iload_n 3, 1) := by decide +kernel
theorem dX9_tileSet_26 : decode cX9_tileSet 26 = .ok (.iload 4, 2) := by decide +kernel
theorem dX9_tileSet_28 : decode cX9_tileSet 28 = .ok (.imul, 1) := by decide +kernel
theorem dX9_tileSet_29 : decode cX9_tileSet 29 = .ok (.iload 4, 2) := by decide +kernel
theorem dX9_tileSet_31 : decode cX9_tileSet 31 = .ok (.iadd, 1) := by decide +kernel
theorem dX9_tileSet_32 : decode cX9_tileSet 32 = .ok (.iconst 1, 1) := by decide +kernel
theorem dX9_tileSet_33 : decode cX9_tileSet 33 = .ok (.isub, 1) := by decide +kernel
theorem dX9_tileSet_34 : decode cX9_tileSet 34 = .ok (.invokevirtual 306, 3) := by decide +kernel
theorem dX9_tileSet_37 : decode cX9_tileSet 37 = .ok (.ireturn, 1) := by decide +kernel
theorem dX9_filled_0 : decode cX9_filled 0 = .ok (.aload_n 0, 1) := by decide +kernel
theorem dX9_filled_1 : decode cX9_filled 1 = .ok (.iconst 0, 1) := by decide +kernel
theorem dX9_filled_2 : decode cX9_filled 2 = .ok (.putfield 95, 3) := by decide +kernel
theorem dX9_filled_5 : decode cX9_filled 5 = .ok (.aload_n 0, 1) := by decide +kernel
theorem dX9_filled_6 : decode cX9_filled 6 = .ok (.iload_n 1, 1) := by decide +kernel
theorem dX9_filled_7 : decode cX9_filled 7 = .ok (.invokevirtual 257, 3) := by decide +kernel
theorem dX9_filled_10 : decode cX9_filled 10 = .ok (.ifCond .ne 5, 3) := by decide +kernel
theorem dX9_filled_13 : decode cX9_filled 13 = .ok (.iconst (-1), 1) := by decide +kernel
theorem dX9_filled_14 : decode cX9_filled 14 = .ok (.ireturn, 1) := by decide +kernel
theorem dX9_filled_15 : decode cX9_filled 15 = .ok (.iconst 0, 1) := by decide +kernel
theorem dX9_filled_16 : decode cX9_filled 16 = .ok (.istore_n 3, 1) := by decide +kernel
theorem dX9_filled_17 : decode cX9_filled 17 = .ok (.iconst (-1), 1) := by decide +kernel
theorem dX9_filled_18 : decode cX9_filled 18 = .ok (.istore 4, 2) := by decide +kernel
theorem dX9_filled_20 : decode cX9_filled 20 = .ok (.iconst (-1), 1) := by decide +kernel
theorem dX9_filled_21 : decode cX9_filled 21 = .ok (.istore 5, 2) := by decide +kernel
theorem dX9_filled_23 : decode cX9_filled 23 = .ok (.iconst 0, 1) := by decide +kernel
theorem dX9_filled_24 : decode cX9_filled 24 = .ok (.istore 6, 2) := by decide +kernel
theorem dX9_filled_26 : decode cX9_filled 26 = .ok (.iload 6, 2) := by decide +kernel
theorem dX9_filled_28 : decode cX9_filled 28 = .ok (.aload_n 0, 1) := by decide +kernel
theorem dX9_filled_29 : decode cX9_filled 29 = .ok (.getfield 98, 3) := by decide +kernel
theorem dX9_filled_32 : decode cX9_filled 32 = .ok (.if_icmp .ge 66, 3) := by decide +kernel
theorem dX9_filled_35 : decode cX9_filled 35 = .ok (.sipush 1024, 3) := by decide +kernel
theorem dX9_filled_38 : decode cX9_filled 38 = .ok (.aload_n 0, 1) := by decide +kernel
theorem dX9_filled_39 : decode cX9_filled 39 = .ok (.getfield 13, 3) := by decide +kernel
theorem dX9_filled_42 : decode cX9_filled 42 = .ok (.iload 6, 2) := by decide +kernel
theorem dX9_filled_44 : decode cX9_filled 44 = .ok (.iaload, 1) := by decide +kernel
theorem dX9_filled_45 : decode cX9_filled 45 = .ok (.aload_n 0, 1) := by decide +kernel
theorem dX9_filled_46 : decode cX9_filled 46 = .ok (.iload_n 1, 1) := by decide +kernel
theorem dX9_filled_47 : decode cX9_filled 47 = .ok (.invokevirtual 242, 3) := by decide +kernel
theorem dX9_filled_50 : decode cX9_filled 50 = .ok (.idiv, 1) := by decide +kernel
theorem dX9_filled_51 : decode cX9_filled 51 = .ok (.imul, 1) := by decide +kernel
theorem dX9_filled_52 : decode cX9_filled 52 = .ok (.aload_n 0, 1) := by decide +kernel
theorem dX9_filled_53 : decode cX9_filled 53 = .ok (.getfield 7, 3) := by decide +kernel
theorem dX9_filled_56 : decode cX9_filled 56 = .ok (.iload 6, 2) := by decide +kernel
theorem dX9_filled_58 : decode cX9_filled 58 = .ok (.iaload, 1) := by decide +kernel
theorem dX9_filled_59 : decode cX9_filled 59 = .ok (.aload_n 0, 1) := by decide +kernel
theorem dX9_filled_60 : decode cX9_filled 60 = .ok (.iload_n 1, 1) := by decide +kernel
theorem dX9_filled_61 : decode cX9_filled 61 = .ok (.invokevirtual 242, 3) := by decide +kernel
theorem dX9_filled_64 : decode cX9_filled 64 = .ok (.idiv, 1) := by decide +kernel
theorem dX9_filled_65 : decode cX9_filled 65 = .ok (.iadd, 1) := by decide +kernel
theorem dX9_filled_66 : decode cX9_filled 66 = .ok (.istore 7, 2) := by decide +kernel
theorem dX9_filled_68 : decode cX9_filled 68 = .ok (.iload 7, 2) := by decide +kernel
theorem dX9_filled_70 : decode cX9_filled 70 = .ok (.iload 4, 2) := by decide +kernel
theorem dX9_filled_72 : decode cX9_filled 72 = .ok (.if_icmp .le 20, 3) := by decide +kernel
theorem dX9_filled_75 : decode cX9_filled 75 = .ok (.iload 5, 2) := by decide +kernel
theorem dX9_filled_77 : decode cX9_filled 77 = .ok (.iconst (-1), 1) := by decide +kernel
theorem dX9_filled_78 : decode cX9_filled 78 = .ok (.if_icmp .eq 10, 3) := by decide +kernel
theorem dX9_filled_81 : decode cX9_filled 81 = .ok (.iload 7, 2) := by decide +kernel
theorem dX9_filled_83 : decode cX9_filled 83 = .ok (.iload 5, 2) := by decide +kernel
theorem dX9_filled_85 : decode cX9_filled 85 = .ok (.if_icmp .ge 7, 3) := by decide +kernel
theorem dX9_filled_88 : decode cX9_filled 88 = .ok (.iload 7, 2) := by decide +kernel
theorem dX9_filled_90 : decode cX9_filled 90 = .ok (.istore 5, 2) := by decide +kernel
theorem dX9_filled_92 : decode cX9_filled 92 = .ok (.iinc 6 1, 3) := by decide +kernel
theorem dX9_filled_95 : decode cX9_filled 95 = .ok (.goto (-69), 3) := by decide +kernel
theorem dX9_filled_98 : decode cX9_filled 98 = .ok (.iload 5, 2) := by decide +kernel
theorem dX9_filled_100 : decode cX9_filled 100 = .ok (.iconst (-1), 1) := by decide +kernel
theorem dX9_filled_101 : decode cX9_filled 101 = .ok (.if_icmp .ne 14, 3) := by decide +kernel
theorem dX9_filled_104 : decode cX9_filled 104 = .ok (.iload_n 2, 1) := by decide +kernel
theorem dX9_filled_105 : decode cX9_filled 105 = .ok (.iconst (-1), 1) := by decide +kernel
theorem dX9_filled_106 : decode cX9_filled 106 = .ok (.if_icmp .ne 7, 3) := by decide +kernel
theorem dX9_filled_109 : decode cX9_filled 109 = .ok (.iload_n 3, 1) := by decide +kernel
theorem dX9_filled_110 : decode cX9_filled 110 = .ok (.goto 4, 3) := by decide +kernel
theorem dX9_filled_113 : decode cX9_filled 113 = .ok (.iconst (-1), 1) := by decide +kernel
theorem dX9_filled_114 : decode cX9_filled 114 = .ok (.ireturn, 1) := by decide +kernel
theorem dX9_filled_115 : decode cX9_filled 115 = .ok (.iload_n 3, 1) := by decide +kernel
theorem dX9_filled_116 : decode cX9_filled 116 = .ok (.iload_n 2, 1) := by decide +kernel
theorem dX9_filled_117 : decode cX9_filled 117 = .ok (.if_icmp .ne 6, 3) := by decide +kernel
theorem dX9_filled_120 : decode cX9_filled 120 = .ok (.iload 5, 2) := by decide +kernel
theorem dX9_filled_122 : decode cX9_filled 122 = .ok (.ireturn, 1) := by decide +kernel
theorem dX9_filled_123 : decode cX9_filled 123 = .ok (.iload_n 3, 1) := by decide +kernel
theorem dX9_filled_124 : decode cX9_filled 124 = .ok (.iconst 1, 1) := by decide +kernel
theorem dX9_filled_125 : decode cX9_filled 125 = .ok (.iadd, 1) := by decide +kernel
theorem dX9_filled_126 : decode cX9_filled 126 = .ok (.istore_n 3, 1) := by decide +kernel
theorem dX9_filled_127 : decode cX9_filled 127 = .ok (.iload 5, 2) := by decide +kernel
theorem dX9_filled_129 : decode cX9_filled 129 = .ok (.istore 4, 2) := by decide +kernel
theorem dX9_filled_131 : decode cX9_filled 131 = .ok (.goto (-111), 3) := by decide +kernel
theorem dX9_densest_0 : decode cX9_densest 0 = .ok (.aload_n 0, 1) := by decide +kernel
theorem dX9_densest_1 : decode cX9_densest 1 = .ok (.iconst 0, 1) := by decide +kernel
theorem dX9_densest_2 : decode cX9_densest 2 = .ok (.putfield 95, 3) := by decide +kernel
theorem dX9_densest_5 : decode cX9_densest 5 = .ok (.aload_n 0, 1) := by decide +kernel
theorem dX9_densest_6 : decode cX9_densest 6 = .ok (.iload_n 1, 1) := by decide +kernel
theorem dX9_densest_7 : decode cX9_densest 7 = .ok (.invokevirtual 257, 3) := by decide +kernel
theorem dX9_densest_10 : decode cX9_densest 10 = .ok (.ifCond .eq 23, 3) := by decide +kernel
theorem dX9_densest_13 : decode cX9_densest 13 = .ok (.aload_n 0, 1) := by decide +kernel
theorem dX9_densest_14 : decode cX9_densest 14 = .ok (.getfield 98, 3) := by decide +kernel
theorem dX9_densest_17 : decode cX9_densest 17 = .ok (.ifCond .eq 16, 3) := by decide +kernel
theorem dX9_densest_20 : decode cX9_densest 20 = .ok (.aload_n 0, 1) := by decide +kernel
theorem dX9_densest_21 : decode cX9_densest 21 = .ok (.iload_n 2, 1) := by decide +kernel
theorem dX9_densest_22 : decode cX9_densest 22 = .ok (.i2l, 1) := by decide +kernel
theorem dX9_densest_23 : decode cX9_densest 23 = .ok (.lconst 0, 1) := by decide +kernel
theorem dX9_densest_24 : decode cX9_densest 24 = .ok (.ldc2_w 300, 3) := by decide +kernel
theorem dX9_densest_27 : decode cX9_densest 27 = .ok (.invokevirtual 101, 3) := by decide +kernel
theorem dX9_densest_30 : decode cX9_densest 30 = .ok (.ifCond .ne 5, 3) := by decide +kernel
theorem dX9_densest_33 : decode cX9_densest 33 = .ok (.iconst (-1), 1) := by decide +kernel
theorem dX9_densest_34 : decode cX9_densest 34 = .ok (.ireturn, 1) := by decide +kernel
theorem dX9_densest_35 : decode cX9_densest 35 = .ok (.iconst (-1), 1) := by decide +kernel
theorem dX9_densest_36 : decode cX9_densest 36 = .ok (.istore_n 3, 1) := by decide +kernel
theorem dX9_densest_37 : decode cX9_densest 37 = .ok (.iconst 0, 1) := by decide +kernel
theorem dX9_densest_38 : decode cX9_densest 38 = .ok (.istore 4, 2) := by decide +kernel
theorem dX9_densest_40 : decode cX9_densest 40 = .ok (.iconst 0, 1) := by decide +kernel
theorem dX9_densest_41 : decode cX9_densest 41 = .ok (.istore 5, 2) := by decide +kernel
theorem dX9_densest_43 : decode cX9_densest 43 = .ok (.iconst 0, 1) := by decide +kernel
theorem dX9_densest_44 : decode cX9_densest 44 = .ok (.istore 6, 2) := by decide +kernel
theorem dX9_densest_46 : decode cX9_densest 46 = .ok (.iload 6, 2) := by decide +kernel
theorem dX9_densest_48 : decode cX9_densest 48 = .ok (.aload_n 0, 1) := by decide +kernel
theorem dX9_densest_49 : decode cX9_densest 49 = .ok (.getfield 98, 3) := by decide +kernel
theorem dX9_densest_52 : decode cX9_densest 52 = .ok (.if_icmp .ge 165, 3) := by decide +kernel
theorem dX9_densest_55 : decode cX9_densest 55 = .ok (.iconst 0, 1) := by decide +kernel
theorem dX9_densest_56 : decode cX9_densest 56 = .ok (.istore 7, 2) := by decide +kernel
theorem dX9_densest_58 : decode cX9_densest 58 = .ok (.iload 7, 2) := by decide +kernel
theorem dX9_densest_60 : decode cX9_densest 60 = .ok (.aload_n 0, 1) := by decide +kernel
theorem dX9_densest_61 : decode cX9_densest 61 = .ok (.getfield 98, 3) := by decide +kernel
theorem dX9_densest_64 : decode cX9_densest 64 = .ok (.if_icmp .ge 147, 3) := by decide +kernel
theorem dX9_densest_67 : decode cX9_densest 67 = .ok (.aload_n 0, 1) := by decide +kernel
theorem dX9_densest_68 : decode cX9_densest 68 = .ok (.aload_n 0, 1) := by decide +kernel
theorem dX9_densest_69 : decode cX9_densest 69 = .ok (.aload_n 0, 1) := by decide +kernel
theorem dX9_densest_70 : decode cX9_densest 70 = .ok (.getfield 7, 3) := by decide +kernel
theorem dX9_densest_73 : decode cX9_densest 73 = .ok (.iload 6, 2) := by decide +kernel
theorem dX9_densest_75 : decode cX9_densest 75 = .ok (.iaload, 1) := by decide +kernel
theorem dX9_densest_76 : decode cX9_densest 76 = .ok (.aload_n 0, 1) := by decide +kernel
theorem dX9_densest_77 : decode cX9_densest 77 = .ok (.getfield 7, 3) := by decide +kernel
theorem dX9_densest_80 : decode cX9_densest 80 = .ok (.iload 6, 2) := by decide +kernel
theorem dX9_densest_82 : decode cX9_densest 82 = .ok (.iaload, 1) := by decide +kernel
theorem dX9_densest_83 : decode cX9_densest 83 = .ok (.aload_n 0, 1) := by decide +kernel
theorem dX9_densest_84 : decode cX9_densest 84 = .ok (.iload_n 1, 1) := by decide +kernel
theorem dX9_densest_85 : decode cX9_densest 85 = .ok (.invokevirtual 242, 3) := by decide +kernel
theorem dX9_densest_88 : decode cX9_densest 88 = .ok (.iadd, 1) := by decide +kernel
theorem dX9_densest_89 : decode cX9_densest 89 = .ok (.iconst 1, 1) := by decide +kernel
theorem dX9_densest_90 : decode cX9_densest 90 = .ok (.isub, 1) := by decide +kernel
theorem dX9_densest_91 : decode cX9_densest 91 = .ok (.aload_n 0, 1) := by decide +kernel
theorem dX9_densest_92 : decode cX9_densest 92 = .ok (.getfield 13, 3) := by decide +kernel
theorem dX9_densest_95 : decode cX9_densest 95 = .ok (.iload 7, 2) := by decide +kernel
theorem dX9_densest_97 : decode cX9_densest 97 = .ok (.iaload, 1) := by decide +kernel
theorem dX9_densest_98 : decode cX9_densest 98 = .ok (.aload_n 0, 1) := by decide +kernel
theorem dX9_densest_99 : decode cX9_densest 99 = .ok (.getfield 13, 3) := by decide +kernel
theorem dX9_densest_102 : decode cX9_densest 102 = .ok (.iload 7, 2) := by decide +kernel
theorem dX9_densest_104 : decode cX9_densest 104 = .ok (.iaload, 1) := by decide +kernel
theorem dX9_densest_105 : decode cX9_densest 105 = .ok (.aload_n 0, 1) := by decide +kernel
theorem dX9_densest_106 : decode cX9_densest 106 = .ok (.iload_n 1, 1) := by decide +kernel
theorem dX9_densest_107 : decode cX9_densest 107 = .ok (.invokevirtual 242, 3) := by decide +kernel
theorem dX9_densest_110 : decode cX9_densest 110 = .ok (.iadd, 1) := by decide +kernel
theorem dX9_densest_111 : decode cX9_densest 111 = .ok (.iconst 1, 1) := by decide +kernel
theorem dX9_densest_112 : decode cX9_densest 112 = .ok (.isub, 1) := by decide +kernel
theorem dX9_densest_113 : decode cX9_densest 113 = .ok (.invokevirtual 306, 3) := by decide +kernel
theorem dX9_densest_116 : decode cX9_densest 116 = .ok (.invokevirtual 215, 3) := by decide +kernel
theorem dX9_densest_119 : decode cX9_densest 119 = .ok (.istore 8, 2) := by decide +kernel
theorem dX9_densest_121 : decode cX9_densest 121 = .ok (.iload 8, 2) := by decide +kernel
theorem dX9_densest_123 : decode cX9_densest 123 = .ok (.iload_n 3, 1) := by decide +kernel
theorem dX9_densest_124 : decode cX9_densest 124 = .ok (.if_icmp .gt 45, 3) := by decide +kernel
theorem dX9_densest_127 : decode cX9_densest 127 = .ok (.iload 8, 2) := by decide +kernel
theorem dX9_densest_129 : decode cX9_densest 129 = .ok (.iload_n 3, 1) := by decide +kernel
theorem dX9_densest_130 : decode cX9_densest 130 = .ok (.if_icmp .ne 43, 3) := by decide +kernel
theorem dX9_densest_133 : decode cX9_densest 133 = .ok (.aload_n 0, 1) := by decide +kernel
theorem dX9_densest_134 : decode cX9_densest 134 = .ok (.getfield 7, 3) := by decide +kernel
theorem dX9_densest_137 : decode cX9_densest 137 = .ok (.iload 6, 2) := by decide +kernel
theorem dX9_densest_139 : decode cX9_densest 139 = .ok (.iaload, 1) := by decide +kernel
theorem dX9_densest_140 : decode cX9_densest 140 = .ok (.iload 4, 2) := by decide +kernel
theorem dX9_densest_142 : decode cX9_densest 142 = .ok (.if_icmp .lt 27, 3) := by decide +kernel
theorem dX9_densest_145 : decode cX9_densest 145 = .ok (.aload_n 0, 1) := by decide +kernel
theorem dX9_densest_146 : decode cX9_densest 146 = .ok (.getfield 7, 3) := by decide +kernel
theorem dX9_densest_149 : decode cX9_densest 149 = .ok (.iload 6, 2) := by decide +kernel
theorem dX9_densest_151 : decode cX9_densest 151 = .ok (.iaload, 1) := by decide +kernel
theorem dX9_densest_152 : decode cX9_densest 152 = .ok (.iload 4, 2) := by decide +kernel
theorem dX9_densest_154 : decode cX9_densest 154 = .ok (.if_icmp .ne 19, 3) := by decide +kernel
theorem dX9_densest_157 : decode cX9_densest 157 = .ok (.aload_n 0, 1) := by decide +kernel
theorem dX9_densest_158 : decode cX9_densest 158 = .ok (.getfield 13, 3) := by decide +kernel
theorem dX9_densest_161 : decode cX9_densest 161 = .ok (.iload 7, 2) := by decide +kernel
theorem dX9_densest_163 : decode cX9_densest 163 = .ok (.iaload, 1) := by decide +kernel
theorem dX9_densest_164 : decode cX9_densest 164 = .ok (.iload 5, 2) := by decide +kernel
theorem dX9_densest_166 : decode cX9_densest 166 = .ok (.if_icmp .ge 7, 3) := by decide +kernel
theorem dX9_densest_169 : decode cX9_densest 169 = .ok (.iconst 1, 1) := by decide +kernel
theorem dX9_densest_170 : decode cX9_densest 170 = .ok (.goto 4, 3) := by decide +kernel
theorem dX9_densest_173 : decode cX9_densest 173 = .ok (.iconst 0, 1) := by decide +kernel
theorem dX9_densest_174 : decode cX9_densest 174 = .ok (.istore 9, 2) := by decide +kernel
theorem dX9_densest_176 : decode cX9_densest 176 = .ok (.iload 9, 2) := by decide +kernel
theorem dX9_densest_178 : decode cX9_densest 178 = .ok (.ifCond .ne 6, 3) := by decide +kernel
theorem dX9_densest_181 : decode cX9_densest 181 = .ok (.goto 24, 3) := by decide +kernel
theorem dX9_densest_184 : decode cX9_densest 184 = .ok (.iload 8, 2) := by decide +kernel
theorem dX9_densest_186 : decode cX9_densest 186 = .ok (.istore_n 3, 1) := by decide +kernel
theorem dX9_densest_187 : decode cX9_densest 187 = .ok (.aload_n 0, 1) := by decide +kernel
theorem dX9_densest_188 : decode cX9_densest 188 = .ok (.getfield 7, 3) := by decide +kernel
theorem dX9_densest_191 : decode cX9_densest 191 = .ok (.iload 6, 2) := by decide +kernel
theorem dX9_densest_193 : decode cX9_densest 193 = .ok (.iaload, 1) := by decide +kernel
theorem dX9_densest_194 : decode cX9_densest 194 = .ok (.istore 4, 2) := by decide +kernel
theorem dX9_densest_196 : decode cX9_densest 196 = .ok (.aload_n 0, 1) := by decide +kernel
theorem dX9_densest_197 : decode cX9_densest 197 = .ok (.getfield 13, 3) := by decide +kernel
theorem dX9_densest_200 : decode cX9_densest 200 = .ok (.iload 7, 2) := by decide +kernel
theorem dX9_densest_202 : decode cX9_densest 202 = .ok (.iaload, 1) := by decide +kernel
theorem dX9_densest_203 : decode cX9_densest 203 = .ok (.istore 5, 2) := by decide +kernel
theorem dX9_densest_205 : decode cX9_densest 205 = .ok (.iinc 7 1, 3) := by decide +kernel
theorem dX9_densest_208 : decode cX9_densest 208 = .ok (.goto (-150), 3) := by decide +kernel
theorem dX9_densest_211 : decode cX9_densest 211 = .ok (.iinc 6 1, 3) := by decide +kernel
theorem dX9_densest_214 : decode cX9_densest 214 = .ok (.goto (-168), 3) := by decide +kernel
theorem dX9_densest_217 : decode cX9_densest 217 = .ok (.iload_n 2, 1) := by decide +kernel
theorem dX9_densest_218 : decode cX9_densest 218 = .ok (.iconst 3, 1) := by decide +kernel
theorem dX9_densest_219 : decode cX9_densest 219 = .ok (.if_icmp .ne 36, 3) := by decide +kernel
theorem dX9_densest_222 : decode cX9_densest 222 = .ok (.aload_n 0, 1) := by decide +kernel
theorem dX9_densest_223 : decode cX9_densest 223 = .ok (.aload_n 0, 1) := by decide +kernel
theorem dX9_densest_224 : decode cX9_densest 224 = .ok (.iload 4, 2) := by decide +kernel
theorem dX9_densest_226 : decode cX9_densest 226 = .ok (.iload 4, 2) := by decide +kernel
theorem dX9_densest_228 : decode cX9_densest 228 = .ok (.aload_n 0, 1) := by decide +kernel
theorem dX9_densest_229 : decode cX9_densest 229 = .ok (.iload_n 1, 1) := by decide +kernel
theorem dX9_densest_230 : decode cX9_densest 230 = .ok (.invokevirtual 242, 3) := by decide +kernel
theorem dX9_densest_233 : decode cX9_densest 233 = .ok (.iadd, 1) := by decide +kernel
theorem dX9_densest_234 : decode cX9_densest 234 = .ok (.iconst 1, 1) := by decide +kernel
theorem dX9_densest_235 : decode cX9_densest 235 = .ok (.isub, 1) := by decide +kernel
theorem dX9_densest_236 : decode cX9_densest 236 = .ok (.iload 5, 2) := by decide +kernel
theorem dX9_densest_238 : decode cX9_densest 238 = .ok (.iload 5, 2) := by decide +kernel
theorem dX9_densest_240 : decode cX9_densest 240 = .ok (.aload_n 0, 1) := by decide +kernel
theorem dX9_densest_241 : decode cX9_densest 241 = .ok (.iload_n 1, 1) := by decide +kernel
theorem dX9_densest_242 : decode cX9_densest 242 = .ok (.invokevirtual 242, 3) := by decide +kernel
theorem dX9_densest_245 : decode cX9_densest 245 = .ok (.iadd, 1) := by decide +kernel
theorem dX9_densest_246 : decode cX9_densest 246 = .ok (.iconst 1, 1) := by decide +kernel
theorem dX9_densest_247 : decode cX9_densest 247 = .ok (.isub, 1) := by decide +kernel
theorem dX9_densest_248 : decode cX9_densest 248 = .ok (.invokevirtual 306, 3) := by decide +kernel
theorem dX9_densest_251 : decode cX9_densest 251 = .ok (.invokevirtual 224, 3) := by decide +kernel
theorem dX9_densest_254 : decode cX9_densest 254 = .ok (.ireturn, 1) := by decide +kernel
theorem dX9_densest_255 : decode cX9_densest 255 = .ok (.iload_n 2, 1) := by decide +kernel
theorem dX9_densest_256 : decode cX9_densest 256 = .ok (.ifCond .ne 8, 3) := by decide +kernel
theorem dX9_densest_259 : decode cX9_densest 259 = .ok (.iload 4, 2) := by decide +kernel
theorem dX9_densest_261 : decode cX9_densest 261 = .ok (.goto 14, 3) := by decide +kernel
theorem dX9_densest_264 : decode cX9_densest 264 = .ok (.iload_n 2, 1) := by decide +kernel
theorem dX9_densest_265 : decode cX9_densest 265 = .ok (.iconst 1, 1) := by decide +kernel
theorem dX9_densest_266 : decode cX9_densest 266 = .ok (.if_icmp .ne 8, 3) := by decide +kernel
theorem dX9_densest_269 : decode cX9_densest 269 = .ok (.iload 5, 2) := by decide +kernel
theorem dX9_densest_271 : decode cX9_densest 271 = .ok (.goto 4, 3) := by decide +kernel
theorem dX9_densest_274 : decode cX9_densest 274 = .ok (.iload_n 3, 1) := by decide +kernel
theorem dX9_densest_275 : decode cX9_densest 275 = .ok (.ireturn, 1) := by decide +kernel
theorem dX9_tiles_0 : decode cX9_tiles 0 = .ok (.aload_n 0, 1) := by decide +kernel
theorem dX9_tiles_1 : decode cX9_tiles 1 = .ok (.iload_n 1, 1) := by decide +kernel
theorem dX9_tiles_2 : decode cX9_tiles 2 = .ok (.iload_n 2, 1) := by decide +kernel
theorem dX9_tiles_3 : decode cX9_tiles 3 = .ok (.iload_n 3, 1) := by decide +kernel
theorem dX9_tiles_4 : decode cX9_tiles 4 = .ok (.invokevirtual 310, 3) := by decide +kernel
theorem dX9_tiles_7 : decode cX9_tiles 7 = .ok (.istore 5, 2) := by decide +kernel
theorem dX9_tiles_9 : decode cX9_tiles 9 = .ok (.iload 5, 2) := by decide +kernel
theorem dX9_tiles_11 : decode cX9_tiles 11 = .ok (.iload 4, 2) := by decide +kernel
theorem dX9_tiles_13 : decode cX9_tiles 13 = .ok (.iand, 1) := by decide +kernel
theorem dX9_tiles_14 : decode cX9_tiles 14 = .ok (.ifCond .ne 5, 3) := by decide +kernel
theorem dX9_tiles_17 : decode cX9_tiles 17 = .ok (.iconst 0, 1) := by decide +kernel
theorem dX9_tiles_18 : decode cX9_tiles 18 = .ok (.ireturn, 1) := by decide +kernel
theorem dX9_tiles_19 : decode cX9_tiles 19 = .ok (.iload 5, 2) := by decide +kernel
theorem dX9_tiles_21 : decode cX9_tiles 21 = .ok (.iload 4, 2) := by decide +kernel
theorem dX9_tiles_23 : decode cX9_tiles 23 = .ok (.iconst (-1), 1) := by decide +kernel
theorem dX9_tiles_24 : decode cX9_tiles 24 = .ok (.ixor, 1) := by decide +kernel
theorem dX9_tiles_25 : decode cX9_tiles 25 = .ok (.iand, 1) := by decide +kernel
theorem dX9_tiles_26 : decode cX9_tiles 26 = .ok (.ifCond .ne 5, 3) := by decide +kernel
theorem dX9_tiles_29 : decode cX9_tiles 29 = .ok (.iconst 1, 1) := by decide +kernel
theorem dX9_tiles_30 : decode cX9_tiles 30 = .ok (.ireturn, 1) := by decide +kernel
theorem dX9_tiles_31 : decode cX9_tiles 31 = .ok (.iconst 0, 1) := by decide +kernel
theorem dX9_tiles_32 : decode cX9_tiles 32 = .ok (.istore 6, 2) := by decide +kernel
theorem dX9_tiles_34 : decode cX9_tiles 34 = .ok (.iconst 0, 1) := by decide +kernel
theorem dX9_tiles_35 : decode cX9_tiles 35 = .ok (.istore 7, 2) := by decide +kernel
theorem dX9_tiles_37 : decode cX9_tiles 37 = .ok (.iload 7, 2) := by decide +kernel
theorem dX9_tiles_39 : decode cX9_tiles 39 = .ok (.iconst 4, 1) := by decide +kernel
theorem dX9_tiles_40 : decode cX9_tiles 40 = .ok (.if_icmp .ge 39, 3) := by decide +kernel
theorem dX9_tiles_43 : decode cX9_tiles 43 = .ok (.iload 6, 2) := by decide +kernel
theorem dX9_tiles_45 : decode cX9_tiles 45 = .ok (.aload_n 0, 1) := by decide +kernel
theorem dX9_tiles_46 : decode cX9_tiles 46 = .ok (.iload_n 1, 1) := by decide +kernel
theorem dX9_tiles_47 : decode cX9_tiles 47 = .ok (.iconst 1, 1) := by decide +kernel
theorem dX9_tiles_48 : decode cX9_tiles 48 = .ok (.iadd, 1) := by decide +kernel
theorem dX9_tiles_49 : decode cX9_tiles 49 = .ok (.iconst 2, 1) := by decide +kernel
theorem dX9_tiles_50 : decode cX9_tiles 50 = .ok (.iload_n 2, 1) := by decide +kernel
theorem dX9_tiles_51 : decode cX9_tiles 51 = .ok (.imul, 1) := by decide +kernel
theorem dX9_tiles_52 : decode cX9_tiles 52 = .ok (.iload 7, 2) := by decide +kernel
theorem dX9_tiles_54 : decode cX9_tiles 54 = .ok (.iconst 1, 1) := by decide +kernel
theorem dX9_tiles_55 : decode cX9_tiles 55 = .ok (.iand, 1) := by decide +kernel
theorem dX9_tiles_56 : decode cX9_tiles 56 = .ok (.iadd, 1) := by decide +kernel
theorem dX9_tiles_57 : decode cX9_tiles 57 = .ok (.iconst 2, 1) := by decide +kernel
theorem dX9_tiles_58 : decode cX9_tiles 58 = .ok (.iload_n 3, 1) := by decide +kernel
theorem dX9_tiles_59 : decode cX9_tiles 59 = .ok (.imul, 1) := by decide +kernel
theorem dX9_tiles_60 : decode cX9_tiles 60 = .ok (.iload 7, 2) := by decide +kernel
theorem dX9_tiles_62 : decode cX9_tiles 62 = .ok (.iconst 1, 1) := by decide +kernel
theorem dX9_tiles_63 : decode cX9_tiles 63 = .ok (.ishr, 1) := by decide +kernel
theorem dX9_tiles_64 : decode cX9_tiles 64 = .ok (.iadd, 1) := by decide +kernel
theorem dX9_tiles_65 : decode cX9_tiles 65 = .ok (.iload 4, 2) := by decide +kernel
theorem dX9_tiles_67 : decode cX9_tiles 67 = .ok (.invokevirtual 313, 3) := by decide +kernel
theorem dX9_tiles_70 : decode cX9_tiles 70 = .ok (.iadd, 1) := by decide +kernel
theorem dX9_tiles_71 : decode cX9_tiles 71 = .ok (.istore 6, 2) := by decide +kernel
theorem dX9_tiles_73 : decode cX9_tiles 73 = .ok (.iinc 7 1, 3) := by decide +kernel
theorem dX9_tiles_76 : decode cX9_tiles 76 = .ok (.goto (-39), 3) := by decide +kernel
theorem dX9_tiles_79 : decode cX9_tiles 79 = .ok (.iload 6, 2) := by decide +kernel
theorem dX9_tiles_81 : decode cX9_tiles 81 = .ok (.ireturn, 1) := by decide +kernel
theorem dX9_cover_0 : decode cX9_cover 0 = .ok (.aload_n 0, 1) := by decide +kernel
theorem dX9_cover_1 : decode cX9_cover 1 = .ok (.iconst 0, 1) := by decide +kernel
theorem dX9_cover_2 : decode cX9_cover 2 = .ok (.putfield 95, 3) := by decide +kernel
theorem dX9_cover_5 : decode cX9_cover 5 = .ok (.aload_n 0, 1) := by decide +kernel
theorem dX9_cover_6 : decode cX9_cover 6 = .ok (.iload_n 1, 1) := by decide +kernel
theorem dX9_cover_7 : decode cX9_cover 7 = .ok (.iload_n 2, 1) := by decide +kernel
theorem dX9_cover_8 : decode cX9_cover 8 = .ok (.invokevirtual 269, 3) := by decide +kernel
theorem dX9_cover_11 : decode cX9_cover 11 = .ok (.istore_n 3, 1) := by decide +kernel
theorem dX9_cover_12 : decode cX9_cover 12 = .ok (.iload_n 3, 1) := by decide +kernel
theorem dX9_cover_13 : decode cX9_cover 13 = .ok (.ifCond .ne 7, 3) := by decide +kernel
theorem dX9_cover_16 : decode cX9_cover 16 = .ok (.iconst (-1), 1) := by decide +kernel
theorem dX9_cover_17 : decode cX9_cover 17 = .ok (.goto 11, 3) := by decide +kernel
theorem dX9_cover_20 : decode cX9_cover 20 = .ok (.aload_n 0, 1) := by decide +kernel
theorem dX9_cover_21 : decode cX9_cover 21 = .ok (.iconst 0, 1) := by decide +kernel
theorem dX9_cover_22 : decode cX9_cover 22 = .ok (.iconst 0, 1) := by decide +kernel
theorem dX9_cover_23 : decode cX9_cover 23 = .ok (.iconst 0, 1) := by decide +kernel
theorem dX9_cover_24 : decode cX9_cover 24 = .ok (.iload_n 3, 1) := by decide +kernel
theorem dX9_cover_25 : decode cX9_cover 25 = .ok (.invokevirtual 313, 3) := by decide +kernel
theorem dX9_cover_28 : decode cX9_cover 28 = .ok (.ireturn, 1) := by decide +kernel
theorem dX9_tile_0 : decode cX9_tile 0 = .ok (.aload_n 0, 1) := by decide +kernel
theorem dX9_tile_1 : decode cX9_tile 1 = .ok (.iconst 0, 1) := by decide +kernel
theorem dX9_tile_2 : decode cX9_tile 2 = .ok (.putfield 95, 3) := by decide +kernel
theorem dX9_tile_5 : decode cX9_tile 5 = .ok (.aload_n 0, 1) := by decide +kernel
theorem dX9_tile_6 : decode cX9_tile 6 = .ok (.iload_n 1, 1) := by decide +kernel
theorem dX9_tile_7 : decode cX9_tile 7 = .ok (.invokevirtual 257, 3) := by decide +kernel
theorem dX9_tile_10 : decode cX9_tile 10 = .ok (.ifCond .eq 47, 3) := by decide +kernel
theorem dX9_tile_13 : decode cX9_tile 13 = .ok (.aload_n 0, 1) := by decide +kernel
theorem dX9_tile_14 : decode cX9_tile 14 = .ok (.iload_n 2, 1) := by decide +kernel
theorem dX9_tile_15 : decode cX9_tile 15 = .ok (.i2l, 1) := by decide +kernel
theorem dX9_tile_16 : decode cX9_tile 16 = .ok (.lconst 0, 1) := by decide +kernel
theorem dX9_tile_17 : decode cX9_tile 17 = .ok (.lconst 1, 1) := by decide +kernel
theorem dX9_tile_18 : decode cX9_tile 18 = .ok (.iload_n 1, 1) := by decide +kernel
theorem dX9_tile_19 : decode cX9_tile 19 = .ok (.lshl, 1) := by decide +kernel
theorem dX9_tile_20 : decode cX9_tile 20 = .ok (.lconst 1, 1) := by decide +kernel
theorem dX9_tile_21 : decode cX9_tile 21 = .ok (.lsub, 1) := by decide +kernel
theorem dX9_tile_22 : decode cX9_tile 22 = .ok (.invokevirtual 101, 3) := by decide +kernel
theorem dX9_tile_25 : decode cX9_tile 25 = .ok (.ifCond .eq 32, 3) := by decide +kernel
theorem dX9_tile_28 : decode cX9_tile 28 = .ok (.aload_n 0, 1) := by decide +kernel
theorem dX9_tile_29 : decode cX9_tile 29 = .ok (.iload_n 3, 1) := by decide +kernel
theorem dX9_tile_30 : decode cX9_tile 30 = .ok (.i2l, 1) := by decide +kernel
theorem dX9_tile_31 : decode cX9_tile 31 = .ok (.lconst 0, 1) := by decide +kernel
theorem dX9_tile_32 : decode cX9_tile 32 = .ok (.lconst 1, 1) := by decide +kernel
theorem dX9_tile_33 : decode cX9_tile 33 = .ok (.iload_n 1, 1) := by decide +kernel
theorem dX9_tile_34 : decode cX9_tile 34 = .ok (.lshl, 1) := by decide +kernel
theorem dX9_tile_35 : decode cX9_tile 35 = .ok (.lconst 1, 1) := by decide +kernel
theorem dX9_tile_36 : decode cX9_tile 36 = .ok (.lsub, 1) := by decide +kernel
theorem dX9_tile_37 : decode cX9_tile 37 = .ok (.invokevirtual 101, 3) := by decide +kernel
theorem dX9_tile_40 : decode cX9_tile 40 = .ok (.ifCond .eq 17, 3) := by decide +kernel
theorem dX9_tile_43 : decode cX9_tile 43 = .ok (.aload_n 0, 1) := by decide +kernel
theorem dX9_tile_44 : decode cX9_tile 44 = .ok (.iload 4, 2) := by decide +kernel
theorem dX9_tile_46 : decode cX9_tile 46 = .ok (.i2l, 1) := by decide +kernel
theorem dX9_tile_47 : decode cX9_tile 47 = .ok (.lconst 0, 1) := by decide +kernel
theorem dX9_tile_48 : decode cX9_tile 48 = .ok (.ldc2_w 300, 3) := by decide +kernel
theorem dX9_tile_51 : decode cX9_tile 51 = .ok (.invokevirtual 101, 3) := by decide +kernel
theorem dX9_tile_54 : decode cX9_tile 54 = .ok (.ifCond .ne 5, 3) := by decide +kernel
theorem dX9_tile_57 : decode cX9_tile 57 = .ok (.iconst (-1), 1) := by decide +kernel
theorem dX9_tile_58 : decode cX9_tile 58 = .ok (.ireturn, 1) := by decide +kernel
theorem dX9_tile_59 : decode cX9_tile 59 = .ok (.aload_n 0, 1) := by decide +kernel
theorem dX9_tile_60 : decode cX9_tile 60 = .ok (.iload_n 1, 1) := by decide +kernel
theorem dX9_tile_61 : decode cX9_tile 61 = .ok (.iload_n 2, 1) := by decide +kernel
theorem dX9_tile_62 : decode cX9_tile 62 = .ok (.iload_n 3, 1) := by decide +kernel
theorem dX9_tile_63 : decode cX9_tile 63 = .ok (.invokevirtual 310, 3) := by decide +kernel
theorem dX9_tile_66 : decode cX9_tile 66 = .ok (.istore 5, 2) := by decide +kernel
theorem dX9_tile_68 : decode cX9_tile 68 = .ok (.iload 4, 2) := by decide +kernel
theorem dX9_tile_70 : decode cX9_tile 70 = .ok (.ifCond .ne 10, 3) := by decide +kernel
theorem dX9_tile_73 : decode cX9_tile 73 = .ok (.aload_n 0, 1) := by decide +kernel
theorem dX9_tile_74 : decode cX9_tile 74 = .ok (.iload 5, 2) := by decide +kernel
theorem dX9_tile_76 : decode cX9_tile 76 = .ok (.invokevirtual 224, 3) := by decide +kernel
theorem dX9_tile_79 : decode cX9_tile 79 = .ok (.ireturn, 1) := by decide +kernel
theorem dX9_tile_80 : decode cX9_tile 80 = .ok (.iload 4, 2) := by decide +kernel
theorem dX9_tile_82 : decode cX9_tile 82 = .ok (.iconst 1, 1) := by decide +kernel
theorem dX9_tile_83 : decode cX9_tile 83 = .ok (.if_icmp .ne 10, 3) := by decide +kernel
theorem dX9_tile_86 : decode cX9_tile 86 = .ok (.aload_n 0, 1) := by decide +kernel
theorem dX9_tile_87 : decode cX9_tile 87 = .ok (.iload 5, 2) := by decide +kernel
theorem dX9_tile_89 : decode cX9_tile 89 = .ok (.invokevirtual 215, 3) := by decide +kernel
theorem dX9_tile_92 : decode cX9_tile 92 = .ok (.ireturn, 1) := by decide +kernel
theorem dX9_tile_93 : decode cX9_tile 93 = .ok (.aload_n 0, 1) := by decide +kernel
theorem dX9_tile_94 : decode cX9_tile 94 = .ok (.iload_n 1, 1) := by decide +kernel
theorem dX9_tile_95 : decode cX9_tile 95 = .ok (.invokevirtual 242, 3) := by decide +kernel
theorem dX9_tile_98 : decode cX9_tile 98 = .ok (.istore 6, 2) := by decide +kernel
theorem dX9_tile_100 : decode cX9_tile 100 = .ok (.iload 4, 2) := by decide +kernel
theorem dX9_tile_102 : decode cX9_tile 102 = .ok (.iconst 2, 1) := by decide +kernel
theorem dX9_tile_103 : decode cX9_tile 103 = .ok (.if_icmp .ne 40, 3) := by decide +kernel
theorem dX9_tile_106 : decode cX9_tile 106 = .ok (.aload_n 0, 1) := by decide +kernel
theorem dX9_tile_107 : decode cX9_tile 107 = .ok (.iload_n 1, 1) := by decide +kernel
theorem dX9_tile_108 : decode cX9_tile 108 = .ok (.invokevirtual 260, 3) := by decide +kernel
theorem dX9_tile_111 : decode cX9_tile 111 = .ok (.aload_n 0, 1) := by decide +kernel
theorem dX9_tile_112 : decode cX9_tile 112 = .ok (.iload_n 2, 1) := by decide +kernel
theorem dX9_tile_113 : decode cX9_tile 113 = .ok (.iload 6, 2) := by decide +kernel
theorem dX9_tile_115 : decode cX9_tile 115 = .ok (.imul, 1) := by decide +kernel
theorem dX9_tile_116 : decode cX9_tile 116 = .ok (.iload_n 2, 1) := by decide +kernel
theorem dX9_tile_117 : decode cX9_tile 117 = .ok (.iload 6, 2) := by decide +kernel
theorem dX9_tile_119 : decode cX9_tile 119 = .ok (.imul, 1) := by decide +kernel
theorem dX9_tile_120 : decode cX9_tile 120 = .ok (.iload 6, 2) := by decide +kernel
theorem dX9_tile_122 : decode cX9_tile 122 = .ok (.iadd, 1) := by decide +kernel
theorem dX9_tile_123 : decode cX9_tile 123 = .ok (.iconst 1, 1) := by decide +kernel
theorem dX9_tile_124 : decode cX9_tile 124 = .ok (.isub, 1) := by decide +kernel
theorem dX9_tile_125 : decode cX9_tile 125 = .ok (.iload_n 3, 1) := by decide +kernel
theorem dX9_tile_126 : decode cX9_tile 126 = .ok (.iload 6, 2) := by decide +kernel
theorem dX9_tile_128 : decode cX9_tile 128 = .ok (.imul, 1) := by decide +kernel
theorem dX9_tile_129 : decode cX9_tile 129 = .ok (.iload_n 3, 1) := by decide +kernel
theorem dX9_tile_130 : decode cX9_tile 130 = .ok (.iload 6, 2) := by decide +kernel
theorem dX9_tile_132 : decode cX9_tile 132 = .ok (.imul, 1) := by decide +kernel
theorem dX9_tile_133 : decode cX9_tile 133 = .ok (.iload 6, 2) := by decide +kernel
theorem dX9_tile_135 : decode cX9_tile 135 = .ok (.iadd, 1) := by decide +kernel
theorem dX9_tile_136 : decode cX9_tile 136 = .ok (.iconst 1, 1) := by decide +kernel
theorem dX9_tile_137 : decode cX9_tile 137 = .ok (.isub, 1) := by decide +kernel
theorem dX9_tile_138 : decode cX9_tile 138 = .ok (.iconst 0, 1) := by decide +kernel
theorem dX9_tile_139 : decode cX9_tile 139 = .ok (.invokevirtual 302, 3) := by decide +kernel
theorem dX9_tile_142 : decode cX9_tile 142 = .ok (.ireturn, 1) := by decide +kernel
theorem dX9_tile_143 : decode cX9_tile 143 = .ok (.iconst 0, 1) := by decide +kernel
theorem dX9_tile_144 : decode cX9_tile 144 = .ok (.istore 7, 2) := by decide +kernel
theorem dX9_tile_146 : decode cX9_tile 146 = .ok (.iconst 0, 1) := by decide +kernel
theorem dX9_tile_147 : decode cX9_tile 147 = .ok (.istore 8, 2) := by decide +kernel
theorem dX9_tile_149 : decode cX9_tile 149 = .ok (.iload 8, 2) := by decide +kernel
theorem dX9_tile_151 : decode cX9_tile 151 = .ok (.iconst 4, 1) := by decide +kernel
theorem dX9_tile_152 : decode cX9_tile 152 = .ok (.if_icmp .ge 50, 3) := by decide +kernel
theorem dX9_tile_155 : decode cX9_tile 155 = .ok (.iload_n 1, 1) := by decide +kernel
theorem dX9_tile_156 : decode cX9_tile 156 = .ok (.bipush 10, 2) := by decide +kernel
theorem dX9_tile_158 : decode cX9_tile 158 = .ok (.if_icmp .ge 44, 3) := by decide +kernel
theorem dX9_tile_161 : decode cX9_tile 161 = .ok (.aload_n 0, 1) := by decide +kernel
theorem dX9_tile_162 : decode cX9_tile 162 = .ok (.iload_n 1, 1) := by decide +kernel
theorem dX9_tile_163 : decode cX9_tile 163 = .ok (.iconst 1, 1) := by decide +kernel
theorem dX9_tile_164 : decode cX9_tile 164 = .ok (.iadd, 1) := by decide +kernel
theorem dX9_tile_165 : decode cX9_tile 165 = .ok (.iconst 2, 1) := by decide +kernel
theorem dX9_tile_166 : decode cX9_tile 166 = .ok (.iload_n 2, 1) := by decide +kernel
theorem dX9_tile_167 : decode cX9_tile 167 = .ok (.imul, 1) := by decide +kernel
theorem dX9_tile_168 : decode cX9_tile 168 = .ok (.iload 8, 2) := by decide +kernel
theorem dX9_tile_170 : decode cX9_tile 170 = .ok (.iconst 1, 1) := by decide +kernel
theorem dX9_tile_171 : decode cX9_tile 171 = .ok (.iand, 1) := by decide +kernel
theorem dX9_tile_172 : decode cX9_tile 172 = .ok (.iadd, 1) := by decide +kernel
theorem dX9_tile_173 : decode cX9_tile 173 = .ok (.iconst 2, 1) := by decide +kernel
theorem dX9_tile_174 : decode cX9_tile 174 = .ok (.iload_n 3, 1) := by decide +kernel
theorem dX9_tile_175 : decode cX9_tile 175 = .ok (.imul, 1) := by decide +kernel
theorem dX9_tile_176 : decode cX9_tile 176 = .ok (.iload 8, 2) := by decide +kernel
theorem dX9_tile_178 : decode cX9_tile 178 = .ok (.iconst 1, 1) := by decide +kernel
theorem dX9_tile_179 : decode cX9_tile 179 = .ok (.ishr, 1) := by decide +kernel
theorem dX9_tile_180 : decode cX9_tile 180 = .ok (.iadd, 1) := by decide +kernel
theorem dX9_tile_181 : decode cX9_tile 181 = .ok (.invokevirtual 310, 3) := by decide +kernel
theorem dX9_tile_184 : decode cX9_tile 184 = .ok (.ifCond .eq 12, 3) := by decide +kernel
theorem dX9_tile_187 : decode cX9_tile 187 = .ok (.iload 7, 2) := by decide +kernel
theorem dX9_tile_189 : decode cX9_tile 189 = .ok (.iconst 1, 1) := by decide +kernel
theorem dX9_tile_190 : decode cX9_tile 190 = .ok (.iload 8, 2) := by decide +kernel
theorem dX9_tile_192 : decode cX9_tile 192 = .ok (.ishl, 1) := by decide +kernel
theorem dX9_tile_193 : decode cX9_tile 193 = .ok (.ior, 1) := by decide +kernel
theorem dX9_tile_194 : decode cX9_tile 194 = .ok (.istore 7, 2) := by decide +kernel
theorem dX9_tile_196 : decode cX9_tile 196 = .ok (.iinc 8 1, 3) := by decide +kernel
theorem dX9_tile_199 : decode cX9_tile 199 = .ok (.goto (-50), 3) := by decide +kernel
theorem dX9_tile_202 : decode cX9_tile 202 = .ok (.iload 7, 2) := by decide +kernel
theorem dX9_tile_204 : decode cX9_tile 204 = .ok (.ireturn, 1) := by decide +kernel
theorem dX9_turn_0 : decode cX9_turn 0 = .ok (.aload_n 0, 1) := by decide +kernel
theorem dX9_turn_1 : decode cX9_turn 1 = .ok (.getfield 7, 3) := by decide +kernel
theorem dX9_turn_4 : decode cX9_turn 4 = .ok (.iload_n 2, 1) := by decide +kernel
theorem dX9_turn_5 : decode cX9_turn 5 = .ok (.iaload, 1) := by decide +kernel
theorem dX9_turn_6 : decode cX9_turn 6 = .ok (.aload_n 0, 1) := by decide +kernel
theorem dX9_turn_7 : decode cX9_turn 7 = .ok (.getfield 7, 3) := by decide +kernel
theorem dX9_turn_10 : decode cX9_turn 10 = .ok (.iload_n 1, 1) := by decide +kernel
theorem dX9_turn_11 : decode cX9_turn 11 = .ok (.iaload, 1) := by decide +kernel
theorem dX9_turn_12 : decode cX9_turn 12 = .ok (.isub, 1) := by decide +kernel
theorem dX9_turn_13 : decode cX9_turn 13 = .ok (.aload_n 0, 1) := by decide +kernel
theorem dX9_turn_14 : decode cX9_turn 14 = .ok (.getfield 13, 3) := by decide +kernel
theorem dX9_turn_17 : decode cX9_turn 17 = .ok (.iload_n 3, 1) := by decide +kernel
theorem dX9_turn_18 : decode cX9_turn 18 = .ok (.iaload, 1) := by decide +kernel
theorem dX9_turn_19 : decode cX9_turn 19 = .ok (.aload_n 0, 1) := by decide +kernel
theorem dX9_turn_20 : decode cX9_turn 20 = .ok (.getfield 13, 3) := by decide +kernel
theorem dX9_turn_23 : decode cX9_turn 23 = .ok (.iload_n 1, 1) := by decide +kernel
theorem dX9_turn_24 : decode cX9_turn 24 = .ok (.iaload, 1) := by decide +kernel
theorem dX9_turn_25 : decode cX9_turn 25 = .ok (.isub, 1) := by decide +kernel
theorem dX9_turn_26 : decode cX9_turn 26 = .ok (.imul, 1) := by decide +kernel
theorem dX9_turn_27 : decode cX9_turn 27 = .ok (.aload_n 0, 1) := by decide +kernel
theorem dX9_turn_28 : decode cX9_turn 28 = .ok (.getfield 13, 3) := by decide +kernel
theorem dX9_turn_31 : decode cX9_turn 31 = .ok (.iload_n 2, 1) := by decide +kernel
theorem dX9_turn_32 : decode cX9_turn 32 = .ok (.iaload, 1) := by decide +kernel
theorem dX9_turn_33 : decode cX9_turn 33 = .ok (.aload_n 0, 1) := by decide +kernel
theorem dX9_turn_34 : decode cX9_turn 34 = .ok (.getfield 13, 3) := by decide +kernel
theorem dX9_turn_37 : decode cX9_turn 37 = .ok (.iload_n 1, 1) := by decide +kernel
theorem dX9_turn_38 : decode cX9_turn 38 = .ok (.iaload, 1) := by decide +kernel
theorem dX9_turn_39 : decode cX9_turn 39 = .ok (.isub, 1) := by decide +kernel
theorem dX9_turn_40 : decode cX9_turn 40 = .ok (.aload_n 0, 1) := by decide +kernel
theorem dX9_turn_41 : decode cX9_turn 41 = .ok (.getfield 7, 3) := by decide +kernel
theorem dX9_turn_44 : decode cX9_turn 44 = .ok (.iload_n 3, 1) := by decide +kernel
theorem dX9_turn_45 : decode cX9_turn 45 = .ok (.iaload, 1) := by decide +kernel
theorem dX9_turn_46 : decode cX9_turn 46 = .ok (.aload_n 0, 1) := by decide +kernel
theorem dX9_turn_47 : decode cX9_turn 47 = .ok (.getfield 7, 3) := by decide +kernel
theorem dX9_turn_50 : decode cX9_turn 50 = .ok (.iload_n 1, 1) := by decide +kernel
theorem dX9_turn_51 : decode cX9_turn 51 = .ok (.iaload, 1) := by decide +kernel
theorem dX9_turn_52 : decode cX9_turn 52 = .ok (.isub, 1) := by decide +kernel
theorem dX9_turn_53 : decode cX9_turn 53 = .ok (.imul, 1) := by decide +kernel
theorem dX9_turn_54 : decode cX9_turn 54 = .ok (.isub, 1) := by decide +kernel
theorem dX9_turn_55 : decode cX9_turn 55 = .ok (.ireturn, 1) := by decide +kernel
theorem dX9_nextCorner_0 : decode cX9_nextCorner 0 = .ok (.iconst (-1), 1) := by decide +kernel
theorem dX9_nextCorner_1 : decode cX9_nextCorner 1 = .ok (.istore_n 3, 1) := by decide +kernel
theorem dX9_nextCorner_2 : decode cX9_nextCorner 2 = .ok (.iconst 0, 1) := by decide +kernel
theorem dX9_nextCorner_3 : decode cX9_nextCorner 3 = .ok (.istore 4, 2) := by decide +kernel
theorem dX9_nextCorner_5 : decode cX9_nextCorner 5 = .ok (.iload 4, 2) := by decide +kernel
theorem dX9_nextCorner_7 : decode cX9_nextCorner 7 = .ok (.aload_n 0, 1) := by decide +kernel
theorem dX9_nextCorner_8 : decode cX9_nextCorner 8 = .ok (.getfield 98, 3) := by decide +kernel
theorem dX9_nextCorner_11 : decode cX9_nextCorner 11 = .ok (.if_icmp .ge 76, 3) := by decide +kernel
theorem dX9_nextCorner_14 : decode cX9_nextCorner 14 = .ok (.aload_n 0, 1) := by decide +kernel
theorem dX9_nextCorner_15 : decode cX9_nextCorner 15 = .ok (.iload_n 1, 1) := by decide +kernel
theorem dX9_nextCorner_16 : decode cX9_nextCorner 16 = .ok (.iload 4, 2) := by decide +kernel
theorem dX9_nextCorner_18 : decode cX9_nextCorner 18 = .ok (.invokevirtual 123, 3) := by decide +kernel
theorem dX9_nextCorner_21 : decode cX9_nextCorner 21 = .ok (.ifCond .eq 60, 3) := by decide +kernel
theorem dX9_nextCorner_24 : decode cX9_nextCorner 24 = .ok (.iload 4, 2) := by decide +kernel
theorem dX9_nextCorner_26 : decode cX9_nextCorner 26 = .ok (.iload_n 2, 1) := by decide +kernel
theorem dX9_nextCorner_27 : decode cX9_nextCorner 27 = .ok (.if_icmp .ne 6, 3) := by decide +kernel
theorem dX9_nextCorner_30 : decode cX9_nextCorner 30 = .ok (.goto 51, 3) := by decide +kernel
theorem dX9_nextCorner_33 : decode cX9_nextCorner 33 = .ok (.iload_n 3, 1) := by decide +kernel
theorem dX9_nextCorner_34 : decode cX9_nextCorner 34 = .ok (.iconst (-1), 1) := by decide +kernel
theorem dX9_nextCorner_35 : decode cX9_nextCorner 35 = .ok (.if_icmp .ne 7, 3) := by decide +kernel
theorem dX9_nextCorner_38 : decode cX9_nextCorner 38 = .ok (.iconst (-1), 1) := by decide +kernel
theorem dX9_nextCorner_39 : decode cX9_nextCorner 39 = .ok (.goto 11, 3) := by decide +kernel
theorem dX9_nextCorner_42 : decode cX9_nextCorner 42 = .ok (.aload_n 0, 1) := by decide +kernel
theorem dX9_nextCorner_43 : decode cX9_nextCorner 43 = .ok (.iload_n 2, 1) := by decide +kernel
theorem dX9_nextCorner_44 : decode cX9_nextCorner 44 = .ok (.iload_n 3, 1) := by decide +kernel
theorem dX9_nextCorner_45 : decode cX9_nextCorner 45 = .ok (.iload 4, 2) := by decide +kernel
theorem dX9_nextCorner_47 : decode cX9_nextCorner 47 = .ok (.invokevirtual 316, 3) := by decide +kernel
theorem dX9_nextCorner_50 : decode cX9_nextCorner 50 = .ok (.istore 5, 2) := by decide +kernel
theorem dX9_nextCorner_52 : decode cX9_nextCorner 52 = .ok (.iload 5, 2) := by decide +kernel
theorem dX9_nextCorner_54 : decode cX9_nextCorner 54 = .ok (.ifCond .lt 24, 3) := by decide +kernel
theorem dX9_nextCorner_57 : decode cX9_nextCorner 57 = .ok (.iload 5, 2) := by decide +kernel
theorem dX9_nextCorner_59 : decode cX9_nextCorner 59 = .ok (.ifCond .ne 22, 3) := by decide +kernel
theorem dX9_nextCorner_62 : decode cX9_nextCorner 62 = .ok (.aload_n 0, 1) := by decide +kernel
theorem dX9_nextCorner_63 : decode cX9_nextCorner 63 = .ok (.iload_n 2, 1) := by decide +kernel
theorem dX9_nextCorner_64 : decode cX9_nextCorner 64 = .ok (.iload 4, 2) := by decide +kernel
theorem dX9_nextCorner_66 : decode cX9_nextCorner 66 = .ok (.invokevirtual 107, 3) := by decide +kernel
theorem dX9_nextCorner_69 : decode cX9_nextCorner 69 = .ok (.aload_n 0, 1) := by decide +kernel
theorem dX9_nextCorner_70 : decode cX9_nextCorner 70 = .ok (.iload_n 2, 1) := by decide +kernel
theorem dX9_nextCorner_71 : decode cX9_nextCorner 71 = .ok (.iload_n 3, 1) := by decide +kernel
theorem dX9_nextCorner_72 : decode cX9_nextCorner 72 = .ok (.invokevirtual 107, 3) := by decide +kernel
theorem dX9_nextCorner_75 : decode cX9_nextCorner 75 = .ok (.if_icmp .le 6, 3) := by decide +kernel
theorem dX9_nextCorner_78 : decode cX9_nextCorner 78 = .ok (.iload 4, 2) := by decide +kernel
theorem dX9_nextCorner_80 : decode cX9_nextCorner 80 = .ok (.istore_n 3, 1) := by decide +kernel
theorem dX9_nextCorner_81 : decode cX9_nextCorner 81 = .ok (.iinc 4 1, 3) := by decide +kernel
theorem dX9_nextCorner_84 : decode cX9_nextCorner 84 = .ok (.goto (-79), 3) := by decide +kernel
theorem dX9_nextCorner_87 : decode cX9_nextCorner 87 = .ok (.iload_n 3, 1) := by decide +kernel
theorem dX9_nextCorner_88 : decode cX9_nextCorner 88 = .ok (.ireturn, 1) := by decide +kernel
theorem dX9_laysOutline_0 : decode cX9_laysOutline 0 = .ok (.aload_n 0, 1) := by decide +kernel
theorem dX9_laysOutline_1 : decode cX9_laysOutline 1 = .ok (.getfield 71, 3) := by decide +kernel
theorem dX9_laysOutline_4 : decode cX9_laysOutline 4 = .ok (.iconst 0, 1) := by decide +kernel
theorem dX9_laysOutline_5 : decode cX9_laysOutline 5 = .ok (.aload_n 0, 1) := by decide +kernel
theorem dX9_laysOutline_6 : decode cX9_laysOutline 6 = .ok (.iload_n 1, 1) := by decide +kernel
theorem dX9_laysOutline_7 : decode cX9_laysOutline 7 = .ok (.invokevirtual 251, 3) := by decide +kernel
theorem dX9_laysOutline_10 : decode cX9_laysOutline 10 = .ok (.iastore, 1) := by decide +kernel
theorem dX9_laysOutline_11 : decode cX9_laysOutline 11 = .ok (.aload_n 0, 1) := by decide +kernel
theorem dX9_laysOutline_12 : decode cX9_laysOutline 12 = .ok (.iconst 1, 1) := by decide +kernel
theorem dX9_laysOutline_13 : decode cX9_laysOutline 13 = .ok (.putfield 319, 3) := by decide +kernel
theorem dX9_laysOutline_16 : decode cX9_laysOutline 16 = .ok (.aload_n 0, 1) := by decide +kernel
theorem dX9_laysOutline_17 : decode cX9_laysOutline 17 = .ok (.iload_n 1, 1) := by decide +kernel
theorem dX9_laysOutline_18 : decode cX9_laysOutline 18 = .ok (.invokevirtual 224, 3) := by decide +kernel
theorem dX9_laysOutline_21 : decode cX9_laysOutline 21 = .ok (.iconst 1, 1) := by decide +kernel
theorem dX9_laysOutline_22 : decode cX9_laysOutline 22 = .ok (.if_icmp .ne 4, 3) := by decide +kernel
theorem dX9_laysOutline_25 : decode cX9_laysOutline 25 = .ok (.return_, 1) := by decide +kernel
theorem dX9_laysOutline_26 : decode cX9_laysOutline 26 = .ok (.aload_n 0, 1) := by decide +kernel
theorem dX9_laysOutline_27 : decode cX9_laysOutline 27 = .ok (.iload_n 1, 1) := by decide +kernel
theorem dX9_laysOutline_28 : decode cX9_laysOutline 28 = .ok (.aload_n 0, 1) := by decide +kernel
theorem dX9_laysOutline_29 : decode cX9_laysOutline 29 = .ok (.getfield 71, 3) := by decide +kernel
theorem dX9_laysOutline_32 : decode cX9_laysOutline 32 = .ok (.iconst 0, 1) := by decide +kernel
theorem dX9_laysOutline_33 : decode cX9_laysOutline 33 = .ok (.iaload, 1) := by decide +kernel
theorem dX9_laysOutline_34 : decode cX9_laysOutline 34 = .ok (.invokevirtual 322, 3) := by decide +kernel
theorem dX9_laysOutline_37 : decode cX9_laysOutline 37 = .ok (.istore_n 2, 1) := by decide +kernel
theorem dX9_laysOutline_38 : decode cX9_laysOutline 38 = .ok (.iload_n 2, 1) := by decide +kernel
theorem dX9_laysOutline_39 : decode cX9_laysOutline 39 = .ok (.aload_n 0, 1) := by decide +kernel
theorem dX9_laysOutline_40 : decode cX9_laysOutline 40 = .ok (.getfield 71, 3) := by decide +kernel
theorem dX9_laysOutline_43 : decode cX9_laysOutline 43 = .ok (.iconst 0, 1) := by decide +kernel
theorem dX9_laysOutline_44 : decode cX9_laysOutline 44 = .ok (.iaload, 1) := by decide +kernel
theorem dX9_laysOutline_45 : decode cX9_laysOutline 45 = .ok (.if_icmp .eq 33, 3) := by decide +kernel
theorem dX9_laysOutline_48 : decode cX9_laysOutline 48 = .ok (.aload_n 0, 1) := by decide +kernel
theorem dX9_laysOutline_49 : decode cX9_laysOutline 49 = .ok (.getfield 71, 3) := by decide +kernel
theorem dX9_laysOutline_52 : decode cX9_laysOutline 52 = .ok (.aload_n 0, 1) := by decide +kernel
theorem dX9_laysOutline_53 : decode cX9_laysOutline 53 = .ok (.getfield 319, 3) := by decide +kernel
theorem dX9_laysOutline_56 : decode cX9_laysOutline 56 = .ok (.iload_n 2, 1) := by decide +kernel
theorem dX9_laysOutline_57 : decode cX9_laysOutline 57 = .ok (.iastore, 1) := by decide +kernel
theorem dX9_laysOutline_58 : decode cX9_laysOutline 58 = .ok (.aload_n 0, 1) := by decide +kernel
theorem dX9_laysOutline_59 : decode cX9_laysOutline 59 = .ok (.aload_n 0, 1) := by decide +kernel
theorem dX9_laysOutline_60 : decode cX9_laysOutline 60 = .ok (.getfield 319, 3) := by decide +kernel
theorem dX9_laysOutline_63 : decode cX9_laysOutline 63 = .ok (.iconst 1, 1) := by decide +kernel
theorem dX9_laysOutline_64 : decode cX9_laysOutline 64 = .ok (.iadd, 1) := by decide +kernel
theorem dX9_laysOutline_65 : decode cX9_laysOutline 65 = .ok (.putfield 319, 3) := by decide +kernel
theorem dX9_laysOutline_68 : decode cX9_laysOutline 68 = .ok (.aload_n 0, 1) := by decide +kernel
theorem dX9_laysOutline_69 : decode cX9_laysOutline 69 = .ok (.iload_n 1, 1) := by decide +kernel
theorem dX9_laysOutline_70 : decode cX9_laysOutline 70 = .ok (.iload_n 2, 1) := by decide +kernel
theorem dX9_laysOutline_71 : decode cX9_laysOutline 71 = .ok (.invokevirtual 322, 3) := by decide +kernel
theorem dX9_laysOutline_74 : decode cX9_laysOutline 74 = .ok (.istore_n 2, 1) := by decide +kernel
theorem dX9_laysOutline_75 : decode cX9_laysOutline 75 = .ok (.goto (-37), 3) := by decide +kernel
theorem dX9_laysOutline_78 : decode cX9_laysOutline 78 = .ok (.return_, 1) := by decide +kernel
theorem dX9_outline_0 : decode cX9_outline 0 = .ok (.aload_n 0, 1) := by decide +kernel
theorem dX9_outline_1 : decode cX9_outline 1 = .ok (.iconst 0, 1) := by decide +kernel
theorem dX9_outline_2 : decode cX9_outline 2 = .ok (.putfield 95, 3) := by decide +kernel
theorem dX9_outline_5 : decode cX9_outline 5 = .ok (.aload_n 0, 1) := by decide +kernel
theorem dX9_outline_6 : decode cX9_outline 6 = .ok (.iload_n 1, 1) := by decide +kernel
theorem dX9_outline_7 : decode cX9_outline 7 = .ok (.iload_n 2, 1) := by decide +kernel
theorem dX9_outline_8 : decode cX9_outline 8 = .ok (.invokevirtual 269, 3) := by decide +kernel
