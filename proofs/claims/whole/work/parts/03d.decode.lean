theorem dX9_outline_11 : decode cX9_outline 11 = .ok (.istore 4, 2) := by decide +kernel
theorem dX9_outline_13 : decode cX9_outline 13 = .ok (.iload 4, 2) := by decide +kernel
theorem dX9_outline_15 : decode cX9_outline 15 = .ok (.ifCond .ne 5, 3) := by decide +kernel
theorem dX9_outline_18 : decode cX9_outline 18 = .ok (.iconst (-1), 1) := by decide +kernel
theorem dX9_outline_19 : decode cX9_outline 19 = .ok (.ireturn, 1) := by decide +kernel
theorem dX9_outline_20 : decode cX9_outline 20 = .ok (.aload_n 0, 1) := by decide +kernel
theorem dX9_outline_21 : decode cX9_outline 21 = .ok (.iload 4, 2) := by decide +kernel
theorem dX9_outline_23 : decode cX9_outline 23 = .ok (.invokevirtual 325, 3) := by decide +kernel
theorem dX9_outline_26 : decode cX9_outline 26 = .ok (.iload_n 3, 1) := by decide +kernel
theorem dX9_outline_27 : decode cX9_outline 27 = .ok (.iconst (-1), 1) := by decide +kernel
theorem dX9_outline_28 : decode cX9_outline 28 = .ok (.if_icmp .ne 8, 3) := by decide +kernel
theorem dX9_outline_31 : decode cX9_outline 31 = .ok (.aload_n 0, 1) := by decide +kernel
theorem dX9_outline_32 : decode cX9_outline 32 = .ok (.getfield 319, 3) := by decide +kernel
theorem dX9_outline_35 : decode cX9_outline 35 = .ok (.ireturn, 1) := by decide +kernel
theorem dX9_outline_36 : decode cX9_outline 36 = .ok (.aload_n 0, 1) := by decide +kernel
theorem dX9_outline_37 : decode cX9_outline 37 = .ok (.iload_n 3, 1) := by decide +kernel
theorem dX9_outline_38 : decode cX9_outline 38 = .ok (.i2l, 1) := by decide +kernel
theorem dX9_outline_39 : decode cX9_outline 39 = .ok (.lconst 0, 1) := by decide +kernel
theorem dX9_outline_40 : decode cX9_outline 40 = .ok (.aload_n 0, 1) := by decide +kernel
theorem dX9_outline_41 : decode cX9_outline 41 = .ok (.getfield 319, 3) := by decide +kernel
theorem dX9_outline_44 : decode cX9_outline 44 = .ok (.i2l, 1) := by decide +kernel
theorem dX9_outline_45 : decode cX9_outline 45 = .ok (.lconst 1, 1) := by decide +kernel
theorem dX9_outline_46 : decode cX9_outline 46 = .ok (.lsub, 1) := by decide +kernel
theorem dX9_outline_47 : decode cX9_outline 47 = .ok (.invokevirtual 101, 3) := by decide +kernel
theorem dX9_outline_50 : decode cX9_outline 50 = .ok (.ifCond .eq 12, 3) := by decide +kernel
theorem dX9_outline_53 : decode cX9_outline 53 = .ok (.aload_n 0, 1) := by decide +kernel
theorem dX9_outline_54 : decode cX9_outline 54 = .ok (.getfield 71, 3) := by decide +kernel
theorem dX9_outline_57 : decode cX9_outline 57 = .ok (.iload_n 3, 1) := by decide +kernel
theorem dX9_outline_58 : decode cX9_outline 58 = .ok (.iaload, 1) := by decide +kernel
theorem dX9_outline_59 : decode cX9_outline 59 = .ok (.goto 4, 3) := by decide +kernel
theorem dX9_outline_62 : decode cX9_outline 62 = .ok (.iconst (-1), 1) := by decide +kernel
theorem dX9_outline_63 : decode cX9_outline 63 = .ok (.ireturn, 1) := by decide +kernel
theorem dX9_area_0 : decode cX9_area 0 = .ok (.aload_n 0, 1) := by decide +kernel
theorem dX9_area_1 : decode cX9_area 1 = .ok (.iconst 0, 1) := by decide +kernel
theorem dX9_area_2 : decode cX9_area 2 = .ok (.putfield 95, 3) := by decide +kernel
theorem dX9_area_5 : decode cX9_area 5 = .ok (.aload_n 0, 1) := by decide +kernel
theorem dX9_area_6 : decode cX9_area 6 = .ok (.iload_n 1, 1) := by decide +kernel
theorem dX9_area_7 : decode cX9_area 7 = .ok (.iload_n 2, 1) := by decide +kernel
theorem dX9_area_8 : decode cX9_area 8 = .ok (.invokevirtual 269, 3) := by decide +kernel
theorem dX9_area_11 : decode cX9_area 11 = .ok (.istore_n 3, 1) := by decide +kernel
theorem dX9_area_12 : decode cX9_area 12 = .ok (.iload_n 3, 1) := by decide +kernel
theorem dX9_area_13 : decode cX9_area 13 = .ok (.ifCond .ne 5, 3) := by decide +kernel
theorem dX9_area_16 : decode cX9_area 16 = .ok (.iconst (-1), 1) := by decide +kernel
theorem dX9_area_17 : decode cX9_area 17 = .ok (.ireturn, 1) := by decide +kernel
theorem dX9_area_18 : decode cX9_area 18 = .ok (.aload_n 0, 1) := by decide +kernel
theorem dX9_area_19 : decode cX9_area 19 = .ok (.iload_n 3, 1) := by decide +kernel
theorem dX9_area_20 : decode cX9_area 20 = .ok (.invokevirtual 325, 3) := by decide +kernel
theorem dX9_area_23 : decode cX9_area 23 = .ok (.iconst 0, 1) := by decide +kernel
theorem dX9_area_24 : decode cX9_area 24 = .ok (.istore 4, 2) := by decide +kernel
theorem dX9_area_26 : decode cX9_area 26 = .ok (.iconst 2, 1) := by decide +kernel
theorem dX9_area_27 : decode cX9_area 27 = .ok (.istore 5, 2) := by decide +kernel
theorem dX9_area_29 : decode cX9_area 29 = .ok (.iload 5, 2) := by decide +kernel
theorem dX9_area_31 : decode cX9_area 31 = .ok (.aload_n 0, 1) := by decide +kernel
theorem dX9_area_32 : decode cX9_area 32 = .ok (.getfield 319, 3) := by decide +kernel
theorem dX9_area_35 : decode cX9_area 35 = .ok (.if_icmp .ge 40, 3) := by decide +kernel
theorem dX9_area_38 : decode cX9_area 38 = .ok (.iload 4, 2) := by decide +kernel
theorem dX9_area_40 : decode cX9_area 40 = .ok (.aload_n 0, 1) := by decide +kernel
theorem dX9_area_41 : decode cX9_area 41 = .ok (.aload_n 0, 1) := by decide +kernel
theorem dX9_area_42 : decode cX9_area 42 = .ok (.getfield 71, 3) := by decide +kernel
theorem dX9_area_45 : decode cX9_area 45 = .ok (.iconst 0, 1) := by decide +kernel
theorem dX9_area_46 : decode cX9_area 46 = .ok (.iaload, 1) := by decide +kernel
theorem dX9_area_47 : decode cX9_area 47 = .ok (.aload_n 0, 1) := by decide +kernel
theorem dX9_area_48 : decode cX9_area 48 = .ok (.getfield 71, 3) := by decide +kernel
theorem dX9_area_51 : decode cX9_area 51 = .ok (.iload 5, 2) := by decide +kernel
theorem dX9_area_53 : decode cX9_area 53 = .ok (.iconst 1, 1) := by decide +kernel
theorem dX9_area_54 : decode cX9_area 54 = .ok (.isub, 1) := by decide +kernel
theorem dX9_area_55 : decode cX9_area 55 = .ok (.iaload, 1) := by decide +kernel
theorem dX9_area_56 : decode cX9_area 56 = .ok (.aload_n 0, 1) := by decide +kernel
theorem dX9_area_57 : decode cX9_area 57 = .ok (.getfield 71, 3) := by decide +kernel
theorem dX9_area_60 : decode cX9_area 60 = .ok (.iload 5, 2) := by decide +kernel
theorem dX9_area_62 : decode cX9_area 62 = .ok (.iaload, 1) := by decide +kernel
theorem dX9_area_63 : decode cX9_area 63 = .ok (.invokevirtual 316, 3) := by decide +kernel
theorem dX9_area_66 : decode cX9_area 66 = .ok (.iadd, 1) := by decide +kernel
theorem dX9_area_67 : decode cX9_area 67 = .ok (.istore 4, 2) := by decide +kernel
theorem dX9_area_69 : decode cX9_area 69 = .ok (.iinc 5 1, 3) := by decide +kernel
theorem dX9_area_72 : decode cX9_area 72 = .ok (.goto (-43), 3) := by decide +kernel
theorem dX9_area_75 : decode cX9_area 75 = .ok (.iload 4, 2) := by decide +kernel
theorem dX9_area_77 : decode cX9_area 77 = .ok (.ireturn, 1) := by decide +kernel
theorem dX9_farther_0 : decode cX9_farther 0 = .ok (.aload_n 0, 1) := by decide +kernel
theorem dX9_farther_1 : decode cX9_farther 1 = .ok (.iload_n 1, 1) := by decide +kernel
theorem dX9_farther_2 : decode cX9_farther 2 = .ok (.iconst 1, 1) := by decide +kernel
theorem dX9_farther_3 : decode cX9_farther 3 = .ok (.invokevirtual 276, 3) := by decide +kernel
theorem dX9_farther_6 : decode cX9_farther 6 = .ok (.aload_n 0, 1) := by decide +kernel
theorem dX9_farther_7 : decode cX9_farther 7 = .ok (.iload_n 2, 1) := by decide +kernel
theorem dX9_farther_8 : decode cX9_farther 8 = .ok (.iconst 1, 1) := by decide +kernel
theorem dX9_farther_9 : decode cX9_farther 9 = .ok (.invokevirtual 276, 3) := by decide +kernel
theorem dX9_farther_12 : decode cX9_farther 12 = .ok (.isub, 1) := by decide +kernel
theorem dX9_farther_13 : decode cX9_farther 13 = .ok (.invokestatic 328, 3) := by decide +kernel
theorem dX9_farther_16 : decode cX9_farther 16 = .ok (.aload_n 0, 1) := by decide +kernel
theorem dX9_farther_17 : decode cX9_farther 17 = .ok (.iload_n 1, 1) := by decide +kernel
theorem dX9_farther_18 : decode cX9_farther 18 = .ok (.iconst 0, 1) := by decide +kernel
theorem dX9_farther_19 : decode cX9_farther 19 = .ok (.invokevirtual 276, 3) := by decide +kernel
theorem dX9_farther_22 : decode cX9_farther 22 = .ok (.aload_n 0, 1) := by decide +kernel
theorem dX9_farther_23 : decode cX9_farther 23 = .ok (.iload_n 2, 1) := by decide +kernel
theorem dX9_farther_24 : decode cX9_farther 24 = .ok (.iconst 0, 1) := by decide +kernel
theorem dX9_farther_25 : decode cX9_farther 25 = .ok (.invokevirtual 276, 3) := by decide +kernel
theorem dX9_farther_28 : decode cX9_farther 28 = .ok (.isub, 1) := by decide +kernel
theorem dX9_farther_29 : decode cX9_farther 29 = .ok (.invokestatic 328, 3) := by decide +kernel
theorem dX9_farther_32 : decode cX9_farther 32 = .ok (.invokestatic 116, 3) := by decide +kernel
theorem dX9_farther_35 : decode cX9_farther 35 = .ok (.ireturn, 1) := by decide +kernel
theorem dX9_drift_0 : decode cX9_drift 0 = .ok (.aload_n 0, 1) := by decide +kernel
theorem dX9_drift_1 : decode cX9_drift 1 = .ok (.iconst 0, 1) := by decide +kernel
theorem dX9_drift_2 : decode cX9_drift 2 = .ok (.putfield 95, 3) := by decide +kernel
theorem dX9_drift_5 : decode cX9_drift 5 = .ok (.aload_n 0, 1) := by decide +kernel
theorem dX9_drift_6 : decode cX9_drift 6 = .ok (.iload_n 1, 1) := by decide +kernel
theorem dX9_drift_7 : decode cX9_drift 7 = .ok (.i2l, 1) := by decide +kernel
theorem dX9_drift_8 : decode cX9_drift 8 = .ok (.lconst 0, 1) := by decide +kernel
theorem dX9_drift_9 : decode cX9_drift 9 = .ok (.ldc2_w 331, 3) := by decide +kernel
theorem dX9_drift_12 : decode cX9_drift 12 = .ok (.invokevirtual 101, 3) := by decide +kernel
theorem dX9_drift_15 : decode cX9_drift 15 = .ok (.ifCond .ne 5, 3) := by decide +kernel
theorem dX9_drift_18 : decode cX9_drift 18 = .ok (.iconst (-1), 1) := by decide +kernel
theorem dX9_drift_19 : decode cX9_drift 19 = .ok (.ireturn, 1) := by decide +kernel
theorem dX9_drift_20 : decode cX9_drift 20 = .ok (.aload_n 0, 1) := by decide +kernel
theorem dX9_drift_21 : decode cX9_drift 21 = .ok (.iload_n 1, 1) := by decide +kernel
theorem dX9_drift_22 : decode cX9_drift 22 = .ok (.invokevirtual 260, 3) := by decide +kernel
theorem dX9_drift_25 : decode cX9_drift 25 = .ok (.iconst 0, 1) := by decide +kernel
theorem dX9_drift_26 : decode cX9_drift 26 = .ok (.istore_n 2, 1) := by decide +kernel
theorem dX9_drift_27 : decode cX9_drift 27 = .ok (.iload_n 2, 1) := by decide +kernel
theorem dX9_drift_28 : decode cX9_drift 28 = .ok (.aload_n 0, 1) := by decide +kernel
theorem dX9_drift_29 : decode cX9_drift 29 = .ok (.getfield 98, 3) := by decide +kernel
theorem dX9_drift_32 : decode cX9_drift 32 = .ok (.if_icmp .ge 21, 3) := by decide +kernel
theorem dX9_drift_35 : decode cX9_drift 35 = .ok (.aload_n 0, 1) := by decide +kernel
theorem dX9_drift_36 : decode cX9_drift 36 = .ok (.getfield 74, 3) := by decide +kernel
theorem dX9_drift_39 : decode cX9_drift 39 = .ok (.iload_n 2, 1) := by decide +kernel
theorem dX9_drift_40 : decode cX9_drift 40 = .ok (.aload_n 0, 1) := by decide +kernel
theorem dX9_drift_41 : decode cX9_drift 41 = .ok (.getfield 68, 3) := by decide +kernel
theorem dX9_drift_44 : decode cX9_drift 44 = .ok (.iload_n 2, 1) := by decide +kernel
theorem dX9_drift_45 : decode cX9_drift 45 = .ok (.iaload, 1) := by decide +kernel
theorem dX9_drift_46 : decode cX9_drift 46 = .ok (.iastore, 1) := by decide +kernel
theorem dX9_drift_47 : decode cX9_drift 47 = .ok (.iinc 2 1, 3) := by decide +kernel
theorem dX9_drift_50 : decode cX9_drift 50 = .ok (.goto (-23), 3) := by decide +kernel
theorem dX9_drift_53 : decode cX9_drift 53 = .ok (.aload_n 0, 1) := by decide +kernel
theorem dX9_drift_54 : decode cX9_drift 54 = .ok (.iload_n 1, 1) := by decide +kernel
theorem dX9_drift_55 : decode cX9_drift 55 = .ok (.iconst 1, 1) := by decide +kernel
theorem dX9_drift_56 : decode cX9_drift 56 = .ok (.iadd, 1) := by decide +kernel
theorem dX9_drift_57 : decode cX9_drift 57 = .ok (.invokevirtual 260, 3) := by decide +kernel
theorem dX9_drift_60 : decode cX9_drift 60 = .ok (.iconst 0, 1) := by decide +kernel
theorem dX9_drift_61 : decode cX9_drift 61 = .ok (.istore_n 2, 1) := by decide +kernel
theorem dX9_drift_62 : decode cX9_drift 62 = .ok (.iconst 0, 1) := by decide +kernel
theorem dX9_drift_63 : decode cX9_drift 63 = .ok (.istore_n 3, 1) := by decide +kernel
theorem dX9_drift_64 : decode cX9_drift 64 = .ok (.iload_n 3, 1) := by decide +kernel
theorem dX9_drift_65 : decode cX9_drift 65 = .ok (.aload_n 0, 1) := by decide +kernel
theorem dX9_drift_66 : decode cX9_drift 66 = .ok (.getfield 98, 3) := by decide +kernel
theorem dX9_drift_69 : decode cX9_drift 69 = .ok (.if_icmp .ge 36, 3) := by decide +kernel
theorem dX9_drift_72 : decode cX9_drift 72 = .ok (.aload_n 0, 1) := by decide +kernel
theorem dX9_drift_73 : decode cX9_drift 73 = .ok (.iload_n 3, 1) := by decide +kernel
theorem dX9_drift_74 : decode cX9_drift 74 = .ok (.invokevirtual 254, 3) := by decide +kernel
theorem dX9_drift_77 : decode cX9_drift 77 = .ok (.ifCond .eq 22, 3) := by decide +kernel
theorem dX9_drift_80 : decode cX9_drift 80 = .ok (.iload_n 2, 1) := by decide +kernel
theorem dX9_drift_81 : decode cX9_drift 81 = .ok (.aload_n 0, 1) := by decide +kernel
theorem dX9_drift_82 : decode cX9_drift 82 = .ok (.aload_n 0, 1) := by decide +kernel
theorem dX9_drift_83 : decode cX9_drift 83 = .ok (.getfield 68, 3) := by decide +kernel
theorem dX9_drift_86 : decode cX9_drift 86 = .ok (.iload_n 3, 1) := by decide +kernel
theorem dX9_drift_87 : decode cX9_drift 87 = .ok (.iaload, 1) := by decide +kernel
theorem dX9_drift_88 : decode cX9_drift 88 = .ok (.aload_n 0, 1) := by decide +kernel
theorem dX9_drift_89 : decode cX9_drift 89 = .ok (.getfield 74, 3) := by decide +kernel
theorem dX9_drift_92 : decode cX9_drift 92 = .ok (.iload_n 3, 1) := by decide +kernel
theorem dX9_drift_93 : decode cX9_drift 93 = .ok (.iaload, 1) := by decide +kernel
theorem dX9_drift_94 : decode cX9_drift 94 = .ok (.invokevirtual 333, 3) := by decide +kernel
theorem dX9_drift_97 : decode cX9_drift 97 = .ok (.iadd, 1) := by decide +kernel
theorem dX9_drift_98 : decode cX9_drift 98 = .ok (.istore_n 2, 1) := by decide +kernel
theorem dX9_drift_99 : decode cX9_drift 99 = .ok (.iinc 3 1, 3) := by decide +kernel
theorem dX9_drift_102 : decode cX9_drift 102 = .ok (.goto (-38), 3) := by decide +kernel
theorem dX9_drift_105 : decode cX9_drift 105 = .ok (.iload_n 2, 1) := by decide +kernel
theorem dX9_drift_106 : decode cX9_drift 106 = .ok (.ireturn, 1) := by decide +kernel
theorem dX9_part_0 : decode cX9_part 0 = .ok (.aload_n 0, 1) := by decide +kernel
theorem dX9_part_1 : decode cX9_part 1 = .ok (.iconst 0, 1) := by decide +kernel
theorem dX9_part_2 : decode cX9_part 2 = .ok (.putfield 95, 3) := by decide +kernel
theorem dX9_part_5 : decode cX9_part 5 = .ok (.aload_n 0, 1) := by decide +kernel
theorem dX9_part_6 : decode cX9_part 6 = .ok (.iload_n 1, 1) := by decide +kernel
theorem dX9_part_7 : decode cX9_part 7 = .ok (.i2l, 1) := by decide +kernel
theorem dX9_part_8 : decode cX9_part 8 = .ok (.lconst 1, 1) := by decide +kernel
theorem dX9_part_9 : decode cX9_part 9 = .ok (.aload_n 0, 1) := by decide +kernel
theorem dX9_part_10 : decode cX9_part 10 = .ok (.getfield 98, 3) := by decide +kernel
theorem dX9_part_13 : decode cX9_part 13 = .ok (.i2l, 1) := by decide +kernel
theorem dX9_part_14 : decode cX9_part 14 = .ok (.invokevirtual 101, 3) := by decide +kernel
theorem dX9_part_17 : decode cX9_part 17 = .ok (.ifCond .eq 11, 3) := by decide +kernel
theorem dX9_part_20 : decode cX9_part 20 = .ok (.aload_n 0, 1) := by decide +kernel
theorem dX9_part_21 : decode cX9_part 21 = .ok (.iload_n 2, 1) := by decide +kernel
theorem dX9_part_22 : decode cX9_part 22 = .ok (.invokevirtual 182, 3) := by decide +kernel
theorem dX9_part_25 : decode cX9_part 25 = .ok (.ifCond .ne 5, 3) := by decide +kernel
theorem dX9_part_28 : decode cX9_part 28 = .ok (.iconst (-1), 1) := by decide +kernel
theorem dX9_part_29 : decode cX9_part 29 = .ok (.ireturn, 1) := by decide +kernel
theorem dX9_part_30 : decode cX9_part 30 = .ok (.aload_n 0, 1) := by decide +kernel
theorem dX9_part_31 : decode cX9_part 31 = .ok (.aload_n 0, 1) := by decide +kernel
theorem dX9_part_32 : decode cX9_part 32 = .ok (.getfield 98, 3) := by decide +kernel
theorem dX9_part_35 : decode cX9_part 35 = .ok (.iload_n 1, 1) := by decide +kernel
theorem dX9_part_36 : decode cX9_part 36 = .ok (.isub, 1) := by decide +kernel
theorem dX9_part_37 : decode cX9_part 37 = .ok (.invokevirtual 248, 3) := by decide +kernel
theorem dX9_part_40 : decode cX9_part 40 = .ok (.aload_n 0, 1) := by decide +kernel
theorem dX9_part_41 : decode cX9_part 41 = .ok (.aload_n 0, 1) := by decide +kernel
theorem dX9_part_42 : decode cX9_part 42 = .ok (.getfield 68, 3) := by decide +kernel
theorem dX9_part_45 : decode cX9_part 45 = .ok (.iload_n 2, 1) := by decide +kernel
theorem dX9_part_46 : decode cX9_part 46 = .ok (.iaload, 1) := by decide +kernel
theorem dX9_part_47 : decode cX9_part 47 = .ok (.invokevirtual 251, 3) := by decide +kernel
theorem dX9_part_50 : decode cX9_part 50 = .ok (.ireturn, 1) := by decide +kernel
theorem dX9_clearest_0 : decode cX9_clearest 0 = .ok (.aload_n 0, 1) := by decide +kernel
theorem dX9_clearest_1 : decode cX9_clearest 1 = .ok (.iconst 0, 1) := by decide +kernel
theorem dX9_clearest_2 : decode cX9_clearest 2 = .ok (.putfield 95, 3) := by decide +kernel
theorem dX9_clearest_5 : decode cX9_clearest 5 = .ok (.iconst (-1), 1) := by decide +kernel
theorem dX9_clearest_6 : decode cX9_clearest 6 = .ok (.istore_n 1, 1) := by decide +kernel
theorem dX9_clearest_7 : decode cX9_clearest 7 = .ok (.iconst (-1), 1) := by decide +kernel
theorem dX9_clearest_8 : decode cX9_clearest 8 = .ok (.istore_n 2, 1) := by decide +kernel
theorem dX9_clearest_9 : decode cX9_clearest 9 = .ok (.iconst 2, 1) := by decide +kernel
theorem dX9_clearest_10 : decode cX9_clearest 10 = .ok (.istore_n 3, 1) := by decide +kernel
theorem dX9_clearest_11 : decode cX9_clearest 11 = .ok (.iload_n 3, 1) := by decide +kernel
theorem dX9_clearest_12 : decode cX9_clearest 12 = .ok (.aload_n 0, 1) := by decide +kernel
theorem dX9_clearest_13 : decode cX9_clearest 13 = .ok (.getfield 98, 3) := by decide +kernel
theorem dX9_clearest_16 : decode cX9_clearest 16 = .ok (.if_icmp .ge 58, 3) := by decide +kernel
theorem dX9_clearest_19 : decode cX9_clearest 19 = .ok (.aload_n 0, 1) := by decide +kernel
theorem dX9_clearest_20 : decode cX9_clearest 20 = .ok (.aload_n 0, 1) := by decide +kernel
theorem dX9_clearest_21 : decode cX9_clearest 21 = .ok (.getfield 29, 3) := by decide +kernel
theorem dX9_clearest_24 : decode cX9_clearest 24 = .ok (.aload_n 0, 1) := by decide +kernel
theorem dX9_clearest_25 : decode cX9_clearest 25 = .ok (.getfield 98, 3) := by decide +kernel
theorem dX9_clearest_28 : decode cX9_clearest 28 = .ok (.iload_n 3, 1) := by decide +kernel
theorem dX9_clearest_29 : decode cX9_clearest 29 = .ok (.isub, 1) := by decide +kernel
theorem dX9_clearest_30 : decode cX9_clearest 30 = .ok (.iaload, 1) := by decide +kernel
theorem dX9_clearest_31 : decode cX9_clearest 31 = .ok (.invokevirtual 218, 3) := by decide +kernel
theorem dX9_clearest_34 : decode cX9_clearest 34 = .ok (.aload_n 0, 1) := by decide +kernel
theorem dX9_clearest_35 : decode cX9_clearest 35 = .ok (.aload_n 0, 1) := by decide +kernel
theorem dX9_clearest_36 : decode cX9_clearest 36 = .ok (.getfield 29, 3) := by decide +kernel
theorem dX9_clearest_39 : decode cX9_clearest 39 = .ok (.aload_n 0, 1) := by decide +kernel
theorem dX9_clearest_40 : decode cX9_clearest 40 = .ok (.getfield 98, 3) := by decide +kernel
theorem dX9_clearest_43 : decode cX9_clearest 43 = .ok (.iload_n 3, 1) := by decide +kernel
theorem dX9_clearest_44 : decode cX9_clearest 44 = .ok (.isub, 1) := by decide +kernel
theorem dX9_clearest_45 : decode cX9_clearest 45 = .ok (.iconst 1, 1) := by decide +kernel
theorem dX9_clearest_46 : decode cX9_clearest 46 = .ok (.isub, 1) := by decide +kernel
theorem dX9_clearest_47 : decode cX9_clearest 47 = .ok (.iaload, 1) := by decide +kernel
theorem dX9_clearest_48 : decode cX9_clearest 48 = .ok (.invokevirtual 218, 3) := by decide +kernel
theorem dX9_clearest_51 : decode cX9_clearest 51 = .ok (.isub, 1) := by decide +kernel
theorem dX9_clearest_52 : decode cX9_clearest 52 = .ok (.istore 4, 2) := by decide +kernel
theorem dX9_clearest_54 : decode cX9_clearest 54 = .ok (.iload 4, 2) := by decide +kernel
theorem dX9_clearest_56 : decode cX9_clearest 56 = .ok (.iload_n 2, 1) := by decide +kernel
theorem dX9_clearest_57 : decode cX9_clearest 57 = .ok (.if_icmp .gt 6, 3) := by decide +kernel
theorem dX9_clearest_60 : decode cX9_clearest 60 = .ok (.goto 8, 3) := by decide +kernel
theorem dX9_clearest_63 : decode cX9_clearest 63 = .ok (.iload 4, 2) := by decide +kernel
theorem dX9_clearest_65 : decode cX9_clearest 65 = .ok (.istore_n 2, 1) := by decide +kernel
theorem dX9_clearest_66 : decode cX9_clearest 66 = .ok (.iload_n 3, 1) := by decide +kernel
theorem dX9_clearest_67 : decode cX9_clearest 67 = .ok (.istore_n 1, 1) := by decide +kernel
theorem dX9_clearest_68 : decode cX9_clearest 68 = .ok (.iinc 3 1, 3) := by decide +kernel
theorem dX9_clearest_71 : decode cX9_clearest 71 = .ok (.goto (-60), 3) := by decide +kernel
theorem dX9_clearest_74 : decode cX9_clearest 74 = .ok (.iload_n 1, 1) := by decide +kernel
theorem dX9_clearest_75 : decode cX9_clearest 75 = .ok (.ireturn, 1) := by decide +kernel
theorem dX9_bestOf_0 : decode cX9_bestOf 0 = .ok (.iload_n 1, 1) := by decide +kernel
theorem dX9_bestOf_1 : decode cX9_bestOf 1 = .ok (.bipush 100, 2) := by decide +kernel
theorem dX9_bestOf_3 : decode cX9_bestOf 3 = .ok (.if_icmp .ge 9, 3) := by decide +kernel
theorem dX9_bestOf_6 : decode cX9_bestOf 6 = .ok (.aload_n 0, 1) := by decide +kernel
theorem dX9_bestOf_7 : decode cX9_bestOf 7 = .ok (.iload_n 1, 1) := by decide +kernel
theorem dX9_bestOf_8 : decode cX9_bestOf 8 = .ok (.invokevirtual 227, 3) := by decide +kernel
theorem dX9_bestOf_11 : decode cX9_bestOf 11 = .ok (.ireturn, 1) := by decide +kernel
theorem dX9_bestOf_12 : decode cX9_bestOf 12 = .ok (.aload_n 0, 1) := by decide +kernel
theorem dX9_bestOf_13 : decode cX9_bestOf 13 = .ok (.aload_n 0, 1) := by decide +kernel
theorem dX9_bestOf_14 : decode cX9_bestOf 14 = .ok (.getfield 35, 3) := by decide +kernel
theorem dX9_bestOf_17 : decode cX9_bestOf 17 = .ok (.iload_n 1, 1) := by decide +kernel
theorem dX9_bestOf_18 : decode cX9_bestOf 18 = .ok (.bipush 100, 2) := by decide +kernel
theorem dX9_bestOf_20 : decode cX9_bestOf 20 = .ok (.isub, 1) := by decide +kernel
theorem dX9_bestOf_21 : decode cX9_bestOf 21 = .ok (.iaload, 1) := by decide +kernel
theorem dX9_bestOf_22 : decode cX9_bestOf 22 = .ok (.invokevirtual 336, 3) := by decide +kernel
theorem dX9_bestOf_25 : decode cX9_bestOf 25 = .ok (.aload_n 0, 1) := by decide +kernel
theorem dX9_bestOf_26 : decode cX9_bestOf 26 = .ok (.aload_n 0, 1) := by decide +kernel
theorem dX9_bestOf_27 : decode cX9_bestOf 27 = .ok (.getfield 38, 3) := by decide +kernel
theorem dX9_bestOf_30 : decode cX9_bestOf 30 = .ok (.iload_n 1, 1) := by decide +kernel
theorem dX9_bestOf_31 : decode cX9_bestOf 31 = .ok (.bipush 100, 2) := by decide +kernel
theorem dX9_bestOf_33 : decode cX9_bestOf 33 = .ok (.isub, 1) := by decide +kernel
theorem dX9_bestOf_34 : decode cX9_bestOf 34 = .ok (.iaload, 1) := by decide +kernel
theorem dX9_bestOf_35 : decode cX9_bestOf 35 = .ok (.invokevirtual 336, 3) := by decide +kernel
theorem dX9_bestOf_38 : decode cX9_bestOf 38 = .ok (.iadd, 1) := by decide +kernel
theorem dX9_bestOf_39 : decode cX9_bestOf 39 = .ok (.istore_n 2, 1) := by decide +kernel
theorem dX9_bestOf_40 : decode cX9_bestOf 40 = .ok (.aload_n 0, 1) := by decide +kernel
theorem dX9_bestOf_41 : decode cX9_bestOf 41 = .ok (.iload_n 1, 1) := by decide +kernel
theorem dX9_bestOf_42 : decode cX9_bestOf 42 = .ok (.invokevirtual 227, 3) := by decide +kernel
theorem dX9_bestOf_45 : decode cX9_bestOf 45 = .ok (.iload_n 2, 1) := by decide +kernel
theorem dX9_bestOf_46 : decode cX9_bestOf 46 = .ok (.invokestatic 116, 3) := by decide +kernel
theorem dX9_bestOf_49 : decode cX9_bestOf 49 = .ok (.ireturn, 1) := by decide +kernel
theorem dX9_setOfNode_0 : decode cX9_setOfNode 0 = .ok (.iload_n 1, 1) := by decide +kernel
theorem dX9_setOfNode_1 : decode cX9_setOfNode 1 = .ok (.bipush 100, 2) := by decide +kernel
theorem dX9_setOfNode_3 : decode cX9_setOfNode 3 = .ok (.if_icmp .ge 9, 3) := by decide +kernel
theorem dX9_setOfNode_6 : decode cX9_setOfNode 6 = .ok (.iconst 1, 1) := by decide +kernel
theorem dX9_setOfNode_7 : decode cX9_setOfNode 7 = .ok (.iload_n 1, 1) := by decide +kernel
theorem dX9_setOfNode_8 : decode cX9_setOfNode 8 = .ok (.ishl, 1) := by decide +kernel
theorem dX9_setOfNode_9 : decode cX9_setOfNode 9 = .ok (.goto 12, 3) := by decide +kernel
theorem dX9_setOfNode_12 : decode cX9_setOfNode 12 = .ok (.aload_n 0, 1) := by decide +kernel
theorem dX9_setOfNode_13 : decode cX9_setOfNode 13 = .ok (.getfield 32, 3) := by decide +kernel
theorem dX9_setOfNode_16 : decode cX9_setOfNode 16 = .ok (.iload_n 1, 1) := by decide +kernel
theorem dX9_setOfNode_17 : decode cX9_setOfNode 17 = .ok (.bipush 100, 2) := by decide +kernel
theorem dX9_setOfNode_19 : decode cX9_setOfNode 19 = .ok (.isub, 1) := by decide +kernel
theorem dX9_setOfNode_20 : decode cX9_setOfNode 20 = .ok (.iaload, 1) := by decide +kernel
theorem dX9_setOfNode_21 : decode cX9_setOfNode 21 = .ok (.ireturn, 1) := by decide +kernel
theorem dX9_takesBest_0 : decode cX9_takesBest 0 = .ok (.iload_n 1, 1) := by decide +kernel
theorem dX9_takesBest_1 : decode cX9_takesBest 1 = .ok (.bipush 100, 2) := by decide +kernel
theorem dX9_takesBest_3 : decode cX9_takesBest 3 = .ok (.if_icmp .lt 65, 3) := by decide +kernel
theorem dX9_takesBest_6 : decode cX9_takesBest 6 = .ok (.aload_n 0, 1) := by decide +kernel
theorem dX9_takesBest_7 : decode cX9_takesBest 7 = .ok (.iload_n 1, 1) := by decide +kernel
theorem dX9_takesBest_8 : decode cX9_takesBest 8 = .ok (.invokevirtual 227, 3) := by decide +kernel
theorem dX9_takesBest_11 : decode cX9_takesBest 11 = .ok (.aload_n 0, 1) := by decide +kernel
theorem dX9_takesBest_12 : decode cX9_takesBest 12 = .ok (.aload_n 0, 1) := by decide +kernel
theorem dX9_takesBest_13 : decode cX9_takesBest 13 = .ok (.getfield 35, 3) := by decide +kernel
theorem dX9_takesBest_16 : decode cX9_takesBest 16 = .ok (.iload_n 1, 1) := by decide +kernel
theorem dX9_takesBest_17 : decode cX9_takesBest 17 = .ok (.bipush 100, 2) := by decide +kernel
theorem dX9_takesBest_19 : decode cX9_takesBest 19 = .ok (.isub, 1) := by decide +kernel
theorem dX9_takesBest_20 : decode cX9_takesBest 20 = .ok (.iaload, 1) := by decide +kernel
theorem dX9_takesBest_21 : decode cX9_takesBest 21 = .ok (.invokevirtual 336, 3) := by decide +kernel
theorem dX9_takesBest_24 : decode cX9_takesBest 24 = .ok (.aload_n 0, 1) := by decide +kernel
theorem dX9_takesBest_25 : decode cX9_takesBest 25 = .ok (.aload_n 0, 1) := by decide +kernel
theorem dX9_takesBest_26 : decode cX9_takesBest 26 = .ok (.getfield 38, 3) := by decide +kernel
theorem dX9_takesBest_29 : decode cX9_takesBest 29 = .ok (.iload_n 1, 1) := by decide +kernel
theorem dX9_takesBest_30 : decode cX9_takesBest 30 = .ok (.bipush 100, 2) := by decide +kernel
theorem dX9_takesBest_32 : decode cX9_takesBest 32 = .ok (.isub, 1) := by decide +kernel
theorem dX9_takesBest_33 : decode cX9_takesBest 33 = .ok (.iaload, 1) := by decide +kernel
theorem dX9_takesBest_34 : decode cX9_takesBest 34 = .ok (.invokevirtual 336, 3) := by decide +kernel
theorem dX9_takesBest_37 : decode cX9_takesBest 37 = .ok (.iadd, 1) := by decide +kernel
theorem dX9_takesBest_38 : decode cX9_takesBest 38 = .ok (.if_icmp .ge 30, 3) := by decide +kernel
theorem dX9_takesBest_41 : decode cX9_takesBest 41 = .ok (.aload_n 0, 1) := by decide +kernel
theorem dX9_takesBest_42 : decode cX9_takesBest 42 = .ok (.aload_n 0, 1) := by decide +kernel
theorem dX9_takesBest_43 : decode cX9_takesBest 43 = .ok (.getfield 35, 3) := by decide +kernel
theorem dX9_takesBest_46 : decode cX9_takesBest 46 = .ok (.iload_n 1, 1) := by decide +kernel
theorem dX9_takesBest_47 : decode cX9_takesBest 47 = .ok (.bipush 100, 2) := by decide +kernel
theorem dX9_takesBest_49 : decode cX9_takesBest 49 = .ok (.isub, 1) := by decide +kernel
theorem dX9_takesBest_50 : decode cX9_takesBest 50 = .ok (.iaload, 1) := by decide +kernel
theorem dX9_takesBest_51 : decode cX9_takesBest 51 = .ok (.invokevirtual 339, 3) := by decide +kernel
theorem dX9_takesBest_54 : decode cX9_takesBest 54 = .ok (.aload_n 0, 1) := by decide +kernel
theorem dX9_takesBest_55 : decode cX9_takesBest 55 = .ok (.aload_n 0, 1) := by decide +kernel
theorem dX9_takesBest_56 : decode cX9_takesBest 56 = .ok (.getfield 38, 3) := by decide +kernel
theorem dX9_takesBest_59 : decode cX9_takesBest 59 = .ok (.iload_n 1, 1) := by decide +kernel
theorem dX9_takesBest_60 : decode cX9_takesBest 60 = .ok (.bipush 100, 2) := by decide +kernel
theorem dX9_takesBest_62 : decode cX9_takesBest 62 = .ok (.isub, 1) := by decide +kernel
theorem dX9_takesBest_63 : decode cX9_takesBest 63 = .ok (.iaload, 1) := by decide +kernel
theorem dX9_takesBest_64 : decode cX9_takesBest 64 = .ok (.invokevirtual 339, 3) := by decide +kernel
theorem dX9_takesBest_67 : decode cX9_takesBest 67 = .ok (.return_, 1) := by decide +kernel
theorem dX9_takesBest_68 : decode cX9_takesBest 68 = .ok (.aload_n 0, 1) := by decide +kernel
theorem dX9_takesBest_69 : decode cX9_takesBest 69 = .ok (.getfield 342, 3) := by decide +kernel
theorem dX9_takesBest_72 : decode cX9_takesBest 72 = .ok (.istore_n 2, 1) := by decide +kernel
theorem dX9_takesBest_73 : decode cX9_takesBest 73 = .ok (.iload_n 2, 1) := by decide +kernel
theorem dX9_takesBest_74 : decode cX9_takesBest 74 = .ok (.ifCond .le 52, 3) := by decide +kernel
theorem dX9_takesBest_77 : decode cX9_takesBest 77 = .ok (.aload_n 0, 1) := by decide +kernel
theorem dX9_takesBest_78 : decode cX9_takesBest 78 = .ok (.aload_n 0, 1) := by decide +kernel
theorem dX9_takesBest_79 : decode cX9_takesBest 79 = .ok (.aload_n 0, 1) := by decide +kernel
theorem dX9_takesBest_80 : decode cX9_takesBest 80 = .ok (.getfield 77, 3) := by decide +kernel
theorem dX9_takesBest_83 : decode cX9_takesBest 83 = .ok (.iload_n 2, 1) := by decide +kernel
theorem dX9_takesBest_84 : decode cX9_takesBest 84 = .ok (.iconst 1, 1) := by decide +kernel
theorem dX9_takesBest_85 : decode cX9_takesBest 85 = .ok (.isub, 1) := by decide +kernel
theorem dX9_takesBest_86 : decode cX9_takesBest 86 = .ok (.iaload, 1) := by decide +kernel
theorem dX9_takesBest_87 : decode cX9_takesBest 87 = .ok (.invokevirtual 345, 3) := by decide +kernel
theorem dX9_takesBest_90 : decode cX9_takesBest 90 = .ok (.invokevirtual 251, 3) := by decide +kernel
theorem dX9_takesBest_93 : decode cX9_takesBest 93 = .ok (.aload_n 0, 1) := by decide +kernel
theorem dX9_takesBest_94 : decode cX9_takesBest 94 = .ok (.aload_n 0, 1) := by decide +kernel
theorem dX9_takesBest_95 : decode cX9_takesBest 95 = .ok (.iload_n 1, 1) := by decide +kernel
theorem dX9_takesBest_96 : decode cX9_takesBest 96 = .ok (.invokevirtual 345, 3) := by decide +kernel
theorem dX9_takesBest_99 : decode cX9_takesBest 99 = .ok (.invokevirtual 251, 3) := by decide +kernel
theorem dX9_takesBest_102 : decode cX9_takesBest 102 = .ok (.if_icmp .le 24, 3) := by decide +kernel
theorem dX9_takesBest_105 : decode cX9_takesBest 105 = .ok (.aload_n 0, 1) := by decide +kernel
theorem dX9_takesBest_106 : decode cX9_takesBest 106 = .ok (.getfield 77, 3) := by decide +kernel
theorem dX9_takesBest_109 : decode cX9_takesBest 109 = .ok (.iload_n 2, 1) := by decide +kernel
theorem dX9_takesBest_110 : decode cX9_takesBest 110 = .ok (.aload_n 0, 1) := by decide +kernel
theorem dX9_takesBest_111 : decode cX9_takesBest 111 = .ok (.getfield 77, 3) := by decide +kernel
theorem dX9_takesBest_114 : decode cX9_takesBest 114 = .ok (.iload_n 2, 1) := by decide +kernel
theorem dX9_takesBest_115 : decode cX9_takesBest 115 = .ok (.iconst 1, 1) := by decide +kernel
theorem dX9_takesBest_116 : decode cX9_takesBest 116 = .ok (.isub, 1) := by decide +kernel
theorem dX9_takesBest_117 : decode cX9_takesBest 117 = .ok (.iaload, 1) := by decide +kernel
theorem dX9_takesBest_118 : decode cX9_takesBest 118 = .ok (.iastore, 1) := by decide +kernel
theorem dX9_takesBest_119 : decode cX9_takesBest 119 = .ok (.iload_n 2, 1) := by decide +kernel
theorem dX9_takesBest_120 : decode cX9_takesBest 120 = .ok (.iconst 1, 1) := by decide +kernel
theorem dX9_takesBest_121 : decode cX9_takesBest 121 = .ok (.isub, 1) := by decide +kernel
theorem dX9_takesBest_122 : decode cX9_takesBest 122 = .ok (.istore_n 2, 1) := by decide +kernel
theorem dX9_takesBest_123 : decode cX9_takesBest 123 = .ok (.goto (-50), 3) := by decide +kernel
theorem dX9_takesBest_126 : decode cX9_takesBest 126 = .ok (.aload_n 0, 1) := by decide +kernel
theorem dX9_takesBest_127 : decode cX9_takesBest 127 = .ok (.getfield 77, 3) := by decide +kernel
theorem dX9_takesBest_130 : decode cX9_takesBest 130 = .ok (.iload_n 2, 1) := by decide +kernel
theorem dX9_takesBest_131 : decode cX9_takesBest 131 = .ok (.iload_n 1, 1) := by decide +kernel
theorem dX9_takesBest_132 : decode cX9_takesBest 132 = .ok (.iastore, 1) := by decide +kernel
theorem dX9_takesBest_133 : decode cX9_takesBest 133 = .ok (.aload_n 0, 1) := by decide +kernel
theorem dX9_takesBest_134 : decode cX9_takesBest 134 = .ok (.aload_n 0, 1) := by decide +kernel
theorem dX9_takesBest_135 : decode cX9_takesBest 135 = .ok (.getfield 342, 3) := by decide +kernel
theorem dX9_takesBest_138 : decode cX9_takesBest 138 = .ok (.iconst 1, 1) := by decide +kernel
theorem dX9_takesBest_139 : decode cX9_takesBest 139 = .ok (.iadd, 1) := by decide +kernel
theorem dX9_takesBest_140 : decode cX9_takesBest 140 = .ok (.putfield 342, 3) := by decide +kernel
theorem dX9_takesBest_143 : decode cX9_takesBest 143 = .ok (.return_, 1) := by decide +kernel
theorem dX9_best_0 : decode cX9_best 0 = .ok (.aload_n 0, 1) := by decide +kernel
theorem dX9_best_1 : decode cX9_best 1 = .ok (.iconst 0, 1) := by decide +kernel
theorem dX9_best_2 : decode cX9_best 2 = .ok (.putfield 95, 3) := by decide +kernel
theorem dX9_best_5 : decode cX9_best 5 = .ok (.aload_n 0, 1) := by decide +kernel
theorem dX9_best_6 : decode cX9_best 6 = .ok (.iconst 0, 1) := by decide +kernel
theorem dX9_best_7 : decode cX9_best 7 = .ok (.putfield 342, 3) := by decide +kernel
theorem dX9_best_10 : decode cX9_best 10 = .ok (.aload_n 0, 1) := by decide +kernel
theorem dX9_best_11 : decode cX9_best 11 = .ok (.getfield 98, 3) := by decide +kernel
theorem dX9_best_14 : decode cX9_best 14 = .ok (.iconst 1, 1) := by decide +kernel
theorem dX9_best_15 : decode cX9_best 15 = .ok (.if_icmp .ne 7, 3) := by decide +kernel
theorem dX9_best_18 : decode cX9_best 18 = .ok (.iconst 0, 1) := by decide +kernel
theorem dX9_best_19 : decode cX9_best 19 = .ok (.goto 12, 3) := by decide +kernel
theorem dX9_best_22 : decode cX9_best 22 = .ok (.bipush 100, 2) := by decide +kernel
theorem dX9_best_24 : decode cX9_best 24 = .ok (.aload_n 0, 1) := by decide +kernel
theorem dX9_best_25 : decode cX9_best 25 = .ok (.getfield 98, 3) := by decide +kernel
theorem dX9_best_28 : decode cX9_best 28 = .ok (.iadd, 1) := by decide +kernel
theorem dX9_best_29 : decode cX9_best 29 = .ok (.iconst 2, 1) := by decide +kernel
theorem dX9_best_30 : decode cX9_best 30 = .ok (.isub, 1) := by decide +kernel
theorem dX9_best_31 : decode cX9_best 31 = .ok (.istore_n 2, 1) := by decide +kernel
theorem dX9_best_32 : decode cX9_best 32 = .ok (.aload_n 0, 1) := by decide +kernel
theorem dX9_best_33 : decode cX9_best 33 = .ok (.getfield 98, 3) := by decide +kernel
theorem dX9_best_36 : decode cX9_best 36 = .ok (.ifCond .le 8, 3) := by decide +kernel
theorem dX9_best_39 : decode cX9_best 39 = .ok (.aload_n 0, 1) := by decide +kernel
theorem dX9_best_40 : decode cX9_best 40 = .ok (.iload_n 2, 1) := by decide +kernel
theorem dX9_best_41 : decode cX9_best 41 = .ok (.invokevirtual 339, 3) := by decide +kernel
theorem dX9_best_44 : decode cX9_best 44 = .ok (.iload_n 1, 1) := by decide +kernel
theorem dX9_best_45 : decode cX9_best 45 = .ok (.ifCond .ne 20, 3) := by decide +kernel
theorem dX9_best_48 : decode cX9_best 48 = .ok (.aload_n 0, 1) := by decide +kernel
theorem dX9_best_49 : decode cX9_best 49 = .ok (.getfield 98, 3) := by decide +kernel
theorem dX9_best_52 : decode cX9_best 52 = .ok (.ifCond .ne 7, 3) := by decide +kernel
theorem dX9_best_55 : decode cX9_best 55 = .ok (.iconst 0, 1) := by decide +kernel
theorem dX9_best_56 : decode cX9_best 56 = .ok (.goto 8, 3) := by decide +kernel
theorem dX9_best_59 : decode cX9_best 59 = .ok (.aload_n 0, 1) := by decide +kernel
theorem dX9_best_60 : decode cX9_best 60 = .ok (.iload_n 2, 1) := by decide +kernel
theorem dX9_best_61 : decode cX9_best 61 = .ok (.invokevirtual 336, 3) := by decide +kernel
theorem dX9_best_64 : decode cX9_best 64 = .ok (.ireturn, 1) := by decide +kernel
theorem dX9_best_65 : decode cX9_best 65 = .ok (.iload_n 1, 1) := by decide +kernel
theorem dX9_best_66 : decode cX9_best 66 = .ok (.iconst 1, 1) := by decide +kernel
theorem dX9_best_67 : decode cX9_best 67 = .ok (.if_icmp .ne 8, 3) := by decide +kernel
theorem dX9_best_70 : decode cX9_best 70 = .ok (.aload_n 0, 1) := by decide +kernel
theorem dX9_best_71 : decode cX9_best 71 = .ok (.getfield 342, 3) := by decide +kernel
theorem dX9_best_74 : decode cX9_best 74 = .ok (.ireturn, 1) := by decide +kernel
theorem dX9_best_75 : decode cX9_best 75 = .ok (.aload_n 0, 1) := by decide +kernel
theorem dX9_best_76 : decode cX9_best 76 = .ok (.iload_n 1, 1) := by decide +kernel
theorem dX9_best_77 : decode cX9_best 77 = .ok (.i2l, 1) := by decide +kernel
theorem dX9_best_78 : decode cX9_best 78 = .ok (.ldc2_w 105, 3) := by decide +kernel
theorem dX9_best_81 : decode cX9_best 81 = .ok (.ldc2_w 331, 3) := by decide +kernel
theorem dX9_best_84 : decode cX9_best 84 = .ok (.aload_n 0, 1) := by decide +kernel
theorem dX9_best_85 : decode cX9_best 85 = .ok (.getfield 342, 3) := by decide +kernel
theorem dX9_best_88 : decode cX9_best 88 = .ok (.i2l, 1) := by decide +kernel
theorem dX9_best_89 : decode cX9_best 89 = .ok (.ladd, 1) := by decide +kernel
theorem dX9_best_90 : decode cX9_best 90 = .ok (.invokevirtual 101, 3) := by decide +kernel
theorem dX9_best_93 : decode cX9_best 93 = .ok (.ifCond .eq 15, 3) := by decide +kernel
theorem dX9_best_96 : decode cX9_best 96 = .ok (.aload_n 0, 1) := by decide +kernel
theorem dX9_best_97 : decode cX9_best 97 = .ok (.getfield 77, 3) := by decide +kernel
theorem dX9_best_100 : decode cX9_best 100 = .ok (.iload_n 1, 1) := by decide +kernel
theorem dX9_best_101 : decode cX9_best 101 = .ok (.bipush 10, 2) := by decide +kernel
theorem dX9_best_103 : decode cX9_best 103 = .ok (.isub, 1) := by decide +kernel
theorem dX9_best_104 : decode cX9_best 104 = .ok (.iaload, 1) := by decide +kernel
theorem dX9_best_105 : decode cX9_best 105 = .ok (.goto 4, 3) := by decide +kernel
theorem dX9_best_108 : decode cX9_best 108 = .ok (.iconst (-1), 1) := by decide +kernel
theorem dX9_best_109 : decode cX9_best 109 = .ok (.ireturn, 1) := by decide +kernel
theorem dX9_laysLabels_0 : decode cX9_laysLabels 0 = .ok (.aload_n 0, 1) := by decide +kernel
theorem dX9_laysLabels_1 : decode cX9_laysLabels 1 = .ok (.iload_n 1, 1) := by decide +kernel
theorem dX9_laysLabels_2 : decode cX9_laysLabels 2 = .ok (.invokevirtual 260, 3) := by decide +kernel
theorem dX9_laysLabels_5 : decode cX9_laysLabels 5 = .ok (.aload_n 0, 1) := by decide +kernel
theorem dX9_laysLabels_6 : decode cX9_laysLabels 6 = .ok (.iconst 0, 1) := by decide +kernel
theorem dX9_laysLabels_7 : decode cX9_laysLabels 7 = .ok (.putfield 348, 3) := by decide +kernel
theorem dX9_laysLabels_10 : decode cX9_laysLabels 10 = .ok (.iconst 0, 1) := by decide +kernel
theorem dX9_laysLabels_11 : decode cX9_laysLabels 11 = .ok (.istore_n 2, 1) := by decide +kernel
theorem dX9_laysLabels_12 : decode cX9_laysLabels 12 = .ok (.iload_n 2, 1) := by decide +kernel
theorem dX9_laysLabels_13 : decode cX9_laysLabels 13 = .ok (.aload_n 0, 1) := by decide +kernel
theorem dX9_laysLabels_14 : decode cX9_laysLabels 14 = .ok (.getfield 98, 3) := by decide +kernel
theorem dX9_laysLabels_17 : decode cX9_laysLabels 17 = .ok (.if_icmp .ge 97, 3) := by decide +kernel
theorem dX9_laysLabels_20 : decode cX9_laysLabels 20 = .ok (.aload_n 0, 1) := by decide +kernel
theorem dX9_laysLabels_21 : decode cX9_laysLabels 21 = .ok (.iload_n 2, 1) := by decide +kernel
theorem dX9_laysLabels_22 : decode cX9_laysLabels 22 = .ok (.invokevirtual 254, 3) := by decide +kernel
theorem dX9_laysLabels_25 : decode cX9_laysLabels 25 = .ok (.ifCond .ne 6, 3) := by decide +kernel
theorem dX9_laysLabels_28 : decode cX9_laysLabels 28 = .ok (.goto 80, 3) := by decide +kernel
theorem dX9_laysLabels_31 : decode cX9_laysLabels 31 = .ok (.aload_n 0, 1) := by decide +kernel
theorem dX9_laysLabels_32 : decode cX9_laysLabels 32 = .ok (.getfield 348, 3) := by decide +kernel
theorem dX9_laysLabels_35 : decode cX9_laysLabels 35 = .ok (.istore_n 3, 1) := by decide +kernel
theorem dX9_laysLabels_36 : decode cX9_laysLabels 36 = .ok (.iload_n 3, 1) := by decide +kernel
theorem dX9_laysLabels_37 : decode cX9_laysLabels 37 = .ok (.ifCond .le 49, 3) := by decide +kernel
theorem dX9_laysLabels_40 : decode cX9_laysLabels 40 = .ok (.aload_n 0, 1) := by decide +kernel
theorem dX9_laysLabels_41 : decode cX9_laysLabels 41 = .ok (.aload_n 0, 1) := by decide +kernel
theorem dX9_laysLabels_42 : decode cX9_laysLabels 42 = .ok (.getfield 80, 3) := by decide +kernel
theorem dX9_laysLabels_45 : decode cX9_laysLabels 45 = .ok (.iload_n 3, 1) := by decide +kernel
theorem dX9_laysLabels_46 : decode cX9_laysLabels 46 = .ok (.iconst 1, 1) := by decide +kernel
theorem dX9_laysLabels_47 : decode cX9_laysLabels 47 = .ok (.isub, 1) := by decide +kernel
theorem dX9_laysLabels_48 : decode cX9_laysLabels 48 = .ok (.iaload, 1) := by decide +kernel
theorem dX9_laysLabels_49 : decode cX9_laysLabels 49 = .ok (.invokevirtual 215, 3) := by decide +kernel
theorem dX9_laysLabels_52 : decode cX9_laysLabels 52 = .ok (.aload_n 0, 1) := by decide +kernel
theorem dX9_laysLabels_53 : decode cX9_laysLabels 53 = .ok (.aload_n 0, 1) := by decide +kernel
theorem dX9_laysLabels_54 : decode cX9_laysLabels 54 = .ok (.getfield 68, 3) := by decide +kernel
theorem dX9_laysLabels_57 : decode cX9_laysLabels 57 = .ok (.iload_n 2, 1) := by decide +kernel
theorem dX9_laysLabels_58 : decode cX9_laysLabels 58 = .ok (.iaload, 1) := by decide +kernel
theorem dX9_laysLabels_59 : decode cX9_laysLabels 59 = .ok (.invokevirtual 215, 3) := by decide +kernel
theorem dX9_laysLabels_62 : decode cX9_laysLabels 62 = .ok (.if_icmp .ge 24, 3) := by decide +kernel
theorem dX9_laysLabels_65 : decode cX9_laysLabels 65 = .ok (.aload_n 0, 1) := by decide +kernel
theorem dX9_laysLabels_66 : decode cX9_laysLabels 66 = .ok (.getfield 80, 3) := by decide +kernel
theorem dX9_laysLabels_69 : decode cX9_laysLabels 69 = .ok (.iload_n 3, 1) := by decide +kernel
theorem dX9_laysLabels_70 : decode cX9_laysLabels 70 = .ok (.aload_n 0, 1) := by decide +kernel
theorem dX9_laysLabels_71 : decode cX9_laysLabels 71 = .ok (.getfield 80, 3) := by decide +kernel
theorem dX9_laysLabels_74 : decode cX9_laysLabels 74 = .ok (.iload_n 3, 1) := by decide +kernel
theorem dX9_laysLabels_75 : decode cX9_laysLabels 75 = .ok (.iconst 1, 1) := by decide +kernel
theorem dX9_laysLabels_76 : decode cX9_laysLabels 76 = .ok (.isub, 1) := by decide +kernel
theorem dX9_laysLabels_77 : decode cX9_laysLabels 77 = .ok (.iaload, 1) := by decide +kernel
theorem dX9_laysLabels_78 : decode cX9_laysLabels 78 = .ok (.iastore, 1) := by decide +kernel
theorem dX9_laysLabels_79 : decode cX9_laysLabels 79 = .ok (.iload_n 3, 1) := by decide +kernel
theorem dX9_laysLabels_80 : decode cX9_laysLabels 80 = .ok (.iconst 1, 1) := by decide +kernel
theorem dX9_laysLabels_81 : decode cX9_laysLabels 81 = .ok (.isub, 1) := by decide +kernel
theorem dX9_laysLabels_82 : decode cX9_laysLabels 82 = .ok (.istore_n 3, 1) := by decide +kernel
theorem dX9_laysLabels_83 : decode cX9_laysLabels 83 = .ok (.goto (-47), 3) := by decide +kernel
theorem dX9_laysLabels_86 : decode cX9_laysLabels 86 = .ok (.aload_n 0, 1) := by decide +kernel
theorem dX9_laysLabels_87 : decode cX9_laysLabels 87 = .ok (.getfield 80, 3) := by decide +kernel
theorem dX9_laysLabels_90 : decode cX9_laysLabels 90 = .ok (.iload_n 3, 1) := by decide +kernel
theorem dX9_laysLabels_91 : decode cX9_laysLabels 91 = .ok (.aload_n 0, 1) := by decide +kernel
theorem dX9_laysLabels_92 : decode cX9_laysLabels 92 = .ok (.getfield 68, 3) := by decide +kernel
theorem dX9_laysLabels_95 : decode cX9_laysLabels 95 = .ok (.iload_n 2, 1) := by decide +kernel
theorem dX9_laysLabels_96 : decode cX9_laysLabels 96 = .ok (.iaload, 1) := by decide +kernel
theorem dX9_laysLabels_97 : decode cX9_laysLabels 97 = .ok (.iastore, 1) := by decide +kernel
theorem dX9_laysLabels_98 : decode cX9_laysLabels 98 = .ok (.aload_n 0, 1) := by decide +kernel
theorem dX9_laysLabels_99 : decode cX9_laysLabels 99 = .ok (.aload_n 0, 1) := by decide +kernel
theorem dX9_laysLabels_100 : decode cX9_laysLabels 100 = .ok (.getfield 348, 3) := by decide +kernel
theorem dX9_laysLabels_103 : decode cX9_laysLabels 103 = .ok (.iconst 1, 1) := by decide +kernel
theorem dX9_laysLabels_104 : decode cX9_laysLabels 104 = .ok (.iadd, 1) := by decide +kernel
theorem dX9_laysLabels_105 : decode cX9_laysLabels 105 = .ok (.putfield 348, 3) := by decide +kernel
theorem dX9_laysLabels_108 : decode cX9_laysLabels 108 = .ok (.iinc 2 1, 3) := by decide +kernel
theorem dX9_laysLabels_111 : decode cX9_laysLabels 111 = .ok (.goto (-99), 3) := by decide +kernel
theorem dX9_laysLabels_114 : decode cX9_laysLabels 114 = .ok (.aload_n 0, 1) := by decide +kernel
theorem dX9_laysLabels_115 : decode cX9_laysLabels 115 = .ok (.iconst 0, 1) := by decide +kernel
theorem dX9_laysLabels_116 : decode cX9_laysLabels 116 = .ok (.putfield 351, 3) := by decide +kernel
theorem dX9_laysLabels_119 : decode cX9_laysLabels 119 = .ok (.iconst 0, 1) := by decide +kernel
theorem dX9_laysLabels_120 : decode cX9_laysLabels 120 = .ok (.istore_n 2, 1) := by decide +kernel
theorem dX9_laysLabels_121 : decode cX9_laysLabels 121 = .ok (.iload_n 2, 1) := by decide +kernel
theorem dX9_laysLabels_122 : decode cX9_laysLabels 122 = .ok (.aload_n 0, 1) := by decide +kernel
theorem dX9_laysLabels_123 : decode cX9_laysLabels 123 = .ok (.getfield 348, 3) := by decide +kernel
theorem dX9_laysLabels_126 : decode cX9_laysLabels 126 = .ok (.if_icmp .ge 97, 3) := by decide +kernel
theorem dX9_laysLabels_129 : decode cX9_laysLabels 129 = .ok (.iconst 1, 1) := by decide +kernel
theorem dX9_laysLabels_130 : decode cX9_laysLabels 130 = .ok (.istore_n 3, 1) := by decide +kernel
theorem dX9_laysLabels_131 : decode cX9_laysLabels 131 = .ok (.iconst 0, 1) := by decide +kernel
theorem dX9_laysLabels_132 : decode cX9_laysLabels 132 = .ok (.istore 4, 2) := by decide +kernel
theorem dX9_laysLabels_134 : decode cX9_laysLabels 134 = .ok (.iload 4, 2) := by decide +kernel
theorem dX9_laysLabels_136 : decode cX9_laysLabels 136 = .ok (.aload_n 0, 1) := by decide +kernel
theorem dX9_laysLabels_137 : decode cX9_laysLabels 137 = .ok (.getfield 351, 3) := by decide +kernel
theorem dX9_laysLabels_140 : decode cX9_laysLabels 140 = .ok (.if_icmp .ge 45, 3) := by decide +kernel
theorem dX9_laysLabels_143 : decode cX9_laysLabels 143 = .ok (.iload_n 3, 1) := by decide +kernel
theorem dX9_laysLabels_144 : decode cX9_laysLabels 144 = .ok (.ifCond .eq 33, 3) := by decide +kernel
theorem dX9_laysLabels_147 : decode cX9_laysLabels 147 = .ok (.aload_n 0, 1) := by decide +kernel
theorem dX9_laysLabels_148 : decode cX9_laysLabels 148 = .ok (.aload_n 0, 1) := by decide +kernel
theorem dX9_laysLabels_149 : decode cX9_laysLabels 149 = .ok (.getfield 80, 3) := by decide +kernel
theorem dX9_laysLabels_152 : decode cX9_laysLabels 152 = .ok (.iload_n 2, 1) := by decide +kernel
theorem dX9_laysLabels_153 : decode cX9_laysLabels 153 = .ok (.iaload, 1) := by decide +kernel
theorem dX9_laysLabels_154 : decode cX9_laysLabels 154 = .ok (.aload_n 0, 1) := by decide +kernel
theorem dX9_laysLabels_155 : decode cX9_laysLabels 155 = .ok (.getfield 83, 3) := by decide +kernel
theorem dX9_laysLabels_158 : decode cX9_laysLabels 158 = .ok (.iload 4, 2) := by decide +kernel
theorem dX9_laysLabels_160 : decode cX9_laysLabels 160 = .ok (.iaload, 1) := by decide +kernel
theorem dX9_laysLabels_161 : decode cX9_laysLabels 161 = .ok (.invokevirtual 333, 3) := by decide +kernel
theorem dX9_laysLabels_164 : decode cX9_laysLabels 164 = .ok (.aload_n 0, 1) := by decide +kernel
theorem dX9_laysLabels_165 : decode cX9_laysLabels 165 = .ok (.getfield 19, 3) := by decide +kernel
theorem dX9_laysLabels_168 : decode cX9_laysLabels 168 = .ok (.iload_n 1, 1) := by decide +kernel
theorem dX9_laysLabels_169 : decode cX9_laysLabels 169 = .ok (.ishr, 1) := by decide +kernel
theorem dX9_laysLabels_170 : decode cX9_laysLabels 170 = .ok (.if_icmp .le 7, 3) := by decide +kernel
theorem dX9_laysLabels_173 : decode cX9_laysLabels 173 = .ok (.iconst 1, 1) := by decide +kernel
theorem dX9_laysLabels_174 : decode cX9_laysLabels 174 = .ok (.goto 4, 3) := by decide +kernel
theorem dX9_laysLabels_177 : decode cX9_laysLabels 177 = .ok (.iconst 0, 1) := by decide +kernel
theorem dX9_laysLabels_178 : decode cX9_laysLabels 178 = .ok (.istore_n 3, 1) := by decide +kernel
theorem dX9_laysLabels_179 : decode cX9_laysLabels 179 = .ok (.iinc 4 1, 3) := by decide +kernel
theorem dX9_laysLabels_182 : decode cX9_laysLabels 182 = .ok (.goto (-48), 3) := by decide +kernel
theorem dX9_laysLabels_185 : decode cX9_laysLabels 185 = .ok (.iload_n 3, 1) := by decide +kernel
theorem dX9_laysLabels_186 : decode cX9_laysLabels 186 = .ok (.ifCond .ne 6, 3) := by decide +kernel
theorem dX9_laysLabels_189 : decode cX9_laysLabels 189 = .ok (.goto 28, 3) := by decide +kernel
theorem dX9_laysLabels_192 : decode cX9_laysLabels 192 = .ok (.aload_n 0, 1) := by decide +kernel
theorem dX9_laysLabels_193 : decode cX9_laysLabels 193 = .ok (.getfield 83, 3) := by decide +kernel
theorem dX9_laysLabels_196 : decode cX9_laysLabels 196 = .ok (.aload_n 0, 1) := by decide +kernel
theorem dX9_laysLabels_197 : decode cX9_laysLabels 197 = .ok (.getfield 351, 3) := by decide +kernel
theorem dX9_laysLabels_200 : decode cX9_laysLabels 200 = .ok (.aload_n 0, 1) := by decide +kernel
theorem dX9_laysLabels_201 : decode cX9_laysLabels 201 = .ok (.getfield 80, 3) := by decide +kernel
theorem dX9_laysLabels_204 : decode cX9_laysLabels 204 = .ok (.iload_n 2, 1) := by decide +kernel
theorem dX9_laysLabels_205 : decode cX9_laysLabels 205 = .ok (.iaload, 1) := by decide +kernel
theorem dX9_laysLabels_206 : decode cX9_laysLabels 206 = .ok (.iastore, 1) := by decide +kernel
theorem dX9_laysLabels_207 : decode cX9_laysLabels 207 = .ok (.aload_n 0, 1) := by decide +kernel
theorem dX9_laysLabels_208 : decode cX9_laysLabels 208 = .ok (.aload_n 0, 1) := by decide +kernel
theorem dX9_laysLabels_209 : decode cX9_laysLabels 209 = .ok (.getfield 351, 3) := by decide +kernel
theorem dX9_laysLabels_212 : decode cX9_laysLabels 212 = .ok (.iconst 1, 1) := by decide +kernel
theorem dX9_laysLabels_213 : decode cX9_laysLabels 213 = .ok (.iadd, 1) := by decide +kernel
theorem dX9_laysLabels_214 : decode cX9_laysLabels 214 = .ok (.putfield 351, 3) := by decide +kernel
theorem dX9_laysLabels_217 : decode cX9_laysLabels 217 = .ok (.iinc 2 1, 3) := by decide +kernel
theorem dX9_laysLabels_220 : decode cX9_laysLabels 220 = .ok (.goto (-99), 3) := by decide +kernel
theorem dX9_laysLabels_223 : decode cX9_laysLabels 223 = .ok (.return_, 1) := by decide +kernel
theorem dX9_countedBy_0 : decode cX9_countedBy 0 = .ok (.iconst 0, 1) := by decide +kernel
theorem dX9_countedBy_1 : decode cX9_countedBy 1 = .ok (.istore_n 2, 1) := by decide +kernel
theorem dX9_countedBy_2 : decode cX9_countedBy 2 = .ok (.iconst 0, 1) := by decide +kernel
theorem dX9_countedBy_3 : decode cX9_countedBy 3 = .ok (.istore_n 3, 1) := by decide +kernel
theorem dX9_countedBy_4 : decode cX9_countedBy 4 = .ok (.iload_n 3, 1) := by decide +kernel
theorem dX9_countedBy_5 : decode cX9_countedBy 5 = .ok (.aload_n 0, 1) := by decide +kernel
theorem dX9_countedBy_6 : decode cX9_countedBy 6 = .ok (.getfield 351, 3) := by decide +kernel
theorem dX9_countedBy_9 : decode cX9_countedBy 9 = .ok (.if_icmp .ge 48, 3) := by decide +kernel
theorem dX9_countedBy_12 : decode cX9_countedBy 12 = .ok (.aload_n 0, 1) := by decide +kernel
theorem dX9_countedBy_13 : decode cX9_countedBy 13 = .ok (.getfield 83, 3) := by decide +kernel
theorem dX9_countedBy_16 : decode cX9_countedBy 16 = .ok (.iload_n 3, 1) := by decide +kernel
theorem dX9_countedBy_17 : decode cX9_countedBy 17 = .ok (.iaload, 1) := by decide +kernel
theorem dX9_countedBy_18 : decode cX9_countedBy 18 = .ok (.iload_n 1, 1) := by decide +kernel
theorem dX9_countedBy_19 : decode cX9_countedBy 19 = .ok (.if_icmp .ne 5, 3) := by decide +kernel
theorem dX9_countedBy_22 : decode cX9_countedBy 22 = .ok (.iload_n 3, 1) := by decide +kernel
theorem dX9_countedBy_23 : decode cX9_countedBy 23 = .ok (.ireturn, 1) := by decide +kernel
theorem dX9_countedBy_24 : decode cX9_countedBy 24 = .ok (.aload_n 0, 1) := by decide +kernel
theorem dX9_countedBy_25 : decode cX9_countedBy 25 = .ok (.iload_n 1, 1) := by decide +kernel
theorem dX9_countedBy_26 : decode cX9_countedBy 26 = .ok (.aload_n 0, 1) := by decide +kernel
theorem dX9_countedBy_27 : decode cX9_countedBy 27 = .ok (.getfield 83, 3) := by decide +kernel
theorem dX9_countedBy_30 : decode cX9_countedBy 30 = .ok (.iload_n 3, 1) := by decide +kernel
theorem dX9_countedBy_31 : decode cX9_countedBy 31 = .ok (.iaload, 1) := by decide +kernel
theorem dX9_countedBy_32 : decode cX9_countedBy 32 = .ok (.invokevirtual 333, 3) := by decide +kernel
theorem dX9_countedBy_35 : decode cX9_countedBy 35 = .ok (.aload_n 0, 1) := by decide +kernel
theorem dX9_countedBy_36 : decode cX9_countedBy 36 = .ok (.iload_n 1, 1) := by decide +kernel
theorem dX9_countedBy_37 : decode cX9_countedBy 37 = .ok (.aload_n 0, 1) := by decide +kernel
theorem dX9_countedBy_38 : decode cX9_countedBy 38 = .ok (.getfield 83, 3) := by decide +kernel
theorem dX9_countedBy_41 : decode cX9_countedBy 41 = .ok (.iload_n 2, 1) := by decide +kernel
theorem dX9_countedBy_42 : decode cX9_countedBy 42 = .ok (.iaload, 1) := by decide +kernel
theorem dX9_countedBy_43 : decode cX9_countedBy 43 = .ok (.invokevirtual 333, 3) := by decide +kernel
theorem dX9_countedBy_46 : decode cX9_countedBy 46 = .ok (.if_icmp .ge 5, 3) := by decide +kernel
theorem dX9_countedBy_49 : decode cX9_countedBy 49 = .ok (.iload_n 3, 1) := by decide +kernel
theorem dX9_countedBy_50 : decode cX9_countedBy 50 = .ok (.istore_n 2, 1) := by decide +kernel
theorem dX9_countedBy_51 : decode cX9_countedBy 51 = .ok (.iinc 3 1, 3) := by decide +kernel
theorem dX9_countedBy_54 : decode cX9_countedBy 54 = .ok (.goto (-50), 3) := by decide +kernel
theorem dX9_countedBy_57 : decode cX9_countedBy 57 = .ok (.iload_n 2, 1) := by decide +kernel
theorem dX9_countedBy_58 : decode cX9_countedBy 58 = .ok (.ireturn, 1) := by decide +kernel
theorem dX9_shown_0 : decode cX9_shown 0 = .ok (.aload_n 0, 1) := by decide +kernel
theorem dX9_shown_1 : decode cX9_shown 1 = .ok (.iconst 0, 1) := by decide +kernel
theorem dX9_shown_2 : decode cX9_shown 2 = .ok (.putfield 95, 3) := by decide +kernel
theorem dX9_shown_5 : decode cX9_shown 5 = .ok (.aload_n 0, 1) := by decide +kernel
theorem dX9_shown_6 : decode cX9_shown 6 = .ok (.iload_n 1, 1) := by decide +kernel
theorem dX9_shown_7 : decode cX9_shown 7 = .ok (.invokevirtual 257, 3) := by decide +kernel
theorem dX9_shown_10 : decode cX9_shown 10 = .ok (.ifCond .ne 5, 3) := by decide +kernel
theorem dX9_shown_13 : decode cX9_shown 13 = .ok (.iconst (-1), 1) := by decide +kernel
theorem dX9_shown_14 : decode cX9_shown 14 = .ok (.ireturn, 1) := by decide +kernel
theorem dX9_shown_15 : decode cX9_shown 15 = .ok (.aload_n 0, 1) := by decide +kernel
theorem dX9_shown_16 : decode cX9_shown 16 = .ok (.iload_n 1, 1) := by decide +kernel
theorem dX9_shown_17 : decode cX9_shown 17 = .ok (.invokevirtual 354, 3) := by decide +kernel
theorem dX9_shown_20 : decode cX9_shown 20 = .ok (.aload_n 0, 1) := by decide +kernel
theorem dX9_shown_21 : decode cX9_shown 21 = .ok (.getfield 351, 3) := by decide +kernel
theorem dX9_shown_24 : decode cX9_shown 24 = .ok (.ireturn, 1) := by decide +kernel
theorem dX9_label_0 : decode cX9_label 0 = .ok (.aload_n 0, 1) := by decide +kernel
theorem dX9_label_1 : decode cX9_label 1 = .ok (.iconst 0, 1) := by decide +kernel
theorem dX9_label_2 : decode cX9_label 2 = .ok (.putfield 95, 3) := by decide +kernel
theorem dX9_label_5 : decode cX9_label 5 = .ok (.aload_n 0, 1) := by decide +kernel
theorem dX9_label_6 : decode cX9_label 6 = .ok (.iload_n 1, 1) := by decide +kernel
theorem dX9_label_7 : decode cX9_label 7 = .ok (.invokevirtual 257, 3) := by decide +kernel
theorem dX9_label_10 : decode cX9_label 10 = .ok (.ifCond .eq 16, 3) := by decide +kernel
theorem dX9_label_13 : decode cX9_label 13 = .ok (.aload_n 0, 1) := by decide +kernel
theorem dX9_label_14 : decode cX9_label 14 = .ok (.iload_n 3, 1) := by decide +kernel
theorem dX9_label_15 : decode cX9_label 15 = .ok (.i2l, 1) := by decide +kernel
theorem dX9_label_16 : decode cX9_label 16 = .ok (.lconst 0, 1) := by decide +kernel
theorem dX9_label_17 : decode cX9_label 17 = .ok (.ldc2_w 237, 3) := by decide +kernel
theorem dX9_label_20 : decode cX9_label 20 = .ok (.invokevirtual 101, 3) := by decide +kernel
theorem dX9_label_23 : decode cX9_label 23 = .ok (.ifCond .ne 5, 3) := by decide +kernel
theorem dX9_label_26 : decode cX9_label 26 = .ok (.iconst (-1), 1) := by decide +kernel
theorem dX9_label_27 : decode cX9_label 27 = .ok (.ireturn, 1) := by decide +kernel
theorem dX9_label_28 : decode cX9_label 28 = .ok (.aload_n 0, 1) := by decide +kernel
theorem dX9_label_29 : decode cX9_label 29 = .ok (.iload_n 1, 1) := by decide +kernel
theorem dX9_label_30 : decode cX9_label 30 = .ok (.invokevirtual 354, 3) := by decide +kernel
theorem dX9_label_33 : decode cX9_label 33 = .ok (.aload_n 0, 1) := by decide +kernel
theorem dX9_label_34 : decode cX9_label 34 = .ok (.iload_n 2, 1) := by decide +kernel
theorem dX9_label_35 : decode cX9_label 35 = .ok (.i2l, 1) := by decide +kernel
theorem dX9_label_36 : decode cX9_label 36 = .ok (.lconst 0, 1) := by decide +kernel
theorem dX9_label_37 : decode cX9_label 37 = .ok (.aload_n 0, 1) := by decide +kernel
theorem dX9_label_38 : decode cX9_label 38 = .ok (.getfield 351, 3) := by decide +kernel
theorem dX9_label_41 : decode cX9_label 41 = .ok (.i2l, 1) := by decide +kernel
theorem dX9_label_42 : decode cX9_label 42 = .ok (.lconst 1, 1) := by decide +kernel
theorem dX9_label_43 : decode cX9_label 43 = .ok (.lsub, 1) := by decide +kernel
theorem dX9_label_44 : decode cX9_label 44 = .ok (.invokevirtual 101, 3) := by decide +kernel
theorem dX9_label_47 : decode cX9_label 47 = .ok (.ifCond .ne 5, 3) := by decide +kernel
theorem dX9_label_50 : decode cX9_label 50 = .ok (.iconst (-1), 1) := by decide +kernel
theorem dX9_label_51 : decode cX9_label 51 = .ok (.ireturn, 1) := by decide +kernel
theorem dX9_label_52 : decode cX9_label 52 = .ok (.iload_n 3, 1) := by decide +kernel
theorem dX9_label_53 : decode cX9_label 53 = .ok (.ifCond .ne 18, 3) := by decide +kernel
theorem dX9_label_56 : decode cX9_label 56 = .ok (.aload_n 0, 1) := by decide +kernel
theorem dX9_label_57 : decode cX9_label 57 = .ok (.aload_n 0, 1) := by decide +kernel
theorem dX9_label_58 : decode cX9_label 58 = .ok (.aload_n 0, 1) := by decide +kernel
theorem dX9_label_59 : decode cX9_label 59 = .ok (.getfield 83, 3) := by decide +kernel
theorem dX9_label_62 : decode cX9_label 62 = .ok (.iload_n 2, 1) := by decide +kernel
theorem dX9_label_63 : decode cX9_label 63 = .ok (.iaload, 1) := by decide +kernel
theorem dX9_label_64 : decode cX9_label 64 = .ok (.invokevirtual 251, 3) := by decide +kernel
theorem dX9_label_67 : decode cX9_label 67 = .ok (.invokevirtual 266, 3) := by decide +kernel
theorem dX9_label_70 : decode cX9_label 70 = .ok (.ireturn, 1) := by decide +kernel
theorem dX9_label_71 : decode cX9_label 71 = .ok (.iconst 0, 1) := by decide +kernel
theorem dX9_label_72 : decode cX9_label 72 = .ok (.istore 4, 2) := by decide +kernel
theorem dX9_label_74 : decode cX9_label 74 = .ok (.iconst 0, 1) := by decide +kernel
theorem dX9_label_75 : decode cX9_label 75 = .ok (.istore 5, 2) := by decide +kernel
theorem dX9_label_77 : decode cX9_label 77 = .ok (.iconst 0, 1) := by decide +kernel
theorem dX9_label_78 : decode cX9_label 78 = .ok (.istore 6, 2) := by decide +kernel
theorem dX9_label_80 : decode cX9_label 80 = .ok (.iload 6, 2) := by decide +kernel
theorem dX9_label_82 : decode cX9_label 82 = .ok (.aload_n 0, 1) := by decide +kernel
theorem dX9_label_83 : decode cX9_label 83 = .ok (.getfield 348, 3) := by decide +kernel
theorem dX9_label_86 : decode cX9_label 86 = .ok (.if_icmp .ge 49, 3) := by decide +kernel
theorem dX9_label_89 : decode cX9_label 89 = .ok (.aload_n 0, 1) := by decide +kernel
theorem dX9_label_90 : decode cX9_label 90 = .ok (.aload_n 0, 1) := by decide +kernel
theorem dX9_label_91 : decode cX9_label 91 = .ok (.getfield 80, 3) := by decide +kernel
theorem dX9_label_94 : decode cX9_label 94 = .ok (.iload 6, 2) := by decide +kernel
theorem dX9_label_96 : decode cX9_label 96 = .ok (.iaload, 1) := by decide +kernel
theorem dX9_label_97 : decode cX9_label 97 = .ok (.invokevirtual 357, 3) := by decide +kernel
theorem dX9_label_100 : decode cX9_label 100 = .ok (.iload_n 2, 1) := by decide +kernel
theorem dX9_label_101 : decode cX9_label 101 = .ok (.if_icmp .eq 6, 3) := by decide +kernel
theorem dX9_label_104 : decode cX9_label 104 = .ok (.goto 25, 3) := by decide +kernel
theorem dX9_label_107 : decode cX9_label 107 = .ok (.iload 4, 2) := by decide +kernel
theorem dX9_label_109 : decode cX9_label 109 = .ok (.aload_n 0, 1) := by decide +kernel
theorem dX9_label_110 : decode cX9_label 110 = .ok (.aload_n 0, 1) := by decide +kernel
theorem dX9_label_111 : decode cX9_label 111 = .ok (.getfield 80, 3) := by decide +kernel
theorem dX9_label_114 : decode cX9_label 114 = .ok (.iload 6, 2) := by decide +kernel
theorem dX9_label_116 : decode cX9_label 116 = .ok (.iaload, 1) := by decide +kernel
theorem dX9_label_117 : decode cX9_label 117 = .ok (.invokevirtual 215, 3) := by decide +kernel
theorem dX9_label_120 : decode cX9_label 120 = .ok (.iadd, 1) := by decide +kernel
theorem dX9_label_121 : decode cX9_label 121 = .ok (.istore 4, 2) := by decide +kernel
theorem dX9_label_123 : decode cX9_label 123 = .ok (.iload 5, 2) := by decide +kernel
theorem dX9_label_125 : decode cX9_label 125 = .ok (.iconst 1, 1) := by decide +kernel
theorem dX9_label_126 : decode cX9_label 126 = .ok (.iadd, 1) := by decide +kernel
theorem dX9_label_127 : decode cX9_label 127 = .ok (.istore 5, 2) := by decide +kernel
theorem dX9_label_129 : decode cX9_label 129 = .ok (.iinc 6 1, 3) := by decide +kernel
theorem dX9_label_132 : decode cX9_label 132 = .ok (.goto (-52), 3) := by decide +kernel
theorem dX9_label_135 : decode cX9_label 135 = .ok (.iload_n 3, 1) := by decide +kernel
theorem dX9_label_136 : decode cX9_label 136 = .ok (.iconst 1, 1) := by decide +kernel
theorem dX9_label_137 : decode cX9_label 137 = .ok (.if_icmp .ne 8, 3) := by decide +kernel
theorem dX9_label_140 : decode cX9_label 140 = .ok (.iload 4, 2) := by decide +kernel
theorem dX9_label_142 : decode cX9_label 142 = .ok (.goto 7, 3) := by decide +kernel
theorem dX9_label_145 : decode cX9_label 145 = .ok (.iload 5, 2) := by decide +kernel
theorem dX9_label_147 : decode cX9_label 147 = .ok (.iconst 1, 1) := by decide +kernel
theorem dX9_label_148 : decode cX9_label 148 = .ok (.isub, 1) := by decide +kernel
theorem dX9_label_149 : decode cX9_label 149 = .ok (.ireturn, 1) := by decide +kernel
theorem dX9_counted_0 : decode cX9_counted 0 = .ok (.aload_n 0, 1) := by decide +kernel
theorem dX9_counted_1 : decode cX9_counted 1 = .ok (.iconst 0, 1) := by decide +kernel
theorem dX9_counted_2 : decode cX9_counted 2 = .ok (.putfield 95, 3) := by decide +kernel
theorem dX9_counted_5 : decode cX9_counted 5 = .ok (.aload_n 0, 1) := by decide +kernel
theorem dX9_counted_6 : decode cX9_counted 6 = .ok (.iload_n 1, 1) := by decide +kernel
theorem dX9_counted_7 : decode cX9_counted 7 = .ok (.iload_n 2, 1) := by decide +kernel
theorem dX9_counted_8 : decode cX9_counted 8 = .ok (.invokevirtual 269, 3) := by decide +kernel
theorem dX9_counted_11 : decode cX9_counted 11 = .ok (.istore_n 3, 1) := by decide +kernel
theorem dX9_counted_12 : decode cX9_counted 12 = .ok (.iload_n 3, 1) := by decide +kernel
theorem dX9_counted_13 : decode cX9_counted 13 = .ok (.ifCond .ne 5, 3) := by decide +kernel
theorem dX9_counted_16 : decode cX9_counted 16 = .ok (.iconst (-1), 1) := by decide +kernel
theorem dX9_counted_17 : decode cX9_counted 17 = .ok (.ireturn, 1) := by decide +kernel
theorem dX9_counted_18 : decode cX9_counted 18 = .ok (.aload_n 0, 1) := by decide +kernel
theorem dX9_counted_19 : decode cX9_counted 19 = .ok (.iload_n 1, 1) := by decide +kernel
theorem dX9_counted_20 : decode cX9_counted 20 = .ok (.invokevirtual 354, 3) := by decide +kernel
theorem dX9_counted_23 : decode cX9_counted 23 = .ok (.aload_n 0, 1) := by decide +kernel
theorem dX9_counted_24 : decode cX9_counted 24 = .ok (.aload_n 0, 1) := by decide +kernel
theorem dX9_counted_25 : decode cX9_counted 25 = .ok (.aload_n 0, 1) := by decide +kernel
theorem dX9_counted_26 : decode cX9_counted 26 = .ok (.getfield 83, 3) := by decide +kernel
theorem dX9_counted_29 : decode cX9_counted 29 = .ok (.aload_n 0, 1) := by decide +kernel
theorem dX9_counted_30 : decode cX9_counted 30 = .ok (.iload_n 3, 1) := by decide +kernel
theorem dX9_counted_31 : decode cX9_counted 31 = .ok (.invokevirtual 357, 3) := by decide +kernel
theorem dX9_counted_34 : decode cX9_counted 34 = .ok (.iaload, 1) := by decide +kernel
theorem dX9_counted_35 : decode cX9_counted 35 = .ok (.invokevirtual 251, 3) := by decide +kernel
theorem dX9_counted_38 : decode cX9_counted 38 = .ok (.invokevirtual 266, 3) := by decide +kernel
theorem dX9_counted_41 : decode cX9_counted 41 = .ok (.ireturn, 1) := by decide +kernel
theorem dX9_goneOnes_0 : decode cX9_goneOnes 0 = .ok (.iconst 0, 1) := by decide +kernel
theorem dX9_goneOnes_1 : decode cX9_goneOnes 1 = .ok (.istore_n 2, 1) := by decide +kernel
theorem dX9_goneOnes_2 : decode cX9_goneOnes 2 = .ok (.iconst 0, 1) := by decide +kernel
theorem dX9_goneOnes_3 : decode cX9_goneOnes 3 = .ok (.istore_n 3, 1) := by decide +kernel
theorem dX9_goneOnes_4 : decode cX9_goneOnes 4 = .ok (.iload_n 3, 1) := by decide +kernel
theorem dX9_goneOnes_5 : decode cX9_goneOnes 5 = .ok (.aload_n 0, 1) := by decide +kernel
theorem dX9_goneOnes_6 : decode cX9_goneOnes 6 = .ok (.invokevirtual 149, 3) := by decide +kernel
theorem dX9_goneOnes_9 : decode cX9_goneOnes 9 = .ok (.if_icmp .ge 41, 3) := by decide +kernel
theorem dX9_goneOnes_12 : decode cX9_goneOnes 12 = .ok (.aload_n 0, 1) := by decide +kernel
theorem dX9_goneOnes_13 : decode cX9_goneOnes 13 = .ok (.getfield 145, 3) := by decide +kernel
theorem dX9_goneOnes_16 : decode cX9_goneOnes 16 = .ok (.ifCond .eq 34, 3) := by decide +kernel
theorem dX9_goneOnes_19 : decode cX9_goneOnes 19 = .ok (.aload_n 0, 1) := by decide +kernel
theorem dX9_goneOnes_20 : decode cX9_goneOnes 20 = .ok (.iload_n 3, 1) := by decide +kernel
theorem dX9_goneOnes_21 : decode cX9_goneOnes 21 = .ok (.invokevirtual 360, 3) := by decide +kernel
theorem dX9_goneOnes_24 : decode cX9_goneOnes 24 = .ok (.ifCond .eq 20, 3) := by decide +kernel
theorem dX9_goneOnes_27 : decode cX9_goneOnes 27 = .ok (.iload_n 2, 1) := by decide +kernel
theorem dX9_goneOnes_28 : decode cX9_goneOnes 28 = .ok (.iload_n 1, 1) := by decide +kernel
theorem dX9_goneOnes_29 : decode cX9_goneOnes 29 = .ok (.ifCond .eq 12, 3) := by decide +kernel
theorem dX9_goneOnes_32 : decode cX9_goneOnes 32 = .ok (.aload_n 0, 1) := by decide +kernel
theorem dX9_goneOnes_33 : decode cX9_goneOnes 33 = .ok (.getfield 62, 3) := by decide +kernel
theorem dX9_goneOnes_36 : decode cX9_goneOnes 36 = .ok (.iload_n 3, 1) := by decide +kernel
theorem dX9_goneOnes_37 : decode cX9_goneOnes 37 = .ok (.iaload, 1) := by decide +kernel
theorem dX9_goneOnes_38 : decode cX9_goneOnes 38 = .ok (.goto 4, 3) := by decide +kernel
theorem dX9_goneOnes_41 : decode cX9_goneOnes 41 = .ok (.iconst 1, 1) := by decide +kernel
theorem dX9_goneOnes_42 : decode cX9_goneOnes 42 = .ok (.iadd, 1) := by decide +kernel
theorem dX9_goneOnes_43 : decode cX9_goneOnes 43 = .ok (.istore_n 2, 1) := by decide +kernel
theorem dX9_goneOnes_44 : decode cX9_goneOnes 44 = .ok (.iinc 3 1, 3) := by decide +kernel
theorem dX9_goneOnes_47 : decode cX9_goneOnes 47 = .ok (.goto (-43), 3) := by decide +kernel
theorem dX9_goneOnes_50 : decode cX9_goneOnes 50 = .ok (.iload_n 2, 1) := by decide +kernel
theorem dX9_goneOnes_51 : decode cX9_goneOnes 51 = .ok (.ireturn, 1) := by decide +kernel
theorem dX9_asTheyWere_0 : decode cX9_asTheyWere 0 = .ok (.iconst 0, 1) := by decide +kernel
theorem dX9_asTheyWere_1 : decode cX9_asTheyWere 1 = .ok (.istore_n 1, 1) := by decide +kernel
theorem dX9_asTheyWere_2 : decode cX9_asTheyWere 2 = .ok (.aload_n 0, 1) := by decide +kernel
theorem dX9_asTheyWere_3 : decode cX9_asTheyWere 3 = .ok (.getfield 145, 3) := by decide +kernel
theorem dX9_asTheyWere_6 : decode cX9_asTheyWere 6 = .ok (.ifCond .eq 35, 3) := by decide +kernel
theorem dX9_asTheyWere_9 : decode cX9_asTheyWere 9 = .ok (.iload_n 1, 1) := by decide +kernel
theorem dX9_asTheyWere_10 : decode cX9_asTheyWere 10 = .ok (.aload_n 0, 1) := by decide +kernel
theorem dX9_asTheyWere_11 : decode cX9_asTheyWere 11 = .ok (.invokevirtual 119, 3) := by decide +kernel
theorem dX9_asTheyWere_14 : decode cX9_asTheyWere 14 = .ok (.if_icmp .ge 27, 3) := by decide +kernel
theorem dX9_asTheyWere_17 : decode cX9_asTheyWere 17 = .ok (.iload_n 1, 1) := by decide +kernel
theorem dX9_asTheyWere_18 : decode cX9_asTheyWere 18 = .ok (.aload_n 0, 1) := by decide +kernel
theorem dX9_asTheyWere_19 : decode cX9_asTheyWere 19 = .ok (.invokevirtual 149, 3) := by decide +kernel
theorem dX9_asTheyWere_22 : decode cX9_asTheyWere 22 = .ok (.if_icmp .ge 19, 3) := by decide +kernel
theorem dX9_asTheyWere_25 : decode cX9_asTheyWere 25 = .ok (.aload_n 0, 1) := by decide +kernel
theorem dX9_asTheyWere_26 : decode cX9_asTheyWere 26 = .ok (.iload_n 1, 1) := by decide +kernel
theorem dX9_asTheyWere_27 : decode cX9_asTheyWere 27 = .ok (.iload_n 1, 1) := by decide +kernel
theorem dX9_asTheyWere_28 : decode cX9_asTheyWere 28 = .ok (.invokevirtual 152, 3) := by decide +kernel
theorem dX9_asTheyWere_31 : decode cX9_asTheyWere 31 = .ok (.ifCond .eq 10, 3) := by decide +kernel
theorem dX9_asTheyWere_34 : decode cX9_asTheyWere 34 = .ok (.iload_n 1, 1) := by decide +kernel
theorem dX9_asTheyWere_35 : decode cX9_asTheyWere 35 = .ok (.iconst 1, 1) := by decide +kernel
theorem dX9_asTheyWere_36 : decode cX9_asTheyWere 36 = .ok (.iadd, 1) := by decide +kernel
theorem dX9_asTheyWere_37 : decode cX9_asTheyWere 37 = .ok (.istore_n 1, 1) := by decide +kernel
theorem dX9_asTheyWere_38 : decode cX9_asTheyWere 38 = .ok (.goto (-36), 3) := by decide +kernel
theorem dX9_asTheyWere_41 : decode cX9_asTheyWere 41 = .ok (.iload_n 1, 1) := by decide +kernel
theorem dX9_asTheyWere_42 : decode cX9_asTheyWere 42 = .ok (.ireturn, 1) := by decide +kernel
theorem dX9_repaired_0 : decode cX9_repaired 0 = .ok (.aload_n 0, 1) := by decide +kernel
theorem dX9_repaired_1 : decode cX9_repaired 1 = .ok (.iconst 0, 1) := by decide +kernel
theorem dX9_repaired_2 : decode cX9_repaired 2 = .ok (.putfield 95, 3) := by decide +kernel
theorem dX9_repaired_5 : decode cX9_repaired 5 = .ok (.iload_n 1, 1) := by decide +kernel
theorem dX9_repaired_6 : decode cX9_repaired 6 = .ok (.ifCond .ne 8, 3) := by decide +kernel
theorem dX9_repaired_9 : decode cX9_repaired 9 = .ok (.aload_n 0, 1) := by decide +kernel
theorem dX9_repaired_10 : decode cX9_repaired 10 = .ok (.invokevirtual 179, 3) := by decide +kernel
theorem dX9_repaired_13 : decode cX9_repaired 13 = .ok (.ireturn, 1) := by decide +kernel
theorem dX9_repaired_14 : decode cX9_repaired 14 = .ok (.iload_n 1, 1) := by decide +kernel
theorem dX9_repaired_15 : decode cX9_repaired 15 = .ok (.iconst 1, 1) := by decide +kernel
theorem dX9_repaired_16 : decode cX9_repaired 16 = .ok (.if_icmp .ne 9, 3) := by decide +kernel
theorem dX9_repaired_19 : decode cX9_repaired 19 = .ok (.aload_n 0, 1) := by decide +kernel
theorem dX9_repaired_20 : decode cX9_repaired 20 = .ok (.iconst 0, 1) := by decide +kernel
theorem dX9_repaired_21 : decode cX9_repaired 21 = .ok (.invokevirtual 363, 3) := by decide +kernel
theorem dX9_repaired_24 : decode cX9_repaired 24 = .ok (.ireturn, 1) := by decide +kernel
theorem dX9_repaired_25 : decode cX9_repaired 25 = .ok (.iload_n 1, 1) := by decide +kernel
theorem dX9_repaired_26 : decode cX9_repaired 26 = .ok (.iconst 3, 1) := by decide +kernel
theorem dX9_repaired_27 : decode cX9_repaired 27 = .ok (.if_icmp .ne 8, 3) := by decide +kernel
theorem dX9_repaired_30 : decode cX9_repaired 30 = .ok (.aload_n 0, 1) := by decide +kernel
theorem dX9_repaired_31 : decode cX9_repaired 31 = .ok (.invokevirtual 367, 3) := by decide +kernel
theorem dX9_repaired_34 : decode cX9_repaired 34 = .ok (.ireturn, 1) := by decide +kernel
theorem dX9_repaired_35 : decode cX9_repaired 35 = .ok (.iload_n 1, 1) := by decide +kernel
theorem dX9_repaired_36 : decode cX9_repaired 36 = .ok (.iconst 2, 1) := by decide +kernel
theorem dX9_repaired_37 : decode cX9_repaired 37 = .ok (.if_icmp .eq 6, 3) := by decide +kernel
theorem dX9_repaired_40 : decode cX9_repaired 40 = .ok (.bipush (-2), 2) := by decide +kernel
theorem dX9_repaired_42 : decode cX9_repaired 42 = .ok (.ireturn, 1) := by decide +kernel
theorem dX9_repaired_43 : decode cX9_repaired 43 = .ok (.iconst 0, 1) := by decide +kernel
theorem dX9_repaired_44 : decode cX9_repaired 44 = .ok (.istore_n 2, 1) := by decide +kernel
theorem dX9_repaired_45 : decode cX9_repaired 45 = .ok (.iconst 0, 1) := by decide +kernel
theorem dX9_repaired_46 : decode cX9_repaired 46 = .ok (.istore_n 3, 1) := by decide +kernel
theorem dX9_repaired_47 : decode cX9_repaired 47 = .ok (.iload_n 3, 1) := by decide +kernel
theorem dX9_repaired_48 : decode cX9_repaired 48 = .ok (.aload_n 0, 1) := by decide +kernel
theorem dX9_repaired_49 : decode cX9_repaired 49 = .ok (.invokevirtual 119, 3) := by decide +kernel
theorem dX9_repaired_52 : decode cX9_repaired 52 = .ok (.if_icmp .ge 26, 3) := by decide +kernel
theorem dX9_repaired_55 : decode cX9_repaired 55 = .ok (.aload_n 0, 1) := by decide +kernel
theorem dX9_repaired_56 : decode cX9_repaired 56 = .ok (.iload_n 3, 1) := by decide +kernel
theorem dX9_repaired_57 : decode cX9_repaired 57 = .ok (.invokevirtual 155, 3) := by decide +kernel
theorem dX9_repaired_60 : decode cX9_repaired 60 = .ok (.ifCond .eq 12, 3) := by decide +kernel
theorem dX9_repaired_63 : decode cX9_repaired 63 = .ok (.iload_n 2, 1) := by decide +kernel
theorem dX9_repaired_64 : decode cX9_repaired 64 = .ok (.aload_n 0, 1) := by decide +kernel
theorem dX9_repaired_65 : decode cX9_repaired 65 = .ok (.getfield 29, 3) := by decide +kernel
theorem dX9_repaired_68 : decode cX9_repaired 68 = .ok (.iload_n 3, 1) := by decide +kernel
theorem dX9_repaired_69 : decode cX9_repaired 69 = .ok (.iaload, 1) := by decide +kernel
theorem dX9_repaired_70 : decode cX9_repaired 70 = .ok (.iadd, 1) := by decide +kernel
theorem dX9_repaired_71 : decode cX9_repaired 71 = .ok (.istore_n 2, 1) := by decide +kernel
theorem dX9_repaired_72 : decode cX9_repaired 72 = .ok (.iinc 3 1, 3) := by decide +kernel
theorem dX9_repaired_75 : decode cX9_repaired 75 = .ok (.goto (-28), 3) := by decide +kernel
theorem dX9_repaired_78 : decode cX9_repaired 78 = .ok (.iload_n 2, 1) := by decide +kernel
theorem dX9_repaired_79 : decode cX9_repaired 79 = .ok (.aload_n 0, 1) := by decide +kernel
theorem dX9_repaired_80 : decode cX9_repaired 80 = .ok (.iconst 1, 1) := by decide +kernel
theorem dX9_repaired_81 : decode cX9_repaired 81 = .ok (.invokevirtual 363, 3) := by decide +kernel
theorem dX9_repaired_84 : decode cX9_repaired 84 = .ok (.isub, 1) := by decide +kernel
theorem dX9_repaired_85 : decode cX9_repaired 85 = .ok (.ireturn, 1) := by decide +kernel
theorem dX9_allApart_0 : decode cX9_allApart 0 = .ok (.iconst 0, 1) := by decide +kernel
theorem dX9_allApart_1 : decode cX9_allApart 1 = .ok (.istore_n 1, 1) := by decide +kernel
theorem dX9_allApart_2 : decode cX9_allApart 2 = .ok (.iconst 0, 1) := by decide +kernel
theorem dX9_allApart_3 : decode cX9_allApart 3 = .ok (.istore_n 2, 1) := by decide +kernel
theorem dX9_allApart_4 : decode cX9_allApart 4 = .ok (.iload_n 2, 1) := by decide +kernel
theorem dX9_allApart_5 : decode cX9_allApart 5 = .ok (.aload_n 0, 1) := by decide +kernel
theorem dX9_allApart_6 : decode cX9_allApart 6 = .ok (.invokevirtual 119, 3) := by decide +kernel
theorem dX9_allApart_9 : decode cX9_allApart 9 = .ok (.if_icmp .ge 18, 3) := by decide +kernel
theorem dX9_allApart_12 : decode cX9_allApart 12 = .ok (.iload_n 1, 1) := by decide +kernel
theorem dX9_allApart_13 : decode cX9_allApart 13 = .ok (.aload_n 0, 1) := by decide +kernel
theorem dX9_allApart_14 : decode cX9_allApart 14 = .ok (.getfield 29, 3) := by decide +kernel
theorem dX9_allApart_17 : decode cX9_allApart 17 = .ok (.iload_n 2, 1) := by decide +kernel
theorem dX9_allApart_18 : decode cX9_allApart 18 = .ok (.iaload, 1) := by decide +kernel
theorem dX9_allApart_19 : decode cX9_allApart 19 = .ok (.iadd, 1) := by decide +kernel
theorem dX9_allApart_20 : decode cX9_allApart 20 = .ok (.istore_n 1, 1) := by decide +kernel
theorem dX9_allApart_21 : decode cX9_allApart 21 = .ok (.iinc 2 1, 3) := by decide +kernel
theorem dX9_allApart_24 : decode cX9_allApart 24 = .ok (.goto (-20), 3) := by decide +kernel
theorem dX9_allApart_27 : decode cX9_allApart 27 = .ok (.iload_n 1, 1) := by decide +kernel
theorem dX9_allApart_28 : decode cX9_allApart 28 = .ok (.ireturn, 1) := by decide +kernel
theorem dX9_would_0 : decode cX9_would 0 = .ok (.aload_n 0, 1) := by decide +kernel
theorem dX9_would_1 : decode cX9_would 1 = .ok (.iconst 0, 1) := by decide +kernel
theorem dX9_would_2 : decode cX9_would 2 = .ok (.putfield 95, 3) := by decide +kernel
theorem dX9_would_5 : decode cX9_would 5 = .ok (.aload_n 0, 1) := by decide +kernel
theorem dX9_would_6 : decode cX9_would 6 = .ok (.iload_n 1, 1) := by decide +kernel
theorem dX9_would_7 : decode cX9_would 7 = .ok (.iload_n 2, 1) := by decide +kernel
theorem dX9_would_8 : decode cX9_would 8 = .ok (.invokevirtual 164, 3) := by decide +kernel
theorem dX9_would_11 : decode cX9_would 11 = .ok (.ifCond .eq 14, 3) := by decide +kernel
theorem dX9_would_14 : decode cX9_would 14 = .ok (.aload_n 0, 1) := by decide +kernel
theorem dX9_would_15 : decode cX9_would 15 = .ok (.iload_n 3, 1) := by decide +kernel
theorem dX9_would_16 : decode cX9_would 16 = .ok (.i2l, 1) := by decide +kernel
theorem dX9_would_17 : decode cX9_would 17 = .ok (.lconst 0, 1) := by decide +kernel
theorem dX9_would_18 : decode cX9_would 18 = .ok (.lconst 1, 1) := by decide +kernel
theorem dX9_would_19 : decode cX9_would 19 = .ok (.invokevirtual 101, 3) := by decide +kernel
theorem dX9_would_22 : decode cX9_would 22 = .ok (.ifCond .ne 7, 3) := by decide +kernel
theorem dX9_would_25 : decode cX9_would 25 = .ok (.ldc_w 370, 3) := by decide +kernel
theorem dX9_would_28 : decode cX9_would 28 = .ok (.ireturn, 1) := by decide +kernel
theorem dX9_would_29 : decode cX9_would 29 = .ok (.aload_n 0, 1) := by decide +kernel
theorem dX9_would_30 : decode cX9_would 30 = .ok (.invokevirtual 119, 3) := by decide +kernel
theorem dX9_would_33 : decode cX9_would 33 = .ok (.istore 4, 2) := by decide +kernel
theorem dX9_would_35 : decode cX9_would 35 = .ok (.aload_n 0, 1) := by decide +kernel
theorem dX9_would_36 : decode cX9_would 36 = .ok (.invokevirtual 371, 3) := by decide +kernel
theorem dX9_would_39 : decode cX9_would 39 = .ok (.istore 5, 2) := by decide +kernel
theorem dX9_would_41 : decode cX9_would 41 = .ok (.iconst 0, 1) := by decide +kernel
theorem dX9_would_42 : decode cX9_would 42 = .ok (.istore 6, 2) := by decide +kernel
theorem dX9_would_44 : decode cX9_would 44 = .ok (.iload 6, 2) := by decide +kernel
theorem dX9_would_46 : decode cX9_would 46 = .ok (.iload 4, 2) := by decide +kernel
theorem dX9_would_48 : decode cX9_would 48 = .ok (.if_icmp .ge 45, 3) := by decide +kernel
theorem dX9_would_51 : decode cX9_would 51 = .ok (.aload_n 0, 1) := by decide +kernel
theorem dX9_would_52 : decode cX9_would 52 = .ok (.getfield 86, 3) := by decide +kernel
theorem dX9_would_55 : decode cX9_would 55 = .ok (.iload 6, 2) := by decide +kernel
theorem dX9_would_57 : decode cX9_would 57 = .ok (.aload_n 0, 1) := by decide +kernel
theorem dX9_would_58 : decode cX9_would 58 = .ok (.aload_n 0, 1) := by decide +kernel
theorem dX9_would_59 : decode cX9_would 59 = .ok (.getfield 23, 3) := by decide +kernel
theorem dX9_would_62 : decode cX9_would 62 = .ok (.iload 6, 2) := by decide +kernel
theorem dX9_would_64 : decode cX9_would 64 = .ok (.iaload, 1) := by decide +kernel
theorem dX9_would_65 : decode cX9_would 65 = .ok (.invokevirtual 141, 3) := by decide +kernel
theorem dX9_would_68 : decode cX9_would 68 = .ok (.iastore, 1) := by decide +kernel
theorem dX9_would_69 : decode cX9_would 69 = .ok (.aload_n 0, 1) := by decide +kernel
theorem dX9_would_70 : decode cX9_would 70 = .ok (.getfield 89, 3) := by decide +kernel
theorem dX9_would_73 : decode cX9_would 73 = .ok (.iload 6, 2) := by decide +kernel
theorem dX9_would_75 : decode cX9_would 75 = .ok (.aload_n 0, 1) := by decide +kernel
theorem dX9_would_76 : decode cX9_would 76 = .ok (.aload_n 0, 1) := by decide +kernel
theorem dX9_would_77 : decode cX9_would 77 = .ok (.getfield 26, 3) := by decide +kernel
theorem dX9_would_80 : decode cX9_would 80 = .ok (.iload 6, 2) := by decide +kernel
theorem dX9_would_82 : decode cX9_would 82 = .ok (.iaload, 1) := by decide +kernel
theorem dX9_would_83 : decode cX9_would 83 = .ok (.invokevirtual 141, 3) := by decide +kernel
theorem dX9_would_86 : decode cX9_would 86 = .ok (.iastore, 1) := by decide +kernel
theorem dX9_would_87 : decode cX9_would 87 = .ok (.iinc 6 1, 3) := by decide +kernel
theorem dX9_would_90 : decode cX9_would 90 = .ok (.goto (-46), 3) := by decide +kernel
theorem dX9_would_93 : decode cX9_would 93 = .ok (.aload_n 0, 1) := by decide +kernel
theorem dX9_would_94 : decode cX9_would 94 = .ok (.iload_n 1, 1) := by decide +kernel
theorem dX9_would_95 : decode cX9_would 95 = .ok (.iload_n 2, 1) := by decide +kernel
theorem dX9_would_96 : decode cX9_would 96 = .ok (.iconst 1, 1) := by decide +kernel
theorem dX9_would_97 : decode cX9_would 97 = .ok (.invokevirtual 172, 3) := by decide +kernel
theorem dX9_would_100 : decode cX9_would 100 = .ok (.aload_n 0, 1) := by decide +kernel
theorem dX9_would_101 : decode cX9_would 101 = .ok (.invokevirtual 176, 3) := by decide +kernel
theorem dX9_would_104 : decode cX9_would 104 = .ok (.iconst 0, 1) := by decide +kernel
theorem dX9_would_105 : decode cX9_would 105 = .ok (.istore 6, 2) := by decide +kernel
theorem dX9_would_107 : decode cX9_would 107 = .ok (.iconst 0, 1) := by decide +kernel
theorem dX9_would_108 : decode cX9_would 108 = .ok (.istore 7, 2) := by decide +kernel
theorem dX9_would_110 : decode cX9_would 110 = .ok (.iload 7, 2) := by decide +kernel
theorem dX9_would_112 : decode cX9_would 112 = .ok (.aload_n 0, 1) := by decide +kernel
theorem dX9_would_113 : decode cX9_would 113 = .ok (.invokevirtual 119, 3) := by decide +kernel
theorem dX9_would_116 : decode cX9_would 116 = .ok (.if_icmp .ge 125, 3) := by decide +kernel
theorem dX9_would_119 : decode cX9_would 119 = .ok (.aload_n 0, 1) := by decide +kernel
theorem dX9_would_120 : decode cX9_would 120 = .ok (.aload_n 0, 1) := by decide +kernel
theorem dX9_would_121 : decode cX9_would 121 = .ok (.getfield 23, 3) := by decide +kernel
theorem dX9_would_124 : decode cX9_would 124 = .ok (.iload 7, 2) := by decide +kernel
theorem dX9_would_126 : decode cX9_would 126 = .ok (.iaload, 1) := by decide +kernel
theorem dX9_would_127 : decode cX9_would 127 = .ok (.invokevirtual 141, 3) := by decide +kernel
theorem dX9_would_130 : decode cX9_would 130 = .ok (.istore 8, 2) := by decide +kernel
theorem dX9_would_132 : decode cX9_would 132 = .ok (.aload_n 0, 1) := by decide +kernel
theorem dX9_would_133 : decode cX9_would 133 = .ok (.aload_n 0, 1) := by decide +kernel
theorem dX9_would_134 : decode cX9_would 134 = .ok (.getfield 26, 3) := by decide +kernel
theorem dX9_would_137 : decode cX9_would 137 = .ok (.iload 7, 2) := by decide +kernel
theorem dX9_would_139 : decode cX9_would 139 = .ok (.iaload, 1) := by decide +kernel
theorem dX9_would_140 : decode cX9_would 140 = .ok (.invokevirtual 141, 3) := by decide +kernel
theorem dX9_would_143 : decode cX9_would 143 = .ok (.istore 9, 2) := by decide +kernel
theorem dX9_would_145 : decode cX9_would 145 = .ok (.iconst 0, 1) := by decide +kernel
theorem dX9_would_146 : decode cX9_would 146 = .ok (.istore 10, 2) := by decide +kernel
theorem dX9_would_148 : decode cX9_would 148 = .ok (.iconst 0, 1) := by decide +kernel
theorem dX9_would_149 : decode cX9_would 149 = .ok (.istore 11, 2) := by decide +kernel
theorem dX9_would_151 : decode cX9_would 151 = .ok (.iload 11, 2) := by decide +kernel
theorem dX9_would_153 : decode cX9_would 153 = .ok (.iload 4, 2) := by decide +kernel
theorem dX9_would_155 : decode cX9_would 155 = .ok (.if_icmp .ge 69, 3) := by decide +kernel
theorem dX9_would_158 : decode cX9_would 158 = .ok (.iload 10, 2) := by decide +kernel
theorem dX9_would_160 : decode cX9_would 160 = .ok (.ifCond .ne 51, 3) := by decide +kernel
theorem dX9_would_163 : decode cX9_would 163 = .ok (.iload 8, 2) := by decide +kernel
theorem dX9_would_165 : decode cX9_would 165 = .ok (.aload_n 0, 1) := by decide +kernel
theorem dX9_would_166 : decode cX9_would 166 = .ok (.getfield 86, 3) := by decide +kernel
theorem dX9_would_169 : decode cX9_would 169 = .ok (.iload 11, 2) := by decide +kernel
theorem dX9_would_171 : decode cX9_would 171 = .ok (.iaload, 1) := by decide +kernel
theorem dX9_would_172 : decode cX9_would 172 = .ok (.if_icmp .ne 15, 3) := by decide +kernel
theorem dX9_would_175 : decode cX9_would 175 = .ok (.iload 9, 2) := by decide +kernel
theorem dX9_would_177 : decode cX9_would 177 = .ok (.aload_n 0, 1) := by decide +kernel
theorem dX9_would_178 : decode cX9_would 178 = .ok (.getfield 89, 3) := by decide +kernel
theorem dX9_would_181 : decode cX9_would 181 = .ok (.iload 11, 2) := by decide +kernel
theorem dX9_would_183 : decode cX9_would 183 = .ok (.iaload, 1) := by decide +kernel
theorem dX9_would_184 : decode cX9_would 184 = .ok (.if_icmp .eq 27, 3) := by decide +kernel
theorem dX9_would_187 : decode cX9_would 187 = .ok (.iload 8, 2) := by decide +kernel
theorem dX9_would_189 : decode cX9_would 189 = .ok (.aload_n 0, 1) := by decide +kernel
theorem dX9_would_190 : decode cX9_would 190 = .ok (.getfield 89, 3) := by decide +kernel
theorem dX9_would_193 : decode cX9_would 193 = .ok (.iload 11, 2) := by decide +kernel
theorem dX9_would_195 : decode cX9_would 195 = .ok (.iaload, 1) := by decide +kernel
theorem dX9_would_196 : decode cX9_would 196 = .ok (.if_icmp .ne 19, 3) := by decide +kernel
theorem dX9_would_199 : decode cX9_would 199 = .ok (.iload 9, 2) := by decide +kernel
theorem dX9_would_201 : decode cX9_would 201 = .ok (.aload_n 0, 1) := by decide +kernel
theorem dX9_would_202 : decode cX9_would 202 = .ok (.getfield 86, 3) := by decide +kernel
theorem dX9_would_205 : decode cX9_would 205 = .ok (.iload 11, 2) := by decide +kernel
theorem dX9_would_207 : decode cX9_would 207 = .ok (.iaload, 1) := by decide +kernel
theorem dX9_would_208 : decode cX9_would 208 = .ok (.if_icmp .ne 7, 3) := by decide +kernel
theorem dX9_would_211 : decode cX9_would 211 = .ok (.iconst 1, 1) := by decide +kernel
theorem dX9_would_212 : decode cX9_would 212 = .ok (.goto 4, 3) := by decide +kernel
theorem dX9_would_215 : decode cX9_would 215 = .ok (.iconst 0, 1) := by decide +kernel
theorem dX9_would_216 : decode cX9_would 216 = .ok (.istore 10, 2) := by decide +kernel
theorem dX9_would_218 : decode cX9_would 218 = .ok (.iinc 11 1, 3) := by decide +kernel
theorem dX9_would_221 : decode cX9_would 221 = .ok (.goto (-70), 3) := by decide +kernel
theorem dX9_would_224 : decode cX9_would 224 = .ok (.iload 10, 2) := by decide +kernel
theorem dX9_would_226 : decode cX9_would 226 = .ok (.ifCond .ne 9, 3) := by decide +kernel
theorem dX9_would_229 : decode cX9_would 229 = .ok (.iload 6, 2) := by decide +kernel
theorem dX9_would_231 : decode cX9_would 231 = .ok (.iconst 1, 1) := by decide +kernel
theorem dX9_would_232 : decode cX9_would 232 = .ok (.iadd, 1) := by decide +kernel
theorem dX9_would_233 : decode cX9_would 233 = .ok (.istore 6, 2) := by decide +kernel
theorem dX9_would_235 : decode cX9_would 235 = .ok (.iinc 7 1, 3) := by decide +kernel
theorem dX9_would_238 : decode cX9_would 238 = .ok (.goto (-128), 3) := by decide +kernel
theorem dX9_would_241 : decode cX9_would 241 = .ok (.aload_n 0, 1) := by decide +kernel
theorem dX9_would_242 : decode cX9_would 242 = .ok (.invokevirtual 371, 3) := by decide +kernel
theorem dX9_would_245 : decode cX9_would 245 = .ok (.iload 5, 2) := by decide +kernel
theorem dX9_would_247 : decode cX9_would 247 = .ok (.isub, 1) := by decide +kernel
theorem dX9_would_248 : decode cX9_would 248 = .ok (.istore 7, 2) := by decide +kernel
theorem dX9_would_250 : decode cX9_would 250 = .ok (.aload_n 0, 1) := by decide +kernel
theorem dX9_would_251 : decode cX9_would 251 = .ok (.aload_n 0, 1) := by decide +kernel
theorem dX9_would_252 : decode cX9_would 252 = .ok (.iload_n 1, 1) := by decide +kernel
theorem dX9_would_253 : decode cX9_would 253 = .ok (.iload_n 2, 1) := by decide +kernel
theorem dX9_would_254 : decode cX9_would 254 = .ok (.invokevirtual 161, 3) := by decide +kernel
theorem dX9_would_257 : decode cX9_would 257 = .ok (.invokevirtual 185, 3) := by decide +kernel
theorem dX9_would_260 : decode cX9_would 260 = .ok (.aload_n 0, 1) := by decide +kernel
theorem dX9_would_261 : decode cX9_would 261 = .ok (.invokevirtual 176, 3) := by decide +kernel
theorem dX9_would_264 : decode cX9_would 264 = .ok (.iload_n 3, 1) := by decide +kernel
theorem dX9_would_265 : decode cX9_would 265 = .ok (.ifCond .ne 8, 3) := by decide +kernel
theorem dX9_would_268 : decode cX9_would 268 = .ok (.iload 6, 2) := by decide +kernel
theorem dX9_would_270 : decode cX9_would 270 = .ok (.goto 5, 3) := by decide +kernel
theorem dX9_would_273 : decode cX9_would 273 = .ok (.iload 7, 2) := by decide +kernel
theorem dX9_would_275 : decode cX9_would 275 = .ok (.ireturn, 1) := by decide +kernel
theorem dX9_laysWas_0 : decode cX9_laysWas 0 = .ok (.iconst 0, 1) := by decide +kernel
theorem dX9_laysWas_1 : decode cX9_laysWas 1 = .ok (.istore_n 2, 1) := by decide +kernel
theorem dX9_laysWas_2 : decode cX9_laysWas 2 = .ok (.iload_n 2, 1) := by decide +kernel
theorem dX9_laysWas_3 : decode cX9_laysWas 3 = .ok (.aload_n 0, 1) := by decide +kernel
theorem dX9_laysWas_4 : decode cX9_laysWas 4 = .ok (.getfield 138, 3) := by decide +kernel
theorem dX9_laysWas_7 : decode cX9_laysWas 7 = .ok (.if_icmp .ge 16, 3) := by decide +kernel
theorem dX9_laysWas_10 : decode cX9_laysWas 10 = .ok (.aload_n 0, 1) := by decide +kernel
theorem dX9_laysWas_11 : decode cX9_laysWas 11 = .ok (.getfield 92, 3) := by decide +kernel
theorem dX9_laysWas_14 : decode cX9_laysWas 14 = .ok (.iload_n 2, 1) := by decide +kernel
theorem dX9_laysWas_15 : decode cX9_laysWas 15 = .ok (.iload_n 2, 1) := by decide +kernel
theorem dX9_laysWas_16 : decode cX9_laysWas 16 = .ok (.iastore, 1) := by decide +kernel
theorem dX9_laysWas_17 : decode cX9_laysWas 17 = .ok (.iinc 2 1, 3) := by decide +kernel
theorem dX9_laysWas_20 : decode cX9_laysWas 20 = .ok (.goto (-18), 3) := by decide +kernel
theorem dX9_laysWas_23 : decode cX9_laysWas 23 = .ok (.iconst 0, 1) := by decide +kernel
theorem dX9_laysWas_24 : decode cX9_laysWas 24 = .ok (.istore_n 2, 1) := by decide +kernel
theorem dX9_laysWas_25 : decode cX9_laysWas 25 = .ok (.iload_n 2, 1) := by decide +kernel
theorem dX9_laysWas_26 : decode cX9_laysWas 26 = .ok (.aload_n 0, 1) := by decide +kernel
theorem dX9_laysWas_27 : decode cX9_laysWas 27 = .ok (.invokevirtual 149, 3) := by decide +kernel
theorem dX9_laysWas_30 : decode cX9_laysWas 30 = .ok (.if_icmp .ge 142, 3) := by decide +kernel
theorem dX9_laysWas_33 : decode cX9_laysWas 33 = .ok (.aload_n 0, 1) := by decide +kernel
theorem dX9_laysWas_34 : decode cX9_laysWas 34 = .ok (.getfield 62, 3) := by decide +kernel
theorem dX9_laysWas_37 : decode cX9_laysWas 37 = .ok (.iload_n 2, 1) := by decide +kernel
theorem dX9_laysWas_38 : decode cX9_laysWas 38 = .ok (.iaload, 1) := by decide +kernel
theorem dX9_laysWas_39 : decode cX9_laysWas 39 = .ok (.aload_n 0, 1) := by decide +kernel
theorem dX9_laysWas_40 : decode cX9_laysWas 40 = .ok (.iload_n 1, 1) := by decide +kernel
theorem dX9_laysWas_41 : decode cX9_laysWas 41 = .ok (.invokevirtual 242, 3) := by decide +kernel
theorem dX9_laysWas_44 : decode cX9_laysWas 44 = .ok (.aload_n 0, 1) := by decide +kernel
theorem dX9_laysWas_45 : decode cX9_laysWas 45 = .ok (.iload_n 1, 1) := by decide +kernel
theorem dX9_laysWas_46 : decode cX9_laysWas 46 = .ok (.invokevirtual 242, 3) := by decide +kernel
theorem dX9_laysWas_49 : decode cX9_laysWas 49 = .ok (.imul, 1) := by decide +kernel
theorem dX9_laysWas_50 : decode cX9_laysWas 50 = .ok (.if_icmp .le 6, 3) := by decide +kernel
theorem dX9_laysWas_53 : decode cX9_laysWas 53 = .ok (.goto 113, 3) := by decide +kernel
theorem dX9_laysWas_56 : decode cX9_laysWas 56 = .ok (.iconst (-1), 1) := by decide +kernel
theorem dX9_laysWas_57 : decode cX9_laysWas 57 = .ok (.istore_n 3, 1) := by decide +kernel
theorem dX9_laysWas_58 : decode cX9_laysWas 58 = .ok (.iconst (-1), 1) := by decide +kernel
theorem dX9_laysWas_59 : decode cX9_laysWas 59 = .ok (.istore 4, 2) := by decide +kernel
theorem dX9_laysWas_61 : decode cX9_laysWas 61 = .ok (.iconst 0, 1) := by decide +kernel
theorem dX9_laysWas_62 : decode cX9_laysWas 62 = .ok (.istore 5, 2) := by decide +kernel
theorem dX9_laysWas_64 : decode cX9_laysWas 64 = .ok (.iload 5, 2) := by decide +kernel
theorem dX9_laysWas_66 : decode cX9_laysWas 66 = .ok (.aload_n 0, 1) := by decide +kernel
theorem dX9_laysWas_67 : decode cX9_laysWas 67 = .ok (.getfield 138, 3) := by decide +kernel
theorem dX9_laysWas_70 : decode cX9_laysWas 70 = .ok (.if_icmp .ge 58, 3) := by decide +kernel
theorem dX9_laysWas_73 : decode cX9_laysWas 73 = .ok (.aload_n 0, 1) := by decide +kernel
theorem dX9_laysWas_74 : decode cX9_laysWas 74 = .ok (.getfield 53, 3) := by decide +kernel
theorem dX9_laysWas_77 : decode cX9_laysWas 77 = .ok (.iload 5, 2) := by decide +kernel
theorem dX9_laysWas_79 : decode cX9_laysWas 79 = .ok (.iaload, 1) := by decide +kernel
theorem dX9_laysWas_80 : decode cX9_laysWas 80 = .ok (.aload_n 0, 1) := by decide +kernel
theorem dX9_laysWas_81 : decode cX9_laysWas 81 = .ok (.getfield 56, 3) := by decide +kernel
theorem dX9_laysWas_84 : decode cX9_laysWas 84 = .ok (.iload_n 2, 1) := by decide +kernel
theorem dX9_laysWas_85 : decode cX9_laysWas 85 = .ok (.iaload, 1) := by decide +kernel
theorem dX9_laysWas_86 : decode cX9_laysWas 86 = .ok (.if_icmp .ne 11, 3) := by decide +kernel
theorem dX9_laysWas_89 : decode cX9_laysWas 89 = .ok (.aload_n 0, 1) := by decide +kernel
theorem dX9_laysWas_90 : decode cX9_laysWas 90 = .ok (.getfield 92, 3) := by decide +kernel
theorem dX9_laysWas_93 : decode cX9_laysWas 93 = .ok (.iload 5, 2) := by decide +kernel
theorem dX9_laysWas_95 : decode cX9_laysWas 95 = .ok (.iaload, 1) := by decide +kernel
theorem dX9_laysWas_96 : decode cX9_laysWas 96 = .ok (.istore_n 3, 1) := by decide +kernel
theorem dX9_laysWas_97 : decode cX9_laysWas 97 = .ok (.aload_n 0, 1) := by decide +kernel
theorem dX9_laysWas_98 : decode cX9_laysWas 98 = .ok (.getfield 53, 3) := by decide +kernel
theorem dX9_laysWas_101 : decode cX9_laysWas 101 = .ok (.iload 5, 2) := by decide +kernel
theorem dX9_laysWas_103 : decode cX9_laysWas 103 = .ok (.iaload, 1) := by decide +kernel
theorem dX9_laysWas_104 : decode cX9_laysWas 104 = .ok (.aload_n 0, 1) := by decide +kernel
theorem dX9_laysWas_105 : decode cX9_laysWas 105 = .ok (.getfield 59, 3) := by decide +kernel
theorem dX9_laysWas_108 : decode cX9_laysWas 108 = .ok (.iload_n 2, 1) := by decide +kernel
theorem dX9_laysWas_109 : decode cX9_laysWas 109 = .ok (.iaload, 1) := by decide +kernel
theorem dX9_laysWas_110 : decode cX9_laysWas 110 = .ok (.if_icmp .ne 12, 3) := by decide +kernel
theorem dX9_laysWas_113 : decode cX9_laysWas 113 = .ok (.aload_n 0, 1) := by decide +kernel
theorem dX9_laysWas_114 : decode cX9_laysWas 114 = .ok (.getfield 92, 3) := by decide +kernel
theorem dX9_laysWas_117 : decode cX9_laysWas 117 = .ok (.iload 5, 2) := by decide +kernel
theorem dX9_laysWas_119 : decode cX9_laysWas 119 = .ok (.iaload, 1) := by decide +kernel
theorem dX9_laysWas_120 : decode cX9_laysWas 120 = .ok (.istore 4, 2) := by decide +kernel
theorem dX9_laysWas_122 : decode cX9_laysWas 122 = .ok (.iinc 5 1, 3) := by decide +kernel
theorem dX9_laysWas_125 : decode cX9_laysWas 125 = .ok (.goto (-61), 3) := by decide +kernel
theorem dX9_laysWas_128 : decode cX9_laysWas 128 = .ok (.iconst 0, 1) := by decide +kernel
theorem dX9_laysWas_129 : decode cX9_laysWas 129 = .ok (.istore 5, 2) := by decide +kernel
theorem dX9_laysWas_131 : decode cX9_laysWas 131 = .ok (.iload 5, 2) := by decide +kernel
theorem dX9_laysWas_133 : decode cX9_laysWas 133 = .ok (.aload_n 0, 1) := by decide +kernel
theorem dX9_laysWas_134 : decode cX9_laysWas 134 = .ok (.getfield 138, 3) := by decide +kernel
theorem dX9_laysWas_137 : decode cX9_laysWas 137 = .ok (.if_icmp .ge 29, 3) := by decide +kernel
theorem dX9_laysWas_140 : decode cX9_laysWas 140 = .ok (.aload_n 0, 1) := by decide +kernel
theorem dX9_laysWas_141 : decode cX9_laysWas 141 = .ok (.getfield 92, 3) := by decide +kernel
theorem dX9_laysWas_144 : decode cX9_laysWas 144 = .ok (.iload 5, 2) := by decide +kernel
theorem dX9_laysWas_146 : decode cX9_laysWas 146 = .ok (.iaload, 1) := by decide +kernel
theorem dX9_laysWas_147 : decode cX9_laysWas 147 = .ok (.iload 4, 2) := by decide +kernel
theorem dX9_laysWas_149 : decode cX9_laysWas 149 = .ok (.if_icmp .ne 11, 3) := by decide +kernel
theorem dX9_laysWas_152 : decode cX9_laysWas 152 = .ok (.aload_n 0, 1) := by decide +kernel
theorem dX9_laysWas_153 : decode cX9_laysWas 153 = .ok (.getfield 92, 3) := by decide +kernel
theorem dX9_laysWas_156 : decode cX9_laysWas 156 = .ok (.iload 5, 2) := by decide +kernel
theorem dX9_laysWas_158 : decode cX9_laysWas 158 = .ok (.iload_n 3, 1) := by decide +kernel
theorem dX9_laysWas_159 : decode cX9_laysWas 159 = .ok (.iastore, 1) := by decide +kernel
theorem dX9_laysWas_160 : decode cX9_laysWas 160 = .ok (.iinc 5 1, 3) := by decide +kernel
theorem dX9_laysWas_163 : decode cX9_laysWas 163 = .ok (.goto (-32), 3) := by decide +kernel
theorem dX9_laysWas_166 : decode cX9_laysWas 166 = .ok (.iinc 2 1, 3) := by decide +kernel
theorem dX9_laysWas_169 : decode cX9_laysWas 169 = .ok (.goto (-144), 3) := by decide +kernel
theorem dX9_laysWas_172 : decode cX9_laysWas 172 = .ok (.return_, 1) := by decide +kernel
theorem dX9_nowAt_0 : decode cX9_nowAt 0 = .ok (.aload_n 0, 1) := by decide +kernel
theorem dX9_nowAt_1 : decode cX9_nowAt 1 = .ok (.iload_n 1, 1) := by decide +kernel
theorem dX9_nowAt_2 : decode cX9_nowAt 2 = .ok (.sipush 1024, 3) := by decide +kernel
theorem dX9_nowAt_5 : decode cX9_nowAt 5 = .ok (.irem, 1) := by decide +kernel
theorem dX9_nowAt_6 : decode cX9_nowAt 6 = .ok (.iload_n 1, 1) := by decide +kernel
theorem dX9_nowAt_7 : decode cX9_nowAt 7 = .ok (.sipush 1024, 3) := by decide +kernel
theorem dX9_nowAt_10 : decode cX9_nowAt 10 = .ok (.idiv, 1) := by decide +kernel
theorem dX9_nowAt_11 : decode cX9_nowAt 11 = .ok (.invokevirtual 161, 3) := by decide +kernel
theorem dX9_nowAt_14 : decode cX9_nowAt 14 = .ok (.ireturn, 1) := by decide +kernel
theorem dX9_stirred_0 : decode cX9_stirred 0 = .ok (.aload_n 0, 1) := by decide +kernel
theorem dX9_stirred_1 : decode cX9_stirred 1 = .ok (.iconst 0, 1) := by decide +kernel
theorem dX9_stirred_2 : decode cX9_stirred 2 = .ok (.putfield 95, 3) := by decide +kernel
theorem dX9_stirred_5 : decode cX9_stirred 5 = .ok (.aload_n 0, 1) := by decide +kernel
theorem dX9_stirred_6 : decode cX9_stirred 6 = .ok (.iload_n 1, 1) := by decide +kernel
theorem dX9_stirred_7 : decode cX9_stirred 7 = .ok (.invokevirtual 257, 3) := by decide +kernel
theorem dX9_stirred_10 : decode cX9_stirred 10 = .ok (.ifCond .ne 5, 3) := by decide +kernel
theorem dX9_stirred_13 : decode cX9_stirred 13 = .ok (.iconst (-1), 1) := by decide +kernel
theorem dX9_stirred_14 : decode cX9_stirred 14 = .ok (.ireturn, 1) := by decide +kernel
theorem dX9_stirred_15 : decode cX9_stirred 15 = .ok (.aload_n 0, 1) := by decide +kernel
theorem dX9_stirred_16 : decode cX9_stirred 16 = .ok (.getfield 145, 3) := by decide +kernel
theorem dX9_stirred_19 : decode cX9_stirred 19 = .ok (.ifCond .ne 5, 3) := by decide +kernel
theorem dX9_stirred_22 : decode cX9_stirred 22 = .ok (.iconst 0, 1) := by decide +kernel
theorem dX9_stirred_23 : decode cX9_stirred 23 = .ok (.ireturn, 1) := by decide +kernel
theorem dX9_stirred_24 : decode cX9_stirred 24 = .ok (.aload_n 0, 1) := by decide +kernel
theorem dX9_stirred_25 : decode cX9_stirred 25 = .ok (.iload_n 1, 1) := by decide +kernel
theorem dX9_stirred_26 : decode cX9_stirred 26 = .ok (.invokevirtual 374, 3) := by decide +kernel
theorem dX9_stirred_29 : decode cX9_stirred 29 = .ok (.aload_n 0, 1) := by decide +kernel
theorem dX9_stirred_30 : decode cX9_stirred 30 = .ok (.iload_n 1, 1) := by decide +kernel
theorem dX9_stirred_31 : decode cX9_stirred 31 = .ok (.invokevirtual 260, 3) := by decide +kernel
theorem dX9_stirred_34 : decode cX9_stirred 34 = .ok (.iconst 0, 1) := by decide +kernel
theorem dX9_stirred_35 : decode cX9_stirred 35 = .ok (.istore_n 2, 1) := by decide +kernel
theorem dX9_stirred_36 : decode cX9_stirred 36 = .ok (.iconst 0, 1) := by decide +kernel
theorem dX9_stirred_37 : decode cX9_stirred 37 = .ok (.istore_n 3, 1) := by decide +kernel
theorem dX9_stirred_38 : decode cX9_stirred 38 = .ok (.iload_n 3, 1) := by decide +kernel
theorem dX9_stirred_39 : decode cX9_stirred 39 = .ok (.aload_n 0, 1) := by decide +kernel
theorem dX9_stirred_40 : decode cX9_stirred 40 = .ok (.getfield 138, 3) := by decide +kernel
theorem dX9_stirred_43 : decode cX9_stirred 43 = .ok (.if_icmp .ge 102, 3) := by decide +kernel
theorem dX9_stirred_46 : decode cX9_stirred 46 = .ok (.iconst 0, 1) := by decide +kernel
theorem dX9_stirred_47 : decode cX9_stirred 47 = .ok (.istore 4, 2) := by decide +kernel
theorem dX9_stirred_49 : decode cX9_stirred 49 = .ok (.iload 4, 2) := by decide +kernel
theorem dX9_stirred_51 : decode cX9_stirred 51 = .ok (.iload_n 3, 1) := by decide +kernel
theorem dX9_stirred_52 : decode cX9_stirred 52 = .ok (.if_icmp .ge 87, 3) := by decide +kernel
theorem dX9_stirred_55 : decode cX9_stirred 55 = .ok (.aload_n 0, 1) := by decide +kernel
theorem dX9_stirred_56 : decode cX9_stirred 56 = .ok (.aload_n 0, 1) := by decide +kernel
theorem dX9_stirred_57 : decode cX9_stirred 57 = .ok (.getfield 53, 3) := by decide +kernel
theorem dX9_stirred_60 : decode cX9_stirred 60 = .ok (.iload_n 3, 1) := by decide +kernel
theorem dX9_stirred_61 : decode cX9_stirred 61 = .ok (.iaload, 1) := by decide +kernel
theorem dX9_stirred_62 : decode cX9_stirred 62 = .ok (.invokevirtual 377, 3) := by decide +kernel
theorem dX9_stirred_65 : decode cX9_stirred 65 = .ok (.istore 5, 2) := by decide +kernel
theorem dX9_stirred_67 : decode cX9_stirred 67 = .ok (.aload_n 0, 1) := by decide +kernel
theorem dX9_stirred_68 : decode cX9_stirred 68 = .ok (.aload_n 0, 1) := by decide +kernel
theorem dX9_stirred_69 : decode cX9_stirred 69 = .ok (.getfield 53, 3) := by decide +kernel
theorem dX9_stirred_72 : decode cX9_stirred 72 = .ok (.iload 4, 2) := by decide +kernel
theorem dX9_stirred_74 : decode cX9_stirred 74 = .ok (.iaload, 1) := by decide +kernel
theorem dX9_stirred_75 : decode cX9_stirred 75 = .ok (.invokevirtual 377, 3) := by decide +kernel
theorem dX9_stirred_78 : decode cX9_stirred 78 = .ok (.istore 6, 2) := by decide +kernel
theorem dX9_stirred_80 : decode cX9_stirred 80 = .ok (.iload 5, 2) := by decide +kernel
theorem dX9_stirred_82 : decode cX9_stirred 82 = .ok (.iconst (-1), 1) := by decide +kernel
theorem dX9_stirred_83 : decode cX9_stirred 83 = .ok (.if_icmp .eq 50, 3) := by decide +kernel
theorem dX9_stirred_86 : decode cX9_stirred 86 = .ok (.iload 6, 2) := by decide +kernel
theorem dX9_stirred_88 : decode cX9_stirred 88 = .ok (.iconst (-1), 1) := by decide +kernel
theorem dX9_stirred_89 : decode cX9_stirred 89 = .ok (.if_icmp .eq 44, 3) := by decide +kernel
theorem dX9_stirred_92 : decode cX9_stirred 92 = .ok (.aload_n 0, 1) := by decide +kernel
theorem dX9_stirred_93 : decode cX9_stirred 93 = .ok (.aload_n 0, 1) := by decide +kernel
theorem dX9_stirred_94 : decode cX9_stirred 94 = .ok (.getfield 68, 3) := by decide +kernel
theorem dX9_stirred_97 : decode cX9_stirred 97 = .ok (.iload 5, 2) := by decide +kernel
theorem dX9_stirred_99 : decode cX9_stirred 99 = .ok (.iaload, 1) := by decide +kernel
theorem dX9_stirred_100 : decode cX9_stirred 100 = .ok (.iload 6, 2) := by decide +kernel
theorem dX9_stirred_102 : decode cX9_stirred 102 = .ok (.invokevirtual 123, 3) := by decide +kernel
theorem dX9_stirred_105 : decode cX9_stirred 105 = .ok (.aload_n 0, 1) := by decide +kernel
theorem dX9_stirred_106 : decode cX9_stirred 106 = .ok (.getfield 92, 3) := by decide +kernel
theorem dX9_stirred_109 : decode cX9_stirred 109 = .ok (.iload_n 3, 1) := by decide +kernel
theorem dX9_stirred_110 : decode cX9_stirred 110 = .ok (.iaload, 1) := by decide +kernel
theorem dX9_stirred_111 : decode cX9_stirred 111 = .ok (.aload_n 0, 1) := by decide +kernel
theorem dX9_stirred_112 : decode cX9_stirred 112 = .ok (.getfield 92, 3) := by decide +kernel
theorem dX9_stirred_115 : decode cX9_stirred 115 = .ok (.iload 4, 2) := by decide +kernel
theorem dX9_stirred_117 : decode cX9_stirred 117 = .ok (.iaload, 1) := by decide +kernel
theorem dX9_stirred_118 : decode cX9_stirred 118 = .ok (.if_icmp .ne 7, 3) := by decide +kernel
theorem dX9_stirred_121 : decode cX9_stirred 121 = .ok (.iconst 1, 1) := by decide +kernel
theorem dX9_stirred_122 : decode cX9_stirred 122 = .ok (.goto 4, 3) := by decide +kernel
theorem dX9_stirred_125 : decode cX9_stirred 125 = .ok (.iconst 0, 1) := by decide +kernel
theorem dX9_stirred_126 : decode cX9_stirred 126 = .ok (.if_icmp .eq 7, 3) := by decide +kernel
theorem dX9_stirred_129 : decode cX9_stirred 129 = .ok (.iload_n 2, 1) := by decide +kernel
theorem dX9_stirred_130 : decode cX9_stirred 130 = .ok (.iconst 1, 1) := by decide +kernel
theorem dX9_stirred_131 : decode cX9_stirred 131 = .ok (.iadd, 1) := by decide +kernel
theorem dX9_stirred_132 : decode cX9_stirred 132 = .ok (.istore_n 2, 1) := by decide +kernel
theorem dX9_stirred_133 : decode cX9_stirred 133 = .ok (.iinc 4 1, 3) := by decide +kernel
theorem dX9_stirred_136 : decode cX9_stirred 136 = .ok (.goto (-87), 3) := by decide +kernel
theorem dX9_stirred_139 : decode cX9_stirred 139 = .ok (.iinc 3 1, 3) := by decide +kernel
theorem dX9_stirred_142 : decode cX9_stirred 142 = .ok (.goto (-104), 3) := by decide +kernel
theorem dX9_stirred_145 : decode cX9_stirred 145 = .ok (.iload_n 2, 1) := by decide +kernel
theorem dX9_stirred_146 : decode cX9_stirred 146 = .ok (.ireturn, 1) := by decide +kernel
theorem dX9_rootsOfAll_0 : decode cX9_rootsOfAll 0 = .ok (.iconst 0, 1) := by decide +kernel
theorem dX9_rootsOfAll_1 : decode cX9_rootsOfAll 1 = .ok (.istore_n 1, 1) := by decide +kernel
theorem dX9_rootsOfAll_2 : decode cX9_rootsOfAll 2 = .ok (.iconst 0, 1) := by decide +kernel
theorem dX9_rootsOfAll_3 : decode cX9_rootsOfAll 3 = .ok (.istore_n 2, 1) := by decide +kernel
theorem dX9_rootsOfAll_4 : decode cX9_rootsOfAll 4 = .ok (.iload_n 2, 1) := by decide +kernel
theorem dX9_rootsOfAll_5 : decode cX9_rootsOfAll 5 = .ok (.aload_n 0, 1) := by decide +kernel
theorem dX9_rootsOfAll_6 : decode cX9_rootsOfAll 6 = .ok (.invokevirtual 119, 3) := by decide +kernel
theorem dX9_rootsOfAll_9 : decode cX9_rootsOfAll 9 = .ok (.if_icmp .ge 22, 3) := by decide +kernel
theorem dX9_rootsOfAll_12 : decode cX9_rootsOfAll 12 = .ok (.iload_n 1, 1) := by decide +kernel
theorem dX9_rootsOfAll_13 : decode cX9_rootsOfAll 13 = .ok (.aload_n 0, 1) := by decide +kernel
theorem dX9_rootsOfAll_14 : decode cX9_rootsOfAll 14 = .ok (.aload_n 0, 1) := by decide +kernel
theorem dX9_rootsOfAll_15 : decode cX9_rootsOfAll 15 = .ok (.getfield 29, 3) := by decide +kernel
theorem dX9_rootsOfAll_18 : decode cX9_rootsOfAll 18 = .ok (.iload_n 2, 1) := by decide +kernel
theorem dX9_rootsOfAll_19 : decode cX9_rootsOfAll 19 = .ok (.iaload, 1) := by decide +kernel
theorem dX9_rootsOfAll_20 : decode cX9_rootsOfAll 20 = .ok (.invokevirtual 218, 3) := by decide +kernel
theorem dX9_rootsOfAll_23 : decode cX9_rootsOfAll 23 = .ok (.iadd, 1) := by decide +kernel
theorem dX9_rootsOfAll_24 : decode cX9_rootsOfAll 24 = .ok (.istore_n 1, 1) := by decide +kernel
theorem dX9_rootsOfAll_25 : decode cX9_rootsOfAll 25 = .ok (.iinc 2 1, 3) := by decide +kernel
theorem dX9_rootsOfAll_28 : decode cX9_rootsOfAll 28 = .ok (.goto (-24), 3) := by decide +kernel
theorem dX9_rootsOfAll_31 : decode cX9_rootsOfAll 31 = .ok (.iload_n 1, 1) := by decide +kernel
theorem dX9_rootsOfAll_32 : decode cX9_rootsOfAll 32 = .ok (.ireturn, 1) := by decide +kernel
theorem dX9_mostLinks_0 : decode cX9_mostLinks 0 = .ok (.iconst 0, 1) := by decide +kernel
theorem dX9_mostLinks_1 : decode cX9_mostLinks 1 = .ok (.istore_n 1, 1) := by decide +kernel
theorem dX9_mostLinks_2 : decode cX9_mostLinks 2 = .ok (.iconst 0, 1) := by decide +kernel
theorem dX9_mostLinks_3 : decode cX9_mostLinks 3 = .ok (.istore_n 2, 1) := by decide +kernel
theorem dX9_mostLinks_4 : decode cX9_mostLinks 4 = .ok (.iload_n 2, 1) := by decide +kernel
theorem dX9_mostLinks_5 : decode cX9_mostLinks 5 = .ok (.aload_n 0, 1) := by decide +kernel
theorem dX9_mostLinks_6 : decode cX9_mostLinks 6 = .ok (.getfield 98, 3) := by decide +kernel
theorem dX9_mostLinks_9 : decode cX9_mostLinks 9 = .ok (.if_icmp .ge 19, 3) := by decide +kernel
theorem dX9_mostLinks_12 : decode cX9_mostLinks 12 = .ok (.iload_n 1, 1) := by decide +kernel
theorem dX9_mostLinks_13 : decode cX9_mostLinks 13 = .ok (.aload_n 0, 1) := by decide +kernel
theorem dX9_mostLinks_14 : decode cX9_mostLinks 14 = .ok (.iload_n 2, 1) := by decide +kernel
theorem dX9_mostLinks_15 : decode cX9_mostLinks 15 = .ok (.invokevirtual 201, 3) := by decide +kernel
theorem dX9_mostLinks_18 : decode cX9_mostLinks 18 = .ok (.invokestatic 116, 3) := by decide +kernel
theorem dX9_mostLinks_21 : decode cX9_mostLinks 21 = .ok (.istore_n 1, 1) := by decide +kernel
theorem dX9_mostLinks_22 : decode cX9_mostLinks 22 = .ok (.iinc 2 1, 3) := by decide +kernel
theorem dX9_mostLinks_25 : decode cX9_mostLinks 25 = .ok (.goto (-21), 3) := by decide +kernel
theorem dX9_mostLinks_28 : decode cX9_mostLinks 28 = .ok (.iload_n 1, 1) := by decide +kernel
theorem dX9_mostLinks_29 : decode cX9_mostLinks 29 = .ok (.ireturn, 1) := by decide +kernel
theorem dX9_groupsOfAll_0 : decode cX9_groupsOfAll 0 = .ok (.iconst 0, 1) := by decide +kernel
theorem dX9_groupsOfAll_1 : decode cX9_groupsOfAll 1 = .ok (.istore_n 1, 1) := by decide +kernel
theorem dX9_groupsOfAll_2 : decode cX9_groupsOfAll 2 = .ok (.iconst 0, 1) := by decide +kernel
theorem dX9_groupsOfAll_3 : decode cX9_groupsOfAll 3 = .ok (.istore_n 2, 1) := by decide +kernel
theorem dX9_groupsOfAll_4 : decode cX9_groupsOfAll 4 = .ok (.iload_n 2, 1) := by decide +kernel
theorem dX9_groupsOfAll_5 : decode cX9_groupsOfAll 5 = .ok (.bipush 10, 2) := by decide +kernel
theorem dX9_groupsOfAll_7 : decode cX9_groupsOfAll 7 = .ok (.if_icmp .gt 21, 3) := by decide +kernel
theorem dX9_groupsOfAll_10 : decode cX9_groupsOfAll 10 = .ok (.aload_n 0, 1) := by decide +kernel
theorem dX9_groupsOfAll_11 : decode cX9_groupsOfAll 11 = .ok (.iload_n 2, 1) := by decide +kernel
theorem dX9_groupsOfAll_12 : decode cX9_groupsOfAll 12 = .ok (.invokevirtual 260, 3) := by decide +kernel
theorem dX9_groupsOfAll_15 : decode cX9_groupsOfAll 15 = .ok (.iload_n 1, 1) := by decide +kernel
theorem dX9_groupsOfAll_16 : decode cX9_groupsOfAll 16 = .ok (.aload_n 0, 1) := by decide +kernel
theorem dX9_groupsOfAll_17 : decode cX9_groupsOfAll 17 = .ok (.invokevirtual 263, 3) := by decide +kernel
theorem dX9_groupsOfAll_20 : decode cX9_groupsOfAll 20 = .ok (.iadd, 1) := by decide +kernel
theorem dX9_groupsOfAll_21 : decode cX9_groupsOfAll 21 = .ok (.istore_n 1, 1) := by decide +kernel
theorem dX9_groupsOfAll_22 : decode cX9_groupsOfAll 22 = .ok (.iinc 2 1, 3) := by decide +kernel
theorem dX9_groupsOfAll_25 : decode cX9_groupsOfAll 25 = .ok (.goto (-21), 3) := by decide +kernel
theorem dX9_groupsOfAll_28 : decode cX9_groupsOfAll 28 = .ok (.iload_n 1, 1) := by decide +kernel
theorem dX9_groupsOfAll_29 : decode cX9_groupsOfAll 29 = .ok (.ireturn, 1) := by decide +kernel
theorem dX9_look_0 : decode cX9_look 0 = .ok (.aload_n 0, 1) := by decide +kernel
theorem dX9_look_1 : decode cX9_look 1 = .ok (.iconst 0, 1) := by decide +kernel
theorem dX9_look_2 : decode cX9_look 2 = .ok (.putfield 95, 3) := by decide +kernel
theorem dX9_look_5 : decode cX9_look 5 = .ok (.iload_n 1, 1) := by decide +kernel
theorem dX9_look_6 : decode cX9_look 6 = .ok (.tableswitch 102 0 7 #[46, 51, 64, 69, 74, 79, 84, 97], 46) := by decide +kernel
theorem dX9_look_52 : decode cX9_look 52 = .ok (.aload_n 0, 1) := by decide +kernel
theorem dX9_look_53 : decode cX9_look 53 = .ok (.getfield 98, 3) := by decide +kernel
theorem dX9_look_56 : decode cX9_look 56 = .ok (.ireturn, 1) := by decide +kernel
theorem dX9_look_57 : decode cX9_look 57 = .ok (.aload_n 0, 1) := by decide +kernel
theorem dX9_look_58 : decode cX9_look 58 = .ok (.iconst 1, 1) := by decide +kernel
theorem dX9_look_59 : decode cX9_look 59 = .ok (.aload_n 0, 1) := by decide +kernel
theorem dX9_look_60 : decode cX9_look 60 = .ok (.getfield 98, 3) := by decide +kernel
theorem dX9_look_63 : decode cX9_look 63 = .ok (.ishl, 1) := by decide +kernel
theorem dX9_look_64 : decode cX9_look 64 = .ok (.iconst 1, 1) := by decide +kernel
theorem dX9_look_65 : decode cX9_look 65 = .ok (.isub, 1) := by decide +kernel
theorem dX9_look_66 : decode cX9_look 66 = .ok (.invokevirtual 215, 3) := by decide +kernel
theorem dX9_look_69 : decode cX9_look 69 = .ok (.ireturn, 1) := by decide +kernel
theorem dX9_look_70 : decode cX9_look 70 = .ok (.aload_n 0, 1) := by decide +kernel
theorem dX9_look_71 : decode cX9_look 71 = .ok (.getfield 19, 3) := by decide +kernel
theorem dX9_look_74 : decode cX9_look 74 = .ok (.ireturn, 1) := by decide +kernel
theorem dX9_look_75 : decode cX9_look 75 = .ok (.aload_n 0, 1) := by decide +kernel
theorem dX9_look_76 : decode cX9_look 76 = .ok (.getfield 190, 3) := by decide +kernel
theorem dX9_look_79 : decode cX9_look 79 = .ok (.ireturn, 1) := by decide +kernel
theorem dX9_look_80 : decode cX9_look 80 = .ok (.aload_n 0, 1) := by decide +kernel
theorem dX9_look_81 : decode cX9_look 81 = .ok (.invokevirtual 371, 3) := by decide +kernel
theorem dX9_look_84 : decode cX9_look 84 = .ok (.ireturn, 1) := by decide +kernel
theorem dX9_look_85 : decode cX9_look 85 = .ok (.aload_n 0, 1) := by decide +kernel
theorem dX9_look_86 : decode cX9_look 86 = .ok (.invokevirtual 380, 3) := by decide +kernel
theorem dX9_look_89 : decode cX9_look 89 = .ok (.ireturn, 1) := by decide +kernel
theorem dX9_look_90 : decode cX9_look 90 = .ok (.aload_n 0, 1) := by decide +kernel
theorem dX9_look_91 : decode cX9_look 91 = .ok (.iconst 1, 1) := by decide +kernel
theorem dX9_look_92 : decode cX9_look 92 = .ok (.aload_n 0, 1) := by decide +kernel
theorem dX9_look_93 : decode cX9_look 93 = .ok (.getfield 98, 3) := by decide +kernel
theorem dX9_look_96 : decode cX9_look 96 = .ok (.ishl, 1) := by decide +kernel
theorem dX9_look_97 : decode cX9_look 97 = .ok (.iconst 1, 1) := by decide +kernel
theorem dX9_look_98 : decode cX9_look 98 = .ok (.isub, 1) := by decide +kernel
theorem dX9_look_99 : decode cX9_look 99 = .ok (.invokevirtual 289, 3) := by decide +kernel
theorem dX9_look_102 : decode cX9_look 102 = .ok (.ireturn, 1) := by decide +kernel
theorem dX9_look_103 : decode cX9_look 103 = .ok (.aload_n 0, 1) := by decide +kernel
theorem dX9_look_104 : decode cX9_look 104 = .ok (.invokevirtual 383, 3) := by decide +kernel
theorem dX9_look_107 : decode cX9_look 107 = .ok (.ireturn, 1) := by decide +kernel
theorem dX9_look_108 : decode cX9_look 108 = .ok (.iload_n 1, 1) := by decide +kernel
theorem dX9_look_109 : decode cX9_look 109 = .ok (.bipush 8, 2) := by decide +kernel
theorem dX9_look_111 : decode cX9_look 111 = .ok (.if_icmp .ne 10, 3) := by decide +kernel
theorem dX9_look_114 : decode cX9_look 114 = .ok (.aload_n 0, 1) := by decide +kernel
theorem dX9_look_115 : decode cX9_look 115 = .ok (.invokevirtual 386, 3) := by decide +kernel
theorem dX9_look_118 : decode cX9_look 118 = .ok (.goto 5, 3) := by decide +kernel
theorem dX9_look_121 : decode cX9_look 121 = .ok (.bipush (-10), 2) := by decide +kernel
theorem dX9_look_123 : decode cX9_look 123 = .ok (.ireturn, 1) := by decide +kernel
theorem dJ6_bitCount_0f7a4_0 : decode cJ6_bitCount_0f7a4 0 = .ok (.iload_n 0, 1) := by decide +kernel
theorem dJ6_bitCount_0f7a4_1 : decode cJ6_bitCount_0f7a4 1 = .ok (.iload_n 0, 1) := by decide +kernel
theorem dJ6_bitCount_0f7a4_2 : decode cJ6_bitCount_0f7a4 2 = .ok (.iconst 1, 1) := by decide +kernel
theorem dJ6_bitCount_0f7a4_3 : decode cJ6_bitCount_0f7a4 3 = .ok (.iushr, 1) := by decide +kernel
theorem dJ6_bitCount_0f7a4_4 : decode cJ6_bitCount_0f7a4 4 = .ok (.ldc_w 265, 3) := by decide +kernel
theorem dJ6_bitCount_0f7a4_7 : decode cJ6_bitCount_0f7a4 7 = .ok (.iand, 1) := by decide +kernel
theorem dJ6_bitCount_0f7a4_8 : decode cJ6_bitCount_0f7a4 8 = .ok (.isub, 1) := by decide +kernel
theorem dJ6_bitCount_0f7a4_9 : decode cJ6_bitCount_0f7a4 9 = .ok (.istore_n 0, 1) := by decide +kernel
theorem dJ6_bitCount_0f7a4_10 : decode cJ6_bitCount_0f7a4 10 = .ok (.iload_n 0, 1) := by decide +kernel
theorem dJ6_bitCount_0f7a4_11 : decode cJ6_bitCount_0f7a4 11 = .ok (.ldc_w 266, 3) := by decide +kernel
theorem dJ6_bitCount_0f7a4_14 : decode cJ6_bitCount_0f7a4 14 = .ok (.iand, 1) := by decide +kernel
theorem dJ6_bitCount_0f7a4_15 : decode cJ6_bitCount_0f7a4 15 = .ok (.iload_n 0, 1) := by decide +kernel
theorem dJ6_bitCount_0f7a4_16 : decode cJ6_bitCount_0f7a4 16 = .ok (.iconst 2, 1) := by decide +kernel
theorem dJ6_bitCount_0f7a4_17 : decode cJ6_bitCount_0f7a4 17 = .ok (.iushr, 1) := by decide +kernel
theorem dJ6_bitCount_0f7a4_18 : decode cJ6_bitCount_0f7a4 18 = .ok (.ldc_w 266, 3) := by decide +kernel
theorem dJ6_bitCount_0f7a4_21 : decode cJ6_bitCount_0f7a4 21 = .ok (.iand, 1) := by decide +kernel
theorem dJ6_bitCount_0f7a4_22 : decode cJ6_bitCount_0f7a4 22 = .ok (.iadd, 1) := by decide +kernel
theorem dJ6_bitCount_0f7a4_23 : decode cJ6_bitCount_0f7a4 23 = .ok (.istore_n 0, 1) := by decide +kernel
theorem dJ6_bitCount_0f7a4_24 : decode cJ6_bitCount_0f7a4 24 = .ok (.iload_n 0, 1) := by decide +kernel
theorem dJ6_bitCount_0f7a4_25 : decode cJ6_bitCount_0f7a4 25 = .ok (.iload_n 0, 1) := by decide +kernel
theorem dJ6_bitCount_0f7a4_26 : decode cJ6_bitCount_0f7a4 26 = .ok (.iconst 4, 1) := by decide +kernel
theorem dJ6_bitCount_0f7a4_27 : decode cJ6_bitCount_0f7a4 27 = .ok (.iushr, 1) := by decide +kernel
theorem dJ6_bitCount_0f7a4_28 : decode cJ6_bitCount_0f7a4 28 = .ok (.iadd, 1) := by decide +kernel
theorem dJ6_bitCount_0f7a4_29 : decode cJ6_bitCount_0f7a4 29 = .ok (.ldc_w 267, 3) := by decide +kernel
theorem dJ6_bitCount_0f7a4_32 : decode cJ6_bitCount_0f7a4 32 = .ok (.iand, 1) := by decide +kernel
theorem dJ6_bitCount_0f7a4_33 : decode cJ6_bitCount_0f7a4 33 = .ok (.istore_n 0, 1) := by decide +kernel
theorem dJ6_bitCount_0f7a4_34 : decode cJ6_bitCount_0f7a4 34 = .ok (.iload_n 0, 1) := by decide +kernel
theorem dJ6_bitCount_0f7a4_35 : decode cJ6_bitCount_0f7a4 35 = .ok (.iload_n 0, 1) := by decide +kernel
theorem dJ6_bitCount_0f7a4_36 : decode cJ6_bitCount_0f7a4 36 = .ok (.bipush 8, 2) := by decide +kernel
theorem dJ6_bitCount_0f7a4_38 : decode cJ6_bitCount_0f7a4 38 = .ok (.iushr, 1) := by decide +kernel
theorem dJ6_bitCount_0f7a4_39 : decode cJ6_bitCount_0f7a4 39 = .ok (.iadd, 1) := by decide +kernel
theorem dJ6_bitCount_0f7a4_40 : decode cJ6_bitCount_0f7a4 40 = .ok (.istore_n 0, 1) := by decide +kernel
theorem dJ6_bitCount_0f7a4_41 : decode cJ6_bitCount_0f7a4 41 = .ok (.iload_n 0, 1) := by decide +kernel
theorem dJ6_bitCount_0f7a4_42 : decode cJ6_bitCount_0f7a4 42 = .ok (.iload_n 0, 1) := by decide +kernel
theorem dJ6_bitCount_0f7a4_43 : decode cJ6_bitCount_0f7a4 43 = .ok (.bipush 16, 2) := by decide +kernel
theorem dJ6_bitCount_0f7a4_45 : decode cJ6_bitCount_0f7a4 45 = .ok (.iushr, 1) := by decide +kernel
theorem dJ6_bitCount_0f7a4_46 : decode cJ6_bitCount_0f7a4 46 = .ok (.iadd, 1) := by decide +kernel
theorem dJ6_bitCount_0f7a4_47 : decode cJ6_bitCount_0f7a4 47 = .ok (.istore_n 0, 1) := by decide +kernel
theorem dJ6_bitCount_0f7a4_48 : decode cJ6_bitCount_0f7a4 48 = .ok (.iload_n 0, 1) := by decide +kernel
theorem dJ6_bitCount_0f7a4_49 : decode cJ6_bitCount_0f7a4 49 = .ok (.bipush 63, 2) := by decide +kernel
theorem dJ6_bitCount_0f7a4_51 : decode cJ6_bitCount_0f7a4 51 = .ok (.iand, 1) := by decide +kernel
theorem dJ6_bitCount_0f7a4_52 : decode cJ6_bitCount_0f7a4 52 = .ok (.ireturn, 1) := by decide +kernel
theorem dJ9_abs_0f7a4_0 : decode cJ9_abs_0f7a4 0 = .ok (.iload_n 0, 1) := by decide +kernel
theorem dJ9_abs_0f7a4_1 : decode cJ9_abs_0f7a4 1 = .ok (.ifCond .ge 8, 3) := by decide +kernel
theorem dJ9_abs_0f7a4_4 : decode cJ9_abs_0f7a4 4 = .ok (.iload_n 0, 1) := by decide +kernel
theorem dJ9_abs_0f7a4_5 : decode cJ9_abs_0f7a4 5 = .ok (.ineg, 1) := by decide +kernel
theorem dJ9_abs_0f7a4_6 : decode cJ9_abs_0f7a4 6 = .ok (.goto 4, 3) := by decide +kernel
theorem dJ9_abs_0f7a4_9 : decode cJ9_abs_0f7a4 9 = .ok (.iload_n 0, 1) := by decide +kernel
theorem dJ9_abs_0f7a4_10 : decode cJ9_abs_0f7a4 10 = .ok (.ireturn, 1) := by decide +kernel
theorem dJ9_max_7cf53_0 : decode cJ9_max_7cf53 0 = .ok (.iload_n 0, 1) := by decide +kernel
theorem dJ9_max_7cf53_1 : decode cJ9_max_7cf53 1 = .ok (.iload_n 1, 1) := by decide +kernel
theorem dJ9_max_7cf53_2 : decode cJ9_max_7cf53 2 = .ok (.if_icmp .lt 7, 3) := by decide +kernel
theorem dJ9_max_7cf53_5 : decode cJ9_max_7cf53 5 = .ok (.iload_n 0, 1) := by decide +kernel
theorem dJ9_max_7cf53_6 : decode cJ9_max_7cf53 6 = .ok (.goto 4, 3) := by decide +kernel
theorem dJ9_max_7cf53_9 : decode cJ9_max_7cf53 9 = .ok (.iload_n 1, 1) := by decide +kernel
theorem dJ9_max_7cf53_10 : decode cJ9_max_7cf53 10 = .ok (.ireturn, 1) := by decide +kernel
theorem dJ9_min_7cf53_0 : decode cJ9_min_7cf53 0 = .ok (.iload_n 0, 1) := by decide +kernel
theorem dJ9_min_7cf53_1 : decode cJ9_min_7cf53 1 = .ok (.iload_n 1, 1) := by decide +kernel
theorem dJ9_min_7cf53_2 : decode cJ9_min_7cf53 2 = .ok (.if_icmp .gt 7, 3) := by decide +kernel
theorem dJ9_min_7cf53_5 : decode cJ9_min_7cf53 5 = .ok (.iload_n 0, 1) := by decide +kernel
theorem dJ9_min_7cf53_6 : decode cJ9_min_7cf53 6 = .ok (.goto 4, 3) := by decide +kernel
theorem dJ9_min_7cf53_9 : decode cJ9_min_7cf53 9 = .ok (.iload_n 1, 1) := by decide +kernel
theorem dJ9_min_7cf53_10 : decode cJ9_min_7cf53 10 = .ok (.ireturn, 1) := by decide +kernel
theorem dJ9_min_f86c9_0 : decode cJ9_min_f86c9 0 = .ok (.lload_n 0, 1) := by decide +kernel
theorem dJ9_min_f86c9_1 : decode cJ9_min_f86c9 1 = .ok (.lload_n 2, 1) := by decide +kernel
theorem dJ9_min_f86c9_2 : decode cJ9_min_f86c9 2 = .ok (.lcmp, 1) := by decide +kernel
theorem dJ9_min_f86c9_3 : decode cJ9_min_f86c9 3 = .ok (.ifCond .gt 7, 3) := by decide +kernel
theorem dJ9_min_f86c9_6 : decode cJ9_min_f86c9 6 = .ok (.lload_n 0, 1) := by decide +kernel
theorem dJ9_min_f86c9_7 : decode cJ9_min_f86c9 7 = .ok (.goto 4, 3) := by decide +kernel
theorem dJ9_min_f86c9_10 : decode cJ9_min_f86c9 10 = .ok (.lload_n 2, 1) := by decide +kernel
theorem dJ9_min_f86c9_11 : decode cJ9_min_f86c9 11 = .ok (.lreturn, 1) := by decide +kernel
theorem dL_law_0 : decode cL_law 0 = .ok (.new 7, 3) := by decide +kernel
theorem dL_law_3 : decode cL_law 3 = .ok (.dup, 1) := by decide +kernel
theorem dL_law_4 : decode cL_law 4 = .ok (.invokespecial 9, 3) := by decide +kernel
theorem dL_law_7 : decode cL_law 7 = .ok (.astore_n 1, 1) := by decide +kernel
theorem dL_law_8 : decode cL_law 8 = .ok (.new 10, 3) := by decide +kernel
theorem dL_law_11 : decode cL_law 11 = .ok (.dup, 1) := by decide +kernel
theorem dL_law_12 : decode cL_law 12 = .ok (.invokespecial 12, 3) := by decide +kernel
theorem dL_law_15 : decode cL_law 15 = .ok (.astore_n 2, 1) := by decide +kernel
theorem dL_law_16 : decode cL_law 16 = .ok (.iconst 0, 1) := by decide +kernel
theorem dL_law_17 : decode cL_law 17 = .ok (.istore_n 3, 1) := by decide +kernel
theorem dL_law_18 : decode cL_law 18 = .ok (.iload_n 3, 1) := by decide +kernel
theorem dL_law_19 : decode cL_law 19 = .ok (.aload_n 0, 1) := by decide +kernel
theorem dL_law_20 : decode cL_law 20 = .ok (.arraylength, 1) := by decide +kernel
theorem dL_law_21 : decode cL_law 21 = .ok (.bipush 7, 2) := by decide +kernel
theorem dL_law_23 : decode cL_law 23 = .ok (.isub, 1) := by decide +kernel
theorem dL_law_24 : decode cL_law 24 = .ok (.if_icmp .gt 1507, 3) := by decide +kernel
theorem dL_law_27 : decode cL_law 27 = .ok (.aload_n 0, 1) := by decide +kernel
theorem dL_law_28 : decode cL_law 28 = .ok (.iload_n 3, 1) := by decide +kernel
theorem dL_law_29 : decode cL_law 29 = .ok (.iaload, 1) := by decide +kernel
theorem dL_law_30 : decode cL_law 30 = .ok (.bipush 63, 2) := by decide +kernel
theorem dL_law_32 : decode cL_law 32 = .ok (.iand, 1) := by decide +kernel
theorem dL_law_33 : decode cL_law 33 = .ok (.tableswitch 1492 0 38 #[171, 214, 237, 270, 293, 316, 329, 352, 385, 418, 461, 494, 527, 570, 593, 626, 649, 682, 725, 768, 811, 886, 961, 994, 1027, 1060, 1103, 1136, 1159, 1212, 1245, 1258, 1281, 1304, 1347, 1380, 1403, 1446, 1469], 171) := by decide +kernel
theorem dL_law_204 : decode cL_law 204 = .ok (.aload_n 1, 1) := by decide +kernel
theorem dL_law_205 : decode cL_law 205 = .ok (.aload_n 0, 1) := by decide +kernel
theorem dL_law_206 : decode cL_law 206 = .ok (.iload_n 3, 1) := by decide +kernel
theorem dL_law_207 : decode cL_law 207 = .ok (.iconst 1, 1) := by decide +kernel
theorem dL_law_208 : decode cL_law 208 = .ok (.iadd, 1) := by decide +kernel
theorem dL_law_209 : decode cL_law 209 = .ok (.iaload, 1) := by decide +kernel
theorem dL_law_210 : decode cL_law 210 = .ok (.aload_n 0, 1) := by decide +kernel
theorem dL_law_211 : decode cL_law 211 = .ok (.iload_n 3, 1) := by decide +kernel
theorem dL_law_212 : decode cL_law 212 = .ok (.iconst 2, 1) := by decide +kernel
theorem dL_law_213 : decode cL_law 213 = .ok (.iadd, 1) := by decide +kernel
theorem dL_law_214 : decode cL_law 214 = .ok (.iaload, 1) := by decide +kernel
theorem dL_law_215 : decode cL_law 215 = .ok (.aload_n 0, 1) := by decide +kernel
theorem dL_law_216 : decode cL_law 216 = .ok (.iload_n 3, 1) := by decide +kernel
theorem dL_law_217 : decode cL_law 217 = .ok (.iconst 3, 1) := by decide +kernel
theorem dL_law_218 : decode cL_law 218 = .ok (.iadd, 1) := by decide +kernel
theorem dL_law_219 : decode cL_law 219 = .ok (.iaload, 1) := by decide +kernel
theorem dL_law_220 : decode cL_law 220 = .ok (.invokevirtual 13, 3) := by decide +kernel
theorem dL_law_223 : decode cL_law 223 = .ok (.aload_n 2, 1) := by decide +kernel
theorem dL_law_224 : decode cL_law 224 = .ok (.aload_n 0, 1) := by decide +kernel
theorem dL_law_225 : decode cL_law 225 = .ok (.iload_n 3, 1) := by decide +kernel
theorem dL_law_226 : decode cL_law 226 = .ok (.iconst 1, 1) := by decide +kernel
theorem dL_law_227 : decode cL_law 227 = .ok (.iadd, 1) := by decide +kernel
theorem dL_law_228 : decode cL_law 228 = .ok (.iaload, 1) := by decide +kernel
theorem dL_law_229 : decode cL_law 229 = .ok (.aload_n 0, 1) := by decide +kernel
theorem dL_law_230 : decode cL_law 230 = .ok (.iload_n 3, 1) := by decide +kernel
theorem dL_law_231 : decode cL_law 231 = .ok (.iconst 2, 1) := by decide +kernel
theorem dL_law_232 : decode cL_law 232 = .ok (.iadd, 1) := by decide +kernel
theorem dL_law_233 : decode cL_law 233 = .ok (.iaload, 1) := by decide +kernel
theorem dL_law_234 : decode cL_law 234 = .ok (.aload_n 0, 1) := by decide +kernel
theorem dL_law_235 : decode cL_law 235 = .ok (.iload_n 3, 1) := by decide +kernel
theorem dL_law_236 : decode cL_law 236 = .ok (.iconst 3, 1) := by decide +kernel
theorem dL_law_237 : decode cL_law 237 = .ok (.iadd, 1) := by decide +kernel
theorem dL_law_238 : decode cL_law 238 = .ok (.iaload, 1) := by decide +kernel
theorem dL_law_239 : decode cL_law 239 = .ok (.invokevirtual 17, 3) := by decide +kernel
theorem dL_law_242 : decode cL_law 242 = .ok (.if_icmp .eq 1283, 3) := by decide +kernel
theorem dL_law_245 : decode cL_law 245 = .ok (.iconst 0, 1) := by decide +kernel
theorem dL_law_246 : decode cL_law 246 = .ok (.ireturn, 1) := by decide +kernel
theorem dL_law_247 : decode cL_law 247 = .ok (.aload_n 1, 1) := by decide +kernel
theorem dL_law_248 : decode cL_law 248 = .ok (.aload_n 0, 1) := by decide +kernel
theorem dL_law_249 : decode cL_law 249 = .ok (.iload_n 3, 1) := by decide +kernel
theorem dL_law_250 : decode cL_law 250 = .ok (.iconst 1, 1) := by decide +kernel
theorem dL_law_251 : decode cL_law 251 = .ok (.iadd, 1) := by decide +kernel
theorem dL_law_252 : decode cL_law 252 = .ok (.iaload, 1) := by decide +kernel
theorem dL_law_253 : decode cL_law 253 = .ok (.invokevirtual 18, 3) := by decide +kernel
theorem dL_law_256 : decode cL_law 256 = .ok (.aload_n 2, 1) := by decide +kernel
theorem dL_law_257 : decode cL_law 257 = .ok (.aload_n 0, 1) := by decide +kernel
theorem dL_law_258 : decode cL_law 258 = .ok (.iload_n 3, 1) := by decide +kernel
theorem dL_law_259 : decode cL_law 259 = .ok (.iconst 1, 1) := by decide +kernel
theorem dL_law_260 : decode cL_law 260 = .ok (.iadd, 1) := by decide +kernel
theorem dL_law_261 : decode cL_law 261 = .ok (.iaload, 1) := by decide +kernel
theorem dL_law_262 : decode cL_law 262 = .ok (.invokevirtual 22, 3) := by decide +kernel
theorem dL_law_265 : decode cL_law 265 = .ok (.if_icmp .eq 1260, 3) := by decide +kernel
theorem dL_law_268 : decode cL_law 268 = .ok (.iconst 0, 1) := by decide +kernel
theorem dL_law_269 : decode cL_law 269 = .ok (.ireturn, 1) := by decide +kernel
theorem dL_law_270 : decode cL_law 270 = .ok (.aload_n 1, 1) := by decide +kernel
theorem dL_law_271 : decode cL_law 271 = .ok (.aload_n 0, 1) := by decide +kernel
theorem dL_law_272 : decode cL_law 272 = .ok (.iload_n 3, 1) := by decide +kernel
theorem dL_law_273 : decode cL_law 273 = .ok (.iconst 1, 1) := by decide +kernel
theorem dL_law_274 : decode cL_law 274 = .ok (.iadd, 1) := by decide +kernel
theorem dL_law_275 : decode cL_law 275 = .ok (.iaload, 1) := by decide +kernel
theorem dL_law_276 : decode cL_law 276 = .ok (.aload_n 0, 1) := by decide +kernel
theorem dL_law_277 : decode cL_law 277 = .ok (.iload_n 3, 1) := by decide +kernel
theorem dL_law_278 : decode cL_law 278 = .ok (.iconst 2, 1) := by decide +kernel
theorem dL_law_279 : decode cL_law 279 = .ok (.iadd, 1) := by decide +kernel
theorem dL_law_280 : decode cL_law 280 = .ok (.iaload, 1) := by decide +kernel
theorem dL_law_281 : decode cL_law 281 = .ok (.invokevirtual 23, 3) := by decide +kernel
theorem dL_law_284 : decode cL_law 284 = .ok (.aload_n 2, 1) := by decide +kernel
theorem dL_law_285 : decode cL_law 285 = .ok (.aload_n 0, 1) := by decide +kernel
theorem dL_law_286 : decode cL_law 286 = .ok (.iload_n 3, 1) := by decide +kernel
theorem dL_law_287 : decode cL_law 287 = .ok (.iconst 1, 1) := by decide +kernel
theorem dL_law_288 : decode cL_law 288 = .ok (.iadd, 1) := by decide +kernel
theorem dL_law_289 : decode cL_law 289 = .ok (.iaload, 1) := by decide +kernel
theorem dL_law_290 : decode cL_law 290 = .ok (.aload_n 0, 1) := by decide +kernel
theorem dL_law_291 : decode cL_law 291 = .ok (.iload_n 3, 1) := by decide +kernel
theorem dL_law_292 : decode cL_law 292 = .ok (.iconst 2, 1) := by decide +kernel
theorem dL_law_293 : decode cL_law 293 = .ok (.iadd, 1) := by decide +kernel
theorem dL_law_294 : decode cL_law 294 = .ok (.iaload, 1) := by decide +kernel
theorem dL_law_295 : decode cL_law 295 = .ok (.invokevirtual 27, 3) := by decide +kernel
theorem dL_law_298 : decode cL_law 298 = .ok (.if_icmp .eq 1227, 3) := by decide +kernel
theorem dL_law_301 : decode cL_law 301 = .ok (.iconst 0, 1) := by decide +kernel
theorem dL_law_302 : decode cL_law 302 = .ok (.ireturn, 1) := by decide +kernel
theorem dL_law_303 : decode cL_law 303 = .ok (.aload_n 1, 1) := by decide +kernel
theorem dL_law_304 : decode cL_law 304 = .ok (.aload_n 0, 1) := by decide +kernel
theorem dL_law_305 : decode cL_law 305 = .ok (.iload_n 3, 1) := by decide +kernel
theorem dL_law_306 : decode cL_law 306 = .ok (.iconst 1, 1) := by decide +kernel
theorem dL_law_307 : decode cL_law 307 = .ok (.iadd, 1) := by decide +kernel
theorem dL_law_308 : decode cL_law 308 = .ok (.iaload, 1) := by decide +kernel
theorem dL_law_309 : decode cL_law 309 = .ok (.invokevirtual 28, 3) := by decide +kernel
theorem dL_law_312 : decode cL_law 312 = .ok (.aload_n 2, 1) := by decide +kernel
theorem dL_law_313 : decode cL_law 313 = .ok (.aload_n 0, 1) := by decide +kernel
theorem dL_law_314 : decode cL_law 314 = .ok (.iload_n 3, 1) := by decide +kernel
theorem dL_law_315 : decode cL_law 315 = .ok (.iconst 1, 1) := by decide +kernel
theorem dL_law_316 : decode cL_law 316 = .ok (.iadd, 1) := by decide +kernel
theorem dL_law_317 : decode cL_law 317 = .ok (.iaload, 1) := by decide +kernel
theorem dL_law_318 : decode cL_law 318 = .ok (.invokevirtual 31, 3) := by decide +kernel
theorem dL_law_321 : decode cL_law 321 = .ok (.if_icmp .eq 1204, 3) := by decide +kernel
theorem dL_law_324 : decode cL_law 324 = .ok (.iconst 0, 1) := by decide +kernel
theorem dL_law_325 : decode cL_law 325 = .ok (.ireturn, 1) := by decide +kernel
theorem dL_law_326 : decode cL_law 326 = .ok (.aload_n 1, 1) := by decide +kernel
theorem dL_law_327 : decode cL_law 327 = .ok (.aload_n 0, 1) := by decide +kernel
theorem dL_law_328 : decode cL_law 328 = .ok (.iload_n 3, 1) := by decide +kernel
theorem dL_law_329 : decode cL_law 329 = .ok (.iconst 1, 1) := by decide +kernel
theorem dL_law_330 : decode cL_law 330 = .ok (.iadd, 1) := by decide +kernel
theorem dL_law_331 : decode cL_law 331 = .ok (.iaload, 1) := by decide +kernel
theorem dL_law_332 : decode cL_law 332 = .ok (.invokevirtual 32, 3) := by decide +kernel
theorem dL_law_335 : decode cL_law 335 = .ok (.aload_n 2, 1) := by decide +kernel
theorem dL_law_336 : decode cL_law 336 = .ok (.aload_n 0, 1) := by decide +kernel
theorem dL_law_337 : decode cL_law 337 = .ok (.iload_n 3, 1) := by decide +kernel
theorem dL_law_338 : decode cL_law 338 = .ok (.iconst 1, 1) := by decide +kernel
theorem dL_law_339 : decode cL_law 339 = .ok (.iadd, 1) := by decide +kernel
theorem dL_law_340 : decode cL_law 340 = .ok (.iaload, 1) := by decide +kernel
theorem dL_law_341 : decode cL_law 341 = .ok (.invokevirtual 35, 3) := by decide +kernel
theorem dL_law_344 : decode cL_law 344 = .ok (.if_icmp .eq 1181, 3) := by decide +kernel
theorem dL_law_347 : decode cL_law 347 = .ok (.iconst 0, 1) := by decide +kernel
theorem dL_law_348 : decode cL_law 348 = .ok (.ireturn, 1) := by decide +kernel
theorem dL_law_349 : decode cL_law 349 = .ok (.aload_n 1, 1) := by decide +kernel
theorem dL_law_350 : decode cL_law 350 = .ok (.invokevirtual 36, 3) := by decide +kernel
theorem dL_law_353 : decode cL_law 353 = .ok (.aload_n 2, 1) := by decide +kernel
theorem dL_law_354 : decode cL_law 354 = .ok (.invokevirtual 40, 3) := by decide +kernel
theorem dL_law_357 : decode cL_law 357 = .ok (.if_icmp .eq 1168, 3) := by decide +kernel
theorem dL_law_360 : decode cL_law 360 = .ok (.iconst 0, 1) := by decide +kernel
theorem dL_law_361 : decode cL_law 361 = .ok (.ireturn, 1) := by decide +kernel
theorem dL_law_362 : decode cL_law 362 = .ok (.aload_n 1, 1) := by decide +kernel
theorem dL_law_363 : decode cL_law 363 = .ok (.aload_n 0, 1) := by decide +kernel
theorem dL_law_364 : decode cL_law 364 = .ok (.iload_n 3, 1) := by decide +kernel
theorem dL_law_365 : decode cL_law 365 = .ok (.iconst 1, 1) := by decide +kernel
theorem dL_law_366 : decode cL_law 366 = .ok (.iadd, 1) := by decide +kernel
theorem dL_law_367 : decode cL_law 367 = .ok (.iaload, 1) := by decide +kernel
theorem dL_law_368 : decode cL_law 368 = .ok (.invokevirtual 41, 3) := by decide +kernel
theorem dL_law_371 : decode cL_law 371 = .ok (.aload_n 2, 1) := by decide +kernel
theorem dL_law_372 : decode cL_law 372 = .ok (.aload_n 0, 1) := by decide +kernel
theorem dL_law_373 : decode cL_law 373 = .ok (.iload_n 3, 1) := by decide +kernel
theorem dL_law_374 : decode cL_law 374 = .ok (.iconst 1, 1) := by decide +kernel
theorem dL_law_375 : decode cL_law 375 = .ok (.iadd, 1) := by decide +kernel
theorem dL_law_376 : decode cL_law 376 = .ok (.iaload, 1) := by decide +kernel
theorem dL_law_377 : decode cL_law 377 = .ok (.invokevirtual 44, 3) := by decide +kernel
theorem dL_law_380 : decode cL_law 380 = .ok (.if_icmp .eq 1145, 3) := by decide +kernel
theorem dL_law_383 : decode cL_law 383 = .ok (.iconst 0, 1) := by decide +kernel
theorem dL_law_384 : decode cL_law 384 = .ok (.ireturn, 1) := by decide +kernel
theorem dL_law_385 : decode cL_law 385 = .ok (.aload_n 1, 1) := by decide +kernel
theorem dL_law_386 : decode cL_law 386 = .ok (.aload_n 0, 1) := by decide +kernel
theorem dL_law_387 : decode cL_law 387 = .ok (.iload_n 3, 1) := by decide +kernel
theorem dL_law_388 : decode cL_law 388 = .ok (.iconst 1, 1) := by decide +kernel
theorem dL_law_389 : decode cL_law 389 = .ok (.iadd, 1) := by decide +kernel
theorem dL_law_390 : decode cL_law 390 = .ok (.iaload, 1) := by decide +kernel
theorem dL_law_391 : decode cL_law 391 = .ok (.aload_n 0, 1) := by decide +kernel
theorem dL_law_392 : decode cL_law 392 = .ok (.iload_n 3, 1) := by decide +kernel
theorem dL_law_393 : decode cL_law 393 = .ok (.iconst 2, 1) := by decide +kernel
theorem dL_law_394 : decode cL_law 394 = .ok (.iadd, 1) := by decide +kernel
theorem dL_law_395 : decode cL_law 395 = .ok (.iaload, 1) := by decide +kernel
theorem dL_law_396 : decode cL_law 396 = .ok (.invokevirtual 45, 3) := by decide +kernel
theorem dL_law_399 : decode cL_law 399 = .ok (.aload_n 2, 1) := by decide +kernel
theorem dL_law_400 : decode cL_law 400 = .ok (.aload_n 0, 1) := by decide +kernel
theorem dL_law_401 : decode cL_law 401 = .ok (.iload_n 3, 1) := by decide +kernel
theorem dL_law_402 : decode cL_law 402 = .ok (.iconst 1, 1) := by decide +kernel
theorem dL_law_403 : decode cL_law 403 = .ok (.iadd, 1) := by decide +kernel
theorem dL_law_404 : decode cL_law 404 = .ok (.iaload, 1) := by decide +kernel
theorem dL_law_405 : decode cL_law 405 = .ok (.aload_n 0, 1) := by decide +kernel
theorem dL_law_406 : decode cL_law 406 = .ok (.iload_n 3, 1) := by decide +kernel
theorem dL_law_407 : decode cL_law 407 = .ok (.iconst 2, 1) := by decide +kernel
theorem dL_law_408 : decode cL_law 408 = .ok (.iadd, 1) := by decide +kernel
theorem dL_law_409 : decode cL_law 409 = .ok (.iaload, 1) := by decide +kernel
theorem dL_law_410 : decode cL_law 410 = .ok (.invokevirtual 48, 3) := by decide +kernel
theorem dL_law_413 : decode cL_law 413 = .ok (.if_icmp .eq 1112, 3) := by decide +kernel
theorem dL_law_416 : decode cL_law 416 = .ok (.iconst 0, 1) := by decide +kernel
theorem dL_law_417 : decode cL_law 417 = .ok (.ireturn, 1) := by decide +kernel
theorem dL_law_418 : decode cL_law 418 = .ok (.aload_n 1, 1) := by decide +kernel
theorem dL_law_419 : decode cL_law 419 = .ok (.aload_n 0, 1) := by decide +kernel
theorem dL_law_420 : decode cL_law 420 = .ok (.iload_n 3, 1) := by decide +kernel
theorem dL_law_421 : decode cL_law 421 = .ok (.iconst 1, 1) := by decide +kernel
theorem dL_law_422 : decode cL_law 422 = .ok (.iadd, 1) := by decide +kernel
theorem dL_law_423 : decode cL_law 423 = .ok (.iaload, 1) := by decide +kernel
theorem dL_law_424 : decode cL_law 424 = .ok (.aload_n 0, 1) := by decide +kernel
theorem dL_law_425 : decode cL_law 425 = .ok (.iload_n 3, 1) := by decide +kernel
theorem dL_law_426 : decode cL_law 426 = .ok (.iconst 2, 1) := by decide +kernel
theorem dL_law_427 : decode cL_law 427 = .ok (.iadd, 1) := by decide +kernel
theorem dL_law_428 : decode cL_law 428 = .ok (.iaload, 1) := by decide +kernel
theorem dL_law_429 : decode cL_law 429 = .ok (.invokevirtual 49, 3) := by decide +kernel
theorem dL_law_432 : decode cL_law 432 = .ok (.aload_n 2, 1) := by decide +kernel
theorem dL_law_433 : decode cL_law 433 = .ok (.aload_n 0, 1) := by decide +kernel
theorem dL_law_434 : decode cL_law 434 = .ok (.iload_n 3, 1) := by decide +kernel
theorem dL_law_435 : decode cL_law 435 = .ok (.iconst 1, 1) := by decide +kernel
theorem dL_law_436 : decode cL_law 436 = .ok (.iadd, 1) := by decide +kernel
theorem dL_law_437 : decode cL_law 437 = .ok (.iaload, 1) := by decide +kernel
theorem dL_law_438 : decode cL_law 438 = .ok (.aload_n 0, 1) := by decide +kernel
theorem dL_law_439 : decode cL_law 439 = .ok (.iload_n 3, 1) := by decide +kernel
theorem dL_law_440 : decode cL_law 440 = .ok (.iconst 2, 1) := by decide +kernel
theorem dL_law_441 : decode cL_law 441 = .ok (.iadd, 1) := by decide +kernel
theorem dL_law_442 : decode cL_law 442 = .ok (.iaload, 1) := by decide +kernel
theorem dL_law_443 : decode cL_law 443 = .ok (.invokevirtual 52, 3) := by decide +kernel
theorem dL_law_446 : decode cL_law 446 = .ok (.if_icmp .eq 1079, 3) := by decide +kernel
theorem dL_law_449 : decode cL_law 449 = .ok (.iconst 0, 1) := by decide +kernel
theorem dL_law_450 : decode cL_law 450 = .ok (.ireturn, 1) := by decide +kernel
theorem dL_law_451 : decode cL_law 451 = .ok (.aload_n 1, 1) := by decide +kernel
theorem dL_law_452 : decode cL_law 452 = .ok (.aload_n 0, 1) := by decide +kernel
theorem dL_law_453 : decode cL_law 453 = .ok (.iload_n 3, 1) := by decide +kernel
theorem dL_law_454 : decode cL_law 454 = .ok (.iconst 1, 1) := by decide +kernel
theorem dL_law_455 : decode cL_law 455 = .ok (.iadd, 1) := by decide +kernel
theorem dL_law_456 : decode cL_law 456 = .ok (.iaload, 1) := by decide +kernel
theorem dL_law_457 : decode cL_law 457 = .ok (.aload_n 0, 1) := by decide +kernel
theorem dL_law_458 : decode cL_law 458 = .ok (.iload_n 3, 1) := by decide +kernel
theorem dL_law_459 : decode cL_law 459 = .ok (.iconst 2, 1) := by decide +kernel
theorem dL_law_460 : decode cL_law 460 = .ok (.iadd, 1) := by decide +kernel
theorem dL_law_461 : decode cL_law 461 = .ok (.iaload, 1) := by decide +kernel
theorem dL_law_462 : decode cL_law 462 = .ok (.aload_n 0, 1) := by decide +kernel
theorem dL_law_463 : decode cL_law 463 = .ok (.iload_n 3, 1) := by decide +kernel
theorem dL_law_464 : decode cL_law 464 = .ok (.iconst 3, 1) := by decide +kernel
theorem dL_law_465 : decode cL_law 465 = .ok (.iadd, 1) := by decide +kernel
theorem dL_law_466 : decode cL_law 466 = .ok (.iaload, 1) := by decide +kernel
theorem dL_law_467 : decode cL_law 467 = .ok (.invokevirtual 53, 3) := by decide +kernel
theorem dL_law_470 : decode cL_law 470 = .ok (.aload_n 2, 1) := by decide +kernel
theorem dL_law_471 : decode cL_law 471 = .ok (.aload_n 0, 1) := by decide +kernel
theorem dL_law_472 : decode cL_law 472 = .ok (.iload_n 3, 1) := by decide +kernel
theorem dL_law_473 : decode cL_law 473 = .ok (.iconst 1, 1) := by decide +kernel
theorem dL_law_474 : decode cL_law 474 = .ok (.iadd, 1) := by decide +kernel
theorem dL_law_475 : decode cL_law 475 = .ok (.iaload, 1) := by decide +kernel
theorem dL_law_476 : decode cL_law 476 = .ok (.aload_n 0, 1) := by decide +kernel
theorem dL_law_477 : decode cL_law 477 = .ok (.iload_n 3, 1) := by decide +kernel
theorem dL_law_478 : decode cL_law 478 = .ok (.iconst 2, 1) := by decide +kernel
theorem dL_law_479 : decode cL_law 479 = .ok (.iadd, 1) := by decide +kernel
theorem dL_law_480 : decode cL_law 480 = .ok (.iaload, 1) := by decide +kernel
theorem dL_law_481 : decode cL_law 481 = .ok (.aload_n 0, 1) := by decide +kernel
theorem dL_law_482 : decode cL_law 482 = .ok (.iload_n 3, 1) := by decide +kernel
theorem dL_law_483 : decode cL_law 483 = .ok (.iconst 3, 1) := by decide +kernel
theorem dL_law_484 : decode cL_law 484 = .ok (.iadd, 1) := by decide +kernel
theorem dL_law_485 : decode cL_law 485 = .ok (.iaload, 1) := by decide +kernel
theorem dL_law_486 : decode cL_law 486 = .ok (.invokevirtual 56, 3) := by decide +kernel
theorem dL_law_489 : decode cL_law 489 = .ok (.if_icmp .eq 1036, 3) := by decide +kernel
theorem dL_law_492 : decode cL_law 492 = .ok (.iconst 0, 1) := by decide +kernel
theorem dL_law_493 : decode cL_law 493 = .ok (.ireturn, 1) := by decide +kernel
theorem dL_law_494 : decode cL_law 494 = .ok (.aload_n 1, 1) := by decide +kernel
theorem dL_law_495 : decode cL_law 495 = .ok (.aload_n 0, 1) := by decide +kernel
theorem dL_law_496 : decode cL_law 496 = .ok (.iload_n 3, 1) := by decide +kernel
theorem dL_law_497 : decode cL_law 497 = .ok (.iconst 1, 1) := by decide +kernel
theorem dL_law_498 : decode cL_law 498 = .ok (.iadd, 1) := by decide +kernel
theorem dL_law_499 : decode cL_law 499 = .ok (.iaload, 1) := by decide +kernel
theorem dL_law_500 : decode cL_law 500 = .ok (.aload_n 0, 1) := by decide +kernel
theorem dL_law_501 : decode cL_law 501 = .ok (.iload_n 3, 1) := by decide +kernel
theorem dL_law_502 : decode cL_law 502 = .ok (.iconst 2, 1) := by decide +kernel
theorem dL_law_503 : decode cL_law 503 = .ok (.iadd, 1) := by decide +kernel
theorem dL_law_504 : decode cL_law 504 = .ok (.iaload, 1) := by decide +kernel
theorem dL_law_505 : decode cL_law 505 = .ok (.invokevirtual 57, 3) := by decide +kernel
theorem dL_law_508 : decode cL_law 508 = .ok (.aload_n 2, 1) := by decide +kernel
theorem dL_law_509 : decode cL_law 509 = .ok (.aload_n 0, 1) := by decide +kernel
theorem dL_law_510 : decode cL_law 510 = .ok (.iload_n 3, 1) := by decide +kernel
theorem dL_law_511 : decode cL_law 511 = .ok (.iconst 1, 1) := by decide +kernel
theorem dL_law_512 : decode cL_law 512 = .ok (.iadd, 1) := by decide +kernel
theorem dL_law_513 : decode cL_law 513 = .ok (.iaload, 1) := by decide +kernel
theorem dL_law_514 : decode cL_law 514 = .ok (.aload_n 0, 1) := by decide +kernel
theorem dL_law_515 : decode cL_law 515 = .ok (.iload_n 3, 1) := by decide +kernel
theorem dL_law_516 : decode cL_law 516 = .ok (.iconst 2, 1) := by decide +kernel
theorem dL_law_517 : decode cL_law 517 = .ok (.iadd, 1) := by decide +kernel
theorem dL_law_518 : decode cL_law 518 = .ok (.iaload, 1) := by decide +kernel
theorem dL_law_519 : decode cL_law 519 = .ok (.invokevirtual 60, 3) := by decide +kernel
theorem dL_law_522 : decode cL_law 522 = .ok (.if_icmp .eq 1003, 3) := by decide +kernel
theorem dL_law_525 : decode cL_law 525 = .ok (.iconst 0, 1) := by decide +kernel
theorem dL_law_526 : decode cL_law 526 = .ok (.ireturn, 1) := by decide +kernel
theorem dL_law_527 : decode cL_law 527 = .ok (.aload_n 1, 1) := by decide +kernel
theorem dL_law_528 : decode cL_law 528 = .ok (.aload_n 0, 1) := by decide +kernel
theorem dL_law_529 : decode cL_law 529 = .ok (.iload_n 3, 1) := by decide +kernel
theorem dL_law_530 : decode cL_law 530 = .ok (.iconst 1, 1) := by decide +kernel
theorem dL_law_531 : decode cL_law 531 = .ok (.iadd, 1) := by decide +kernel
theorem dL_law_532 : decode cL_law 532 = .ok (.iaload, 1) := by decide +kernel
theorem dL_law_533 : decode cL_law 533 = .ok (.aload_n 0, 1) := by decide +kernel
theorem dL_law_534 : decode cL_law 534 = .ok (.iload_n 3, 1) := by decide +kernel
theorem dL_law_535 : decode cL_law 535 = .ok (.iconst 2, 1) := by decide +kernel
theorem dL_law_536 : decode cL_law 536 = .ok (.iadd, 1) := by decide +kernel
theorem dL_law_537 : decode cL_law 537 = .ok (.iaload, 1) := by decide +kernel
theorem dL_law_538 : decode cL_law 538 = .ok (.invokevirtual 61, 3) := by decide +kernel
theorem dL_law_541 : decode cL_law 541 = .ok (.aload_n 2, 1) := by decide +kernel
theorem dL_law_542 : decode cL_law 542 = .ok (.aload_n 0, 1) := by decide +kernel
theorem dL_law_543 : decode cL_law 543 = .ok (.iload_n 3, 1) := by decide +kernel
theorem dL_law_544 : decode cL_law 544 = .ok (.iconst 1, 1) := by decide +kernel
theorem dL_law_545 : decode cL_law 545 = .ok (.iadd, 1) := by decide +kernel
theorem dL_law_546 : decode cL_law 546 = .ok (.iaload, 1) := by decide +kernel
theorem dL_law_547 : decode cL_law 547 = .ok (.aload_n 0, 1) := by decide +kernel
theorem dL_law_548 : decode cL_law 548 = .ok (.iload_n 3, 1) := by decide +kernel
theorem dL_law_549 : decode cL_law 549 = .ok (.iconst 2, 1) := by decide +kernel
theorem dL_law_550 : decode cL_law 550 = .ok (.iadd, 1) := by decide +kernel
theorem dL_law_551 : decode cL_law 551 = .ok (.iaload, 1) := by decide +kernel
theorem dL_law_552 : decode cL_law 552 = .ok (.invokevirtual 64, 3) := by decide +kernel
theorem dL_law_555 : decode cL_law 555 = .ok (.if_icmp .eq 970, 3) := by decide +kernel
theorem dL_law_558 : decode cL_law 558 = .ok (.iconst 0, 1) := by decide +kernel
theorem dL_law_559 : decode cL_law 559 = .ok (.ireturn, 1) := by decide +kernel
theorem dL_law_560 : decode cL_law 560 = .ok (.aload_n 1, 1) := by decide +kernel
theorem dL_law_561 : decode cL_law 561 = .ok (.aload_n 0, 1) := by decide +kernel
theorem dL_law_562 : decode cL_law 562 = .ok (.iload_n 3, 1) := by decide +kernel
theorem dL_law_563 : decode cL_law 563 = .ok (.iconst 1, 1) := by decide +kernel
theorem dL_law_564 : decode cL_law 564 = .ok (.iadd, 1) := by decide +kernel
theorem dL_law_565 : decode cL_law 565 = .ok (.iaload, 1) := by decide +kernel
theorem dL_law_566 : decode cL_law 566 = .ok (.aload_n 0, 1) := by decide +kernel
theorem dL_law_567 : decode cL_law 567 = .ok (.iload_n 3, 1) := by decide +kernel
theorem dL_law_568 : decode cL_law 568 = .ok (.iconst 2, 1) := by decide +kernel
theorem dL_law_569 : decode cL_law 569 = .ok (.iadd, 1) := by decide +kernel
theorem dL_law_570 : decode cL_law 570 = .ok (.iaload, 1) := by decide +kernel
theorem dL_law_571 : decode cL_law 571 = .ok (.aload_n 0, 1) := by decide +kernel
theorem dL_law_572 : decode cL_law 572 = .ok (.iload_n 3, 1) := by decide +kernel
theorem dL_law_573 : decode cL_law 573 = .ok (.iconst 3, 1) := by decide +kernel
theorem dL_law_574 : decode cL_law 574 = .ok (.iadd, 1) := by decide +kernel
theorem dL_law_575 : decode cL_law 575 = .ok (.iaload, 1) := by decide +kernel
theorem dL_law_576 : decode cL_law 576 = .ok (.invokevirtual 65, 3) := by decide +kernel
theorem dL_law_579 : decode cL_law 579 = .ok (.aload_n 2, 1) := by decide +kernel
theorem dL_law_580 : decode cL_law 580 = .ok (.aload_n 0, 1) := by decide +kernel
theorem dL_law_581 : decode cL_law 581 = .ok (.iload_n 3, 1) := by decide +kernel
theorem dL_law_582 : decode cL_law 582 = .ok (.iconst 1, 1) := by decide +kernel
theorem dL_law_583 : decode cL_law 583 = .ok (.iadd, 1) := by decide +kernel
theorem dL_law_584 : decode cL_law 584 = .ok (.iaload, 1) := by decide +kernel
theorem dL_law_585 : decode cL_law 585 = .ok (.aload_n 0, 1) := by decide +kernel
theorem dL_law_586 : decode cL_law 586 = .ok (.iload_n 3, 1) := by decide +kernel
theorem dL_law_587 : decode cL_law 587 = .ok (.iconst 2, 1) := by decide +kernel
theorem dL_law_588 : decode cL_law 588 = .ok (.iadd, 1) := by decide +kernel
theorem dL_law_589 : decode cL_law 589 = .ok (.iaload, 1) := by decide +kernel
theorem dL_law_590 : decode cL_law 590 = .ok (.aload_n 0, 1) := by decide +kernel
theorem dL_law_591 : decode cL_law 591 = .ok (.iload_n 3, 1) := by decide +kernel
theorem dL_law_592 : decode cL_law 592 = .ok (.iconst 3, 1) := by decide +kernel
theorem dL_law_593 : decode cL_law 593 = .ok (.iadd, 1) := by decide +kernel
theorem dL_law_594 : decode cL_law 594 = .ok (.iaload, 1) := by decide +kernel
theorem dL_law_595 : decode cL_law 595 = .ok (.invokevirtual 68, 3) := by decide +kernel
theorem dL_law_598 : decode cL_law 598 = .ok (.if_icmp .eq 927, 3) := by decide +kernel
theorem dL_law_601 : decode cL_law 601 = .ok (.iconst 0, 1) := by decide +kernel
theorem dL_law_602 : decode cL_law 602 = .ok (.ireturn, 1) := by decide +kernel
theorem dL_law_603 : decode cL_law 603 = .ok (.aload_n 1, 1) := by decide +kernel
theorem dL_law_604 : decode cL_law 604 = .ok (.aload_n 0, 1) := by decide +kernel
theorem dL_law_605 : decode cL_law 605 = .ok (.iload_n 3, 1) := by decide +kernel
theorem dL_law_606 : decode cL_law 606 = .ok (.iconst 1, 1) := by decide +kernel
theorem dL_law_607 : decode cL_law 607 = .ok (.iadd, 1) := by decide +kernel
theorem dL_law_608 : decode cL_law 608 = .ok (.iaload, 1) := by decide +kernel
theorem dL_law_609 : decode cL_law 609 = .ok (.invokevirtual 69, 3) := by decide +kernel
theorem dL_law_612 : decode cL_law 612 = .ok (.aload_n 2, 1) := by decide +kernel
theorem dL_law_613 : decode cL_law 613 = .ok (.aload_n 0, 1) := by decide +kernel
theorem dL_law_614 : decode cL_law 614 = .ok (.iload_n 3, 1) := by decide +kernel
theorem dL_law_615 : decode cL_law 615 = .ok (.iconst 1, 1) := by decide +kernel
theorem dL_law_616 : decode cL_law 616 = .ok (.iadd, 1) := by decide +kernel
theorem dL_law_617 : decode cL_law 617 = .ok (.iaload, 1) := by decide +kernel
theorem dL_law_618 : decode cL_law 618 = .ok (.invokevirtual 72, 3) := by decide +kernel
theorem dL_law_621 : decode cL_law 621 = .ok (.if_icmp .eq 904, 3) := by decide +kernel
theorem dL_law_624 : decode cL_law 624 = .ok (.iconst 0, 1) := by decide +kernel
theorem dL_law_625 : decode cL_law 625 = .ok (.ireturn, 1) := by decide +kernel
theorem dL_law_626 : decode cL_law 626 = .ok (.aload_n 1, 1) := by decide +kernel
theorem dL_law_627 : decode cL_law 627 = .ok (.aload_n 0, 1) := by decide +kernel
theorem dL_law_628 : decode cL_law 628 = .ok (.iload_n 3, 1) := by decide +kernel
theorem dL_law_629 : decode cL_law 629 = .ok (.iconst 1, 1) := by decide +kernel
theorem dL_law_630 : decode cL_law 630 = .ok (.iadd, 1) := by decide +kernel
theorem dL_law_631 : decode cL_law 631 = .ok (.iaload, 1) := by decide +kernel
theorem dL_law_632 : decode cL_law 632 = .ok (.aload_n 0, 1) := by decide +kernel
theorem dL_law_633 : decode cL_law 633 = .ok (.iload_n 3, 1) := by decide +kernel
theorem dL_law_634 : decode cL_law 634 = .ok (.iconst 2, 1) := by decide +kernel
theorem dL_law_635 : decode cL_law 635 = .ok (.iadd, 1) := by decide +kernel
theorem dL_law_636 : decode cL_law 636 = .ok (.iaload, 1) := by decide +kernel
theorem dL_law_637 : decode cL_law 637 = .ok (.invokevirtual 73, 3) := by decide +kernel
theorem dL_law_640 : decode cL_law 640 = .ok (.aload_n 2, 1) := by decide +kernel
theorem dL_law_641 : decode cL_law 641 = .ok (.aload_n 0, 1) := by decide +kernel
theorem dL_law_642 : decode cL_law 642 = .ok (.iload_n 3, 1) := by decide +kernel
theorem dL_law_643 : decode cL_law 643 = .ok (.iconst 1, 1) := by decide +kernel
theorem dL_law_644 : decode cL_law 644 = .ok (.iadd, 1) := by decide +kernel
theorem dL_law_645 : decode cL_law 645 = .ok (.iaload, 1) := by decide +kernel
theorem dL_law_646 : decode cL_law 646 = .ok (.aload_n 0, 1) := by decide +kernel
theorem dL_law_647 : decode cL_law 647 = .ok (.iload_n 3, 1) := by decide +kernel
theorem dL_law_648 : decode cL_law 648 = .ok (.iconst 2, 1) := by decide +kernel
theorem dL_law_649 : decode cL_law 649 = .ok (.iadd, 1) := by decide +kernel
theorem dL_law_650 : decode cL_law 650 = .ok (.iaload, 1) := by decide +kernel
theorem dL_law_651 : decode cL_law 651 = .ok (.invokevirtual 76, 3) := by decide +kernel
theorem dL_law_654 : decode cL_law 654 = .ok (.if_icmp .eq 871, 3) := by decide +kernel
theorem dL_law_657 : decode cL_law 657 = .ok (.iconst 0, 1) := by decide +kernel
theorem dL_law_658 : decode cL_law 658 = .ok (.ireturn, 1) := by decide +kernel
theorem dL_law_659 : decode cL_law 659 = .ok (.aload_n 1, 1) := by decide +kernel
theorem dL_law_660 : decode cL_law 660 = .ok (.aload_n 0, 1) := by decide +kernel
theorem dL_law_661 : decode cL_law 661 = .ok (.iload_n 3, 1) := by decide +kernel
theorem dL_law_662 : decode cL_law 662 = .ok (.iconst 1, 1) := by decide +kernel
theorem dL_law_663 : decode cL_law 663 = .ok (.iadd, 1) := by decide +kernel
theorem dL_law_664 : decode cL_law 664 = .ok (.iaload, 1) := by decide +kernel
theorem dL_law_665 : decode cL_law 665 = .ok (.invokevirtual 77, 3) := by decide +kernel
theorem dL_law_668 : decode cL_law 668 = .ok (.aload_n 2, 1) := by decide +kernel
theorem dL_law_669 : decode cL_law 669 = .ok (.aload_n 0, 1) := by decide +kernel
theorem dL_law_670 : decode cL_law 670 = .ok (.iload_n 3, 1) := by decide +kernel
theorem dL_law_671 : decode cL_law 671 = .ok (.iconst 1, 1) := by decide +kernel
theorem dL_law_672 : decode cL_law 672 = .ok (.iadd, 1) := by decide +kernel
theorem dL_law_673 : decode cL_law 673 = .ok (.iaload, 1) := by decide +kernel
theorem dL_law_674 : decode cL_law 674 = .ok (.invokevirtual 80, 3) := by decide +kernel
theorem dL_law_677 : decode cL_law 677 = .ok (.if_icmp .eq 848, 3) := by decide +kernel
theorem dL_law_680 : decode cL_law 680 = .ok (.iconst 0, 1) := by decide +kernel
theorem dL_law_681 : decode cL_law 681 = .ok (.ireturn, 1) := by decide +kernel
theorem dL_law_682 : decode cL_law 682 = .ok (.aload_n 1, 1) := by decide +kernel
theorem dL_law_683 : decode cL_law 683 = .ok (.aload_n 0, 1) := by decide +kernel
theorem dL_law_684 : decode cL_law 684 = .ok (.iload_n 3, 1) := by decide +kernel
theorem dL_law_685 : decode cL_law 685 = .ok (.iconst 1, 1) := by decide +kernel
theorem dL_law_686 : decode cL_law 686 = .ok (.iadd, 1) := by decide +kernel
theorem dL_law_687 : decode cL_law 687 = .ok (.iaload, 1) := by decide +kernel
theorem dL_law_688 : decode cL_law 688 = .ok (.aload_n 0, 1) := by decide +kernel
theorem dL_law_689 : decode cL_law 689 = .ok (.iload_n 3, 1) := by decide +kernel
theorem dL_law_690 : decode cL_law 690 = .ok (.iconst 2, 1) := by decide +kernel
theorem dL_law_691 : decode cL_law 691 = .ok (.iadd, 1) := by decide +kernel
theorem dL_law_692 : decode cL_law 692 = .ok (.iaload, 1) := by decide +kernel
theorem dL_law_693 : decode cL_law 693 = .ok (.invokevirtual 81, 3) := by decide +kernel
theorem dL_law_696 : decode cL_law 696 = .ok (.aload_n 2, 1) := by decide +kernel
theorem dL_law_697 : decode cL_law 697 = .ok (.aload_n 0, 1) := by decide +kernel
theorem dL_law_698 : decode cL_law 698 = .ok (.iload_n 3, 1) := by decide +kernel
theorem dL_law_699 : decode cL_law 699 = .ok (.iconst 1, 1) := by decide +kernel
theorem dL_law_700 : decode cL_law 700 = .ok (.iadd, 1) := by decide +kernel
theorem dL_law_701 : decode cL_law 701 = .ok (.iaload, 1) := by decide +kernel
theorem dL_law_702 : decode cL_law 702 = .ok (.aload_n 0, 1) := by decide +kernel
theorem dL_law_703 : decode cL_law 703 = .ok (.iload_n 3, 1) := by decide +kernel
theorem dL_law_704 : decode cL_law 704 = .ok (.iconst 2, 1) := by decide +kernel
theorem dL_law_705 : decode cL_law 705 = .ok (.iadd, 1) := by decide +kernel
theorem dL_law_706 : decode cL_law 706 = .ok (.iaload, 1) := by decide +kernel
theorem dL_law_707 : decode cL_law 707 = .ok (.invokevirtual 84, 3) := by decide +kernel
theorem dL_law_710 : decode cL_law 710 = .ok (.if_icmp .eq 815, 3) := by decide +kernel
theorem dL_law_713 : decode cL_law 713 = .ok (.iconst 0, 1) := by decide +kernel
theorem dL_law_714 : decode cL_law 714 = .ok (.ireturn, 1) := by decide +kernel
theorem dL_law_715 : decode cL_law 715 = .ok (.aload_n 1, 1) := by decide +kernel
theorem dL_law_716 : decode cL_law 716 = .ok (.aload_n 0, 1) := by decide +kernel
theorem dL_law_717 : decode cL_law 717 = .ok (.iload_n 3, 1) := by decide +kernel
theorem dL_law_718 : decode cL_law 718 = .ok (.iconst 1, 1) := by decide +kernel
theorem dL_law_719 : decode cL_law 719 = .ok (.iadd, 1) := by decide +kernel
theorem dL_law_720 : decode cL_law 720 = .ok (.iaload, 1) := by decide +kernel
theorem dL_law_721 : decode cL_law 721 = .ok (.aload_n 0, 1) := by decide +kernel
theorem dL_law_722 : decode cL_law 722 = .ok (.iload_n 3, 1) := by decide +kernel
theorem dL_law_723 : decode cL_law 723 = .ok (.iconst 2, 1) := by decide +kernel
theorem dL_law_724 : decode cL_law 724 = .ok (.iadd, 1) := by decide +kernel
theorem dL_law_725 : decode cL_law 725 = .ok (.iaload, 1) := by decide +kernel
theorem dL_law_726 : decode cL_law 726 = .ok (.aload_n 0, 1) := by decide +kernel
theorem dL_law_727 : decode cL_law 727 = .ok (.iload_n 3, 1) := by decide +kernel
theorem dL_law_728 : decode cL_law 728 = .ok (.iconst 3, 1) := by decide +kernel
theorem dL_law_729 : decode cL_law 729 = .ok (.iadd, 1) := by decide +kernel
theorem dL_law_730 : decode cL_law 730 = .ok (.iaload, 1) := by decide +kernel
theorem dL_law_731 : decode cL_law 731 = .ok (.invokevirtual 85, 3) := by decide +kernel
theorem dL_law_734 : decode cL_law 734 = .ok (.aload_n 2, 1) := by decide +kernel
theorem dL_law_735 : decode cL_law 735 = .ok (.aload_n 0, 1) := by decide +kernel
theorem dL_law_736 : decode cL_law 736 = .ok (.iload_n 3, 1) := by decide +kernel
theorem dL_law_737 : decode cL_law 737 = .ok (.iconst 1, 1) := by decide +kernel
theorem dL_law_738 : decode cL_law 738 = .ok (.iadd, 1) := by decide +kernel
theorem dL_law_739 : decode cL_law 739 = .ok (.iaload, 1) := by decide +kernel
theorem dL_law_740 : decode cL_law 740 = .ok (.aload_n 0, 1) := by decide +kernel
theorem dL_law_741 : decode cL_law 741 = .ok (.iload_n 3, 1) := by decide +kernel
theorem dL_law_742 : decode cL_law 742 = .ok (.iconst 2, 1) := by decide +kernel
theorem dL_law_743 : decode cL_law 743 = .ok (.iadd, 1) := by decide +kernel
theorem dL_law_744 : decode cL_law 744 = .ok (.iaload, 1) := by decide +kernel
theorem dL_law_745 : decode cL_law 745 = .ok (.aload_n 0, 1) := by decide +kernel
theorem dL_law_746 : decode cL_law 746 = .ok (.iload_n 3, 1) := by decide +kernel
theorem dL_law_747 : decode cL_law 747 = .ok (.iconst 3, 1) := by decide +kernel
theorem dL_law_748 : decode cL_law 748 = .ok (.iadd, 1) := by decide +kernel
theorem dL_law_749 : decode cL_law 749 = .ok (.iaload, 1) := by decide +kernel
theorem dL_law_750 : decode cL_law 750 = .ok (.invokevirtual 88, 3) := by decide +kernel
theorem dL_law_753 : decode cL_law 753 = .ok (.if_icmp .eq 772, 3) := by decide +kernel
theorem dL_law_756 : decode cL_law 756 = .ok (.iconst 0, 1) := by decide +kernel
theorem dL_law_757 : decode cL_law 757 = .ok (.ireturn, 1) := by decide +kernel
theorem dL_law_758 : decode cL_law 758 = .ok (.aload_n 1, 1) := by decide +kernel
theorem dL_law_759 : decode cL_law 759 = .ok (.aload_n 0, 1) := by decide +kernel
theorem dL_law_760 : decode cL_law 760 = .ok (.iload_n 3, 1) := by decide +kernel
theorem dL_law_761 : decode cL_law 761 = .ok (.iconst 1, 1) := by decide +kernel
theorem dL_law_762 : decode cL_law 762 = .ok (.iadd, 1) := by decide +kernel
theorem dL_law_763 : decode cL_law 763 = .ok (.iaload, 1) := by decide +kernel
theorem dL_law_764 : decode cL_law 764 = .ok (.aload_n 0, 1) := by decide +kernel
theorem dL_law_765 : decode cL_law 765 = .ok (.iload_n 3, 1) := by decide +kernel
theorem dL_law_766 : decode cL_law 766 = .ok (.iconst 2, 1) := by decide +kernel
theorem dL_law_767 : decode cL_law 767 = .ok (.iadd, 1) := by decide +kernel
theorem dL_law_768 : decode cL_law 768 = .ok (.iaload, 1) := by decide +kernel
theorem dL_law_769 : decode cL_law 769 = .ok (.aload_n 0, 1) := by decide +kernel
theorem dL_law_770 : decode cL_law 770 = .ok (.iload_n 3, 1) := by decide +kernel
theorem dL_law_771 : decode cL_law 771 = .ok (.iconst 3, 1) := by decide +kernel
theorem dL_law_772 : decode cL_law 772 = .ok (.iadd, 1) := by decide +kernel
theorem dL_law_773 : decode cL_law 773 = .ok (.iaload, 1) := by decide +kernel
theorem dL_law_774 : decode cL_law 774 = .ok (.invokevirtual 89, 3) := by decide +kernel
theorem dL_law_777 : decode cL_law 777 = .ok (.aload_n 2, 1) := by decide +kernel
theorem dL_law_778 : decode cL_law 778 = .ok (.aload_n 0, 1) := by decide +kernel
theorem dL_law_779 : decode cL_law 779 = .ok (.iload_n 3, 1) := by decide +kernel
theorem dL_law_780 : decode cL_law 780 = .ok (.iconst 1, 1) := by decide +kernel
theorem dL_law_781 : decode cL_law 781 = .ok (.iadd, 1) := by decide +kernel
theorem dL_law_782 : decode cL_law 782 = .ok (.iaload, 1) := by decide +kernel
theorem dL_law_783 : decode cL_law 783 = .ok (.aload_n 0, 1) := by decide +kernel
theorem dL_law_784 : decode cL_law 784 = .ok (.iload_n 3, 1) := by decide +kernel
theorem dL_law_785 : decode cL_law 785 = .ok (.iconst 2, 1) := by decide +kernel
theorem dL_law_786 : decode cL_law 786 = .ok (.iadd, 1) := by decide +kernel
theorem dL_law_787 : decode cL_law 787 = .ok (.iaload, 1) := by decide +kernel
theorem dL_law_788 : decode cL_law 788 = .ok (.aload_n 0, 1) := by decide +kernel
theorem dL_law_789 : decode cL_law 789 = .ok (.iload_n 3, 1) := by decide +kernel
theorem dL_law_790 : decode cL_law 790 = .ok (.iconst 3, 1) := by decide +kernel
theorem dL_law_791 : decode cL_law 791 = .ok (.iadd, 1) := by decide +kernel
theorem dL_law_792 : decode cL_law 792 = .ok (.iaload, 1) := by decide +kernel
theorem dL_law_793 : decode cL_law 793 = .ok (.invokevirtual 92, 3) := by decide +kernel
theorem dL_law_796 : decode cL_law 796 = .ok (.if_icmp .eq 729, 3) := by decide +kernel
theorem dL_law_799 : decode cL_law 799 = .ok (.iconst 0, 1) := by decide +kernel
theorem dL_law_800 : decode cL_law 800 = .ok (.ireturn, 1) := by decide +kernel
theorem dL_law_801 : decode cL_law 801 = .ok (.aload_n 1, 1) := by decide +kernel
theorem dL_law_802 : decode cL_law 802 = .ok (.aload_n 0, 1) := by decide +kernel
theorem dL_law_803 : decode cL_law 803 = .ok (.iload_n 3, 1) := by decide +kernel
theorem dL_law_804 : decode cL_law 804 = .ok (.iconst 1, 1) := by decide +kernel
theorem dL_law_805 : decode cL_law 805 = .ok (.iadd, 1) := by decide +kernel
theorem dL_law_806 : decode cL_law 806 = .ok (.iaload, 1) := by decide +kernel
theorem dL_law_807 : decode cL_law 807 = .ok (.aload_n 0, 1) := by decide +kernel
theorem dL_law_808 : decode cL_law 808 = .ok (.iload_n 3, 1) := by decide +kernel
theorem dL_law_809 : decode cL_law 809 = .ok (.iconst 2, 1) := by decide +kernel
theorem dL_law_810 : decode cL_law 810 = .ok (.iadd, 1) := by decide +kernel
theorem dL_law_811 : decode cL_law 811 = .ok (.iaload, 1) := by decide +kernel
theorem dL_law_812 : decode cL_law 812 = .ok (.aload_n 0, 1) := by decide +kernel
theorem dL_law_813 : decode cL_law 813 = .ok (.iload_n 3, 1) := by decide +kernel
theorem dL_law_814 : decode cL_law 814 = .ok (.iconst 3, 1) := by decide +kernel
theorem dL_law_815 : decode cL_law 815 = .ok (.iadd, 1) := by decide +kernel
theorem dL_law_816 : decode cL_law 816 = .ok (.iaload, 1) := by decide +kernel
theorem dL_law_817 : decode cL_law 817 = .ok (.invokevirtual 93, 3) := by decide +kernel
theorem dL_law_820 : decode cL_law 820 = .ok (.aload_n 2, 1) := by decide +kernel
theorem dL_law_821 : decode cL_law 821 = .ok (.aload_n 0, 1) := by decide +kernel
theorem dL_law_822 : decode cL_law 822 = .ok (.iload_n 3, 1) := by decide +kernel
theorem dL_law_823 : decode cL_law 823 = .ok (.iconst 1, 1) := by decide +kernel
theorem dL_law_824 : decode cL_law 824 = .ok (.iadd, 1) := by decide +kernel
theorem dL_law_825 : decode cL_law 825 = .ok (.iaload, 1) := by decide +kernel
theorem dL_law_826 : decode cL_law 826 = .ok (.aload_n 0, 1) := by decide +kernel
theorem dL_law_827 : decode cL_law 827 = .ok (.iload_n 3, 1) := by decide +kernel
theorem dL_law_828 : decode cL_law 828 = .ok (.iconst 2, 1) := by decide +kernel
theorem dL_law_829 : decode cL_law 829 = .ok (.iadd, 1) := by decide +kernel
theorem dL_law_830 : decode cL_law 830 = .ok (.iaload, 1) := by decide +kernel
theorem dL_law_831 : decode cL_law 831 = .ok (.aload_n 0, 1) := by decide +kernel
theorem dL_law_832 : decode cL_law 832 = .ok (.iload_n 3, 1) := by decide +kernel
theorem dL_law_833 : decode cL_law 833 = .ok (.iconst 3, 1) := by decide +kernel
theorem dL_law_834 : decode cL_law 834 = .ok (.iadd, 1) := by decide +kernel
theorem dL_law_835 : decode cL_law 835 = .ok (.iaload, 1) := by decide +kernel
theorem dL_law_836 : decode cL_law 836 = .ok (.invokevirtual 96, 3) := by decide +kernel
theorem dL_law_839 : decode cL_law 839 = .ok (.if_icmp .eq 686, 3) := by decide +kernel
theorem dL_law_842 : decode cL_law 842 = .ok (.iconst 0, 1) := by decide +kernel
theorem dL_law_843 : decode cL_law 843 = .ok (.ireturn, 1) := by decide +kernel
theorem dL_law_844 : decode cL_law 844 = .ok (.aload_n 1, 1) := by decide +kernel
theorem dL_law_845 : decode cL_law 845 = .ok (.aload_n 0, 1) := by decide +kernel
theorem dL_law_846 : decode cL_law 846 = .ok (.iload_n 3, 1) := by decide +kernel
theorem dL_law_847 : decode cL_law 847 = .ok (.iconst 1, 1) := by decide +kernel
theorem dL_law_848 : decode cL_law 848 = .ok (.iadd, 1) := by decide +kernel
theorem dL_law_849 : decode cL_law 849 = .ok (.iaload, 1) := by decide +kernel
theorem dL_law_850 : decode cL_law 850 = .ok (.aload_n 0, 1) := by decide +kernel
theorem dL_law_851 : decode cL_law 851 = .ok (.iload_n 3, 1) := by decide +kernel
theorem dL_law_852 : decode cL_law 852 = .ok (.iconst 2, 1) := by decide +kernel
theorem dL_law_853 : decode cL_law 853 = .ok (.iadd, 1) := by decide +kernel
theorem dL_law_854 : decode cL_law 854 = .ok (.iaload, 1) := by decide +kernel
theorem dL_law_855 : decode cL_law 855 = .ok (.aload_n 0, 1) := by decide +kernel
theorem dL_law_856 : decode cL_law 856 = .ok (.iload_n 3, 1) := by decide +kernel
theorem dL_law_857 : decode cL_law 857 = .ok (.iconst 3, 1) := by decide +kernel
theorem dL_law_858 : decode cL_law 858 = .ok (.iadd, 1) := by decide +kernel
theorem dL_law_859 : decode cL_law 859 = .ok (.iaload, 1) := by decide +kernel
theorem dL_law_860 : decode cL_law 860 = .ok (.aload_n 0, 1) := by decide +kernel
theorem dL_law_861 : decode cL_law 861 = .ok (.iload_n 3, 1) := by decide +kernel
theorem dL_law_862 : decode cL_law 862 = .ok (.iconst 4, 1) := by decide +kernel
theorem dL_law_863 : decode cL_law 863 = .ok (.iadd, 1) := by decide +kernel
theorem dL_law_864 : decode cL_law 864 = .ok (.iaload, 1) := by decide +kernel
theorem dL_law_865 : decode cL_law 865 = .ok (.aload_n 0, 1) := by decide +kernel
theorem dL_law_866 : decode cL_law 866 = .ok (.iload_n 3, 1) := by decide +kernel
theorem dL_law_867 : decode cL_law 867 = .ok (.iconst 5, 1) := by decide +kernel
theorem dL_law_868 : decode cL_law 868 = .ok (.iadd, 1) := by decide +kernel
theorem dL_law_869 : decode cL_law 869 = .ok (.iaload, 1) := by decide +kernel
theorem dL_law_870 : decode cL_law 870 = .ok (.aload_n 0, 1) := by decide +kernel
theorem dL_law_871 : decode cL_law 871 = .ok (.iload_n 3, 1) := by decide +kernel
theorem dL_law_872 : decode cL_law 872 = .ok (.bipush 6, 2) := by decide +kernel
theorem dL_law_874 : decode cL_law 874 = .ok (.iadd, 1) := by decide +kernel
theorem dL_law_875 : decode cL_law 875 = .ok (.iaload, 1) := by decide +kernel
theorem dL_law_876 : decode cL_law 876 = .ok (.invokevirtual 97, 3) := by decide +kernel
theorem dL_law_879 : decode cL_law 879 = .ok (.aload_n 2, 1) := by decide +kernel
theorem dL_law_880 : decode cL_law 880 = .ok (.aload_n 0, 1) := by decide +kernel
theorem dL_law_881 : decode cL_law 881 = .ok (.iload_n 3, 1) := by decide +kernel
theorem dL_law_882 : decode cL_law 882 = .ok (.iconst 1, 1) := by decide +kernel
theorem dL_law_883 : decode cL_law 883 = .ok (.iadd, 1) := by decide +kernel
theorem dL_law_884 : decode cL_law 884 = .ok (.iaload, 1) := by decide +kernel
theorem dL_law_885 : decode cL_law 885 = .ok (.aload_n 0, 1) := by decide +kernel
theorem dL_law_886 : decode cL_law 886 = .ok (.iload_n 3, 1) := by decide +kernel
theorem dL_law_887 : decode cL_law 887 = .ok (.iconst 2, 1) := by decide +kernel
theorem dL_law_888 : decode cL_law 888 = .ok (.iadd, 1) := by decide +kernel
theorem dL_law_889 : decode cL_law 889 = .ok (.iaload, 1) := by decide +kernel
theorem dL_law_890 : decode cL_law 890 = .ok (.aload_n 0, 1) := by decide +kernel
theorem dL_law_891 : decode cL_law 891 = .ok (.iload_n 3, 1) := by decide +kernel
theorem dL_law_892 : decode cL_law 892 = .ok (.iconst 3, 1) := by decide +kernel
theorem dL_law_893 : decode cL_law 893 = .ok (.iadd, 1) := by decide +kernel
theorem dL_law_894 : decode cL_law 894 = .ok (.iaload, 1) := by decide +kernel
theorem dL_law_895 : decode cL_law 895 = .ok (.aload_n 0, 1) := by decide +kernel
theorem dL_law_896 : decode cL_law 896 = .ok (.iload_n 3, 1) := by decide +kernel
theorem dL_law_897 : decode cL_law 897 = .ok (.iconst 4, 1) := by decide +kernel
theorem dL_law_898 : decode cL_law 898 = .ok (.iadd, 1) := by decide +kernel
theorem dL_law_899 : decode cL_law 899 = .ok (.iaload, 1) := by decide +kernel
theorem dL_law_900 : decode cL_law 900 = .ok (.aload_n 0, 1) := by decide +kernel
theorem dL_law_901 : decode cL_law 901 = .ok (.iload_n 3, 1) := by decide +kernel
theorem dL_law_902 : decode cL_law 902 = .ok (.iconst 5, 1) := by decide +kernel
theorem dL_law_903 : decode cL_law 903 = .ok (.iadd, 1) := by decide +kernel
theorem dL_law_904 : decode cL_law 904 = .ok (.iaload, 1) := by decide +kernel
theorem dL_law_905 : decode cL_law 905 = .ok (.aload_n 0, 1) := by decide +kernel
theorem dL_law_906 : decode cL_law 906 = .ok (.iload_n 3, 1) := by decide +kernel
theorem dL_law_907 : decode cL_law 907 = .ok (.bipush 6, 2) := by decide +kernel
theorem dL_law_909 : decode cL_law 909 = .ok (.iadd, 1) := by decide +kernel
theorem dL_law_910 : decode cL_law 910 = .ok (.iaload, 1) := by decide +kernel
theorem dL_law_911 : decode cL_law 911 = .ok (.invokevirtual 101, 3) := by decide +kernel
theorem dL_law_914 : decode cL_law 914 = .ok (.if_icmp .eq 611, 3) := by decide +kernel
theorem dL_law_917 : decode cL_law 917 = .ok (.iconst 0, 1) := by decide +kernel
theorem dL_law_918 : decode cL_law 918 = .ok (.ireturn, 1) := by decide +kernel
theorem dL_law_919 : decode cL_law 919 = .ok (.aload_n 1, 1) := by decide +kernel
theorem dL_law_920 : decode cL_law 920 = .ok (.aload_n 0, 1) := by decide +kernel
theorem dL_law_921 : decode cL_law 921 = .ok (.iload_n 3, 1) := by decide +kernel
theorem dL_law_922 : decode cL_law 922 = .ok (.iconst 1, 1) := by decide +kernel
theorem dL_law_923 : decode cL_law 923 = .ok (.iadd, 1) := by decide +kernel
theorem dL_law_924 : decode cL_law 924 = .ok (.iaload, 1) := by decide +kernel
theorem dL_law_925 : decode cL_law 925 = .ok (.aload_n 0, 1) := by decide +kernel
theorem dL_law_926 : decode cL_law 926 = .ok (.iload_n 3, 1) := by decide +kernel
theorem dL_law_927 : decode cL_law 927 = .ok (.iconst 2, 1) := by decide +kernel
theorem dL_law_928 : decode cL_law 928 = .ok (.iadd, 1) := by decide +kernel
theorem dL_law_929 : decode cL_law 929 = .ok (.iaload, 1) := by decide +kernel
theorem dL_law_930 : decode cL_law 930 = .ok (.aload_n 0, 1) := by decide +kernel
theorem dL_law_931 : decode cL_law 931 = .ok (.iload_n 3, 1) := by decide +kernel
theorem dL_law_932 : decode cL_law 932 = .ok (.iconst 3, 1) := by decide +kernel
theorem dL_law_933 : decode cL_law 933 = .ok (.iadd, 1) := by decide +kernel
theorem dL_law_934 : decode cL_law 934 = .ok (.iaload, 1) := by decide +kernel
theorem dL_law_935 : decode cL_law 935 = .ok (.aload_n 0, 1) := by decide +kernel
theorem dL_law_936 : decode cL_law 936 = .ok (.iload_n 3, 1) := by decide +kernel
theorem dL_law_937 : decode cL_law 937 = .ok (.iconst 4, 1) := by decide +kernel
theorem dL_law_938 : decode cL_law 938 = .ok (.iadd, 1) := by decide +kernel
theorem dL_law_939 : decode cL_law 939 = .ok (.iaload, 1) := by decide +kernel
theorem dL_law_940 : decode cL_law 940 = .ok (.aload_n 0, 1) := by decide +kernel
theorem dL_law_941 : decode cL_law 941 = .ok (.iload_n 3, 1) := by decide +kernel
theorem dL_law_942 : decode cL_law 942 = .ok (.iconst 5, 1) := by decide +kernel
theorem dL_law_943 : decode cL_law 943 = .ok (.iadd, 1) := by decide +kernel
theorem dL_law_944 : decode cL_law 944 = .ok (.iaload, 1) := by decide +kernel
theorem dL_law_945 : decode cL_law 945 = .ok (.aload_n 0, 1) := by decide +kernel
theorem dL_law_946 : decode cL_law 946 = .ok (.iload_n 3, 1) := by decide +kernel
theorem dL_law_947 : decode cL_law 947 = .ok (.bipush 6, 2) := by decide +kernel
theorem dL_law_949 : decode cL_law 949 = .ok (.iadd, 1) := by decide +kernel
theorem dL_law_950 : decode cL_law 950 = .ok (.iaload, 1) := by decide +kernel
theorem dL_law_951 : decode cL_law 951 = .ok (.invokevirtual 102, 3) := by decide +kernel
theorem dL_law_954 : decode cL_law 954 = .ok (.aload_n 2, 1) := by decide +kernel
theorem dL_law_955 : decode cL_law 955 = .ok (.aload_n 0, 1) := by decide +kernel
theorem dL_law_956 : decode cL_law 956 = .ok (.iload_n 3, 1) := by decide +kernel
theorem dL_law_957 : decode cL_law 957 = .ok (.iconst 1, 1) := by decide +kernel
theorem dL_law_958 : decode cL_law 958 = .ok (.iadd, 1) := by decide +kernel
theorem dL_law_959 : decode cL_law 959 = .ok (.iaload, 1) := by decide +kernel
theorem dL_law_960 : decode cL_law 960 = .ok (.aload_n 0, 1) := by decide +kernel
theorem dL_law_961 : decode cL_law 961 = .ok (.iload_n 3, 1) := by decide +kernel
theorem dL_law_962 : decode cL_law 962 = .ok (.iconst 2, 1) := by decide +kernel
theorem dL_law_963 : decode cL_law 963 = .ok (.iadd, 1) := by decide +kernel
theorem dL_law_964 : decode cL_law 964 = .ok (.iaload, 1) := by decide +kernel
theorem dL_law_965 : decode cL_law 965 = .ok (.aload_n 0, 1) := by decide +kernel
theorem dL_law_966 : decode cL_law 966 = .ok (.iload_n 3, 1) := by decide +kernel
theorem dL_law_967 : decode cL_law 967 = .ok (.iconst 3, 1) := by decide +kernel
theorem dL_law_968 : decode cL_law 968 = .ok (.iadd, 1) := by decide +kernel
theorem dL_law_969 : decode cL_law 969 = .ok (.iaload, 1) := by decide +kernel
theorem dL_law_970 : decode cL_law 970 = .ok (.aload_n 0, 1) := by decide +kernel
theorem dL_law_971 : decode cL_law 971 = .ok (.iload_n 3, 1) := by decide +kernel
theorem dL_law_972 : decode cL_law 972 = .ok (.iconst 4, 1) := by decide +kernel
theorem dL_law_973 : decode cL_law 973 = .ok (.iadd, 1) := by decide +kernel
theorem dL_law_974 : decode cL_law 974 = .ok (.iaload, 1) := by decide +kernel
theorem dL_law_975 : decode cL_law 975 = .ok (.aload_n 0, 1) := by decide +kernel
theorem dL_law_976 : decode cL_law 976 = .ok (.iload_n 3, 1) := by decide +kernel
theorem dL_law_977 : decode cL_law 977 = .ok (.iconst 5, 1) := by decide +kernel
theorem dL_law_978 : decode cL_law 978 = .ok (.iadd, 1) := by decide +kernel
theorem dL_law_979 : decode cL_law 979 = .ok (.iaload, 1) := by decide +kernel
theorem dL_law_980 : decode cL_law 980 = .ok (.aload_n 0, 1) := by decide +kernel
theorem dL_law_981 : decode cL_law 981 = .ok (.iload_n 3, 1) := by decide +kernel
theorem dL_law_982 : decode cL_law 982 = .ok (.bipush 6, 2) := by decide +kernel
theorem dL_law_984 : decode cL_law 984 = .ok (.iadd, 1) := by decide +kernel
theorem dL_law_985 : decode cL_law 985 = .ok (.iaload, 1) := by decide +kernel
theorem dL_law_986 : decode cL_law 986 = .ok (.invokevirtual 105, 3) := by decide +kernel
theorem dL_law_989 : decode cL_law 989 = .ok (.if_icmp .eq 536, 3) := by decide +kernel
theorem dL_law_992 : decode cL_law 992 = .ok (.iconst 0, 1) := by decide +kernel
theorem dL_law_993 : decode cL_law 993 = .ok (.ireturn, 1) := by decide +kernel
theorem dL_law_994 : decode cL_law 994 = .ok (.aload_n 1, 1) := by decide +kernel
theorem dL_law_995 : decode cL_law 995 = .ok (.aload_n 0, 1) := by decide +kernel
theorem dL_law_996 : decode cL_law 996 = .ok (.iload_n 3, 1) := by decide +kernel
theorem dL_law_997 : decode cL_law 997 = .ok (.iconst 1, 1) := by decide +kernel
theorem dL_law_998 : decode cL_law 998 = .ok (.iadd, 1) := by decide +kernel
theorem dL_law_999 : decode cL_law 999 = .ok (.iaload, 1) := by decide +kernel
theorem dL_law_1000 : decode cL_law 1000 = .ok (.aload_n 0, 1) := by decide +kernel
theorem dL_law_1001 : decode cL_law 1001 = .ok (.iload_n 3, 1) := by decide +kernel
theorem dL_law_1002 : decode cL_law 1002 = .ok (.iconst 2, 1) := by decide +kernel
theorem dL_law_1003 : decode cL_law 1003 = .ok (.iadd, 1) := by decide +kernel
theorem dL_law_1004 : decode cL_law 1004 = .ok (.iaload, 1) := by decide +kernel
theorem dL_law_1005 : decode cL_law 1005 = .ok (.invokevirtual 106, 3) := by decide +kernel
theorem dL_law_1008 : decode cL_law 1008 = .ok (.aload_n 2, 1) := by decide +kernel
theorem dL_law_1009 : decode cL_law 1009 = .ok (.aload_n 0, 1) := by decide +kernel
theorem dL_law_1010 : decode cL_law 1010 = .ok (.iload_n 3, 1) := by decide +kernel
theorem dL_law_1011 : decode cL_law 1011 = .ok (.iconst 1, 1) := by decide +kernel
theorem dL_law_1012 : decode cL_law 1012 = .ok (.iadd, 1) := by decide +kernel
theorem dL_law_1013 : decode cL_law 1013 = .ok (.iaload, 1) := by decide +kernel
theorem dL_law_1014 : decode cL_law 1014 = .ok (.aload_n 0, 1) := by decide +kernel
theorem dL_law_1015 : decode cL_law 1015 = .ok (.iload_n 3, 1) := by decide +kernel
theorem dL_law_1016 : decode cL_law 1016 = .ok (.iconst 2, 1) := by decide +kernel
theorem dL_law_1017 : decode cL_law 1017 = .ok (.iadd, 1) := by decide +kernel
theorem dL_law_1018 : decode cL_law 1018 = .ok (.iaload, 1) := by decide +kernel
theorem dL_law_1019 : decode cL_law 1019 = .ok (.invokevirtual 109, 3) := by decide +kernel
theorem dL_law_1022 : decode cL_law 1022 = .ok (.if_icmp .eq 503, 3) := by decide +kernel
theorem dL_law_1025 : decode cL_law 1025 = .ok (.iconst 0, 1) := by decide +kernel
theorem dL_law_1026 : decode cL_law 1026 = .ok (.ireturn, 1) := by decide +kernel
theorem dL_law_1027 : decode cL_law 1027 = .ok (.aload_n 1, 1) := by decide +kernel
theorem dL_law_1028 : decode cL_law 1028 = .ok (.aload_n 0, 1) := by decide +kernel
theorem dL_law_1029 : decode cL_law 1029 = .ok (.iload_n 3, 1) := by decide +kernel
theorem dL_law_1030 : decode cL_law 1030 = .ok (.iconst 1, 1) := by decide +kernel
theorem dL_law_1031 : decode cL_law 1031 = .ok (.iadd, 1) := by decide +kernel
theorem dL_law_1032 : decode cL_law 1032 = .ok (.iaload, 1) := by decide +kernel
theorem dL_law_1033 : decode cL_law 1033 = .ok (.aload_n 0, 1) := by decide +kernel
theorem dL_law_1034 : decode cL_law 1034 = .ok (.iload_n 3, 1) := by decide +kernel
theorem dL_law_1035 : decode cL_law 1035 = .ok (.iconst 2, 1) := by decide +kernel
theorem dL_law_1036 : decode cL_law 1036 = .ok (.iadd, 1) := by decide +kernel
theorem dL_law_1037 : decode cL_law 1037 = .ok (.iaload, 1) := by decide +kernel
theorem dL_law_1038 : decode cL_law 1038 = .ok (.invokevirtual 110, 3) := by decide +kernel
theorem dL_law_1041 : decode cL_law 1041 = .ok (.aload_n 2, 1) := by decide +kernel
theorem dL_law_1042 : decode cL_law 1042 = .ok (.aload_n 0, 1) := by decide +kernel
theorem dL_law_1043 : decode cL_law 1043 = .ok (.iload_n 3, 1) := by decide +kernel
theorem dL_law_1044 : decode cL_law 1044 = .ok (.iconst 1, 1) := by decide +kernel
theorem dL_law_1045 : decode cL_law 1045 = .ok (.iadd, 1) := by decide +kernel
theorem dL_law_1046 : decode cL_law 1046 = .ok (.iaload, 1) := by decide +kernel
theorem dL_law_1047 : decode cL_law 1047 = .ok (.aload_n 0, 1) := by decide +kernel
theorem dL_law_1048 : decode cL_law 1048 = .ok (.iload_n 3, 1) := by decide +kernel
theorem dL_law_1049 : decode cL_law 1049 = .ok (.iconst 2, 1) := by decide +kernel
theorem dL_law_1050 : decode cL_law 1050 = .ok (.iadd, 1) := by decide +kernel
theorem dL_law_1051 : decode cL_law 1051 = .ok (.iaload, 1) := by decide +kernel
theorem dL_law_1052 : decode cL_law 1052 = .ok (.invokevirtual 113, 3) := by decide +kernel
theorem dL_law_1055 : decode cL_law 1055 = .ok (.if_icmp .eq 470, 3) := by decide +kernel
theorem dL_law_1058 : decode cL_law 1058 = .ok (.iconst 0, 1) := by decide +kernel
theorem dL_law_1059 : decode cL_law 1059 = .ok (.ireturn, 1) := by decide +kernel
theorem dL_law_1060 : decode cL_law 1060 = .ok (.aload_n 1, 1) := by decide +kernel
theorem dL_law_1061 : decode cL_law 1061 = .ok (.aload_n 0, 1) := by decide +kernel
theorem dL_law_1062 : decode cL_law 1062 = .ok (.iload_n 3, 1) := by decide +kernel
theorem dL_law_1063 : decode cL_law 1063 = .ok (.iconst 1, 1) := by decide +kernel
theorem dL_law_1064 : decode cL_law 1064 = .ok (.iadd, 1) := by decide +kernel
theorem dL_law_1065 : decode cL_law 1065 = .ok (.iaload, 1) := by decide +kernel
theorem dL_law_1066 : decode cL_law 1066 = .ok (.aload_n 0, 1) := by decide +kernel
theorem dL_law_1067 : decode cL_law 1067 = .ok (.iload_n 3, 1) := by decide +kernel
theorem dL_law_1068 : decode cL_law 1068 = .ok (.iconst 2, 1) := by decide +kernel
theorem dL_law_1069 : decode cL_law 1069 = .ok (.iadd, 1) := by decide +kernel
theorem dL_law_1070 : decode cL_law 1070 = .ok (.iaload, 1) := by decide +kernel
theorem dL_law_1071 : decode cL_law 1071 = .ok (.invokevirtual 114, 3) := by decide +kernel
theorem dL_law_1074 : decode cL_law 1074 = .ok (.aload_n 2, 1) := by decide +kernel
theorem dL_law_1075 : decode cL_law 1075 = .ok (.aload_n 0, 1) := by decide +kernel
theorem dL_law_1076 : decode cL_law 1076 = .ok (.iload_n 3, 1) := by decide +kernel
theorem dL_law_1077 : decode cL_law 1077 = .ok (.iconst 1, 1) := by decide +kernel
theorem dL_law_1078 : decode cL_law 1078 = .ok (.iadd, 1) := by decide +kernel
theorem dL_law_1079 : decode cL_law 1079 = .ok (.iaload, 1) := by decide +kernel
theorem dL_law_1080 : decode cL_law 1080 = .ok (.aload_n 0, 1) := by decide +kernel
theorem dL_law_1081 : decode cL_law 1081 = .ok (.iload_n 3, 1) := by decide +kernel
theorem dL_law_1082 : decode cL_law 1082 = .ok (.iconst 2, 1) := by decide +kernel
theorem dL_law_1083 : decode cL_law 1083 = .ok (.iadd, 1) := by decide +kernel
theorem dL_law_1084 : decode cL_law 1084 = .ok (.iaload, 1) := by decide +kernel
theorem dL_law_1085 : decode cL_law 1085 = .ok (.invokevirtual 117, 3) := by decide +kernel
theorem dL_law_1088 : decode cL_law 1088 = .ok (.if_icmp .eq 437, 3) := by decide +kernel
theorem dL_law_1091 : decode cL_law 1091 = .ok (.iconst 0, 1) := by decide +kernel
theorem dL_law_1092 : decode cL_law 1092 = .ok (.ireturn, 1) := by decide +kernel
theorem dL_law_1093 : decode cL_law 1093 = .ok (.aload_n 1, 1) := by decide +kernel
theorem dL_law_1094 : decode cL_law 1094 = .ok (.aload_n 0, 1) := by decide +kernel
theorem dL_law_1095 : decode cL_law 1095 = .ok (.iload_n 3, 1) := by decide +kernel
theorem dL_law_1096 : decode cL_law 1096 = .ok (.iconst 1, 1) := by decide +kernel
theorem dL_law_1097 : decode cL_law 1097 = .ok (.iadd, 1) := by decide +kernel
theorem dL_law_1098 : decode cL_law 1098 = .ok (.iaload, 1) := by decide +kernel
theorem dL_law_1099 : decode cL_law 1099 = .ok (.aload_n 0, 1) := by decide +kernel
theorem dL_law_1100 : decode cL_law 1100 = .ok (.iload_n 3, 1) := by decide +kernel
theorem dL_law_1101 : decode cL_law 1101 = .ok (.iconst 2, 1) := by decide +kernel
theorem dL_law_1102 : decode cL_law 1102 = .ok (.iadd, 1) := by decide +kernel
theorem dL_law_1103 : decode cL_law 1103 = .ok (.iaload, 1) := by decide +kernel
theorem dL_law_1104 : decode cL_law 1104 = .ok (.aload_n 0, 1) := by decide +kernel
theorem dL_law_1105 : decode cL_law 1105 = .ok (.iload_n 3, 1) := by decide +kernel
theorem dL_law_1106 : decode cL_law 1106 = .ok (.iconst 3, 1) := by decide +kernel
theorem dL_law_1107 : decode cL_law 1107 = .ok (.iadd, 1) := by decide +kernel
theorem dL_law_1108 : decode cL_law 1108 = .ok (.iaload, 1) := by decide +kernel
theorem dL_law_1109 : decode cL_law 1109 = .ok (.invokevirtual 118, 3) := by decide +kernel
theorem dL_law_1112 : decode cL_law 1112 = .ok (.aload_n 2, 1) := by decide +kernel
theorem dL_law_1113 : decode cL_law 1113 = .ok (.aload_n 0, 1) := by decide +kernel
theorem dL_law_1114 : decode cL_law 1114 = .ok (.iload_n 3, 1) := by decide +kernel
theorem dL_law_1115 : decode cL_law 1115 = .ok (.iconst 1, 1) := by decide +kernel
theorem dL_law_1116 : decode cL_law 1116 = .ok (.iadd, 1) := by decide +kernel
theorem dL_law_1117 : decode cL_law 1117 = .ok (.iaload, 1) := by decide +kernel
theorem dL_law_1118 : decode cL_law 1118 = .ok (.aload_n 0, 1) := by decide +kernel
theorem dL_law_1119 : decode cL_law 1119 = .ok (.iload_n 3, 1) := by decide +kernel
theorem dL_law_1120 : decode cL_law 1120 = .ok (.iconst 2, 1) := by decide +kernel
theorem dL_law_1121 : decode cL_law 1121 = .ok (.iadd, 1) := by decide +kernel
theorem dL_law_1122 : decode cL_law 1122 = .ok (.iaload, 1) := by decide +kernel
theorem dL_law_1123 : decode cL_law 1123 = .ok (.aload_n 0, 1) := by decide +kernel
theorem dL_law_1124 : decode cL_law 1124 = .ok (.iload_n 3, 1) := by decide +kernel
theorem dL_law_1125 : decode cL_law 1125 = .ok (.iconst 3, 1) := by decide +kernel
theorem dL_law_1126 : decode cL_law 1126 = .ok (.iadd, 1) := by decide +kernel
theorem dL_law_1127 : decode cL_law 1127 = .ok (.iaload, 1) := by decide +kernel
theorem dL_law_1128 : decode cL_law 1128 = .ok (.invokevirtual 121, 3) := by decide +kernel
theorem dL_law_1131 : decode cL_law 1131 = .ok (.if_icmp .eq 394, 3) := by decide +kernel
theorem dL_law_1134 : decode cL_law 1134 = .ok (.iconst 0, 1) := by decide +kernel
theorem dL_law_1135 : decode cL_law 1135 = .ok (.ireturn, 1) := by decide +kernel
theorem dL_law_1136 : decode cL_law 1136 = .ok (.aload_n 1, 1) := by decide +kernel
theorem dL_law_1137 : decode cL_law 1137 = .ok (.aload_n 0, 1) := by decide +kernel
theorem dL_law_1138 : decode cL_law 1138 = .ok (.iload_n 3, 1) := by decide +kernel
theorem dL_law_1139 : decode cL_law 1139 = .ok (.iconst 1, 1) := by decide +kernel
theorem dL_law_1140 : decode cL_law 1140 = .ok (.iadd, 1) := by decide +kernel
theorem dL_law_1141 : decode cL_law 1141 = .ok (.iaload, 1) := by decide +kernel
theorem dL_law_1142 : decode cL_law 1142 = .ok (.aload_n 0, 1) := by decide +kernel
theorem dL_law_1143 : decode cL_law 1143 = .ok (.iload_n 3, 1) := by decide +kernel
theorem dL_law_1144 : decode cL_law 1144 = .ok (.iconst 2, 1) := by decide +kernel
theorem dL_law_1145 : decode cL_law 1145 = .ok (.iadd, 1) := by decide +kernel
theorem dL_law_1146 : decode cL_law 1146 = .ok (.iaload, 1) := by decide +kernel
theorem dL_law_1147 : decode cL_law 1147 = .ok (.invokevirtual 122, 3) := by decide +kernel
theorem dL_law_1150 : decode cL_law 1150 = .ok (.aload_n 2, 1) := by decide +kernel
theorem dL_law_1151 : decode cL_law 1151 = .ok (.aload_n 0, 1) := by decide +kernel
theorem dL_law_1152 : decode cL_law 1152 = .ok (.iload_n 3, 1) := by decide +kernel
theorem dL_law_1153 : decode cL_law 1153 = .ok (.iconst 1, 1) := by decide +kernel
theorem dL_law_1154 : decode cL_law 1154 = .ok (.iadd, 1) := by decide +kernel
theorem dL_law_1155 : decode cL_law 1155 = .ok (.iaload, 1) := by decide +kernel
theorem dL_law_1156 : decode cL_law 1156 = .ok (.aload_n 0, 1) := by decide +kernel
theorem dL_law_1157 : decode cL_law 1157 = .ok (.iload_n 3, 1) := by decide +kernel
theorem dL_law_1158 : decode cL_law 1158 = .ok (.iconst 2, 1) := by decide +kernel
theorem dL_law_1159 : decode cL_law 1159 = .ok (.iadd, 1) := by decide +kernel
theorem dL_law_1160 : decode cL_law 1160 = .ok (.iaload, 1) := by decide +kernel
theorem dL_law_1161 : decode cL_law 1161 = .ok (.invokevirtual 125, 3) := by decide +kernel
theorem dL_law_1164 : decode cL_law 1164 = .ok (.if_icmp .eq 361, 3) := by decide +kernel
theorem dL_law_1167 : decode cL_law 1167 = .ok (.iconst 0, 1) := by decide +kernel
theorem dL_law_1168 : decode cL_law 1168 = .ok (.ireturn, 1) := by decide +kernel
theorem dL_law_1169 : decode cL_law 1169 = .ok (.aload_n 1, 1) := by decide +kernel
theorem dL_law_1170 : decode cL_law 1170 = .ok (.aload_n 0, 1) := by decide +kernel
theorem dL_law_1171 : decode cL_law 1171 = .ok (.iload_n 3, 1) := by decide +kernel
theorem dL_law_1172 : decode cL_law 1172 = .ok (.iconst 1, 1) := by decide +kernel
theorem dL_law_1173 : decode cL_law 1173 = .ok (.iadd, 1) := by decide +kernel
theorem dL_law_1174 : decode cL_law 1174 = .ok (.iaload, 1) := by decide +kernel
theorem dL_law_1175 : decode cL_law 1175 = .ok (.invokevirtual 126, 3) := by decide +kernel
theorem dL_law_1178 : decode cL_law 1178 = .ok (.aload_n 2, 1) := by decide +kernel
theorem dL_law_1179 : decode cL_law 1179 = .ok (.aload_n 0, 1) := by decide +kernel
theorem dL_law_1180 : decode cL_law 1180 = .ok (.iload_n 3, 1) := by decide +kernel
theorem dL_law_1181 : decode cL_law 1181 = .ok (.iconst 1, 1) := by decide +kernel
theorem dL_law_1182 : decode cL_law 1182 = .ok (.iadd, 1) := by decide +kernel
theorem dL_law_1183 : decode cL_law 1183 = .ok (.iaload, 1) := by decide +kernel
theorem dL_law_1184 : decode cL_law 1184 = .ok (.invokevirtual 129, 3) := by decide +kernel
theorem dL_law_1187 : decode cL_law 1187 = .ok (.if_icmp .eq 338, 3) := by decide +kernel
theorem dL_law_1190 : decode cL_law 1190 = .ok (.iconst 0, 1) := by decide +kernel
theorem dL_law_1191 : decode cL_law 1191 = .ok (.ireturn, 1) := by decide +kernel
theorem dL_law_1192 : decode cL_law 1192 = .ok (.aload_n 1, 1) := by decide +kernel
theorem dL_law_1193 : decode cL_law 1193 = .ok (.aload_n 0, 1) := by decide +kernel
theorem dL_law_1194 : decode cL_law 1194 = .ok (.iload_n 3, 1) := by decide +kernel
theorem dL_law_1195 : decode cL_law 1195 = .ok (.iconst 1, 1) := by decide +kernel
theorem dL_law_1196 : decode cL_law 1196 = .ok (.iadd, 1) := by decide +kernel
theorem dL_law_1197 : decode cL_law 1197 = .ok (.iaload, 1) := by decide +kernel
theorem dL_law_1198 : decode cL_law 1198 = .ok (.aload_n 0, 1) := by decide +kernel
theorem dL_law_1199 : decode cL_law 1199 = .ok (.iload_n 3, 1) := by decide +kernel
theorem dL_law_1200 : decode cL_law 1200 = .ok (.iconst 2, 1) := by decide +kernel
theorem dL_law_1201 : decode cL_law 1201 = .ok (.iadd, 1) := by decide +kernel
theorem dL_law_1202 : decode cL_law 1202 = .ok (.iaload, 1) := by decide +kernel
theorem dL_law_1203 : decode cL_law 1203 = .ok (.aload_n 0, 1) := by decide +kernel
theorem dL_law_1204 : decode cL_law 1204 = .ok (.iload_n 3, 1) := by decide +kernel
theorem dL_law_1205 : decode cL_law 1205 = .ok (.iconst 3, 1) := by decide +kernel
theorem dL_law_1206 : decode cL_law 1206 = .ok (.iadd, 1) := by decide +kernel
theorem dL_law_1207 : decode cL_law 1207 = .ok (.iaload, 1) := by decide +kernel
theorem dL_law_1208 : decode cL_law 1208 = .ok (.aload_n 0, 1) := by decide +kernel
theorem dL_law_1209 : decode cL_law 1209 = .ok (.iload_n 3, 1) := by decide +kernel
theorem dL_law_1210 : decode cL_law 1210 = .ok (.iconst 4, 1) := by decide +kernel
theorem dL_law_1211 : decode cL_law 1211 = .ok (.iadd, 1) := by decide +kernel
theorem dL_law_1212 : decode cL_law 1212 = .ok (.iaload, 1) := by decide +kernel
theorem dL_law_1213 : decode cL_law 1213 = .ok (.invokevirtual 130, 3) := by decide +kernel
theorem dL_law_1216 : decode cL_law 1216 = .ok (.aload_n 2, 1) := by decide +kernel
theorem dL_law_1217 : decode cL_law 1217 = .ok (.aload_n 0, 1) := by decide +kernel
theorem dL_law_1218 : decode cL_law 1218 = .ok (.iload_n 3, 1) := by decide +kernel
theorem dL_law_1219 : decode cL_law 1219 = .ok (.iconst 1, 1) := by decide +kernel
theorem dL_law_1220 : decode cL_law 1220 = .ok (.iadd, 1) := by decide +kernel
theorem dL_law_1221 : decode cL_law 1221 = .ok (.iaload, 1) := by decide +kernel
theorem dL_law_1222 : decode cL_law 1222 = .ok (.aload_n 0, 1) := by decide +kernel
theorem dL_law_1223 : decode cL_law 1223 = .ok (.iload_n 3, 1) := by decide +kernel
theorem dL_law_1224 : decode cL_law 1224 = .ok (.iconst 2, 1) := by decide +kernel
theorem dL_law_1225 : decode cL_law 1225 = .ok (.iadd, 1) := by decide +kernel
theorem dL_law_1226 : decode cL_law 1226 = .ok (.iaload, 1) := by decide +kernel
theorem dL_law_1227 : decode cL_law 1227 = .ok (.aload_n 0, 1) := by decide +kernel
theorem dL_law_1228 : decode cL_law 1228 = .ok (.iload_n 3, 1) := by decide +kernel
theorem dL_law_1229 : decode cL_law 1229 = .ok (.iconst 3, 1) := by decide +kernel
theorem dL_law_1230 : decode cL_law 1230 = .ok (.iadd, 1) := by decide +kernel
theorem dL_law_1231 : decode cL_law 1231 = .ok (.iaload, 1) := by decide +kernel
theorem dL_law_1232 : decode cL_law 1232 = .ok (.aload_n 0, 1) := by decide +kernel
theorem dL_law_1233 : decode cL_law 1233 = .ok (.iload_n 3, 1) := by decide +kernel
theorem dL_law_1234 : decode cL_law 1234 = .ok (.iconst 4, 1) := by decide +kernel
theorem dL_law_1235 : decode cL_law 1235 = .ok (.iadd, 1) := by decide +kernel
theorem dL_law_1236 : decode cL_law 1236 = .ok (.iaload, 1) := by decide +kernel
theorem dL_law_1237 : decode cL_law 1237 = .ok (.invokevirtual 134, 3) := by decide +kernel
theorem dL_law_1240 : decode cL_law 1240 = .ok (.if_icmp .eq 285, 3) := by decide +kernel
theorem dL_law_1243 : decode cL_law 1243 = .ok (.iconst 0, 1) := by decide +kernel
theorem dL_law_1244 : decode cL_law 1244 = .ok (.ireturn, 1) := by decide +kernel
theorem dL_law_1245 : decode cL_law 1245 = .ok (.aload_n 1, 1) := by decide +kernel
theorem dL_law_1246 : decode cL_law 1246 = .ok (.aload_n 0, 1) := by decide +kernel
theorem dL_law_1247 : decode cL_law 1247 = .ok (.iload_n 3, 1) := by decide +kernel
theorem dL_law_1248 : decode cL_law 1248 = .ok (.iconst 1, 1) := by decide +kernel
theorem dL_law_1249 : decode cL_law 1249 = .ok (.iadd, 1) := by decide +kernel
theorem dL_law_1250 : decode cL_law 1250 = .ok (.iaload, 1) := by decide +kernel
theorem dL_law_1251 : decode cL_law 1251 = .ok (.aload_n 0, 1) := by decide +kernel
theorem dL_law_1252 : decode cL_law 1252 = .ok (.iload_n 3, 1) := by decide +kernel
theorem dL_law_1253 : decode cL_law 1253 = .ok (.iconst 2, 1) := by decide +kernel
theorem dL_law_1254 : decode cL_law 1254 = .ok (.iadd, 1) := by decide +kernel
theorem dL_law_1255 : decode cL_law 1255 = .ok (.iaload, 1) := by decide +kernel
theorem dL_law_1256 : decode cL_law 1256 = .ok (.invokevirtual 135, 3) := by decide +kernel
theorem dL_law_1259 : decode cL_law 1259 = .ok (.aload_n 2, 1) := by decide +kernel
theorem dL_law_1260 : decode cL_law 1260 = .ok (.aload_n 0, 1) := by decide +kernel
theorem dL_law_1261 : decode cL_law 1261 = .ok (.iload_n 3, 1) := by decide +kernel
theorem dL_law_1262 : decode cL_law 1262 = .ok (.iconst 1, 1) := by decide +kernel
theorem dL_law_1263 : decode cL_law 1263 = .ok (.iadd, 1) := by decide +kernel
theorem dL_law_1264 : decode cL_law 1264 = .ok (.iaload, 1) := by decide +kernel
theorem dL_law_1265 : decode cL_law 1265 = .ok (.aload_n 0, 1) := by decide +kernel
theorem dL_law_1266 : decode cL_law 1266 = .ok (.iload_n 3, 1) := by decide +kernel
theorem dL_law_1267 : decode cL_law 1267 = .ok (.iconst 2, 1) := by decide +kernel
theorem dL_law_1268 : decode cL_law 1268 = .ok (.iadd, 1) := by decide +kernel
theorem dL_law_1269 : decode cL_law 1269 = .ok (.iaload, 1) := by decide +kernel
theorem dL_law_1270 : decode cL_law 1270 = .ok (.invokevirtual 138, 3) := by decide +kernel
theorem dL_law_1273 : decode cL_law 1273 = .ok (.if_icmp .eq 252, 3) := by decide +kernel
theorem dL_law_1276 : decode cL_law 1276 = .ok (.iconst 0, 1) := by decide +kernel
theorem dL_law_1277 : decode cL_law 1277 = .ok (.ireturn, 1) := by decide +kernel
theorem dL_law_1278 : decode cL_law 1278 = .ok (.aload_n 1, 1) := by decide +kernel
theorem dL_law_1279 : decode cL_law 1279 = .ok (.invokevirtual 139, 3) := by decide +kernel
theorem dL_law_1282 : decode cL_law 1282 = .ok (.aload_n 2, 1) := by decide +kernel
theorem dL_law_1283 : decode cL_law 1283 = .ok (.invokevirtual 142, 3) := by decide +kernel
theorem dL_law_1286 : decode cL_law 1286 = .ok (.if_icmp .eq 239, 3) := by decide +kernel
theorem dL_law_1289 : decode cL_law 1289 = .ok (.iconst 0, 1) := by decide +kernel
theorem dL_law_1290 : decode cL_law 1290 = .ok (.ireturn, 1) := by decide +kernel
theorem dL_law_1291 : decode cL_law 1291 = .ok (.aload_n 1, 1) := by decide +kernel
theorem dL_law_1292 : decode cL_law 1292 = .ok (.aload_n 0, 1) := by decide +kernel
theorem dL_law_1293 : decode cL_law 1293 = .ok (.iload_n 3, 1) := by decide +kernel
theorem dL_law_1294 : decode cL_law 1294 = .ok (.iconst 1, 1) := by decide +kernel
theorem dL_law_1295 : decode cL_law 1295 = .ok (.iadd, 1) := by decide +kernel
theorem dL_law_1296 : decode cL_law 1296 = .ok (.iaload, 1) := by decide +kernel
theorem dL_law_1297 : decode cL_law 1297 = .ok (.invokevirtual 143, 3) := by decide +kernel
theorem dL_law_1300 : decode cL_law 1300 = .ok (.aload_n 2, 1) := by decide +kernel
theorem dL_law_1301 : decode cL_law 1301 = .ok (.aload_n 0, 1) := by decide +kernel
theorem dL_law_1302 : decode cL_law 1302 = .ok (.iload_n 3, 1) := by decide +kernel
theorem dL_law_1303 : decode cL_law 1303 = .ok (.iconst 1, 1) := by decide +kernel
theorem dL_law_1304 : decode cL_law 1304 = .ok (.iadd, 1) := by decide +kernel
theorem dL_law_1305 : decode cL_law 1305 = .ok (.iaload, 1) := by decide +kernel
theorem dL_law_1306 : decode cL_law 1306 = .ok (.invokevirtual 146, 3) := by decide +kernel
theorem dL_law_1309 : decode cL_law 1309 = .ok (.if_icmp .eq 216, 3) := by decide +kernel
theorem dL_law_1312 : decode cL_law 1312 = .ok (.iconst 0, 1) := by decide +kernel
theorem dL_law_1313 : decode cL_law 1313 = .ok (.ireturn, 1) := by decide +kernel
theorem dL_law_1314 : decode cL_law 1314 = .ok (.aload_n 1, 1) := by decide +kernel
theorem dL_law_1315 : decode cL_law 1315 = .ok (.aload_n 0, 1) := by decide +kernel
theorem dL_law_1316 : decode cL_law 1316 = .ok (.iload_n 3, 1) := by decide +kernel
theorem dL_law_1317 : decode cL_law 1317 = .ok (.iconst 1, 1) := by decide +kernel
theorem dL_law_1318 : decode cL_law 1318 = .ok (.iadd, 1) := by decide +kernel
theorem dL_law_1319 : decode cL_law 1319 = .ok (.iaload, 1) := by decide +kernel
theorem dL_law_1320 : decode cL_law 1320 = .ok (.invokevirtual 147, 3) := by decide +kernel
theorem dL_law_1323 : decode cL_law 1323 = .ok (.aload_n 2, 1) := by decide +kernel
theorem dL_law_1324 : decode cL_law 1324 = .ok (.aload_n 0, 1) := by decide +kernel
theorem dL_law_1325 : decode cL_law 1325 = .ok (.iload_n 3, 1) := by decide +kernel
theorem dL_law_1326 : decode cL_law 1326 = .ok (.iconst 1, 1) := by decide +kernel
theorem dL_law_1327 : decode cL_law 1327 = .ok (.iadd, 1) := by decide +kernel
theorem dL_law_1328 : decode cL_law 1328 = .ok (.iaload, 1) := by decide +kernel
theorem dL_law_1329 : decode cL_law 1329 = .ok (.invokevirtual 150, 3) := by decide +kernel
theorem dL_law_1332 : decode cL_law 1332 = .ok (.if_icmp .eq 193, 3) := by decide +kernel
theorem dL_law_1335 : decode cL_law 1335 = .ok (.iconst 0, 1) := by decide +kernel
theorem dL_law_1336 : decode cL_law 1336 = .ok (.ireturn, 1) := by decide +kernel
theorem dL_law_1337 : decode cL_law 1337 = .ok (.aload_n 1, 1) := by decide +kernel
theorem dL_law_1338 : decode cL_law 1338 = .ok (.aload_n 0, 1) := by decide +kernel
theorem dL_law_1339 : decode cL_law 1339 = .ok (.iload_n 3, 1) := by decide +kernel
theorem dL_law_1340 : decode cL_law 1340 = .ok (.iconst 1, 1) := by decide +kernel
theorem dL_law_1341 : decode cL_law 1341 = .ok (.iadd, 1) := by decide +kernel
theorem dL_law_1342 : decode cL_law 1342 = .ok (.iaload, 1) := by decide +kernel
theorem dL_law_1343 : decode cL_law 1343 = .ok (.aload_n 0, 1) := by decide +kernel
theorem dL_law_1344 : decode cL_law 1344 = .ok (.iload_n 3, 1) := by decide +kernel
theorem dL_law_1345 : decode cL_law 1345 = .ok (.iconst 2, 1) := by decide +kernel
theorem dL_law_1346 : decode cL_law 1346 = .ok (.iadd, 1) := by decide +kernel
theorem dL_law_1347 : decode cL_law 1347 = .ok (.iaload, 1) := by decide +kernel
theorem dL_law_1348 : decode cL_law 1348 = .ok (.aload_n 0, 1) := by decide +kernel
theorem dL_law_1349 : decode cL_law 1349 = .ok (.iload_n 3, 1) := by decide +kernel
theorem dL_law_1350 : decode cL_law 1350 = .ok (.iconst 3, 1) := by decide +kernel
theorem dL_law_1351 : decode cL_law 1351 = .ok (.iadd, 1) := by decide +kernel
theorem dL_law_1352 : decode cL_law 1352 = .ok (.iaload, 1) := by decide +kernel
theorem dL_law_1353 : decode cL_law 1353 = .ok (.invokevirtual 151, 3) := by decide +kernel
theorem dL_law_1356 : decode cL_law 1356 = .ok (.aload_n 2, 1) := by decide +kernel
theorem dL_law_1357 : decode cL_law 1357 = .ok (.aload_n 0, 1) := by decide +kernel
theorem dL_law_1358 : decode cL_law 1358 = .ok (.iload_n 3, 1) := by decide +kernel
theorem dL_law_1359 : decode cL_law 1359 = .ok (.iconst 1, 1) := by decide +kernel
theorem dL_law_1360 : decode cL_law 1360 = .ok (.iadd, 1) := by decide +kernel
theorem dL_law_1361 : decode cL_law 1361 = .ok (.iaload, 1) := by decide +kernel
theorem dL_law_1362 : decode cL_law 1362 = .ok (.aload_n 0, 1) := by decide +kernel
theorem dL_law_1363 : decode cL_law 1363 = .ok (.iload_n 3, 1) := by decide +kernel
theorem dL_law_1364 : decode cL_law 1364 = .ok (.iconst 2, 1) := by decide +kernel
theorem dL_law_1365 : decode cL_law 1365 = .ok (.iadd, 1) := by decide +kernel
theorem dL_law_1366 : decode cL_law 1366 = .ok (.iaload, 1) := by decide +kernel
theorem dL_law_1367 : decode cL_law 1367 = .ok (.aload_n 0, 1) := by decide +kernel
theorem dL_law_1368 : decode cL_law 1368 = .ok (.iload_n 3, 1) := by decide +kernel
theorem dL_law_1369 : decode cL_law 1369 = .ok (.iconst 3, 1) := by decide +kernel
theorem dL_law_1370 : decode cL_law 1370 = .ok (.iadd, 1) := by decide +kernel
theorem dL_law_1371 : decode cL_law 1371 = .ok (.iaload, 1) := by decide +kernel
theorem dL_law_1372 : decode cL_law 1372 = .ok (.invokevirtual 154, 3) := by decide +kernel
theorem dL_law_1375 : decode cL_law 1375 = .ok (.if_icmp .eq 150, 3) := by decide +kernel
theorem dL_law_1378 : decode cL_law 1378 = .ok (.iconst 0, 1) := by decide +kernel
theorem dL_law_1379 : decode cL_law 1379 = .ok (.ireturn, 1) := by decide +kernel
theorem dL_law_1380 : decode cL_law 1380 = .ok (.aload_n 1, 1) := by decide +kernel
theorem dL_law_1381 : decode cL_law 1381 = .ok (.aload_n 0, 1) := by decide +kernel
theorem dL_law_1382 : decode cL_law 1382 = .ok (.iload_n 3, 1) := by decide +kernel
theorem dL_law_1383 : decode cL_law 1383 = .ok (.iconst 1, 1) := by decide +kernel
theorem dL_law_1384 : decode cL_law 1384 = .ok (.iadd, 1) := by decide +kernel
theorem dL_law_1385 : decode cL_law 1385 = .ok (.iaload, 1) := by decide +kernel
theorem dL_law_1386 : decode cL_law 1386 = .ok (.aload_n 0, 1) := by decide +kernel
theorem dL_law_1387 : decode cL_law 1387 = .ok (.iload_n 3, 1) := by decide +kernel
theorem dL_law_1388 : decode cL_law 1388 = .ok (.iconst 2, 1) := by decide +kernel
theorem dL_law_1389 : decode cL_law 1389 = .ok (.iadd, 1) := by decide +kernel
theorem dL_law_1390 : decode cL_law 1390 = .ok (.iaload, 1) := by decide +kernel
theorem dL_law_1391 : decode cL_law 1391 = .ok (.invokevirtual 155, 3) := by decide +kernel
theorem dL_law_1394 : decode cL_law 1394 = .ok (.aload_n 2, 1) := by decide +kernel
theorem dL_law_1395 : decode cL_law 1395 = .ok (.aload_n 0, 1) := by decide +kernel
theorem dL_law_1396 : decode cL_law 1396 = .ok (.iload_n 3, 1) := by decide +kernel
theorem dL_law_1397 : decode cL_law 1397 = .ok (.iconst 1, 1) := by decide +kernel
theorem dL_law_1398 : decode cL_law 1398 = .ok (.iadd, 1) := by decide +kernel
theorem dL_law_1399 : decode cL_law 1399 = .ok (.iaload, 1) := by decide +kernel
theorem dL_law_1400 : decode cL_law 1400 = .ok (.aload_n 0, 1) := by decide +kernel
theorem dL_law_1401 : decode cL_law 1401 = .ok (.iload_n 3, 1) := by decide +kernel
theorem dL_law_1402 : decode cL_law 1402 = .ok (.iconst 2, 1) := by decide +kernel
theorem dL_law_1403 : decode cL_law 1403 = .ok (.iadd, 1) := by decide +kernel
theorem dL_law_1404 : decode cL_law 1404 = .ok (.iaload, 1) := by decide +kernel
theorem dL_law_1405 : decode cL_law 1405 = .ok (.invokevirtual 158, 3) := by decide +kernel
theorem dL_law_1408 : decode cL_law 1408 = .ok (.if_icmp .eq 117, 3) := by decide +kernel
theorem dL_law_1411 : decode cL_law 1411 = .ok (.iconst 0, 1) := by decide +kernel
theorem dL_law_1412 : decode cL_law 1412 = .ok (.ireturn, 1) := by decide +kernel
theorem dL_law_1413 : decode cL_law 1413 = .ok (.aload_n 1, 1) := by decide +kernel
theorem dL_law_1414 : decode cL_law 1414 = .ok (.aload_n 0, 1) := by decide +kernel
theorem dL_law_1415 : decode cL_law 1415 = .ok (.iload_n 3, 1) := by decide +kernel
theorem dL_law_1416 : decode cL_law 1416 = .ok (.iconst 1, 1) := by decide +kernel
theorem dL_law_1417 : decode cL_law 1417 = .ok (.iadd, 1) := by decide +kernel
theorem dL_law_1418 : decode cL_law 1418 = .ok (.iaload, 1) := by decide +kernel
theorem dL_law_1419 : decode cL_law 1419 = .ok (.invokevirtual 159, 3) := by decide +kernel
theorem dL_law_1422 : decode cL_law 1422 = .ok (.aload_n 2, 1) := by decide +kernel
theorem dL_law_1423 : decode cL_law 1423 = .ok (.aload_n 0, 1) := by decide +kernel
theorem dL_law_1424 : decode cL_law 1424 = .ok (.iload_n 3, 1) := by decide +kernel
theorem dL_law_1425 : decode cL_law 1425 = .ok (.iconst 1, 1) := by decide +kernel
theorem dL_law_1426 : decode cL_law 1426 = .ok (.iadd, 1) := by decide +kernel
theorem dL_law_1427 : decode cL_law 1427 = .ok (.iaload, 1) := by decide +kernel
theorem dL_law_1428 : decode cL_law 1428 = .ok (.invokevirtual 162, 3) := by decide +kernel
theorem dL_law_1431 : decode cL_law 1431 = .ok (.if_icmp .eq 94, 3) := by decide +kernel
theorem dL_law_1434 : decode cL_law 1434 = .ok (.iconst 0, 1) := by decide +kernel
theorem dL_law_1435 : decode cL_law 1435 = .ok (.ireturn, 1) := by decide +kernel
theorem dL_law_1436 : decode cL_law 1436 = .ok (.aload_n 1, 1) := by decide +kernel
theorem dL_law_1437 : decode cL_law 1437 = .ok (.aload_n 0, 1) := by decide +kernel
theorem dL_law_1438 : decode cL_law 1438 = .ok (.iload_n 3, 1) := by decide +kernel
theorem dL_law_1439 : decode cL_law 1439 = .ok (.iconst 1, 1) := by decide +kernel
theorem dL_law_1440 : decode cL_law 1440 = .ok (.iadd, 1) := by decide +kernel
theorem dL_law_1441 : decode cL_law 1441 = .ok (.iaload, 1) := by decide +kernel
theorem dL_law_1442 : decode cL_law 1442 = .ok (.aload_n 0, 1) := by decide +kernel
theorem dL_law_1443 : decode cL_law 1443 = .ok (.iload_n 3, 1) := by decide +kernel
theorem dL_law_1444 : decode cL_law 1444 = .ok (.iconst 2, 1) := by decide +kernel
theorem dL_law_1445 : decode cL_law 1445 = .ok (.iadd, 1) := by decide +kernel
theorem dL_law_1446 : decode cL_law 1446 = .ok (.iaload, 1) := by decide +kernel
theorem dL_law_1447 : decode cL_law 1447 = .ok (.aload_n 0, 1) := by decide +kernel
theorem dL_law_1448 : decode cL_law 1448 = .ok (.iload_n 3, 1) := by decide +kernel
theorem dL_law_1449 : decode cL_law 1449 = .ok (.iconst 3, 1) := by decide +kernel
theorem dL_law_1450 : decode cL_law 1450 = .ok (.iadd, 1) := by decide +kernel
theorem dL_law_1451 : decode cL_law 1451 = .ok (.iaload, 1) := by decide +kernel
theorem dL_law_1452 : decode cL_law 1452 = .ok (.invokevirtual 163, 3) := by decide +kernel
theorem dL_law_1455 : decode cL_law 1455 = .ok (.aload_n 2, 1) := by decide +kernel
theorem dL_law_1456 : decode cL_law 1456 = .ok (.aload_n 0, 1) := by decide +kernel
theorem dL_law_1457 : decode cL_law 1457 = .ok (.iload_n 3, 1) := by decide +kernel
theorem dL_law_1458 : decode cL_law 1458 = .ok (.iconst 1, 1) := by decide +kernel
theorem dL_law_1459 : decode cL_law 1459 = .ok (.iadd, 1) := by decide +kernel
theorem dL_law_1460 : decode cL_law 1460 = .ok (.iaload, 1) := by decide +kernel
theorem dL_law_1461 : decode cL_law 1461 = .ok (.aload_n 0, 1) := by decide +kernel
theorem dL_law_1462 : decode cL_law 1462 = .ok (.iload_n 3, 1) := by decide +kernel
theorem dL_law_1463 : decode cL_law 1463 = .ok (.iconst 2, 1) := by decide +kernel
theorem dL_law_1464 : decode cL_law 1464 = .ok (.iadd, 1) := by decide +kernel
theorem dL_law_1465 : decode cL_law 1465 = .ok (.iaload, 1) := by decide +kernel
theorem dL_law_1466 : decode cL_law 1466 = .ok (.aload_n 0, 1) := by decide +kernel
theorem dL_law_1467 : decode cL_law 1467 = .ok (.iload_n 3, 1) := by decide +kernel
theorem dL_law_1468 : decode cL_law 1468 = .ok (.iconst 3, 1) := by decide +kernel
theorem dL_law_1469 : decode cL_law 1469 = .ok (.iadd, 1) := by decide +kernel
theorem dL_law_1470 : decode cL_law 1470 = .ok (.iaload, 1) := by decide +kernel
theorem dL_law_1471 : decode cL_law 1471 = .ok (.invokevirtual 166, 3) := by decide +kernel
theorem dL_law_1474 : decode cL_law 1474 = .ok (.if_icmp .eq 51, 3) := by decide +kernel
theorem dL_law_1477 : decode cL_law 1477 = .ok (.iconst 0, 1) := by decide +kernel
theorem dL_law_1478 : decode cL_law 1478 = .ok (.ireturn, 1) := by decide +kernel
theorem dL_law_1479 : decode cL_law 1479 = .ok (.aload_n 1, 1) := by decide +kernel
theorem dL_law_1480 : decode cL_law 1480 = .ok (.aload_n 0, 1) := by decide +kernel
theorem dL_law_1481 : decode cL_law 1481 = .ok (.iload_n 3, 1) := by decide +kernel
theorem dL_law_1482 : decode cL_law 1482 = .ok (.iconst 1, 1) := by decide +kernel
theorem dL_law_1483 : decode cL_law 1483 = .ok (.iadd, 1) := by decide +kernel
theorem dL_law_1484 : decode cL_law 1484 = .ok (.iaload, 1) := by decide +kernel
theorem dL_law_1485 : decode cL_law 1485 = .ok (.invokevirtual 167, 3) := by decide +kernel
theorem dL_law_1488 : decode cL_law 1488 = .ok (.aload_n 2, 1) := by decide +kernel
theorem dL_law_1489 : decode cL_law 1489 = .ok (.aload_n 0, 1) := by decide +kernel
theorem dL_law_1490 : decode cL_law 1490 = .ok (.iload_n 3, 1) := by decide +kernel
theorem dL_law_1491 : decode cL_law 1491 = .ok (.iconst 1, 1) := by decide +kernel
theorem dL_law_1492 : decode cL_law 1492 = .ok (.iadd, 1) := by decide +kernel
theorem dL_law_1493 : decode cL_law 1493 = .ok (.iaload, 1) := by decide +kernel
theorem dL_law_1494 : decode cL_law 1494 = .ok (.invokevirtual 170, 3) := by decide +kernel
theorem dL_law_1497 : decode cL_law 1497 = .ok (.if_icmp .eq 28, 3) := by decide +kernel
theorem dL_law_1500 : decode cL_law 1500 = .ok (.iconst 0, 1) := by decide +kernel
theorem dL_law_1501 : decode cL_law 1501 = .ok (.ireturn, 1) := by decide +kernel
theorem dL_law_1502 : decode cL_law 1502 = .ok (.aload_n 1, 1) := by decide +kernel
theorem dL_law_1503 : decode cL_law 1503 = .ok (.aload_n 0, 1) := by decide +kernel
theorem dL_law_1504 : decode cL_law 1504 = .ok (.iload_n 3, 1) := by decide +kernel
theorem dL_law_1505 : decode cL_law 1505 = .ok (.iconst 1, 1) := by decide +kernel
theorem dL_law_1506 : decode cL_law 1506 = .ok (.iadd, 1) := by decide +kernel
theorem dL_law_1507 : decode cL_law 1507 = .ok (.iaload, 1) := by decide +kernel
theorem dL_law_1508 : decode cL_law 1508 = .ok (.invokevirtual 171, 3) := by decide +kernel
theorem dL_law_1511 : decode cL_law 1511 = .ok (.aload_n 2, 1) := by decide +kernel
theorem dL_law_1512 : decode cL_law 1512 = .ok (.aload_n 0, 1) := by decide +kernel
theorem dL_law_1513 : decode cL_law 1513 = .ok (.iload_n 3, 1) := by decide +kernel
theorem dL_law_1514 : decode cL_law 1514 = .ok (.iconst 1, 1) := by decide +kernel
theorem dL_law_1515 : decode cL_law 1515 = .ok (.iadd, 1) := by decide +kernel
theorem dL_law_1516 : decode cL_law 1516 = .ok (.iaload, 1) := by decide +kernel
theorem dL_law_1517 : decode cL_law 1517 = .ok (.invokevirtual 174, 3) := by decide +kernel
theorem dL_law_1520 : decode cL_law 1520 = .ok (.if_icmp .eq 5, 3) := by decide +kernel
theorem dL_law_1523 : decode cL_law 1523 = .ok (.iconst 0, 1) := by decide +kernel
theorem dL_law_1524 : decode cL_law 1524 = .ok (.ireturn, 1) := by decide +kernel
theorem dL_law_1525 : decode cL_law 1525 = .ok (.iinc 3 7, 3) := by decide +kernel
theorem dL_law_1528 : decode cL_law 1528 = .ok (.goto (-1510), 3) := by decide +kernel
theorem dL_law_1531 : decode cL_law 1531 = .ok (.iconst 1, 1) := by decide +kernel
theorem dL_law_1532 : decode cL_law 1532 = .ok (.ireturn, 1) := by decide +kernel
